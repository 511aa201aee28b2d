def cs_cp (f t : Nat → Int32) (k : Nat) : Nat → Int32 := fun j => if j < k then f j else t j
theorem cs_cp0 (f t : Nat → Int32) : cs_cp f t 0 = t := by
  funext j
  simp [cs_cp]
theorem cs_cps (f t : Nat → Int32) (k : Nat) : upd (cs_cp f t k) k (f k) = cs_cp f t (k + 1) := by
  funext j
  unfold upd cs_cp
  by_cases e : j = k
  · rw [if_pos e, if_pos (by omega), e]
  · rw [if_neg e]
    by_cases l : j < k
    · rw [if_pos l, if_pos (by omega)]
    · rw [if_neg l, if_neg (by omega)]
theorem cs_cpe {f f' t : Nat → Int32} {k : Nat} (h : ∀ j, j < k → f j = f' j) : cs_cp f t k = cs_cp f' t k := by
  funext j
  unfold cs_cp
  by_cases l : j < k
  · rw [if_pos l, if_pos l, h j l]
  · rw [if_neg l, if_neg l]
theorem cs_cpl {f t : Nat → Int32} {k j : Nat} (l : j < k) : cs_cp f t k j = f j := by
  unfold cs_cp
  rw [if_pos l]
theorem cs_uu (f : Nat → Int32) (k : Nat) (x y : Int32) : upd (upd f k x) k y = upd f k y := by
  funext j
  unfold upd
  by_cases e : j = k
  · rw [if_pos e, if_pos e]
  · rw [if_neg e, if_neg e, if_neg e]
def cs_by (f : Nat → Int32) (k : Nat) : Prop := ∀ j, j < k → ∃ b : Nat, b < 256 ∧ f j = nI b
theorem cs_byu {f : Nat → Int32} {k i b : Nat} (h : cs_by f k) (hb : b < 256) : cs_by (upd f i (nI b)) k := by
  intro j hj
  by_cases e : j = i
  · exact ⟨b, hb, by rw [e, pk_us]⟩
  · obtain ⟨c, hc, ec⟩ := h j hj
    exact ⟨c, hc, by rw [pk_un e, ec]⟩
def cs_T (dr yl : Int32) (lim t : Nat) (T C : Nat → Int32) : Prop :=
  t ≤ lim ∧ lim ≤ 32 ∧ (dr = 0 ∨ dr = 1) ∧ (∀ j, j < t → T j = C j) ∧ cs_by T t ∧ (dr = 0 → yl = nI lim ∧ (∀ j, j < lim → T j = C j) ∧ cs_by T lim)
theorem cs_Dle (g : Nat → Int32) : ∀ k, cs_D g k ≤ k + 1
  | 0 => by
    have : cs_D g 0 = 1 := rfl
    omega
  | k + 1 => by
    have := cs_Dle g k
    rw [cs_Ds]
    have h : cs_ch (g k) ≤ 2 := by
      unfold cs_ch
      split
      · omega
      · split <;> omega
    rcases Nat.eq_zero_or_pos (cs_D g k) with z | z
    · omega
    · omega
theorem cs_fd (T s : Nat → Int32) : ∀ t : Nat, ∃ d, d ≤ t ∧ (∀ j, j < d → T j = s j) ∧ (d < t → T d ≠ s d)
  | 0 => ⟨0, by omega, fun j h => by omega, fun h => by omega⟩
  | t + 1 => by
    obtain ⟨d, a, b, c⟩ := cs_fd T s t
    by_cases l : d < t
    · exact ⟨d, by omega, b, fun _ => c l⟩
    · have e : d = t := by omega
      by_cases q : T t = s t
      · refine ⟨t + 1, by omega, fun j hj => ?_, fun h => by omega⟩
        by_cases w : j < t
        · exact b j (by omega)
        · have : j = t := by omega
          rw [this, q]
      · exact ⟨t, by omega, fun j hj => b j (by omega), fun _ => q⟩
def cs_Gn (gc gp : Int32) (gk gb ge : Nat → Int32) : Prop :=
  ∃ n, n ≤ 16 ∧ gc = nI n ∧ gp = nI (cs_D gk n) ∧ (∀ j, j < n → 1 ≤ cs_D gk j ∧ (gk j = 1 ∨ gk j = 2 ∨ gk j = 3)) ∧ (∀ j, j < n → ∃ b : Nat, b < 256 ∧ gb j = nI b) ∧ (cs_D gk n = 0 → ∃ en : Nat → Nat, cs_G gk en n ∧ ∀ j, j < n → ge j = nI (en j))
def cs_Pr (oc : Int32) (po oa yA : Nat → Int32) : Prop :=
  ∃ m, m ≤ 32 ∧ oc = nI m ∧ ∀ j, j < m → ∃ o : Nat, o ≤ 14 ∧ po j = nI o ∧ ((o = 0 ∨ o = 13 ∨ o = 14) → oa j = yA j) ∧ ((o = 13 ∨ o = 14) → ∃ a : Nat, a ≤ 32 ∧ yA j = nI a)
def cs_at (pa bk ix lo hi im yn : Int32) (n : Nat) : Prop :=
  ∃ p k i l h : Nat, pa = nI p ∧ bk = nI k ∧ ix = nI i ∧ lo = nI l ∧ hi = nI h ∧ (im = 0 ∨ im = 1) ∧
    (((p = 1 ∨ p = 2) ∧ (k = 1 ∨ k = 2 ∨ k = 4) ∧ i + k ≤ n ∧ l = 0 ∧ h = 0 ∧ yn = 0) ∨ (p = 3 ∧ k = 1 ∧ i < n ∧ l < h ∧ h ≤ 255 ∧ yn = 1) ∨ (p = 4 ∧ k = 1 ∧ i + 1 < n ∧ l = 0 ∧ h = 0 ∧ yn = 0))
def cs_fin (r tk cc yt yo : Int32) (tp ce cd ou : Nat → Int32) : Prop :=
  r = 0 ∨ (r = 1 ∧ ∃ t L : Nat, t ≤ 32 ∧ L ≤ 32 ∧ tk = nI t ∧ yt = nI t ∧ cc = nI L ∧ yo = nI L ∧ (∀ j, j < t → tp j = cd j) ∧ cs_by tp t ∧ (∀ j, j < L → ce j = ou j))
theorem cs_Gn0 : cs_Gn 0 1 (fun _ => 0) (fun _ => 0) (fun _ => 0) :=
  ⟨0, by omega, rfl, rfl, fun j h => absurd h (by omega), fun j h => absurd h (by omega), fun h => absurd h (by decide)⟩
theorem cs_Pr0 : cs_Pr 0 (fun _ => 0) (fun _ => 0) (fun _ => 0) :=
  ⟨0, by omega, rfl, fun j h => absurd h (by omega)⟩
theorem cs_by0 (f : Nat → Int32) : cs_by f 0 := fun j h => absurd h (by omega)
theorem cs_bys {f : Nat → Int32} {k b : Nat} (h : cs_by f k) (hb : b < 256) (e : f k = nI b) : cs_by f (k + 1) := by
  intro j hj
  by_cases z : j = k
  · exact ⟨b, hb, by rw [z, e]⟩
  · exact h j (by omega)
theorem cs_byc {f f' : Nat → Int32} {k : Nat} (h : cs_by f k) (e : ∀ j, j < k → f' j = f j) : cs_by f' k := by
  intro j hj
  obtain ⟨b, hb, eb⟩ := h j hj
  exact ⟨b, hb, by rw [e j hj, eb]⟩
theorem cs_bym {f : Nat → Int32} {k k' : Nat} (h : cs_by f k) (l : k' ≤ k) : cs_by f k' := fun j hj => h j (by omega)
theorem cs_Gstep {gk : Nat → Int32} {n : Nat} {x : Int32} (h : ∀ j, j < n → 1 ≤ cs_D gk j ∧ (gk j = 1 ∨ gk j = 2 ∨ gk j = 3)) (hd : 1 ≤ cs_D gk n) (hx : x = 1 ∨ x = 2 ∨ x = 3) :
    (∀ j, j < n + 1 → 1 ≤ cs_D (upd gk n x) j ∧ (upd gk n x j = 1 ∨ upd gk n x j = 2 ∨ upd gk n x j = 3)) ∧ cs_D (upd gk n x) (n + 1) = cs_D gk n - 1 + cs_ch x := by
  have e : ∀ k, k ≤ n → cs_D (upd gk n x) k = cs_D gk k := fun k hk => cs_Dc k (fun j hj => pk_un (by omega))
  refine ⟨fun j hj => ?_, ?_⟩
  · rw [e j (by omega)]
    by_cases z : j = n
    · rw [z, pk_us]
      exact ⟨hd, hx⟩
    · rw [pk_un z]
      exact h j (by omega)
  · rw [cs_Ds, e n (Nat.le_refl n), pk_us]
def cs_del (cu : Nat → Int32) (i k : Nat) : Nat → Int32 := fun j => if j < i then cu j else cu (j + k)
theorem cs_del1 {cu : Nat → Int32} {i k j : Nat} (h : j < i) : cs_del cu i k j = cu j := if_pos h
theorem cs_del2 {cu : Nat → Int32} {i k j : Nat} (h : i ≤ j) : cs_del cu i k j = cu (j + k) := if_neg (by omega)
theorem cs_del0 (cu : Nat → Int32) (i : Nat) : cs_del cu i 0 = cu := by
  funext j
  unfold cs_del
  split <;> rfl
theorem cs_delb {cu : Nat → Int32} {i k n : Nat} (h : cs_by cu n) (hk : i + k ≤ n) : cs_by (cs_del cu i k) (n - k) := by
  intro j hj
  by_cases z : j < i
  · rw [cs_del1 z]
    exact h j (by omega)
  · rw [cs_del2 (by omega)]
    exact h (j + k) (by omega)
def cs_dp (i k j : Nat) : Nat := if j ≤ i then j else if j ≤ i + k then i else j - k
theorem cs_dp1 {i k j : Nat} (h : j < i) : cs_dp i k (j + 1) = cs_dp i k j + 1 ∧ cs_dp i k j = j := by
  unfold cs_dp
  rw [if_pos (by omega), if_pos (by omega)]
  exact ⟨rfl, rfl⟩
theorem cs_dp2 {i k j : Nat} (h : i ≤ j) (h2 : j < i + k) : cs_dp i k (j + 1) = cs_dp i k j := by
  unfold cs_dp
  rw [if_neg (by omega), if_pos (by omega)]
  split
  · omega
  · rw [if_pos (by omega)]
theorem cs_dp3 {i k j : Nat} (h : i + k ≤ j) : cs_dp i k (j + 1) = cs_dp i k j + 1 ∧ cs_dp i k j = j - k := by
  unfold cs_dp
  by_cases z : j ≤ i
  · have k0 : k = 0 := by omega
    have ji : j = i := by omega
    subst k0 ji
    rw [if_neg (by omega), if_neg (by omega), if_pos (by omega)]
    omega
  · rw [if_neg (by omega), if_neg (by omega), if_neg z]
    by_cases w : j ≤ i + k
    · rw [if_pos w]
      omega
    · rw [if_neg w]
      omega
theorem cs_dpn {i k n : Nat} (h : i + k ≤ n) : cs_dp i k n = n - k := by
  unfold cs_dp
  by_cases z : n ≤ i
  · rw [if_pos z]
    omega
  · rw [if_neg z]
    by_cases w : n ≤ i + k
    · rw [if_pos w]
      omega
    · rw [if_neg w]
def cs_zb (f : Nat → Int32) (i m : Nat) : Nat → Int32 := fun j => if i ≤ j ∧ j < i + m then 0 else f j
theorem cs_zb0 (f : Nat → Int32) (i : Nat) : cs_zb f i 0 = f := by
  funext j
  unfold cs_zb
  rw [if_neg (by omega)]
theorem cs_zbs (f : Nat → Int32) (i m : Nat) : upd (cs_zb f i m) (i + m) 0 = cs_zb f i (m + 1) := by
  funext j
  unfold upd cs_zb
  by_cases e : j = i + m
  · rw [if_pos e, if_pos (by omega)]
  · rw [if_neg e]
    by_cases l : i ≤ j ∧ j < i + m
    · rw [if_pos l, if_pos (by omega)]
    · rw [if_neg l, if_neg (by omega)]
theorem cs_zbe {f f' : Nat → Int32} {i m n : Nat} (h : ∀ j, j < n → f j = f' j) : ∀ j, j < n → cs_zb f i m j = cs_zb f' i m j := by
  intro j hj
  unfold cs_zb
  rw [h j hj]
theorem cs_zbb {f : Nat → Int32} {i m n : Nat} (h : cs_by f n) : cs_by (cs_zb f i m) n := by
  intro j hj
  unfold cs_zb
  by_cases l : i ≤ j ∧ j < i + m
  · rw [if_pos l]
    exact ⟨0, by omega, rfl⟩
  · rw [if_neg l]
    exact h j hj
theorem cs_ue {f f' : Nat → Int32} {k n : Nat} {x : Int32} (h : ∀ j, j < n → f j = f' j) : ∀ j, j < n → upd f k x j = upd f' k x j := by
  intro j hj
  by_cases e : j = k
  · rw [e, pk_us, pk_us]
  · rw [pk_un e, pk_un e, h j hj]
