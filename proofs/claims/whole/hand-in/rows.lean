section
theorem pk_us {f : Nat → Int32} {k : Nat} {x : Int32} : upd f k x k = x := if_pos rfl
theorem pk_un {f : Nat → Int32} {k j : Nat} {x : Int32} (h : j ≠ k) : upd f k x j = f j := if_neg h
theorem pk_sub {a b : Nat} (h : b ≤ a) : nI a - nI b = nI (a - b) := by
  obtain ⟨c, rfl⟩ : ∃ c, a = c + b := ⟨a - b, by omega⟩
  rw [← nI_add, Int32.add_sub_cancel, Nat.add_sub_cancel]
theorem pk_m1 (n : Nat) : nI (n + 1) + (-1) = nI n := by
  rw [← nI_1, Int32.add_assoc, show (1 : Int32) + (-1) = 0 from rfl, Int32.add_zero]
theorem pk_mul (a b : Nat) : nI a * nI b = nI (a * b) := (Int32.ofNat_mul a b).symm
theorem pk_div {a d : Nat} (ha : a < 2 ^ 31) (h0 : 0 < d) (hd : d < 2 ^ 31) : nI a / nI d = nI (a / d) := by
  apply Int32.toInt_inj.mp
  rw [lg_idiv_nonneg (by rw [nI_toInt ha]; omega) (by rw [nI_toInt hd]; omega), nI_toInt ha, nI_toInt hd, nI_toInt (Nat.lt_of_le_of_lt (Nat.div_le_self a d) ha)]
  first | rfl | exact (Int.natCast_ediv _ _).symm
theorem pk_rem {a d : Nat} (ha : a < 2 ^ 31) (h0 : 0 < d) (hd : d < 2 ^ 31) : nI a - nI a / nI d * nI d = nI (a % d) := by
  rw [pk_div ha h0 hd, pk_mul, pk_sub (Nat.div_mul_le_self a d)]
  exact congrArg nI (by have := Nat.div_add_mod' a d; omega)
theorem pk_sub_toInt {a b : Nat} (ha : a < 2 ^ 30) (hb : b < 2 ^ 30) : (nI a - nI b).toInt = (a : Int) - b := by
  rw [Int32.toInt_sub, nI_toInt (by omega), nI_toInt (by omega)]
  exact Int.bmod_eq_of_le (by omega) (by omega)
theorem pk_sneg {a b : Nat} (hb : b < 2 ^ 30) (h : a < b) : nI a - nI b < 0 := by
  rw [Int32.lt_iff_toInt_lt, pk_sub_toInt (by omega) hb, show (0 : Int32).toInt = 0 from by decide]
  omega
theorem pk_ix (x : Int32) {n : Nat} (hn : n < 2 ^ 31) : x < 0 ∨ nI n ≤ x ∨ ∃ j : Nat, j < n ∧ x = nI j := by
  by_cases h : x < 0
  · exact Or.inl h
  · obtain ⟨j, hj, rfl⟩ := nI_of h
    by_cases h2 : j < n
    · exact Or.inr (Or.inr ⟨j, h2, rfl⟩)
    · exact Or.inr (Or.inl (nI_le (by omega) hj))
theorem pk_le {x y : Int32} {A B : Prop} (a b : Nat) (f : a ≤ b → A) (g : b < a → B) (hx : x = nI a := by rfl) (hy : y = nI b := by rfl) (ha : a < 2 ^ 31 := by omega) (hb : b < 2 ^ 31 := by omega) : (x ≤ y → A) ∧ (¬ x ≤ y → B) := by
  subst hx hy
  rw [nI_leI ha hb]
  exact ⟨f, fun z => g (by omega)⟩
theorem pk_lt {x y : Int32} {A B : Prop} (a b : Nat) (f : a < b → A) (g : b ≤ a → B) (hx : x = nI a := by rfl) (hy : y = nI b := by rfl) (ha : a < 2 ^ 31 := by omega) (hb : b < 2 ^ 31 := by omega) : (x < y → A) ∧ (¬ x < y → B) := by
  subst hx hy
  rw [nI_ltI ha hb]
  exact ⟨f, fun z => g (by omega)⟩
theorem pk_eq {x y : Int32} {A B : Prop} (a b : Nat) (f : a = b → A) (g : a ≠ b → B) (hx : x = nI a := by rfl) (hy : y = nI b := by rfl) (ha : a < 2 ^ 31 := by omega) (hb : b < 2 ^ 31 := by omega) : (x = y → A) ∧ (¬ x = y → B) := by
  subst hx hy
  rw [nI_eq ha hb]
  exact ⟨f, g⟩
theorem pk_in {x : Int32} (n N : Nat) (h : n < N) (hx : x = nI n := by rfl) (hN : N < 2 ^ 31 := by omega) : vp_in x N := by
  subst hx
  exact vp_in_nI h hN
theorem pk_cl {x : Int32} (n : Nat) (hx : x = nI n := by rfl) (h : n < 2 ^ 31 := by omega) : x.toNatClampNeg = n := by
  subst hx
  exact nI_clamp h
theorem pk_tn {n : Nat} (h : n < 2 ^ 32) : (nI n).toBitVec.toNat = n := Nat.mod_eq_of_lt h
theorem pk_and (x : Int32) {m : Int32} (k : Nat) (hm : m.toBitVec.toNat = 2 ^ k - 1) : x &&& m = nI (x.toBitVec.toNat % 2 ^ k) := by
  apply Int32.toBitVec_inj.mp
  apply BitVec.eq_of_toNat_eq
  rw [Int32.toBitVec_and, BitVec.toNat_and, hm, Nat.and_two_pow_sub_one_eq_mod]
  show _ = (BitVec.ofNat 32 _).toNat
  rw [BitVec.toNat_ofNat]
  exact (Nat.mod_eq_of_lt (Nat.lt_of_le_of_lt (Nat.mod_le _ _) x.toBitVec.isLt)).symm
theorem pk_andN {n : Nat} (h : n < 2 ^ 32) {m : Int32} (k : Nat) (hm : m.toBitVec.toNat = 2 ^ k - 1) : nI n &&& m = nI (n % 2 ^ k) := by
  rw [pk_and _ k hm, pk_tn h]
theorem pk_andE (x : Int32) {m : Int32} (k : Nat) (hm : m.toBitVec.toNat = 2 ^ k - 1) : ∃ j : Nat, j < 2 ^ k ∧ x &&& m = nI j := ⟨_, Nat.mod_lt _ (Nat.two_pow_pos k), pk_and x k hm⟩
theorem pk_ushr (x s : Int32) (k : Nat) (hs : ((s.toUInt32 &&& Int32.toUInt32 31).toBitVec % 32).toNat = k) : (x.toUInt32 >>> (s.toUInt32 &&& Int32.toUInt32 31)).toInt32.toBitVec.toNat = x.toBitVec.toNat / 2 ^ k := by
  have e : (x.toUInt32 >>> (s.toUInt32 &&& Int32.toUInt32 31)).toInt32.toBitVec = x.toBitVec >>> k := by
    rw [← hs]
    exact UInt32.toBitVec_shiftRight _ _
  rw [e, BitVec.toNat_ushiftRight, Nat.shiftRight_eq_div_pow]
theorem pk_least (P : Nat → Prop) (h : ∃ k, P k) : ∃ k, P k ∧ ∀ j, j < k → ¬ P j := by
  obtain ⟨k, hk⟩ := h
  induction k using Nat.strongRecOn with
  | ind k ih =>
    by_cases e : ∃ j, j < k ∧ P j
    · obtain ⟨j, hj, pj⟩ := e
      exact ih j hj pj
    · exact ⟨k, hk, fun j hj pj => e ⟨j, hj, pj⟩⟩
theorem sb_m1 {p : Nat} (h : 0 < p) : nI p + (-1) = nI (p - 1) := by
  obtain ⟨q, rfl⟩ : ∃ q, p = q + 1 := ⟨p - 1, by omega⟩
  exact pk_m1 q
theorem ek_if {c d A B : Prop} (e : c ↔ d) (f : d → A) (g : ¬ d → B) : (c → A) ∧ (¬ c → B) :=
  ⟨fun z => f (e.mp z), fun z => g (fun y => z (e.mpr y))⟩
theorem ek_v {α : Sort _} {P : α → Prop} {a b : α} (e : a = b) (h : P b) : P a := e ▸ h
theorem sb_at {P : Int32 → Prop} {x y : Int32} (e : x = y) (h : P y) : P x := e ▸ h
end
section
def cs_ch (x : Int32) : Nat := if x = 3 then 2 else if x = 2 then 1 else 0
def cs_D (g : Nat → Int32) : Nat → Nat
  | 0 => 1
  | k + 1 => cs_D g k - 1 + cs_ch (g k)
def cs_E (g : Nat → Int32) (j e : Nat) : Prop := j < e ∧ cs_D g e + 1 = cs_D g j ∧ ∀ k, j < k → k < e → cs_D g j ≤ cs_D g k
theorem cs_Ds (g : Nat → Int32) (k : Nat) : cs_D g (k + 1) = cs_D g k - 1 + cs_ch (g k) := rfl
theorem cs_ch1 {x : Int32} (h : x = 1) : cs_ch x = 0 := by subst h; decide
theorem cs_ch2 {x : Int32} (h : x = 2) : cs_ch x = 1 := by subst h; decide
theorem cs_ch3 {x : Int32} (h : x = 3) : cs_ch x = 2 := by subst h; decide
theorem cs_Dc {g g' : Nat → Int32} : ∀ k, (∀ j, j < k → g' j = g j) → cs_D g' k = cs_D g k
  | 0, _ => rfl
  | k + 1, h => by
    rw [cs_Ds, cs_Ds, cs_Dc k (fun j hj => h j (by omega)), h k (by omega)]
theorem cs_Eu {g : Nat → Int32} {j e e' : Nat} (h : cs_E g j e) (h' : cs_E g j e') : e = e' := by
  obtain ⟨a, b, c⟩ := h
  obtain ⟨a', b', c'⟩ := h'
  rcases Nat.lt_trichotomy e e' with l | l | l
  · have := c' e a l
    omega
  · exact l
  · have := c e' a' l
    omega
theorem cs_Ei {g : Nat → Int32} {j : Nat} (h : cs_ch (g j) = 0) (d : 1 ≤ cs_D g j) : cs_E g j (j + 1) := by
  refine ⟨by omega, ?_, fun k a b => by omega⟩
  rw [cs_Ds, h]
  omega
theorem cs_El {g : Nat → Int32} {j e : Nat} (h : cs_ch (g j) = 1) (d : 1 ≤ cs_D g j) (H : cs_E g j e) : cs_E g (j + 1) e := by
  obtain ⟨a, b, c⟩ := H
  have hd : cs_D g (j + 1) = cs_D g j := by
    rw [cs_Ds, h]
    omega
  have ne : e ≠ j + 1 := by
    intro z
    rw [z, hd] at b
    omega
  exact ⟨by omega, by rw [hd]; exact b, fun k x y => by rw [hd]; exact c k (by omega) y⟩
theorem cs_Ep {g : Nat → Int32} {j e c : Nat} (h : cs_ch (g j) = 2) (d : 1 ≤ cs_D g j) (H : cs_E g j e) (H1 : cs_E g (j + 1) c) : cs_E g c e := by
  obtain ⟨a, b, f⟩ := H
  obtain ⟨a1, b1, f1⟩ := H1
  have hd : cs_D g (j + 1) = cs_D g j + 1 := by
    rw [cs_Ds, h]
    omega
  rw [hd] at b1 f1
  have ne : e ≠ j + 1 := by
    intro z
    rw [z, hd] at b
    omega
  have nc : c ≠ e := by
    intro z
    rw [z] at b1
    omega
  have lt : c < e := by
    rcases Nat.lt_or_ge c e with l | l
    · exact l
    · have := f1 e (by omega) (by omega)
      omega
  refine ⟨lt, by omega, fun k x y => ?_⟩
  have := f k (by omega) y
  omega
def cs_G (g : Nat → Int32) (en : Nat → Nat) (n : Nat) : Prop :=
  0 < n ∧ n ≤ 16 ∧ cs_D g n = 0 ∧ ∀ j, j < n → 1 ≤ cs_D g j ∧ cs_E g j (en j) ∧ (g j = 1 ∨ g j = 2 ∨ g j = 3)
theorem cs_le {g : Nat → Int32} {en : Nat → Nat} {n j : Nat} (G : cs_G g en n) (h : j < n) : j < en j ∧ en j ≤ n := by
  obtain ⟨_, _, d, H⟩ := G
  obtain ⟨p, ⟨a, b, c⟩, _⟩ := H j h
  refine ⟨a, ?_⟩
  rcases Nat.lt_or_ge n (en j) with l | l
  · have := c n h l
    omega
  · exact l
theorem cs_root {g : Nat → Int32} {en : Nat → Nat} {n : Nat} (G : cs_G g en n) : en 0 = n := by
  obtain ⟨h1, h2⟩ := cs_le G G.1
  obtain ⟨h0, _, d, H⟩ := G
  obtain ⟨p, ⟨a, b, c⟩, _⟩ := H 0 h0
  have e : cs_D g 0 = 1 := rfl
  rcases Nat.lt_or_ge (en 0) n with l | l
  · have := (H (en 0) l).1
    omega
  · omega
theorem cs_int {g : Nat → Int32} {en : Nat → Nat} {n j : Nat} (G : cs_G g en n) (h : j < n) (k : g j = 1) : en j = j + 1 := by
  obtain ⟨_, _, _, H⟩ := G
  obtain ⟨p, e, _⟩ := H j h
  exact cs_Eu e (cs_Ei (cs_ch1 k) p)
theorem cs_lst {g : Nat → Int32} {en : Nat → Nat} {n j : Nat} (G : cs_G g en n) (h : j < n) (k : g j = 2) : j + 1 < n ∧ en (j + 1) = en j := by
  have le := cs_le G h
  obtain ⟨_, _, d, H⟩ := G
  obtain ⟨p, e, _⟩ := H j h
  have e1 := cs_El (cs_ch2 k) p e
  have l : j + 1 < n := by have := e1.1; omega
  exact ⟨l, cs_Eu (H (j + 1) l).2.1 e1⟩
theorem cs_par {g : Nat → Int32} {en : Nat → Nat} {n j : Nat} (G : cs_G g en n) (h : j < n) (k : g j = 3) : j + 1 < n ∧ en (j + 1) < en j ∧ en (j + 1) < n ∧ en (en (j + 1)) = en j := by
  have le := cs_le G h
  obtain ⟨_, _, d, H⟩ := G
  obtain ⟨p, e, _⟩ := H j h
  have hd : cs_D g (j + 1) = cs_D g j + 1 := by
    rw [cs_Ds, cs_ch3 k]
    omega
  have l : j + 1 < n := by
    rcases Nat.lt_or_ge (j + 1) n with l | l
    · exact l
    · have z : j + 1 = n := by omega
      rw [z] at hd
      omega
  have e1 := cs_Ep (cs_ch3 k) p e (H (j + 1) l).2.1
  have l1 : en (j + 1) < en j := e1.1
  have l2 : en (j + 1) < n := by omega
  exact ⟨l, l1, l2, cs_Eu (H _ l2).2.1 e1⟩
abbrev cs_Fr : Type := Nat × Nat × Nat × Nat
def cs_K (g : Nat → Int32) (en : Nat → Nat) (n : Nat) : List cs_Fr → Nat → Prop
  | [], c => c = 0
  | f :: t, c => f.1 < n ∧ cs_K g en n t f.1 ∧ ((g f.1 = 3 ∧ f.2.1 = 1 ∧ c = f.1 + 1) ∨ (g f.1 = 3 ∧ f.2.1 = 2 ∧ c = en (f.1 + 1)) ∨ (g f.1 = 2 ∧ f.2.1 = 2 ∧ c = f.1 + 1))
def cs_pos (g : Nat → Int32) (en : Nat → Nat) (n : Nat) : List cs_Fr → Nat
  | [] => n
  | f :: _ => if f.2.1 = 0 then f.1 else if g f.1 = 3 ∧ f.2.1 = 1 then en (f.1 + 1) else en f.1
theorem cs_23 {x : Int32} (h : x = 2) : ¬ x = 3 := by subst h; decide
theorem cs_Kc {g : Nat → Int32} {en : Nat → Nat} {n : Nat} (G : cs_G g en n) : ∀ (t : List cs_Fr) (c : Nat), cs_K g en n t c → c < n ∧ t.length ≤ c
  | [], c, h => by
    have := G.1
    have z : c = 0 := h
    exact ⟨by omega, by simp⟩
  | f :: t, c, h => by
    obtain ⟨a, b, d⟩ := h
    obtain ⟨x, y⟩ := cs_Kc G t f.1 b
    rw [List.length_cons]
    rcases d with ⟨k, s, e⟩ | ⟨k, s, e⟩ | ⟨k, s, e⟩
    · have := cs_par G a k
      omega
    · have h1 := cs_par G a k
      have h2 := cs_le G h1.1
      omega
    · have := cs_lst G a k
      omega
theorem cs_pop {g : Nat → Int32} {en : Nat → Nat} {n : Nat} (G : cs_G g en n) (t : List cs_Fr) (c : Nat) (h : cs_K g en n t c) : cs_pos g en n t = en c := by
  cases t with
  | nil =>
    have z : c = 0 := h
    rw [z, cs_root G]
    rfl
  | cons f t =>
    obtain ⟨a, b, d⟩ := h
    rcases d with ⟨k, s, e⟩ | ⟨k, s, e⟩ | ⟨k, s, e⟩
    · simp [cs_pos, k, s, e]
    · simp [cs_pos, k, s, e, (cs_par G a k).2.2.2]
    · simp [cs_pos, cs_23 k, s, e, (cs_lst G a k).2]
def cs_L (g : Nat → Int32) : List cs_Fr → List (Nat × Nat)
  | [] => []
  | f :: t => if g f.1 = 2 ∧ f.2.1 ≠ 0 then (f.1, f.2.2.1) :: cs_L g t else cs_L g t
theorem cs_Ll (g : Nat → Int32) : ∀ t : List cs_Fr, (cs_L g t).length ≤ t.length
  | [] => by simp [cs_L]
  | f :: t => by
    have := cs_Ll g t
    rw [cs_L]
    split
    · rw [List.length_cons, List.length_cons]
      omega
    · rw [List.length_cons]
      omega
theorem cs_in {g : Nat → Int32} {en : Nat → Nat} {n : Nat} (G : cs_G g en n) : ∀ (t : List cs_Fr) (c p q : Nat) (r : List (Nat × Nat)), cs_K g en n t c → cs_L g t = (p, q) :: r → c < en p ∧ en c ≤ en p ∧ p < n
  | [], c, p, q, r, h, e => by simp [cs_L] at e
  | f :: t, c, p, q, r, h, e => by
    obtain ⟨a, b, d⟩ := h
    rcases d with ⟨k, s, z⟩ | ⟨k, s, z⟩ | ⟨k, s, z⟩
    · have n2 : ¬ g f.1 = 2 := fun w => cs_23 w k
      rw [cs_L, if_neg (fun w => n2 w.1)] at e
      have ih := cs_in G t f.1 p q r b e
      have h1 := cs_par G a k
      have h2 := cs_le G h1.1
      rw [z]
      exact ⟨by omega, by omega, ih.2.2⟩
    · have n2 : ¬ g f.1 = 2 := fun w => cs_23 w k
      rw [cs_L, if_neg (fun w => n2 w.1)] at e
      have ih := cs_in G t f.1 p q r b e
      have h1 := cs_par G a k
      rw [z, h1.2.2.2]
      exact ⟨by omega, by omega, ih.2.2⟩
    · rw [cs_L, if_pos ⟨k, by omega⟩] at e
      have e1 : (f.1, f.2.2.1) = (p, q) := (List.cons.inj e).1
      have e2 : f.1 = p := congrArg Prod.fst e1
      have h1 := cs_lst G a k
      have h2 := cs_le G h1.1
      rw [z, h1.2, ← e2]
      exact ⟨by omega, by omega, a⟩
def cs_ph (g : Nat → Int32) : List cs_Fr → Nat
  | [] => 0
  | f :: t => (if f.2.1 = 0 then 0 else if g f.1 = 3 then 3 - f.2.1 else f.2.1) + cs_ph g t
def cs_mu (g : Nat → Int32) (en : Nat → Nat) (n lim t : Nat) (F : List cs_Fr) : Nat := 50 * (lim - t) + 3 * (16 - cs_pos g en n F) + cs_ph g F
theorem cs_Dn (g : Nat → Int32) (k : Nat) : cs_D g k ≤ cs_D g (k + 1) + 1 := by
  rw [cs_Ds]
  omega
theorem cs_Eex {g : Nat → Int32} {n j : Nat} (hj : j < n) (hD : ∀ k, k < n → 1 ≤ cs_D g k) (h0 : cs_D g n = 0) : ∃ e, e ≤ n ∧ cs_E g j e := by
  have hd := hD j hj
  obtain ⟨e, he, he3⟩ := pk_least (fun e => j < e ∧ cs_D g e < cs_D g j) ⟨n, hj, by omega⟩
  obtain ⟨he1, he2⟩ : j < e ∧ cs_D g e < cs_D g j := he
  have hl : ∀ k, j < k → k < e → cs_D g j ≤ cs_D g k := fun k a b => by
    rcases Nat.lt_or_ge (cs_D g k) (cs_D g j) with l | l
    · exact (he3 k b ⟨a, l⟩).elim
    · exact l
  have hn : e ≤ n := by
    rcases Nat.lt_or_ge n e with l | l
    · have := hl n hj l
      omega
    · exact l
  refine ⟨e, hn, he1, ?_, hl⟩
  obtain ⟨e', rfl⟩ : ∃ e', e = e' + 1 := ⟨e - 1, by omega⟩
  have s : cs_D g e' ≤ cs_D g (e' + 1) + 1 := cs_Dn g e'
  by_cases q : j < e'
  · have := hl e' q (by omega)
    omega
  · have z : e' = j := by omega
    rw [z] at s he2 ⊢
    omega
theorem cs_mkG {g ge : Nat → Int32} {n : Nat} (hn : n ≤ 16) (h1 : 0 < n) (h0 : cs_D g n = 0) (hD : ∀ j, j < n → 1 ≤ cs_D g j ∧ (g j = 1 ∨ g j = 2 ∨ g j = 3)) (he : ∀ j, j < n → ∃ e, e ≤ n ∧ cs_E g j e ∧ ge j = nI e) :
    ∃ en : Nat → Nat, cs_G g en n ∧ ∀ j, j < n → ge j = nI (en j) := by
  refine ⟨fun j => (ge j).toNatClampNeg, ⟨h1, hn, h0, fun j hj => ?_⟩, fun j hj => ?_⟩
  · obtain ⟨e, a, b, c⟩ := he j hj
    have z : (ge j).toNatClampNeg = e := by
      rw [c]
      exact nI_clamp (by omega)
    refine ⟨(hD j hj).1, ?_, (hD j hj).2⟩
    show cs_E g j ((ge j).toNatClampNeg)
    rw [z]
    exact b
  · obtain ⟨e, a, b, c⟩ := he j hj
    show ge j = nI ((ge j).toNatClampNeg)
    rw [c, nI_clamp (by omega)]
theorem cs_need {g : Nat → Int32} {j e k need : Nat} (d : 1 ≤ cs_D g j) (h : cs_E g j e) (a : j ≤ k) (b : k < e) (c : need + cs_D g j = cs_D g k + 1) : 1 ≤ need ∧ (need - 1 + cs_ch (g k)) + cs_D g j = cs_D g (k + 1) + 1 := by
  obtain ⟨x, y, z⟩ := h
  have w : cs_D g j ≤ cs_D g k := by
    by_cases q : j < k
    · exact z k q b
    · have : k = j := by omega
      rw [this]
      exact Nat.le_refl _
  rw [cs_Ds]
  omega
theorem cs_need0 {g : Nat → Int32} {j e need : Nat} (h : cs_E g j e) (c : need + cs_D g j = cs_D g e + 1) : need = 0 := by
  have := h.2.1
  omega
end
section
def cs_fr (g sN sS sQ sM : Nat → Int32) : List cs_Fr → Prop
  | [] => True
  | f :: t => sN t.length = nI f.1 ∧ sS t.length = nI f.2.1 ∧ (g f.1 = 2 → f.2.1 ≠ 0 → sQ t.length = nI f.2.2.1 ∧ sM t.length = nI f.2.2.2) ∧ cs_fr g sN sS sQ sM t
theorem cs_frc {g sN sS sQ sM sN' sS' sQ' sM' : Nat → Int32} : ∀ t : List cs_Fr, cs_fr g sN sS sQ sM t → (∀ j, j < t.length → sN' j = sN j ∧ sS' j = sS j ∧ sQ' j = sQ j ∧ sM' j = sM j) → cs_fr g sN' sS' sQ' sM' t
  | [], _, _ => trivial
  | f :: t, h, e => by
    obtain ⟨a, b, c, d⟩ := h
    obtain ⟨e1, e2, e3, e4⟩ := e t.length (by rw [List.length_cons]; omega)
    exact ⟨e1.trans a, e2.trans b, fun x y => ⟨e3.trans (c x y).1, e4.trans (c x y).2⟩, cs_frc t d (fun j hj => e j (by rw [List.length_cons]; omega))⟩
def cs_xl (lN lC : Nat → Int32) : List (Nat × Nat) → Prop
  | [] => True
  | f :: t => lN t.length = nI f.1 ∧ lC t.length = nI f.2 ∧ cs_xl lN lC t
theorem cs_xlc {lN lC lN' lC' : Nat → Int32} : ∀ t : List (Nat × Nat), cs_xl lN lC t → (∀ j, j < t.length → lN' j = lN j ∧ lC' j = lC j) → cs_xl lN' lC' t
  | [], _, _ => trivial
  | f :: t, h, e => by
    obtain ⟨a, b, d⟩ := h
    obtain ⟨e1, e2⟩ := e t.length (by rw [List.length_cons]; omega)
    exact ⟨e1.trans a, e2.trans b, cs_xlc t d (fun j hj => e j (by rw [List.length_cons]; omega))⟩
def cs_q (g cells : Nat → Int32) : List cs_Fr → Nat → Prop
  | [], _ => True
  | f :: t, b => if g f.1 = 2 ∧ f.2.1 ≠ 0 then f.2.2.1 < b ∧ cells f.2.2.1 = nI (f.2.2.2 + (f.2.1 - 1)) ∧ f.2.2.2 + (f.2.1 - 1) ≤ 8 ∧ cs_q g cells t f.2.2.1 else cs_q g cells t b
theorem cs_qm {g cells : Nat → Int32} : ∀ (t : List cs_Fr) (b b' : Nat), b ≤ b' → cs_q g cells t b → cs_q g cells t b'
  | [], _, _, _, _ => trivial
  | f :: t, b, b', l, h => by
    rw [cs_q] at h ⊢
    split
    · rename_i c
      rw [if_pos c] at h
      exact ⟨by omega, h.2⟩
    · rename_i c
      rw [if_neg c] at h
      exact cs_qm t b b' l h
theorem cs_qu {g cells : Nat → Int32} {i : Nat} {x : Int32} : ∀ (t : List cs_Fr) (b : Nat), b ≤ i → cs_q g cells t b → cs_q g (upd cells i x) t b
  | [], _, _, _ => trivial
  | f :: t, b, l, h => by
    rw [cs_q] at h ⊢
    split
    · rename_i c
      rw [if_pos c] at h
      obtain ⟨h1, h2, h3, h4⟩ := h
      exact ⟨h1, (pk_un (by omega)).trans h2, h3, cs_qu t _ (by omega) h4⟩
    · rename_i c
      rw [if_neg c] at h
      exact cs_qu t b l h
theorem cs_ql {g cells : Nat → Int32} : ∀ (t : List cs_Fr) (b : Nat), cs_q g cells t b → ∀ p, p ∈ cs_L g t → p.2 < b
  | [], _, _, p, hp => by simp [cs_L] at hp
  | f :: t, b, h, p, hp => by
    rw [cs_q] at h
    rw [cs_L] at hp
    by_cases c : g f.1 = 2 ∧ f.2.1 ≠ 0
    · rw [if_pos c] at h hp
      rcases List.mem_cons.mp hp with e | e
      · rw [e]
        exact h.1
      · have := cs_ql t _ h.2.2.2 p e
        omega
    · rw [if_neg c] at h hp
      exact cs_ql t b h p hp
def cs_top (g : Nat → Int32) (en : Nat → Nat) (n : Nat) : List cs_Fr → Prop
  | [] => True
  | f :: t => cs_K g en n t f.1 ∧ (f.2.1 = 0 ∨ ((g f.1 = 3 ∨ g f.1 = 2) ∧ (f.2.1 = 1 ∨ f.2.1 = 2)))
theorem cs_Kt {g : Nat → Int32} {en : Nat → Nat} {n : Nat} (t : List cs_Fr) (c : Nat) (h : cs_K g en n t c) : cs_top g en n t := by
  cases t with
  | nil => trivial
  | cons f t =>
    obtain ⟨a, b, d⟩ := h
    rcases d with ⟨k, s, e⟩ | ⟨k, s, e⟩ | ⟨k, s, e⟩
    · exact ⟨b, Or.inr ⟨Or.inl k, Or.inl s⟩⟩
    · exact ⟨b, Or.inr ⟨Or.inl k, Or.inr s⟩⟩
    · exact ⟨b, Or.inr ⟨Or.inr k, Or.inr s⟩⟩
def cs_S (g : Nat → Int32) (en : Nat → Nat) (n : Nat) (F : List cs_Fr) (L : Nat) (cells out sN sS sQ sM lN lC : Nat → Int32) : Prop :=
  cs_top g en n F ∧ cs_fr g sN sS sQ sM F ∧ cs_xl lN lC (cs_L g F) ∧ cs_q g cells F L ∧ ∀ j, j < L → (∀ p, p ∈ cs_L g F → p.2 ≠ j) → cells j = out j
theorem cs_L0 (g : Nat → Int32) (nd q m : Nat) (t : List cs_Fr) : cs_L g ((nd, 0, q, m) :: t) = cs_L g t := by simp [cs_L]
theorem cs_L3 {g : Nat → Int32} {nd : Nat} (k : g nd = 3) (s q m : Nat) (t : List cs_Fr) : cs_L g ((nd, s, q, m) :: t) = cs_L g t := by
  have n2 : ¬ g nd = 2 := fun w => cs_23 w k
  simp [cs_L, n2]
theorem cs_L2 {g : Nat → Int32} {nd : Nat} (k : g nd = 2) (s q m : Nat) (t : List cs_Fr) : cs_L g ((nd, s + 1, q, m) :: t) = (nd, q) :: cs_L g t := by simp [cs_L, k]
theorem cs_q0 (g cells : Nat → Int32) (nd q m b : Nat) (t : List cs_Fr) : cs_q g cells ((nd, 0, q, m) :: t) b = cs_q g cells t b := by simp [cs_q]
theorem cs_q3 {g : Nat → Int32} (cells : Nat → Int32) {nd : Nat} (k : g nd = 3) (s q m b : Nat) (t : List cs_Fr) : cs_q g cells ((nd, s, q, m) :: t) b = cs_q g cells t b := by
  have n2 : ¬ g nd = 2 := fun w => cs_23 w k
  simp [cs_q, n2]
theorem cs_q2 {g : Nat → Int32} (cells : Nat → Int32) {nd : Nat} (k : g nd = 2) (s q m b : Nat) (t : List cs_Fr) : cs_q g cells ((nd, s + 1, q, m) :: t) b = (q < b ∧ cells q = nI (m + s) ∧ m + s ≤ 8 ∧ cs_q g cells t q) := by simp [cs_q, k]
theorem cs_p0 (g : Nat → Int32) (en : Nat → Nat) (n nd q m : Nat) (t : List cs_Fr) : cs_pos g en n ((nd, 0, q, m) :: t) = nd := by simp [cs_pos]
theorem cs_p31 {g : Nat → Int32} (en : Nat → Nat) (n : Nat) {nd : Nat} (k : g nd = 3) (q m : Nat) (t : List cs_Fr) : cs_pos g en n ((nd, 1, q, m) :: t) = en (nd + 1) := by simp [cs_pos, k]
theorem cs_p32 (g : Nat → Int32) (en : Nat → Nat) (n nd q m : Nat) (t : List cs_Fr) : cs_pos g en n ((nd, 2, q, m) :: t) = en nd := by simp [cs_pos]
theorem cs_p21 {g : Nat → Int32} (en : Nat → Nat) (n : Nat) {nd : Nat} (k : g nd = 2) (q m : Nat) (t : List cs_Fr) : cs_pos g en n ((nd, 1, q, m) :: t) = en nd := by simp [cs_pos, cs_23 k]
theorem cs_h0 (g : Nat → Int32) (nd q m : Nat) (t : List cs_Fr) : cs_ph g ((nd, 0, q, m) :: t) = cs_ph g t := by simp [cs_ph]
theorem cs_h3 {g : Nat → Int32} {nd : Nat} (k : g nd = 3) (s q m : Nat) (t : List cs_Fr) : cs_ph g ((nd, s + 1, q, m) :: t) = (2 - s) + cs_ph g t := by
  simp [cs_ph, k]
theorem cs_h2 {g : Nat → Int32} {nd : Nat} (k : g nd = 2) (s q m : Nat) (t : List cs_Fr) : cs_ph g ((nd, s + 1, q, m) :: t) = (s + 1) + cs_ph g t := by
  simp [cs_ph, cs_23 k]
section
variable {g cells out sN sS sQ sM lN lC : Nat → Int32} {en : Nat → Nat} {n nd q m L : Nat} {t : List cs_Fr}
theorem cs_t1 (G : cs_G g en n) (k : g nd = 1) (h : cs_S g en n ((nd, 0, q, m) :: t) L cells out sN sS sQ sM lN lC) (x : Int32) (lim i : Nat) (hi : i < lim) :
    cs_S g en n t (L + 1) (upd cells L x) (upd out L x) sN sS sQ sM lN lC ∧ cs_mu g en n lim (i + 1) t < cs_mu g en n lim i ((nd, 0, q, m) :: t) ∧ cs_pos g en n t = nd + 1 := by
  obtain ⟨⟨hK, _⟩, hF, hX, hQ, hA⟩ := h
  rw [cs_L0] at hX hA
  rw [cs_q0] at hQ
  have hn : nd < n := (cs_Kc G t nd hK).1
  have e1 : cs_pos g en n t = nd + 1 := by rw [cs_pop G t nd hK, cs_int G hn k]
  refine ⟨⟨cs_Kt t nd hK, hF.2.2.2, hX, cs_qm t L (L + 1) (by omega) (cs_qu t L (Nat.le_refl L) hQ), fun j hj hp => ?_⟩, ?_, e1⟩
  · by_cases e : j = L
    · rw [e, pk_us, pk_us]
    · rw [pk_un e, pk_un e]
      exact hA j (by omega) hp
  · unfold cs_mu
    rw [e1, cs_p0, cs_h0]
    omega
theorem cs_t2 (G : cs_G g en n) (k : g nd = 3) (h : cs_S g en n ((nd, 0, q, m) :: t) L cells out sN sS sQ sM lN lC) (lim i : Nat) :
    cs_S g en n ((nd + 1, 0, 0, 0) :: (nd, 1, q, m) :: t) L cells out (upd sN (t.length + 1) (nI (nd + 1))) (upd (upd sS t.length (nI 1)) (t.length + 1) (nI 0)) sQ sM lN lC ∧ cs_mu g en n lim i ((nd + 1, 0, 0, 0) :: (nd, 1, q, m) :: t) < cs_mu g en n lim i ((nd, 0, q, m) :: t) ∧ nd + 1 < n := by
  obtain ⟨⟨hK, _⟩, hF, hX, hQ, hA⟩ := h
  rw [cs_L0] at hX hA
  rw [cs_q0] at hQ
  have hn : nd < n := (cs_Kc G t nd hK).1
  have hp := cs_par G hn k
  have n16 := G.2.1
  have n2 : ¬ g nd = 2 := fun w => cs_23 w k
  obtain ⟨f1, f2, f3, f4⟩ := hF
  refine ⟨⟨⟨⟨hn, hK, Or.inl ⟨k, rfl, rfl⟩⟩, Or.inl rfl⟩, ⟨pk_us, pk_us, fun _ z => absurd rfl z, ?_⟩, ?_, ?_, ?_⟩, ?_, hp.1⟩
  · refine ⟨(pk_un (by omega)).trans f1, (pk_un (by omega)).trans pk_us, fun w => absurd w n2, ?_⟩
    exact cs_frc t f4 (fun j hj => ⟨pk_un (by omega), (pk_un (by omega)).trans (pk_un (by omega)), rfl, rfl⟩)
  · rw [cs_L0, cs_L3 k]
    exact hX
  · rw [cs_q0, cs_q3 cells k]
    exact hQ
  · rw [cs_L0, cs_L3 k]
    exact hA
  · unfold cs_mu
    rw [cs_p0, cs_p0, cs_h0, cs_h0, cs_h3 (s := 0) k]
    omega
theorem cs_t3 (G : cs_G g en n) (k : g nd = 3) (h : cs_S g en n ((nd, 1, q, m) :: t) L cells out sN sS sQ sM lN lC) (lim i : Nat) :
    cs_S g en n ((en (nd + 1), 0, 0, 0) :: (nd, 2, q, m) :: t) L cells out (upd sN (t.length + 1) (nI (en (nd + 1)))) (upd (upd sS t.length (nI 2)) (t.length + 1) (nI 0)) sQ sM lN lC ∧ cs_mu g en n lim i ((en (nd + 1), 0, 0, 0) :: (nd, 2, q, m) :: t) < cs_mu g en n lim i ((nd, 1, q, m) :: t) ∧ en (nd + 1) < n ∧ cs_pos g en n ((en (nd + 1), 0, 0, 0) :: (nd, 2, q, m) :: t) = cs_pos g en n ((nd, 1, q, m) :: t) := by
  obtain ⟨⟨hK, _⟩, hF, hX, hQ, hA⟩ := h
  rw [cs_L3 k] at hX hA
  rw [cs_q3 cells k] at hQ
  have hn : nd < n := (cs_Kc G t nd hK).1
  have hp := cs_par G hn k
  have n2 : ¬ g nd = 2 := fun w => cs_23 w k
  obtain ⟨f1, f2, f3, f4⟩ := hF
  refine ⟨⟨⟨⟨hn, hK, Or.inr (Or.inl ⟨k, rfl, rfl⟩)⟩, Or.inl rfl⟩, ⟨pk_us, pk_us, fun _ z => absurd rfl z, ?_⟩, ?_, ?_, ?_⟩, ?_, hp.2.2.1, ?_⟩
  · refine ⟨(pk_un (by omega)).trans f1, (pk_un (by omega)).trans pk_us, fun w => absurd w n2, ?_⟩
    exact cs_frc t f4 (fun j hj => ⟨pk_un (by omega), (pk_un (by omega)).trans (pk_un (by omega)), rfl, rfl⟩)
  · rw [cs_L0, cs_L3 k]
    exact hX
  · rw [cs_q0, cs_q3 cells k]
    exact hQ
  · rw [cs_L0, cs_L3 k]
    exact hA
  · unfold cs_mu
    rw [cs_p0, cs_p31 en n k, cs_h0, cs_h3 (s := 0) k, cs_h3 (s := 1) k]
    omega
  · rw [cs_p0, cs_p31 en n k]
theorem cs_t4 (G : cs_G g en n) (k : g nd = 3) (h : cs_S g en n ((nd, 2, q, m) :: t) L cells out sN sS sQ sM lN lC) (lim i : Nat) :
    cs_S g en n t L cells out sN sS sQ sM lN lC ∧ cs_mu g en n lim i t < cs_mu g en n lim i ((nd, 2, q, m) :: t) ∧ cs_pos g en n t = cs_pos g en n ((nd, 2, q, m) :: t) := by
  obtain ⟨⟨hK, _⟩, hF, hX, hQ, hA⟩ := h
  rw [cs_L3 k] at hX hA
  rw [cs_q3 cells k] at hQ
  have e1 : cs_pos g en n t = en nd := cs_pop G t nd hK
  refine ⟨⟨cs_Kt t nd hK, hF.2.2.2, hX, hQ, hA⟩, ?_, ?_⟩
  · unfold cs_mu
    rw [e1, cs_p32, cs_h3 (s := 1) k]
    omega
  · rw [e1, cs_p32]
theorem cs_t5 (G : cs_G g en n) (k : g nd = 2) (h : cs_S g en n ((nd, 0, q, m) :: t) L cells out sN sS sQ sM lN lC) (lim i : Nat) :
    cs_S g en n ((nd, 1, L, 0) :: t) (L + 1) (upd cells L (nI 0)) (upd out L (nI 0)) sN (upd sS t.length (nI 1)) (upd sQ t.length (nI L)) (upd sM t.length (nI 0)) (upd lN (cs_L g t).length (nI nd)) (upd lC (cs_L g t).length (nI L)) ∧ cs_mu g en n lim i ((nd, 1, L, 0) :: t) < cs_mu g en n lim i ((nd, 0, q, m) :: t) := by
  obtain ⟨⟨hK, _⟩, hF, hX, hQ, hA⟩ := h
  rw [cs_L0] at hX hA
  rw [cs_q0] at hQ
  have hn : nd < n := (cs_Kc G t nd hK).1
  have hl := cs_le G hn
  have n16 := G.2.1
  obtain ⟨f1, f2, f3, f4⟩ := hF
  refine ⟨⟨⟨hK, Or.inr ⟨Or.inr k, Or.inl rfl⟩⟩, ⟨f1, pk_us, fun _ _ => ⟨pk_us, pk_us⟩, ?_⟩, ?_, ?_, ?_⟩, ?_⟩
  · exact cs_frc t f4 (fun j hj => ⟨rfl, pk_un (by omega), pk_un (by omega), pk_un (by omega)⟩)
  · rw [cs_L2 (s := 0) k]
    exact ⟨pk_us, pk_us, cs_xlc _ hX (fun j hj => ⟨pk_un (by omega), pk_un (by omega)⟩)⟩
  · rw [cs_q2 (s := 0) _ k]
    exact ⟨by omega, pk_us, by omega, cs_qu t L (Nat.le_refl L) hQ⟩
  · rw [cs_L2 (s := 0) k]
    intro j hj hp
    have e : j ≠ L := fun z => hp (nd, L) (List.mem_cons_self ..) z.symm
    rw [pk_un e, pk_un e]
    exact hA j (by omega) (fun p hm => hp p (List.mem_cons_of_mem _ hm))
  · unfold cs_mu
    rw [cs_p21 en n k, cs_p0, cs_h0, cs_h2 (s := 0) k]
    omega
theorem cs_t6 (G : cs_G g en n) (k : g nd = 2) (h : cs_S g en n ((nd, 2, q, m) :: t) L cells out sN sS sQ sM lN lC) (lim i : Nat) :
    cs_S g en n ((nd, 1, q, m + 1) :: t) L cells out sN (upd sS t.length (nI 1)) sQ (upd sM t.length (nI (m + 1))) lN lC ∧ cs_mu g en n lim i ((nd, 1, q, m + 1) :: t) < cs_mu g en n lim i ((nd, 2, q, m) :: t) ∧ cs_pos g en n ((nd, 1, q, m + 1) :: t) = cs_pos g en n ((nd, 2, q, m) :: t) := by
  obtain ⟨⟨hK, _⟩, hF, hX, hQ, hA⟩ := h
  rw [cs_L2 (s := 1) k] at hX hA
  rw [cs_q2 (s := 1) cells k] at hQ
  obtain ⟨f1, f2, f3, f4⟩ := hF
  have f5 := f3 k (show (2 : Nat) ≠ 0 by decide)
  refine ⟨⟨⟨hK, Or.inr ⟨Or.inr k, Or.inl rfl⟩⟩, ⟨f1, pk_us, fun _ _ => ⟨f5.1, pk_us⟩, ?_⟩, ?_, ?_, ?_⟩, ?_, ?_⟩
  · exact cs_frc t f4 (fun j hj => ⟨rfl, pk_un (by omega), rfl, pk_un (by omega)⟩)
  · rw [cs_L2 (s := 0) k]
    exact hX
  · rw [cs_q2 (s := 0) cells k]
    exact hQ
  · rw [cs_L2 (s := 0) k]
    exact hA
  · unfold cs_mu
    rw [cs_p21 en n k, cs_p32, cs_h2 (s := 0) k, cs_h2 (s := 1) k]
    omega
  · rw [cs_p21 en n k, cs_p32]
theorem cs_t7 (G : cs_G g en n) (k : g nd = 2) (h : cs_S g en n ((nd, 1, q, m) :: t) L cells out sN sS sQ sM lN lC) (lim i i' : Nat) (hi : i ≤ i') :
    cs_S g en n t L cells (upd out q (nI m)) sN sS sQ sM lN lC ∧ cs_mu g en n lim i' t < cs_mu g en n lim i ((nd, 1, q, m) :: t) ∧ cs_pos g en n t = en nd := by
  obtain ⟨⟨hK, _⟩, hF, hX, hQ, hA⟩ := h
  rw [cs_L2 (s := 0) k] at hX hA
  rw [cs_q2 (s := 0) cells k] at hQ
  obtain ⟨q1, q2, q3, q4⟩ := hQ
  have e1 : cs_pos g en n t = en nd := cs_pop G t nd hK
  refine ⟨⟨cs_Kt t nd hK, hF.2.2.2, hX.2.2, cs_qm t q L (by omega) q4, fun j hj hp => ?_⟩, ?_, e1⟩
  · by_cases e : j = q
    · rw [e, pk_us]
      exact q2
    · rw [pk_un e]
      refine hA j hj (fun p hm => ?_)
      rcases List.mem_cons.mp hm with z | z
      · rw [z]
        exact fun w => e w.symm
      · exact hp p z
  · unfold cs_mu
    rw [e1, cs_p21 en n k, cs_h2 (s := 0) k]
    omega
theorem cs_t8 (G : cs_G g en n) (k : g nd = 2) (h : cs_S g en n ((nd, 1, q, m) :: t) L cells out sN sS sQ sM lN lC) (hm : m ≠ 8) (lim i : Nat) (hi : i < lim) :
    cs_S g en n ((nd + 1, 0, 0, 0) :: (nd, 2, q, m) :: t) L (upd cells q (nI (m + 1))) out (upd sN (t.length + 1) (nI (nd + 1))) (upd (upd sS t.length (nI 2)) (t.length + 1) (nI 0)) sQ sM lN lC ∧ cs_mu g en n lim (i + 1) ((nd + 1, 0, 0, 0) :: (nd, 2, q, m) :: t) < cs_mu g en n lim i ((nd, 1, q, m) :: t) ∧ nd + 1 < n := by
  obtain ⟨⟨hK, _⟩, hF, hX, hQ, hA⟩ := h
  rw [cs_L2 (s := 0) k] at hX hA
  rw [cs_q2 (s := 0) cells k] at hQ
  obtain ⟨q1, q2, q3, q4⟩ := hQ
  have hn : nd < n := (cs_Kc G t nd hK).1
  have hp := cs_lst G hn k
  have hl := cs_le G hn
  have n16 := G.2.1
  obtain ⟨f1, f2, f3, f4⟩ := hF
  have f5 := f3 k (show (1 : Nat) ≠ 0 by decide)
  refine ⟨⟨⟨⟨hn, hK, Or.inr (Or.inr ⟨k, rfl, rfl⟩)⟩, Or.inl rfl⟩, ⟨pk_us, pk_us, fun _ z => absurd rfl z, ?_⟩, ?_, ?_, ?_⟩, ?_, hp.1⟩
  · refine ⟨(pk_un (by omega)).trans f1, (pk_un (by omega)).trans pk_us, fun _ _ => f5, ?_⟩
    exact cs_frc t f4 (fun j hj => ⟨pk_un (by omega), (pk_un (by omega)).trans (pk_un (by omega)), rfl, rfl⟩)
  · rw [cs_L0, cs_L2 (s := 1) k]
    exact hX
  · rw [cs_q0, cs_q2 (s := 1) _ k]
    exact ⟨q1, pk_us, by omega, cs_qu t q (Nat.le_refl q) q4⟩
  · rw [cs_L0, cs_L2 (s := 1) k]
    intro j hj hq
    have e : j ≠ q := fun z => hq (nd, q) (List.mem_cons_self ..) z.symm
    rw [pk_un e]
    exact hA j hj hq
  · unfold cs_mu
    rw [cs_p0, cs_p21 en n k, cs_h0, cs_h2 (s := 1) k, cs_h2 (s := 0) k]
    omega
end
section
variable {g cells out sN sS sQ sM lN lC : Nat → Int32} {en : Nat → Nat} {n nd q m L : Nat} {t : List cs_Fr}
theorem cs_nz (G : cs_G g en n) (h : cs_S g en n ((nd, 0, q, m) :: t) L cells out sN sS sQ sM lN lC) : nd < n ∧ t.length ≤ nd ∧ (cs_L g t).length ≤ nd ∧ ((cs_L g t).length = 0 ∨ ∃ d p, (cs_L g t).length = d + 1 ∧ d < 16 ∧ lN d = nI p ∧ p < n ∧ nd ≠ en p ∧ en p ≤ n) := by
  obtain ⟨⟨hK, _⟩, hF, hX, hQ, hA⟩ := h
  rw [cs_L0] at hX
  have hn := cs_Kc G t nd hK
  have hl := cs_Ll g t
  have n16 := G.2.1
  refine ⟨hn.1, hn.2, by omega, ?_⟩
  cases e : cs_L g t with
  | nil => exact Or.inl rfl
  | cons f r =>
    obtain ⟨p, q'⟩ := f
    rw [e] at hX hl
    have hi := cs_in G t nd p q' r hK e
    have hp := cs_le G hi.2.2
    rw [List.length_cons] at hl
    exact Or.inr ⟨r.length, p, List.length_cons, by omega, hX.1, hi.2.2, by omega, hp.2⟩
theorem cs_lz (G : cs_G g en n) (k : g nd = 2) (h : cs_S g en n ((nd, 1, q, m) :: t) L cells out sN sS sQ sM lN lC) : nd < n ∧ t.length ≤ nd ∧ (cs_L g t).length ≤ nd ∧ (cs_L g ((nd, 1, q, m) :: t)).length = (cs_L g t).length + 1 ∧ lN (cs_L g t).length = nI nd ∧ lC (cs_L g t).length = nI q ∧ q < L ∧ cells q = nI m ∧ m ≤ 8 ∧ sQ t.length = nI q ∧ sM t.length = nI m := by
  obtain ⟨⟨hK, _⟩, hF, hX, hQ, hA⟩ := h
  rw [cs_L2 (s := 0) k] at hX
  rw [cs_q2 (s := 0) cells k] at hQ
  have hn := cs_Kc G t nd hK
  have hl := cs_Ll g t
  obtain ⟨f1, f2, f3, f4⟩ := hF
  have f5 := f3 k (show (1 : Nat) ≠ 0 by decide)
  refine ⟨hn.1, hn.2, by omega, ?_, hX.1, hX.2.1, hQ.1, hQ.2.1, hQ.2.2.1, f5.1, f5.2⟩
  rw [cs_L2 (s := 0) k, List.length_cons]
theorem cs_tf {s : Nat} (G : cs_G g en n) (h : cs_S g en n ((nd, s, q, m) :: t) L cells out sN sS sQ sM lN lC) : nd < n ∧ t.length ≤ nd ∧ sN t.length = nI nd ∧ sS t.length = nI s ∧ (s = 0 ∨ ((g nd = 3 ∨ g nd = 2) ∧ (s = 1 ∨ s = 2))) := by
  obtain ⟨⟨hK, hs⟩, hF, hX, hQ, hA⟩ := h
  have hn := cs_Kc G t nd hK
  exact ⟨hn.1, hn.2, hF.1, hF.2.1, hs⟩
end
theorem cs_S0 {g ce ou sN sS sQ sM lN lC : Nat → Int32} {en : Nat → Nat} {n : Nat} (G : cs_G g en n) : cs_S g en n [(0, 0, 0, 0)] 0 ce ou (upd sN 0 0) (upd sS 0 0) sQ sM lN lC :=
  ⟨⟨rfl, Or.inl rfl⟩, ⟨pk_us, pk_us, fun _ z => absurd rfl z, trivial⟩, by rw [cs_L0]; trivial, by rw [cs_q0]; trivial, fun j hj => absurd hj (by omega)⟩
end
section
def cs_cp (f t : Nat → Int32) (k : Nat) : Nat → Int32 := fun j => if j < k then f j else t j
theorem cs_cp0 (f t : Nat → Int32) : cs_cp f t 0 = t := by
  funext j
  simp [cs_cp]
theorem cs_cps (f t : Nat → Int32) (k : Nat) : upd (cs_cp f t k) k (f k) = cs_cp f t (k + 1) := by
  funext j
  unfold upd cs_cp
  by_cases e : j = k
  · rw [if_pos e, if_pos (by omega), e]
  · rw [if_neg e]
    by_cases l : j < k
    · rw [if_pos l, if_pos (by omega)]
    · rw [if_neg l, if_neg (by omega)]
theorem cs_cpe {f f' t : Nat → Int32} {k : Nat} (h : ∀ j, j < k → f j = f' j) : cs_cp f t k = cs_cp f' t k := by
  funext j
  unfold cs_cp
  by_cases l : j < k
  · rw [if_pos l, if_pos l, h j l]
  · rw [if_neg l, if_neg l]
theorem cs_cpl {f t : Nat → Int32} {k j : Nat} (l : j < k) : cs_cp f t k j = f j := by
  unfold cs_cp
  rw [if_pos l]
theorem cs_uu (f : Nat → Int32) (k : Nat) (x y : Int32) : upd (upd f k x) k y = upd f k y := by
  funext j
  unfold upd
  by_cases e : j = k
  · rw [if_pos e, if_pos e]
  · rw [if_neg e, if_neg e, if_neg e]
def cs_by (f : Nat → Int32) (k : Nat) : Prop := ∀ j, j < k → ∃ b : Nat, b < 256 ∧ f j = nI b
theorem cs_byu {f : Nat → Int32} {k i b : Nat} (h : cs_by f k) (hb : b < 256) : cs_by (upd f i (nI b)) k := by
  intro j hj
  by_cases e : j = i
  · exact ⟨b, hb, by rw [e, pk_us]⟩
  · obtain ⟨c, hc, ec⟩ := h j hj
    exact ⟨c, hc, by rw [pk_un e, ec]⟩
def cs_T (dr yl : Int32) (lim t : Nat) (T C : Nat → Int32) : Prop :=
  t ≤ lim ∧ lim ≤ 32 ∧ (dr = 0 ∨ dr = 1) ∧ (∀ j, j < t → T j = C j) ∧ cs_by T t ∧ (dr = 0 → yl = nI lim ∧ (∀ j, j < lim → T j = C j) ∧ cs_by T lim)
theorem cs_Dle (g : Nat → Int32) : ∀ k, cs_D g k ≤ k + 1
  | 0 => by
    have : cs_D g 0 = 1 := rfl
    omega
  | k + 1 => by
    have := cs_Dle g k
    rw [cs_Ds]
    have h : cs_ch (g k) ≤ 2 := by
      unfold cs_ch
      split
      · omega
      · split <;> omega
    rcases Nat.eq_zero_or_pos (cs_D g k) with z | z
    · omega
    · omega
theorem cs_fd (T s : Nat → Int32) : ∀ t : Nat, ∃ d, d ≤ t ∧ (∀ j, j < d → T j = s j) ∧ (d < t → T d ≠ s d)
  | 0 => ⟨0, by omega, fun j h => by omega, fun h => by omega⟩
  | t + 1 => by
    obtain ⟨d, a, b, c⟩ := cs_fd T s t
    by_cases l : d < t
    · exact ⟨d, by omega, b, fun _ => c l⟩
    · have e : d = t := by omega
      by_cases q : T t = s t
      · refine ⟨t + 1, by omega, fun j hj => ?_, fun h => by omega⟩
        by_cases w : j < t
        · exact b j (by omega)
        · have : j = t := by omega
          rw [this, q]
      · exact ⟨t, by omega, fun j hj => b j (by omega), fun _ => q⟩
def cs_Gn (gc gp : Int32) (gk gb ge : Nat → Int32) : Prop :=
  ∃ n, n ≤ 16 ∧ gc = nI n ∧ gp = nI (cs_D gk n) ∧ (∀ j, j < n → 1 ≤ cs_D gk j ∧ (gk j = 1 ∨ gk j = 2 ∨ gk j = 3)) ∧ (∀ j, j < n → ∃ b : Nat, b < 256 ∧ gb j = nI b) ∧ (cs_D gk n = 0 → ∃ en : Nat → Nat, cs_G gk en n ∧ ∀ j, j < n → ge j = nI (en j))
def cs_Pr (oc : Int32) (po oa yA : Nat → Int32) : Prop :=
  ∃ m, m ≤ 32 ∧ oc = nI m ∧ ∀ j, j < m → ∃ o : Nat, o ≤ 14 ∧ po j = nI o ∧ ((o = 0 ∨ o = 13 ∨ o = 14) → oa j = yA j) ∧ ((o = 13 ∨ o = 14) → ∃ a : Nat, a ≤ 32 ∧ yA j = nI a)
def cs_at (pa bk ix lo hi im yn : Int32) (n : Nat) : Prop :=
  ∃ p k i l h : Nat, pa = nI p ∧ bk = nI k ∧ ix = nI i ∧ lo = nI l ∧ hi = nI h ∧ (im = 0 ∨ im = 1) ∧
    (((p = 1 ∨ p = 2) ∧ (k = 1 ∨ k = 2 ∨ k = 4) ∧ i + k ≤ n ∧ l = 0 ∧ h = 0 ∧ yn = 0) ∨ (p = 3 ∧ k = 1 ∧ i < n ∧ l < h ∧ h ≤ 255 ∧ yn = 1) ∨ (p = 4 ∧ k = 1 ∧ i + 1 < n ∧ l = 0 ∧ h = 0 ∧ yn = 0))
def cs_fin (r tk cc yt yo : Int32) (tp ce cd ou : Nat → Int32) : Prop :=
  r = 0 ∨ (r = 1 ∧ ∃ t L : Nat, t ≤ 32 ∧ L ≤ 32 ∧ tk = nI t ∧ yt = nI t ∧ cc = nI L ∧ yo = nI L ∧ (∀ j, j < t → tp j = cd j) ∧ cs_by tp t ∧ (∀ j, j < L → ce j = ou j))
theorem cs_Gn0 : cs_Gn 0 1 (fun _ => 0) (fun _ => 0) (fun _ => 0) :=
  ⟨0, by omega, rfl, rfl, fun j h => absurd h (by omega), fun j h => absurd h (by omega), fun h => absurd h (by decide)⟩
theorem cs_Pr0 : cs_Pr 0 (fun _ => 0) (fun _ => 0) (fun _ => 0) :=
  ⟨0, by omega, rfl, fun j h => absurd h (by omega)⟩
theorem cs_by0 (f : Nat → Int32) : cs_by f 0 := fun j h => absurd h (by omega)
theorem cs_bys {f : Nat → Int32} {k b : Nat} (h : cs_by f k) (hb : b < 256) (e : f k = nI b) : cs_by f (k + 1) := by
  intro j hj
  by_cases z : j = k
  · exact ⟨b, hb, by rw [z, e]⟩
  · exact h j (by omega)
theorem cs_byc {f f' : Nat → Int32} {k : Nat} (h : cs_by f k) (e : ∀ j, j < k → f' j = f j) : cs_by f' k := by
  intro j hj
  obtain ⟨b, hb, eb⟩ := h j hj
  exact ⟨b, hb, by rw [e j hj, eb]⟩
theorem cs_bym {f : Nat → Int32} {k k' : Nat} (h : cs_by f k) (l : k' ≤ k) : cs_by f k' := fun j hj => h j (by omega)
theorem cs_Gstep {gk : Nat → Int32} {n : Nat} {x : Int32} (h : ∀ j, j < n → 1 ≤ cs_D gk j ∧ (gk j = 1 ∨ gk j = 2 ∨ gk j = 3)) (hd : 1 ≤ cs_D gk n) (hx : x = 1 ∨ x = 2 ∨ x = 3) :
    (∀ j, j < n + 1 → 1 ≤ cs_D (upd gk n x) j ∧ (upd gk n x j = 1 ∨ upd gk n x j = 2 ∨ upd gk n x j = 3)) ∧ cs_D (upd gk n x) (n + 1) = cs_D gk n - 1 + cs_ch x := by
  have e : ∀ k, k ≤ n → cs_D (upd gk n x) k = cs_D gk k := fun k hk => cs_Dc k (fun j hj => pk_un (by omega))
  refine ⟨fun j hj => ?_, ?_⟩
  · rw [e j (by omega)]
    by_cases z : j = n
    · rw [z, pk_us]
      exact ⟨hd, hx⟩
    · rw [pk_un z]
      exact h j (by omega)
  · rw [cs_Ds, e n (Nat.le_refl n), pk_us]
def cs_del (cu : Nat → Int32) (i k : Nat) : Nat → Int32 := fun j => if j < i then cu j else cu (j + k)
theorem cs_del1 {cu : Nat → Int32} {i k j : Nat} (h : j < i) : cs_del cu i k j = cu j := if_pos h
theorem cs_del2 {cu : Nat → Int32} {i k j : Nat} (h : i ≤ j) : cs_del cu i k j = cu (j + k) := if_neg (by omega)
theorem cs_del0 (cu : Nat → Int32) (i : Nat) : cs_del cu i 0 = cu := by
  funext j
  unfold cs_del
  split <;> rfl
theorem cs_delb {cu : Nat → Int32} {i k n : Nat} (h : cs_by cu n) (hk : i + k ≤ n) : cs_by (cs_del cu i k) (n - k) := by
  intro j hj
  by_cases z : j < i
  · rw [cs_del1 z]
    exact h j (by omega)
  · rw [cs_del2 (by omega)]
    exact h (j + k) (by omega)
def cs_dp (i k j : Nat) : Nat := if j ≤ i then j else if j ≤ i + k then i else j - k
theorem cs_dp1 {i k j : Nat} (h : j < i) : cs_dp i k (j + 1) = cs_dp i k j + 1 ∧ cs_dp i k j = j := by
  unfold cs_dp
  rw [if_pos (by omega), if_pos (by omega)]
  exact ⟨rfl, rfl⟩
theorem cs_dp2 {i k j : Nat} (h : i ≤ j) (h2 : j < i + k) : cs_dp i k (j + 1) = cs_dp i k j := by
  unfold cs_dp
  rw [if_neg (by omega), if_pos (by omega)]
  split
  · omega
  · rw [if_pos (by omega)]
theorem cs_dp3 {i k j : Nat} (h : i + k ≤ j) : cs_dp i k (j + 1) = cs_dp i k j + 1 ∧ cs_dp i k j = j - k := by
  unfold cs_dp
  by_cases z : j ≤ i
  · have k0 : k = 0 := by omega
    have ji : j = i := by omega
    subst k0 ji
    rw [if_neg (by omega), if_neg (by omega), if_pos (by omega)]
    omega
  · rw [if_neg (by omega), if_neg (by omega), if_neg z]
    by_cases w : j ≤ i + k
    · rw [if_pos w]
      omega
    · rw [if_neg w]
      omega
theorem cs_dpn {i k n : Nat} (h : i + k ≤ n) : cs_dp i k n = n - k := by
  unfold cs_dp
  by_cases z : n ≤ i
  · rw [if_pos z]
    omega
  · rw [if_neg z]
    by_cases w : n ≤ i + k
    · rw [if_pos w]
      omega
    · rw [if_neg w]
def cs_zb (f : Nat → Int32) (i m : Nat) : Nat → Int32 := fun j => if i ≤ j ∧ j < i + m then 0 else f j
theorem cs_zb0 (f : Nat → Int32) (i : Nat) : cs_zb f i 0 = f := by
  funext j
  unfold cs_zb
  rw [if_neg (by omega)]
theorem cs_zbs (f : Nat → Int32) (i m : Nat) : upd (cs_zb f i m) (i + m) 0 = cs_zb f i (m + 1) := by
  funext j
  unfold upd cs_zb
  by_cases e : j = i + m
  · rw [if_pos e, if_pos (by omega)]
  · rw [if_neg e]
    by_cases l : i ≤ j ∧ j < i + m
    · rw [if_pos l, if_pos (by omega)]
    · rw [if_neg l, if_neg (by omega)]
theorem cs_zbe {f f' : Nat → Int32} {i m n : Nat} (h : ∀ j, j < n → f j = f' j) : ∀ j, j < n → cs_zb f i m j = cs_zb f' i m j := by
  intro j hj
  unfold cs_zb
  rw [h j hj]
theorem cs_zbb {f : Nat → Int32} {i m n : Nat} (h : cs_by f n) : cs_by (cs_zb f i m) n := by
  intro j hj
  unfold cs_zb
  by_cases l : i ≤ j ∧ j < i + m
  · rw [if_pos l]
    exact ⟨0, by omega, rfl⟩
  · rw [if_neg l]
    exact h j hj
theorem cs_ue {f f' : Nat → Int32} {k n : Nat} {x : Int32} (h : ∀ j, j < n → f j = f' j) : ∀ j, j < n → upd f k x j = upd f' k x j := by
  intro j hj
  by_cases e : j = k
  · rw [e, pk_us, pk_us]
  · rw [pk_un e, pk_un e, h j hj]
end
section
def cs_M (cp ml : Int32) (mn : Nat → Int32) : Prop := ∃ c m : Nat, 4 ≤ c ∧ c ≤ 32 ∧ m ≤ c ∧ cp = nI c ∧ ml = nI m ∧ cs_by mn m
def cs_F (ph gp cl ol vl pa bk ix lo hi im yn : Int32) (cu : Nat → Int32) : Prop :=
  ∃ n o v : Nat, n ≤ 32 ∧ o ≤ 32 ∧ v ≤ 32 ∧ cl = nI n ∧ ol = nI o ∧ vl = nI v ∧ cs_by cu n ∧
    (ph = 0 ∨ ph = 2 ∨ (ph = 1 ∧ gp = 0 ∧ ((pa = 0 ∧ bk = 0 ∧ ix = 0 ∧ lo = 0 ∧ hi = 0 ∧ im = 0 ∧ yn = 0) ∨ cs_at pa bk ix lo hi im yn n)))
def i_Rel (_ : Nat) (u : SX) (v : SY) : Prop :=
  ∃ (cp pr ph gc gp oc ml cl ol vl tr ac ca pa bk ix cL cH im tl tk dr cc ld sd yn yl yt yr yo : Int32) (gk gb ge po oa mn cu og vl_ tp ce lN lC sk yA cd ou sN sS sQ sM : Nat → Int32), u = (cp, pr, ph, gc, gp, oc, ml, cl, ol, vl, tr, ac, ca, pa, bk, ix, cL, cH, im, tl, tk, dr, cc, ld, sd, gk, gb, ge, po, oa, mn, cu, og, vl_, tp, ce, lN, lC, sk) ∧ v = (pr, cp, ph, gc, gp, oc, ml, cl, ol, vl, tr, ac, ca, pa, bk, ix, cL, cH, im, yn, yl, yt, yr, yo, gk, gb, po, yA, mn, cu, og, vl_, cd, ou, sN, sS, sQ, sM, sk) ∧ cs_M cp ml mn ∧ cs_Gn gc gp gk gb ge ∧ cs_Pr oc po oa yA ∧ cs_F ph gp cl ol vl pa bk ix cL cH im yn cu
theorem i_up {k : Nat} {u : SX} {v : SY} (h : i_Rel k u v) : i_Rel (k + 3) u v := h
theorem cs_mk {k : Nat} {cp pr ph gc gp oc ml cl ol vl tr ac ca pa bk ix cL cH im tl tk dr cc ld sd yn yl yt yr yo : Int32} {gk gb ge po oa mn cu og vl_ tp ce lN lC sk yA cd ou sN sS sQ sM : Nat → Int32} (hM : cs_M cp ml mn) (hG : cs_Gn gc gp gk gb ge) (hP : cs_Pr oc po oa yA) (hF : cs_F ph gp cl ol vl pa bk ix cL cH im yn cu) : i_Rel k (cp, pr, ph, gc, gp, oc, ml, cl, ol, vl, tr, ac, ca, pa, bk, ix, cL, cH, im, tl, tk, dr, cc, ld, sd, gk, gb, ge, po, oa, mn, cu, og, vl_, tp, ce, lN, lC, sk) (pr, cp, ph, gc, gp, oc, ml, cl, ol, vl, tr, ac, ca, pa, bk, ix, cL, cH, im, yn, yl, yt, yr, yo, gk, gb, po, yA, mn, cu, og, vl_, cd, ou, sN, sS, sQ, sM, sk) :=
  ⟨cp, pr, ph, gc, gp, oc, ml, cl, ol, vl, tr, ac, ca, pa, bk, ix, cL, cH, im, tl, tk, dr, cc, ld, sd, yn, yl, yt, yr, yo, gk, gb, ge, po, oa, mn, cu, og, vl_, tp, ce, lN, lC, sk, yA, cd, ou, sN, sS, sQ, sM, rfl, rfl, hM, hG, hP, hF⟩
theorem cs_elim {k : Nat} {u : SX} {v : SY} {P : SX → SY → Prop} (I : i_Rel k u v) (h : ∀ (cp pr ph gc gp oc ml cl ol vl tr ac ca pa bk ix cL cH im tl tk dr cc ld sd yn yl yt yr yo : Int32) (gk gb ge po oa mn cu og vl_ tp ce lN lC sk yA cd ou sN sS sQ sM : Nat → Int32), cs_M cp ml mn → cs_Gn gc gp gk gb ge → cs_Pr oc po oa yA → cs_F ph gp cl ol vl pa bk ix cL cH im yn cu → P (cp, pr, ph, gc, gp, oc, ml, cl, ol, vl, tr, ac, ca, pa, bk, ix, cL, cH, im, tl, tk, dr, cc, ld, sd, gk, gb, ge, po, oa, mn, cu, og, vl_, tp, ce, lN, lC, sk) (pr, cp, ph, gc, gp, oc, ml, cl, ol, vl, tr, ac, ca, pa, bk, ix, cL, cH, im, yn, yl, yt, yr, yo, gk, gb, po, yA, mn, cu, og, vl_, cd, ou, sN, sS, sQ, sM, sk)) : P u v := by
  obtain ⟨cp, pr, ph, gc, gp, oc, ml, cl, ol, vl, tr, ac, ca, pa, bk, ix, cL, cH, im, tl, tk, dr, cc, ld, sd, yn, yl, yt, yr, yo, gk, gb, ge, po, oa, mn, cu, og, vl_, tp, ce, lN, lC, sk, yA, cd, ou, sN, sS, sQ, sM, rfl, rfl, hM, hG, hP, hF⟩ := I
  exact h cp pr ph gc gp oc ml cl ol vl tr ac ca pa bk ix cL cH im tl tk dr cc ld sd yn yl yt yr yo gk gb ge po oa mn cu og vl_ tp ce lN lC sk yA cd ou sN sS sQ sM hM hG hP hF
theorem cs_nm1 {n : Nat} (h : n < 2 ^ 31) : ¬ nI n = -1 := by
  intro e
  have e1 := congrArg Int32.toInt e
  rw [nI_toInt h, show (-1 : Int32).toInt = -1 from by decide] at e1
  omega
theorem cs_M0 {cp ml : Int32} {mn : Nat → Int32} (h : cs_M cp ml mn) : cs_M cp 0 mn := by
  obtain ⟨c, m, h1, h2, h3, h4, h5, h6⟩ := h
  exact ⟨c, 0, h1, h2, by omega, h4, rfl, cs_by0 mn⟩
theorem cs_F0 (gp : Int32) (cu : Nat → Int32) : cs_F 0 gp 0 0 0 0 0 0 0 0 0 0 cu :=
  ⟨0, 0, 0, by omega, by omega, by omega, rfl, rfl, rfl, cs_by0 cu, Or.inl rfl⟩
end
section
theorem i_vc_discard {k : Nat} {u : SX} {v : SY} (I : i_Rel k u v) (hk : k + 3 ≤ 1538) : wpX_discard (fun u' => wpY_discard (fun v' => i_Rel (k + 3) u' v') v) u := by
  refine cs_elim (P := fun u v => wpX_discard (fun u' => wpY_discard (fun v' => i_Rel (k + 3) u' v') v) u) I ?_
  intro cp pr ph gc gp oc ml cl ol vl tr ac ca pa bk ix cL cH im tl tk dr cc ld sd yn yl yt yr yo gk gb ge po oa mn cu og vl_ tp ce lN lC sk yA cd ou sN sS sQ sM hM hG hP hF
  have J : i_Rel (k + 3) (cp, pr, ph, gc, gp, oc, ml, cl, ol, vl, tr, ac, ca, pa, bk, ix, cL, cH, im, tl, tk, dr, cc, ld, sd, gk, gb, ge, po, oa, mn, cu, og, vl_, tp, ce, lN, lC, sk) (pr, cp, ph, gc, gp, oc, ml, cl, ol, vl, tr, ac, ca, pa, bk, ix, cL, cH, im, yn, yl, yt, yr, yo, gk, gb, po, yA, mn, cu, og, vl_, cd, ou, sN, sS, sQ, sM, sk) := cs_mk hM hG hP hF
  have J : i_Rel (k + 3) (cp, pr, 0, gc, gp, oc, 0, 0, 0, 0, 0, 0, ca, 0, 0, 0, 0, 0, 0, tl, tk, dr, cc, ld, sd, gk, gb, ge, po, oa, mn, cu, og, vl_, tp, ce, lN, lC, sk) (pr, cp, 0, gc, gp, oc, 0, 0, 0, 0, 0, 0, ca, 0, 0, 0, 0, 0, 0, 0, yl, yt, yr, yo, gk, gb, po, yA, mn, cu, og, vl_, cd, ou, sN, sS, sQ, sM, sk) :=
    cs_mk (cs_M0 hM) hG hP (cs_F0 gp cu)
  exact J
theorem i_vc_phase {k : Nat} {u : SX} {v : SY} (I : i_Rel k u v) (hk : k + 3 ≤ 1538) : wpX_phase (fun r => wpY_phase (fun r' => r' = r ∧ i_Rel (k + 3) u v) v) u := by
  refine cs_elim (P := fun u v => wpX_phase (fun r => wpY_phase (fun r' => r' = r ∧ i_Rel (k + 3) u v) v) u) I ?_
  intro cp pr ph gc gp oc ml cl ol vl tr ac ca pa bk ix cL cH im tl tk dr cc ld sd yn yl yt yr yo gk gb ge po oa mn cu og vl_ tp ce lN lC sk yA cd ou sN sS sQ sM hM hG hP hF
  have J : i_Rel (k + 3) (cp, pr, ph, gc, gp, oc, ml, cl, ol, vl, tr, ac, ca, pa, bk, ix, cL, cH, im, tl, tk, dr, cc, ld, sd, gk, gb, ge, po, oa, mn, cu, og, vl_, tp, ce, lN, lC, sk) (pr, cp, ph, gc, gp, oc, ml, cl, ol, vl, tr, ac, ca, pa, bk, ix, cL, cH, im, yn, yl, yt, yr, yo, gk, gb, po, yA, mn, cu, og, vl_, cd, ou, sN, sS, sQ, sM, sk) := cs_mk hM hG hP hF
  exact ⟨rfl, J⟩
theorem i_vc_seqLength {k : Nat} {u : SX} {v : SY} (I : i_Rel k u v) (hk : k + 3 ≤ 1538) : wpX_seqLength (fun r => wpY_seqLength (fun r' => r' = r ∧ i_Rel (k + 3) u v) v) u := by
  refine cs_elim (P := fun u v => wpX_seqLength (fun r => wpY_seqLength (fun r' => r' = r ∧ i_Rel (k + 3) u v) v) u) I ?_
  intro cp pr ph gc gp oc ml cl ol vl tr ac ca pa bk ix cL cH im tl tk dr cc ld sd yn yl yt yr yo gk gb ge po oa mn cu og vl_ tp ce lN lC sk yA cd ou sN sS sQ sM hM hG hP hF
  have J : i_Rel (k + 3) (cp, pr, ph, gc, gp, oc, ml, cl, ol, vl, tr, ac, ca, pa, bk, ix, cL, cH, im, tl, tk, dr, cc, ld, sd, gk, gb, ge, po, oa, mn, cu, og, vl_, tp, ce, lN, lC, sk) (pr, cp, ph, gc, gp, oc, ml, cl, ol, vl, tr, ac, ca, pa, bk, ix, cL, cH, im, yn, yl, yt, yr, yo, gk, gb, po, yA, mn, cu, og, vl_, cd, ou, sN, sS, sQ, sM, sk) := cs_mk hM hG hP hF
  exact ⟨rfl, J⟩
theorem i_vc_origLength {k : Nat} {u : SX} {v : SY} (I : i_Rel k u v) (hk : k + 3 ≤ 1538) : wpX_origLength (fun r => wpY_origLength (fun r' => r' = r ∧ i_Rel (k + 3) u v) v) u := by
  refine cs_elim (P := fun u v => wpX_origLength (fun r => wpY_origLength (fun r' => r' = r ∧ i_Rel (k + 3) u v) v) u) I ?_
  intro cp pr ph gc gp oc ml cl ol vl tr ac ca pa bk ix cL cH im tl tk dr cc ld sd yn yl yt yr yo gk gb ge po oa mn cu og vl_ tp ce lN lC sk yA cd ou sN sS sQ sM hM hG hP hF
  have J : i_Rel (k + 3) (cp, pr, ph, gc, gp, oc, ml, cl, ol, vl, tr, ac, ca, pa, bk, ix, cL, cH, im, tl, tk, dr, cc, ld, sd, gk, gb, ge, po, oa, mn, cu, og, vl_, tp, ce, lN, lC, sk) (pr, cp, ph, gc, gp, oc, ml, cl, ol, vl, tr, ac, ca, pa, bk, ix, cL, cH, im, yn, yl, yt, yr, yo, gk, gb, po, yA, mn, cu, og, vl_, cd, ou, sN, sS, sQ, sM, sk) := cs_mk hM hG hP hF
  exact ⟨rfl, J⟩
theorem i_vc_valueLength {k : Nat} {u : SX} {v : SY} (I : i_Rel k u v) (hk : k + 3 ≤ 1538) : wpX_valueLength (fun r => wpY_valueLength (fun r' => r' = r ∧ i_Rel (k + 3) u v) v) u := by
  refine cs_elim (P := fun u v => wpX_valueLength (fun r => wpY_valueLength (fun r' => r' = r ∧ i_Rel (k + 3) u v) v) u) I ?_
  intro cp pr ph gc gp oc ml cl ol vl tr ac ca pa bk ix cL cH im tl tk dr cc ld sd yn yl yt yr yo gk gb ge po oa mn cu og vl_ tp ce lN lC sk yA cd ou sN sS sQ sM hM hG hP hF
  have J : i_Rel (k + 3) (cp, pr, ph, gc, gp, oc, ml, cl, ol, vl, tr, ac, ca, pa, bk, ix, cL, cH, im, tl, tk, dr, cc, ld, sd, gk, gb, ge, po, oa, mn, cu, og, vl_, tp, ce, lN, lC, sk) (pr, cp, ph, gc, gp, oc, ml, cl, ol, vl, tr, ac, ca, pa, bk, ix, cL, cH, im, yn, yl, yt, yr, yo, gk, gb, po, yA, mn, cu, og, vl_, cd, ou, sN, sS, sQ, sM, sk) := cs_mk hM hG hP hF
  exact ⟨rfl, J⟩
theorem cs_ix0 {x : Int32} {n : Nat} (hn : n < 2 ^ 31) (h : nI n ≤ x) : ¬ x < 0 := Int32.not_lt.mpr (Int32.le_trans (nI_pos' hn) h)
theorem i_vc_choiceAt {k : Nat} {u : SX} {v : SY} (I : i_Rel k u v) (hk : k + 3 ≤ 1538) (v1 : Int32) : wpX_choiceAt (fun r => wpY_choiceAt (fun r' => r' = r ∧ i_Rel (k + 3) u v) v v1) u v1 := by
  refine cs_elim (P := fun u v => wpX_choiceAt (fun r => wpY_choiceAt (fun r' => r' = r ∧ i_Rel (k + 3) u v) v v1) u v1) I ?_
  intro cp pr ph gc gp oc ml cl ol vl tr ac ca pa bk ix cL cH im tl tk dr cc ld sd yn yl yt yr yo gk gb ge po oa mn cu og vl_ tp ce lN lC sk yA cd ou sN sS sQ sM hM hG hP hF
  have J : i_Rel (k + 3) (cp, pr, ph, gc, gp, oc, ml, cl, ol, vl, tr, ac, ca, pa, bk, ix, cL, cH, im, tl, tk, dr, cc, ld, sd, gk, gb, ge, po, oa, mn, cu, og, vl_, tp, ce, lN, lC, sk) (pr, cp, ph, gc, gp, oc, ml, cl, ol, vl, tr, ac, ca, pa, bk, ix, cL, cH, im, yn, yl, yt, yr, yo, gk, gb, po, yA, mn, cu, og, vl_, cd, ou, sN, sS, sQ, sM, sk) := cs_mk hM hG hP hF
  obtain ⟨n, o, q, hn, ho, hv, rfl, rfl, rfl, hb, hph⟩ := hF
  rcases pk_ix v1 (n := n) (by omega) with h | h | ⟨j, hj, rfl⟩
  · exact br_t h (br_t h ⟨rfl, J⟩)
  · have h0 : ¬ v1 < 0 := cs_ix0 (by omega) h
    exact br_f h0 (br_t h (br_f h0 (br_f (Int32.not_lt.mpr h) ⟨rfl, J⟩)))
  · exact br_f (nI_pos (by omega)) (br_f (nI_ge hj (by omega)) ⟨vp_in_nI (by omega) (by omega), br_f (nI_pos (by omega)) (br_t (nI_lt hj (by omega)) ⟨vp_in_nI (by omega) (by omega), rfl, J⟩)⟩)
theorem i_vc_origChoiceAt {k : Nat} {u : SX} {v : SY} (I : i_Rel k u v) (hk : k + 3 ≤ 1538) (v1 : Int32) : wpX_origChoiceAt (fun r => wpY_origChoiceAt (fun r' => r' = r ∧ i_Rel (k + 3) u v) v v1) u v1 := by
  refine cs_elim (P := fun u v => wpX_origChoiceAt (fun r => wpY_origChoiceAt (fun r' => r' = r ∧ i_Rel (k + 3) u v) v v1) u v1) I ?_
  intro cp pr ph gc gp oc ml cl ol vl tr ac ca pa bk ix cL cH im tl tk dr cc ld sd yn yl yt yr yo gk gb ge po oa mn cu og vl_ tp ce lN lC sk yA cd ou sN sS sQ sM hM hG hP hF
  have J : i_Rel (k + 3) (cp, pr, ph, gc, gp, oc, ml, cl, ol, vl, tr, ac, ca, pa, bk, ix, cL, cH, im, tl, tk, dr, cc, ld, sd, gk, gb, ge, po, oa, mn, cu, og, vl_, tp, ce, lN, lC, sk) (pr, cp, ph, gc, gp, oc, ml, cl, ol, vl, tr, ac, ca, pa, bk, ix, cL, cH, im, yn, yl, yt, yr, yo, gk, gb, po, yA, mn, cu, og, vl_, cd, ou, sN, sS, sQ, sM, sk) := cs_mk hM hG hP hF
  obtain ⟨n, o, q, hn, ho, hv, rfl, rfl, rfl, hb, hph⟩ := hF
  rcases pk_ix v1 (n := o) (by omega) with h | h | ⟨j, hj, rfl⟩
  · exact br_t h (br_t h ⟨rfl, J⟩)
  · have h0 : ¬ v1 < 0 := cs_ix0 (by omega) h
    exact br_f h0 (br_t h (br_f h0 (br_f (Int32.not_lt.mpr h) ⟨rfl, J⟩)))
  · exact br_f (nI_pos (by omega)) (br_f (nI_ge hj (by omega)) ⟨vp_in_nI (by omega) (by omega), br_f (nI_pos (by omega)) (br_t (nI_lt hj (by omega)) ⟨vp_in_nI (by omega) (by omega), rfl, J⟩)⟩)
theorem i_vc_valueAt {k : Nat} {u : SX} {v : SY} (I : i_Rel k u v) (hk : k + 3 ≤ 1538) (v1 : Int32) : wpX_valueAt (fun r => wpY_valueAt (fun r' => r' = r ∧ i_Rel (k + 3) u v) v v1) u v1 := by
  refine cs_elim (P := fun u v => wpX_valueAt (fun r => wpY_valueAt (fun r' => r' = r ∧ i_Rel (k + 3) u v) v v1) u v1) I ?_
  intro cp pr ph gc gp oc ml cl ol vl tr ac ca pa bk ix cL cH im tl tk dr cc ld sd yn yl yt yr yo gk gb ge po oa mn cu og vl_ tp ce lN lC sk yA cd ou sN sS sQ sM hM hG hP hF
  have J : i_Rel (k + 3) (cp, pr, ph, gc, gp, oc, ml, cl, ol, vl, tr, ac, ca, pa, bk, ix, cL, cH, im, tl, tk, dr, cc, ld, sd, gk, gb, ge, po, oa, mn, cu, og, vl_, tp, ce, lN, lC, sk) (pr, cp, ph, gc, gp, oc, ml, cl, ol, vl, tr, ac, ca, pa, bk, ix, cL, cH, im, yn, yl, yt, yr, yo, gk, gb, po, yA, mn, cu, og, vl_, cd, ou, sN, sS, sQ, sM, sk) := cs_mk hM hG hP hF
  obtain ⟨n, o, q, hn, ho, hv, rfl, rfl, rfl, hb, hph⟩ := hF
  rcases pk_ix v1 (n := q) (by omega) with h | h | ⟨j, hj, rfl⟩
  · exact br_t h (br_t h ⟨rfl, J⟩)
  · have h0 : ¬ v1 < 0 := cs_ix0 (by omega) h
    exact br_f h0 (br_t h (br_f h0 (br_f (Int32.not_lt.mpr h) ⟨rfl, J⟩)))
  · exact br_f (nI_pos (by omega)) (br_f (nI_ge hj (by omega)) ⟨vp_in_nI (by omega) (by omega), br_f (nI_pos (by omega)) (br_t (nI_lt hj (by omega)) ⟨vp_in_nI (by omega) (by omega), rfl, J⟩)⟩)
theorem i_vc_cursor {k : Nat} {u : SX} {v : SY} (I : i_Rel k u v) (hk : k + 3 ≤ 1538) (v1 : Int32) : wpX_cursor (fun r => wpY_cursor (fun r' => r' = r ∧ i_Rel (k + 3) u v) v v1) u v1 := by
  refine cs_elim (P := fun u v => wpX_cursor (fun r => wpY_cursor (fun r' => r' = r ∧ i_Rel (k + 3) u v) v v1) u v1) I ?_
  intro cp pr ph gc gp oc ml cl ol vl tr ac ca pa bk ix cL cH im tl tk dr cc ld sd yn yl yt yr yo gk gb ge po oa mn cu og vl_ tp ce lN lC sk yA cd ou sN sS sQ sM hM hG hP hF
  have J : i_Rel (k + 3) (cp, pr, ph, gc, gp, oc, ml, cl, ol, vl, tr, ac, ca, pa, bk, ix, cL, cH, im, tl, tk, dr, cc, ld, sd, gk, gb, ge, po, oa, mn, cu, og, vl_, tp, ce, lN, lC, sk) (pr, cp, ph, gc, gp, oc, ml, cl, ol, vl, tr, ac, ca, pa, bk, ix, cL, cH, im, yn, yl, yt, yr, yo, gk, gb, po, yA, mn, cu, og, vl_, cd, ou, sN, sS, sQ, sM, sk) := cs_mk hM hG hP hF
  obtain ⟨n, hn, rfl, rfl, hg, hgb, he⟩ := hG
  by_cases h : v1 < 0
  · have z : ∀ x : Int32, ¬ x < 0 → ¬ v1 = x := fun x hx e => hx (e ▸ h)
    exact br_t h (br_f (z 0 (by decide)) (br_f (z 1 (by decide)) (br_f (z 2 (by decide)) (br_f (z 3 (by decide)) (br_f (z 4 (by decide)) (br_f (z 5 (by decide)) (⟨rfl, J⟩)))))))
  · by_cases h2 : 5 < v1
    · have z : ∀ x : Int32, ¬ 5 < x → ¬ v1 = x := fun x hx e => hx (e ▸ h2)
      exact br_f h (br_t h2 (br_f (z 0 (by decide)) (br_f (z 1 (by decide)) (br_f (z 2 (by decide)) (br_f (z 3 (by decide)) (br_f (z 4 (by decide)) (br_f (z 5 (by decide)) (⟨rfl, J⟩))))))))
    · obtain ⟨j, hj, rfl⟩ : ∃ j : Nat, j ≤ 5 ∧ v1 = nI j := nI_of2 (M := 5) (n := 5) (by decide) h (Int32.not_lt.mp h2)
      obtain rfl | rfl | rfl | rfl | rfl | rfl : j = 0 ∨ j = 1 ∨ j = 2 ∨ j = 3 ∨ j = 4 ∨ j = 5 := by omega
      · exact br_f h (br_f h2 (br_t rfl (br_t rfl ⟨rfl, J⟩)))
      · exact br_f h (br_f h2 (br_f (by decide) (br_t rfl (br_f (by decide) (br_t rfl ⟨rfl, J⟩)))))
      · exact br_f h (br_f h2 (br_f (by decide) (br_f (by decide) (br_t rfl (br_f (by decide) (br_f (by decide) (br_t rfl ⟨rfl, J⟩)))))))
      · exact br_f h (br_f h2 (br_f (by decide) (br_f (by decide) (br_f (by decide) (br_t rfl (br_f (by decide) (br_f (by decide) (br_f (by decide) (br_t rfl ⟨rfl, J⟩)))))))))
      · exact br_f h (br_f h2 (br_f (by decide) (br_f (by decide) (br_f (by decide) (br_f (by decide) (br_t rfl (br_f (by decide) (br_f (by decide) (br_f (by decide) (br_f (by decide) (br_t rfl ⟨rfl, J⟩)))))))))))
      · exact br_f h (br_f h2 (br_f (by decide) (br_f (by decide) (br_f (by decide) (br_f (by decide) (br_f (by decide) (br_t rfl (br_f (by decide) (br_f (by decide) (br_f (by decide) (br_f (by decide) (br_f (by decide) (br_t rfl ⟨rfl, J⟩)))))))))))))
theorem i_vc_stat {k : Nat} {u : SX} {v : SY} (I : i_Rel k u v) (hk : k + 3 ≤ 1538) (v1 : Int32) : wpX_stat (fun r => wpY_stat (fun r' => r' = r ∧ i_Rel (k + 3) u v) v v1) u v1 := by
  refine cs_elim (P := fun u v => wpX_stat (fun r => wpY_stat (fun r' => r' = r ∧ i_Rel (k + 3) u v) v v1) u v1) I ?_
  intro cp pr ph gc gp oc ml cl ol vl tr ac ca pa bk ix cL cH im tl tk dr cc ld sd yn yl yt yr yo gk gb ge po oa mn cu og vl_ tp ce lN lC sk yA cd ou sN sS sQ sM hM hG hP hF
  have J : i_Rel (k + 3) (cp, pr, ph, gc, gp, oc, ml, cl, ol, vl, tr, ac, ca, pa, bk, ix, cL, cH, im, tl, tk, dr, cc, ld, sd, gk, gb, ge, po, oa, mn, cu, og, vl_, tp, ce, lN, lC, sk) (pr, cp, ph, gc, gp, oc, ml, cl, ol, vl, tr, ac, ca, pa, bk, ix, cL, cH, im, yn, yl, yt, yr, yo, gk, gb, po, yA, mn, cu, og, vl_, cd, ou, sN, sS, sQ, sM, sk) := cs_mk hM hG hP hF
  obtain ⟨n, hn, rfl, rfl, hg, hgb, he⟩ := hG
  by_cases h : v1 < 0
  · have z : ∀ x : Int32, ¬ x < 0 → ¬ v1 = x := fun x hx e => hx (e ▸ h)
    exact br_t h (br_f (z 0 (by decide)) (br_f (z 1 (by decide)) (br_f (z 2 (by decide)) (br_f (z 3 (by decide)) (br_f (z 4 (by decide)) (br_f (z 5 (by decide)) (br_f (z 6 (by decide)) (br_f (z 7 (by decide)) (⟨rfl, J⟩)))))))))
  · by_cases h2 : 7 < v1
    · have z : ∀ x : Int32, ¬ 7 < x → ¬ v1 = x := fun x hx e => hx (e ▸ h2)
      exact br_f h (br_t h2 (br_f (z 0 (by decide)) (br_f (z 1 (by decide)) (br_f (z 2 (by decide)) (br_f (z 3 (by decide)) (br_f (z 4 (by decide)) (br_f (z 5 (by decide)) (br_f (z 6 (by decide)) (br_f (z 7 (by decide)) (⟨rfl, J⟩))))))))))
    · obtain ⟨j, hj, rfl⟩ : ∃ j : Nat, j ≤ 7 ∧ v1 = nI j := nI_of2 (M := 7) (n := 7) (by decide) h (Int32.not_lt.mp h2)
      obtain rfl | rfl | rfl | rfl | rfl | rfl | rfl | rfl : j = 0 ∨ j = 1 ∨ j = 2 ∨ j = 3 ∨ j = 4 ∨ j = 5 ∨ j = 6 ∨ j = 7 := by omega
      · exact br_f h (br_f h2 (br_t rfl (br_t rfl ⟨rfl, J⟩)))
      · exact br_f h (br_f h2 (br_f (by decide) (br_t rfl (br_f (by decide) (br_t rfl ⟨rfl, J⟩)))))
      · exact br_f h (br_f h2 (br_f (by decide) (br_f (by decide) (br_t rfl (br_f (by decide) (br_f (by decide) (br_t rfl ⟨rfl, J⟩)))))))
      · exact br_f h (br_f h2 (br_f (by decide) (br_f (by decide) (br_f (by decide) (br_t rfl (br_f (by decide) (br_f (by decide) (br_f (by decide) (br_t rfl ⟨rfl, J⟩)))))))))
      · exact br_f h (br_f h2 (br_f (by decide) (br_f (by decide) (br_f (by decide) (br_f (by decide) (br_t rfl (br_f (by decide) (br_f (by decide) (br_f (by decide) (br_f (by decide) (br_t rfl ⟨rfl, J⟩)))))))))))
      · exact br_f h (br_f h2 (br_f (by decide) (br_f (by decide) (br_f (by decide) (br_f (by decide) (br_f (by decide) (br_t rfl (br_f (by decide) (br_f (by decide) (br_f (by decide) (br_f (by decide) (br_f (by decide) (br_t rfl ⟨rfl, J⟩)))))))))))))
      · rcases Nat.eq_zero_or_pos (cs_D gk n) with d | d
        · have n1 : ¬ nI n < 1 := nI_nlt (a := n) (b := 1) (by
            rcases Nat.eq_zero_or_pos n with w | w
            · rw [w] at d
              exact absurd d (show ¬ (1 : Nat) = 0 by decide)
            · exact w) (by omega)
          have e : nI (cs_D gk n) = 0 := by rw [d]; rfl
          exact br_f h (br_f h2 (br_f (by decide) (br_f (by decide) (br_f (by decide) (br_f (by decide) (br_f (by decide) (br_f (by decide) (br_t rfl (br_t e (br_f (by decide) (br_f (by decide) (br_f (by decide) (br_f (by decide) (br_f (by decide) (br_f (by decide) (br_t rfl (br_f n1 (br_t e (br_f (by decide) ⟨rfl, J⟩)))))))))))))))))))
        · have dl := cs_Dle gk n
          have e : ¬ nI (cs_D gk n) = 0 := nI_ne0 d (by omega)
          exact br_f h (br_f h2 (br_f (by decide) (br_f (by decide) (br_f (by decide) (br_f (by decide) (br_f (by decide) (br_f (by decide) (br_t rfl (br_f e (br_f (by decide) (br_f (by decide) (br_f (by decide) (br_f (by decide) (br_f (by decide) (br_f (by decide) (br_t rfl (br_c (fun _ => br_t rfl ⟨rfl, J⟩) (fun _ => br_f e (br_t rfl ⟨rfl, J⟩)))))))))))))))))))
      · exact br_f h (br_f h2 (br_f (by decide) (br_f (by decide) (br_f (by decide) (br_f (by decide) (br_f (by decide) (br_f (by decide) (br_f (by decide) (br_t rfl (br_f (by decide) (br_f (by decide) (br_f (by decide) (br_f (by decide) (br_f (by decide) (br_f (by decide) (br_f (by decide) (br_t rfl ⟨rfl, J⟩)))))))))))))))))
theorem cs_clamp {x : Int32} (a b : Nat) (hab : a ≤ b) (hb : b < 2 ^ 31) : ∃ n : Nat, a ≤ n ∧ n ≤ b ∧ (∀ post : Int32 → Prop, post (nI n) → wpX_clamp post x (nI a) (nI b)) ∧ ((nI a ≤ x ∧ x ≤ nI b ∧ x = nI n) ∨ (¬ nI a ≤ x ∧ n = a) ∨ (nI a ≤ x ∧ ¬ x ≤ nI b ∧ n = b)) := by
  by_cases h : nI a ≤ x
  · by_cases h2 : x ≤ nI b
    · obtain ⟨j, hj, rfl⟩ := nI_of (cs_ix0 (by omega) h)
      have h3 := (nI_leI (by omega) hj).mp h
      have h4 := (nI_leI hj hb).mp h2
      exact ⟨j, h3, h4, fun post hp => br_t h (br_t h2 hp), Or.inl ⟨h, h2, rfl⟩⟩
    · exact ⟨b, hab, Nat.le_refl b, fun post hp => br_t h (br_f h2 hp), Or.inr (Or.inr ⟨h, h2, rfl⟩)⟩
  · exact ⟨a, Nat.le_refl a, hab, fun post hp => br_f h hp, Or.inr (Or.inl ⟨h, rfl⟩)⟩
theorem i_vc0 (k0 : Int32) (k1 : Int32) : wpX_init (fun u => wpY_init (fun v => i_Rel 2 u v) k0 k1) k0 k1 := by
  obtain ⟨s, s0, s1, hs, hs'⟩ := cs_clamp (x := k0) 0 65535 (by omega) (by omega)
  obtain ⟨c, c0, c1, hc, hc'⟩ := cs_clamp (x := k1) 4 32 (by omega) (by omega)
  have J : i_Rel 2 (nI c, nI s, 0, 0, 1, 0, 0, 0, 0, 0, 0, 0, 0, 0, 0, 0, 0, 0, 0, 0, 0, 0, 0, 0, 0, (fun _ => 0), (fun _ => 0), (fun _ => 0), (fun _ => 0), (fun _ => 0), (fun _ => 0), (fun _ => 0), (fun _ => 0), (fun _ => 0), (fun _ => 0), (fun _ => 0), (fun _ => 0), (fun _ => 0), (fun _ => 0)) (nI s, nI c, 0, 0, 1, 0, 0, 0, 0, 0, 0, 0, 0, 0, 0, 0, 0, 0, 0, 0, 0, 0, 0, 0, (fun _ => 0), (fun _ => 0), (fun _ => 0), (fun _ => 0), (fun _ => 0), (fun _ => 0), (fun _ => 0), (fun _ => 0), (fun _ => 0), (fun _ => 0), (fun _ => 0), (fun _ => 0), (fun _ => 0), (fun _ => 0), (fun _ => 0)) :=
    cs_mk ⟨c, 0, c0, c1, by omega, rfl, rfl, cs_by0 _⟩ cs_Gn0 cs_Pr0 (cs_F0 1 _)
  refine hs _ (hc _ ?_)
  rcases hs' with ⟨a, b, rfl⟩ | ⟨a, rfl⟩ | ⟨a, b, rfl⟩
  · rcases hc' with ⟨a', b', rfl⟩ | ⟨a', rfl⟩ | ⟨a', b', rfl⟩
    · exact br_t a (br_t b (br_t a' (br_t b' J)))
    · exact br_t a (br_t b (br_f a' (br_t (by decide) J)))
    · exact br_t a (br_t b (br_t a' (br_f b' J)))
  · rcases hc' with ⟨a', b', rfl⟩ | ⟨a', rfl⟩ | ⟨a', b', rfl⟩
    · exact br_f a (br_t (by decide) (br_t a' (br_t b' J)))
    · exact br_f a (br_t (by decide) (br_f a' (br_t (by decide) J)))
    · exact br_f a (br_t (by decide) (br_t a' (br_f b' J)))
  · rcases hc' with ⟨a', b', rfl⟩ | ⟨a', rfl⟩ | ⟨a', b', rfl⟩
    · exact br_t a (br_f b (br_t a' (br_t b' J)))
    · exact br_t a (br_f b (br_f a' (br_t (by decide) J)))
    · exact br_t a (br_f b (br_t a' (br_f b' J)))
end
section
def cs_rn (pr : Int32) : Nat := ((pr.toUInt32 >>> ((16 : Int32).toUInt32 &&& Int32.toUInt32 31)).toInt32).toBitVec.toNat % 256
theorem cs_rn1 (pr : Int32) : ((pr.toUInt32 >>> ((16 : Int32).toUInt32 &&& Int32.toUInt32 31)).toInt32) &&& 255 = nI (cs_rn pr) := pk_and _ 8 (by decide)
theorem cs_rn2 (pr : Int32) : cs_rn pr < 256 := Nat.mod_lt _ (by decide)
section
variable {cp pr ph gc gp oc ml cl ol vl tr ac ca pa bk ix cL cH im tl tk dr cc ld sd yn yl yt yr yo : Int32} {gk gb ge po oa mn cu og vl_ tp ce lN lC sk yA cd ou sN sS sQ sM : Nat → Int32}
theorem cs_xt0 {t lim : Nat} (ht : lim ≤ t) (hl : t ≤ 32) (w : Int32) (post : Int32 → SX → Prop) (hp : post (-1) (cp, pr, ph, gc, gp, oc, ml, cl, ol, vl, tr, ac, ca, pa, bk, ix, cL, cH, im, nI lim, nI t, dr, cc, ld, sd, gk, gb, ge, po, oa, mn, cu, og, vl_, tp, ce, lN, lC, sk)) : wpX_take post (cp, pr, ph, gc, gp, oc, ml, cl, ol, vl, tr, ac, ca, pa, bk, ix, cL, cH, im, nI lim, nI t, dr, cc, ld, sd, gk, gb, ge, po, oa, mn, cu, og, vl_, tp, ce, lN, lC, sk) w :=
  br_f (nI_nlt ht (by omega)) hp
theorem cs_xtr {t lim : Nat} (ht : t < lim) (hl : lim ≤ 32) (w : Int32) (post : Int32 → SX → Prop) (hp : post (tp t) (cp, pr, ph, gc, gp, oc, ml, cl, ol, vl, tr, ac, ca, pa, bk, ix, cL, cH, im, nI lim, nI (t + 1), 0, cc, ld, sd, gk, gb, ge, po, oa, mn, cu, og, vl_, tp, ce, lN, lC, sk)) : wpX_take post (cp, pr, ph, gc, gp, oc, ml, cl, ol, vl, tr, ac, ca, pa, bk, ix, cL, cH, im, nI lim, nI t, 0, cc, ld, sd, gk, gb, ge, po, oa, mn, cu, og, vl_, tp, ce, lN, lC, sk) w := by
  refine br_t (nI_lt ht (by omega)) (br_t rfl (nm_r (nI_1 t) ⟨?_, ?_⟩))
  · rw [nI_pred]
    exact vp_in_nI (by omega) (by omega)
  · rw [nI_pred, nI_clamp (by omega)]
    exact hp
theorem cs_xtd {t lim w : Nat} (ht : t < lim) (hl : lim ≤ 32) (hw : 0 < w) (hw2 : w ≤ 256) (post : Int32 → SX → Prop) (hp : post (nI (cs_rn (pr * 1103515245 + 12345) % w)) (cp, pr * 1103515245 + 12345, ph, gc, gp, oc, ml, cl, ol, vl, tr, ac, ca, pa, bk, ix, cL, cH, im, nI lim, nI (t + 1), 1, cc, ld, sd, gk, gb, ge, po, oa, mn, cu, og, vl_, upd tp t (nI (cs_rn (pr * 1103515245 + 12345) % w)), ce, lN, lC, sk)) : wpX_take post (cp, pr, ph, gc, gp, oc, ml, cl, ol, vl, tr, ac, ca, pa, bk, ix, cL, cH, im, nI lim, nI t, 1, cc, ld, sd, gk, gb, ge, po, oa, mn, cu, og, vl_, tp, ce, lN, lC, sk) (nI w) := by
  have e : ((pr * 1103515245 + 12345).toUInt32 >>> ((16 : Int32).toUInt32 &&& Int32.toUInt32 31)).toInt32 &&& 255 = nI (cs_rn (pr * 1103515245 + 12345)) := cs_rn1 _
  have l := cs_rn2 (pr * 1103515245 + 12345)
  refine br_t (nI_lt ht (by omega)) (br_f (by decide) (nm_e ⟨nI_ne0 hw (by omega), vp_in_nI (by omega) (by omega), nm_r (e' := upd tp t (nI (cs_rn (pr * 1103515245 + 12345) % w))) ?_ (nm_r (nI_1 t) ⟨?_, ?_⟩)⟩))
  · rw [nI_clamp (by omega), e, pk_rem (by omega) hw (by omega)]
  · rw [nI_pred]
    exact vp_in_nI (by omega) (by omega)
  · rw [nI_pred, nI_clamp (by omega), pk_us]
    exact hp
theorem cs_yt0 {t : Nat} (b : Int32) (hl : t ≤ 32) (hr : yr = 0 → ∃ l : Nat, yl = nI l ∧ l ≤ t) (hr1 : yr ≠ 0 → ∃ l : Nat, cp = nI l ∧ l ≤ t) (post : Int32 → SY → Prop) (hp : post (-1) (pr, cp, ph, gc, gp, oc, ml, cl, ol, vl, tr, ac, ca, pa, bk, ix, cL, cH, im, yn, yl, nI t, yr, yo, gk, gb, po, yA, mn, cu, og, vl_, cd, ou, sN, sS, sQ, sM, sk)) : wpY_take post (pr, cp, ph, gc, gp, oc, ml, cl, ol, vl, tr, ac, ca, pa, bk, ix, cL, cH, im, yn, yl, nI t, yr, yo, gk, gb, po, yA, mn, cu, og, vl_, cd, ou, sN, sS, sQ, sM, sk) b := by
  by_cases h : yr = 0
  · obtain ⟨l, rfl, hl'⟩ := hr h
    exact br_t h (br_t (nI_le hl' (by omega)) hp)
  · obtain ⟨l, rfl, hl'⟩ := hr1 h
    exact br_f h (br_t (nI_le hl' (by omega)) hp)
theorem cs_ytr {t lim : Nat} (ht : t < lim) (hl : lim ≤ 32) (b : Int32) (post : Int32 → SY → Prop) (hp : post (cd t) (pr, cp, ph, gc, gp, oc, ml, cl, ol, vl, tr, ac, ca, pa, bk, ix, cL, cH, im, yn, nI lim, nI (t + 1), 0, yo, gk, gb, po, yA, mn, cu, og, vl_, cd, ou, sN, sS, sQ, sM, sk)) : wpY_take post (pr, cp, ph, gc, gp, oc, ml, cl, ol, vl, tr, ac, ca, pa, bk, ix, cL, cH, im, yn, nI lim, nI t, 0, yo, gk, gb, po, yA, mn, cu, og, vl_, cd, ou, sN, sS, sQ, sM, sk) b := by
  refine br_t rfl (br_f (nI_ge ht (by omega)) (br_t (nI_lt (b := 32) (by omega) (by decide)) ⟨vp_in_nI (by omega) (by omega), nm_r (e' := cd t) ?_ (nm_r (nI_1 t) hp)⟩))
  rw [nI_clamp (by omega)]
theorem cs_ytd {t lim w : Nat} {b : Int32} (ht : t < lim) (hl : lim ≤ 32) (hw : 0 < w) (hw2 : w ≤ 256) (hb : b = nI (w - 1) ∨ (b = -1 ∧ w = 4)) (post : Int32 → SY → Prop) (hp : post (nI (cs_rn (pr * 1103515245 + 12345) % w)) (pr * 1103515245 + 12345, nI lim, ph, gc, gp, oc, ml, cl, ol, vl, tr, ac, ca, pa, bk, ix, cL, cH, im, yn, nI (t + 1), nI (t + 1), 1, yo, gk, gb, po, yA, mn, cu, og, vl_, upd cd t (nI (cs_rn (pr * 1103515245 + 12345) % w)), ou, sN, sS, sQ, sM, sk)) : wpY_take post (pr, nI lim, ph, gc, gp, oc, ml, cl, ol, vl, tr, ac, ca, pa, bk, ix, cL, cH, im, yn, yl, nI t, 1, yo, gk, gb, po, yA, mn, cu, og, vl_, cd, ou, sN, sS, sQ, sM, sk) b := by
  have e : ((pr * 1103515245 + 12345).toUInt32 >>> ((16 : Int32).toUInt32 &&& Int32.toUInt32 31)).toInt32 &&& 255 = nI (cs_rn (pr * 1103515245 + 12345)) := cs_rn1 _
  have l := cs_rn2 (pr * 1103515245 + 12345)
  refine br_f (by decide) (br_f (nI_ge ht (by omega)) (br_t (nI_lt (b := 32) (by omega) (by decide)) (nm_e (nm_r e ⟨by decide, nm_r (pk_rem (d := 4) (by omega) (by decide) (by decide)) ?_⟩))))
  rcases hb with rfl | ⟨rfl, rfl⟩
  · refine br_f (nI_pos (by omega)) ?_
    have e1 : nI (w - 1) + 1 = nI w := (nI_1 (w - 1)).trans (congrArg nI (by omega))
    rw [e1]
    exact ⟨nI_ne0 hw (by omega), nm_r (pk_rem (by omega) hw (by omega)) ⟨vp_in_nI (by omega) (by omega), nm_r (by rw [nI_clamp (by omega)]) (nm_r (nI_1 t) hp)⟩⟩
  · exact br_t (by decide) ⟨vp_in_nI (by omega) (by omega), nm_r (by rw [nI_clamp (by omega)]) (nm_r (nI_1 t) hp)⟩
theorem cs_take {w lim t : Nat} {b : Int32} (hw : 0 < w) (hw2 : w ≤ 256) (hb : b = nI (w - 1) ∨ (b = -1 ∧ w = 4)) (hc : dr ≠ 0 → cp = nI lim) (hT : cs_T dr yl lim t tp cd) :
    (t = lim ∧ (∀ post : Int32 → SX → Prop, post (-1) (cp, pr, ph, gc, gp, oc, ml, cl, ol, vl, tr, ac, ca, pa, bk, ix, cL, cH, im, nI lim, nI t, dr, cc, ld, sd, gk, gb, ge, po, oa, mn, cu, og, vl_, tp, ce, lN, lC, sk) → wpX_take post (cp, pr, ph, gc, gp, oc, ml, cl, ol, vl, tr, ac, ca, pa, bk, ix, cL, cH, im, nI lim, nI t, dr, cc, ld, sd, gk, gb, ge, po, oa, mn, cu, og, vl_, tp, ce, lN, lC, sk) (nI w)) ∧ (∀ post : Int32 → SY → Prop, post (-1) (pr, cp, ph, gc, gp, oc, ml, cl, ol, vl, tr, ac, ca, pa, bk, ix, cL, cH, im, yn, yl, nI t, dr, yo, gk, gb, po, yA, mn, cu, og, vl_, cd, ou, sN, sS, sQ, sM, sk) → wpY_take post (pr, cp, ph, gc, gp, oc, ml, cl, ol, vl, tr, ac, ca, pa, bk, ix, cL, cH, im, yn, yl, nI t, dr, yo, gk, gb, po, yA, mn, cu, og, vl_, cd, ou, sN, sS, sQ, sM, sk) b)) ∨
    (t < lim ∧ ∃ (c : Nat) (pr' yl' : Int32) (tp' cd' : Nat → Int32), c < 256 ∧ cs_T dr yl' lim (t + 1) tp' cd' ∧ (∀ post : Int32 → SX → Prop, post (nI c) (cp, pr', ph, gc, gp, oc, ml, cl, ol, vl, tr, ac, ca, pa, bk, ix, cL, cH, im, nI lim, nI (t + 1), dr, cc, ld, sd, gk, gb, ge, po, oa, mn, cu, og, vl_, tp', ce, lN, lC, sk) → wpX_take post (cp, pr, ph, gc, gp, oc, ml, cl, ol, vl, tr, ac, ca, pa, bk, ix, cL, cH, im, nI lim, nI t, dr, cc, ld, sd, gk, gb, ge, po, oa, mn, cu, og, vl_, tp, ce, lN, lC, sk) (nI w)) ∧ (∀ post : Int32 → SY → Prop, post (nI c) (pr', cp, ph, gc, gp, oc, ml, cl, ol, vl, tr, ac, ca, pa, bk, ix, cL, cH, im, yn, yl', nI (t + 1), dr, yo, gk, gb, po, yA, mn, cu, og, vl_, cd', ou, sN, sS, sQ, sM, sk) → wpY_take post (pr, cp, ph, gc, gp, oc, ml, cl, ol, vl, tr, ac, ca, pa, bk, ix, cL, cH, im, yn, yl, nI t, dr, yo, gk, gb, po, yA, mn, cu, og, vl_, cd, ou, sN, sS, sQ, sM, sk) b)) := by
  obtain ⟨h1, h2, h3, h4, h5, h6⟩ := hT
  by_cases e : t = lim
  · refine Or.inl ⟨e, fun post hp => cs_xt0 (by omega) (by omega) _ post hp, fun post hp => cs_yt0 b (by omega) (fun z => ⟨lim, (h6 z).1, by omega⟩) (fun z => ⟨lim, hc z, by omega⟩) post hp⟩
  · refine Or.inr ⟨by omega, ?_⟩
    have ht : t < lim := by omega
    rcases h3 with rfl | rfl
    · obtain ⟨rfl, g2, g3⟩ := h6 rfl
      obtain ⟨c, hc1, hc2⟩ := g3 t ht
      refine ⟨c, pr, nI lim, tp, cd, hc1, ⟨by omega, h2, Or.inl rfl, fun j hj => g2 j (by omega), cs_bym g3 (by omega), fun _ => ⟨rfl, g2, g3⟩⟩, fun post hp => cs_xtr ht h2 _ post ?_, fun post hp => cs_ytr ht h2 b post ?_⟩
      · rw [hc2]
        exact hp
      · rw [← g2 t ht, hc2]
        exact hp
    · have ec := hc (by decide)
      subst ec
      have l : cs_rn (pr * 1103515245 + 12345) % w < w := Nat.mod_lt _ hw
      refine ⟨cs_rn (pr * 1103515245 + 12345) % w, pr * 1103515245 + 12345, nI (t + 1), upd tp t (nI (cs_rn (pr * 1103515245 + 12345) % w)), upd cd t (nI (cs_rn (pr * 1103515245 + 12345) % w)), by omega, ⟨by omega, h2, Or.inr rfl, fun j hj => ?_, ?_, fun z => absurd z (by decide)⟩, fun post hp => cs_xtd ht h2 hw hw2 post hp, fun post hp => cs_ytd ht h2 hw hw2 hb post hp⟩
      · by_cases z : j = t
        · rw [z, pk_us, pk_us]
        · rw [pk_un z, pk_un z]
          exact h4 j (by omega)
      · exact cs_bys (cs_byc h5 (fun j hj => pk_un (by omega))) (by omega) pk_us
theorem cs_xe0 (x : Int32) (post : Int32 → SX → Prop) (hp : post 0 (cp, pr, ph, gc, gp, oc, ml, cl, ol, vl, tr, ac, ca, pa, bk, ix, cL, cH, im, tl, tk, dr, nI 32, ld, sd, gk, gb, ge, po, oa, mn, cu, og, vl_, tp, ce, lN, lC, sk)) : wpX_emit post (cp, pr, ph, gc, gp, oc, ml, cl, ol, vl, tr, ac, ca, pa, bk, ix, cL, cH, im, tl, tk, dr, nI 32, ld, sd, gk, gb, ge, po, oa, mn, cu, og, vl_, tp, ce, lN, lC, sk) x :=
  br_f (by decide) hp
theorem cs_xe1 {L : Nat} (hL : L < 32) (x : Int32) (post : Int32 → SX → Prop) (hp : post 1 (cp, pr, ph, gc, gp, oc, ml, cl, ol, vl, tr, ac, ca, pa, bk, ix, cL, cH, im, tl, tk, dr, nI (L + 1), ld, sd, gk, gb, ge, po, oa, mn, cu, og, vl_, tp, upd ce L x, lN, lC, sk)) : wpX_emit post (cp, pr, ph, gc, gp, oc, ml, cl, ol, vl, tr, ac, ca, pa, bk, ix, cL, cH, im, tl, tk, dr, nI L, ld, sd, gk, gb, ge, po, oa, mn, cu, og, vl_, tp, ce, lN, lC, sk) x := by
  refine br_t (nI_lt (b := 32) hL (by decide)) ⟨vp_in_nI hL (by decide), nm_r (e' := upd ce L x) ?_ (nm_r (nI_1 L) hp)⟩
  rw [nI_clamp (by omega)]
end
end
section
theorem i_vc_pushChoice {k : Nat} {u : SX} {v : SY} (I : i_Rel k u v) (hk : k + 3 ≤ 1538) (v1 : Int32) : wpX_pushChoice (fun r u' => wpY_pushChoice (fun r' v' => r' = r ∧ i_Rel (k + 3) u' v') v v1) u v1 := by
  refine cs_elim (P := fun u v => wpX_pushChoice (fun r u' => wpY_pushChoice (fun r' v' => r' = r ∧ i_Rel (k + 3) u' v') v v1) u v1) I ?_
  intro cp pr ph gc gp oc ml cl ol vl tr ac ca pa bk ix cL cH im tl tk dr cc ld sd yn yl yt yr yo gk gb ge po oa mn cu og vl_ tp ce lN lC sk yA cd ou sN sS sQ sM hM hG hP hF
  have J : i_Rel (k + 3) (cp, pr, ph, gc, gp, oc, ml, cl, ol, vl, tr, ac, ca, pa, bk, ix, cL, cH, im, tl, tk, dr, cc, ld, sd, gk, gb, ge, po, oa, mn, cu, og, vl_, tp, ce, lN, lC, sk) (pr, cp, ph, gc, gp, oc, ml, cl, ol, vl, tr, ac, ca, pa, bk, ix, cL, cH, im, yn, yl, yt, yr, yo, gk, gb, po, yA, mn, cu, og, vl_, cd, ou, sN, sS, sQ, sM, sk) := cs_mk hM hG hP hF
  obtain ⟨c, m, c4, c32, mc, rfl, rfl, hb⟩ := hM
  refine br_c (fun h => br_t h ⟨rfl, J⟩) fun h => br_c (fun h2 => br_f h (br_t h2 ⟨rfl, J⟩)) fun h2 => ?_
  obtain ⟨b, hb2, rfl⟩ : ∃ b : Nat, b ≤ 255 ∧ v1 = nI b := nI_of2 (M := 255) (n := 255) (by decide) h (Int32.not_lt.mp h2)
  by_cases hc : m < c
  · have hl : nI m < nI c := nI_lt hc (by omega)
    have hi : vp_in (nI m) 32 := vp_in_nI (by omega) (by omega)
    have e1 : (nI m).toNatClampNeg = m := nI_clamp (by omega)
    have K : i_Rel (k + 3) (nI c, pr, ph, gc, gp, oc, nI (m + 1), cl, ol, vl, tr, ac, ca, pa, bk, ix, cL, cH, im, tl, tk, dr, cc, ld, sd, gk, gb, ge, po, oa, upd mn m (nI b), cu, og, vl_, tp, ce, lN, lC, sk) (pr, nI c, ph, gc, gp, oc, nI (m + 1), cl, ol, vl, tr, ac, ca, pa, bk, ix, cL, cH, im, yn, yl, yt, yr, yo, gk, gb, po, yA, upd mn m (nI b), cu, og, vl_, cd, ou, sN, sS, sQ, sM, sk) :=
      cs_mk ⟨c, m + 1, c4, c32, hc, rfl, rfl, cs_bys (cs_byc hb (fun j hj => pk_un (by omega))) (by omega) pk_us⟩ hG hP hF
    exact br_t hl ⟨hi, nm_r (e' := upd mn m (nI b)) (by rw [e1]) (nm_r (nI_1 m) (br_f h (br_f h2 (br_t hl ⟨hi, nm_r (e' := upd mn m (nI b)) (by rw [e1]) (nm_r (nI_1 m) ⟨rfl, K⟩)⟩))))⟩
  · have hl : ¬ nI m < nI c := nI_nlt (by omega) (by omega)
    exact br_f hl (br_f h (br_f h2 (br_f hl ⟨rfl, J⟩)))
theorem cs_Prs {oc : Int32} {po oa yA yA' : Nat → Int32} {m o : Nat} {a : Int32} (hm : m < 32) (ho : o ≤ 14) (H : ∀ j, j < m → ∃ o : Nat, o ≤ 14 ∧ po j = nI o ∧ ((o = 0 ∨ o = 13 ∨ o = 14) → oa j = yA j) ∧ ((o = 13 ∨ o = 14) → ∃ a : Nat, a ≤ 32 ∧ yA j = nI a))
    (h1 : ∀ j, j < m → yA' j = yA j) (h2 : (o = 0 ∨ o = 13 ∨ o = 14) → yA' m = a) (h3 : (o = 13 ∨ o = 14) → ∃ b : Nat, b ≤ 32 ∧ a = nI b) : cs_Pr (nI (m + 1)) (upd po m (nI o)) (upd oa m a) yA' := by
  refine ⟨m + 1, by omega, rfl, fun j hj => ?_⟩
  by_cases z : j = m
  · subst z
    refine ⟨o, ho, pk_us, fun w => ?_, fun w => ?_⟩
    · rw [pk_us, h2 w]
    · obtain ⟨b, hb, e⟩ := h3 w
      exact ⟨b, hb, by rw [h2 (Or.inr w), e]⟩
  · have hjm : j < m := by omega
    obtain ⟨o', a1, a2, a3, a4⟩ := H j hjm
    refine ⟨o', a1, (pk_un z).trans a2, fun w => ?_, fun w => ?_⟩
    · rw [pk_un z, h1 j hjm]
      exact a3 w
    · rw [h1 j hjm]
      exact a4 w
section
variable {cp pr ph gc gp oc ml cl ol vl tr ac ca pa bk ix cL cH im tl tk dr cc ld sd yn yl yt yr yo : Int32} {gk gb ge po oa mn cu og vl_ tp ce lN lC sk yA cd ou sN sS sQ sM : Nat → Int32}
theorem cs_xop {m o : Nat} {a : Int32} (hm : m < 32) (ho : o ≤ 14) (h3 : (o = 13 ∨ o = 14) → ¬ a < 0 ∧ a ≤ 32) (post : Int32 → SX → Prop) (hp : post (nI m) (cp, pr, 0, gc, gp, nI (m + 1), ml, cl, ol, vl, tr, ac, ca, pa, bk, ix, cL, cH, im, tl, tk, dr, cc, ld, sd, gk, gb, ge, upd po m (nI o), upd oa m a, mn, cu, og, vl_, tp, ce, lN, lC, sk)) : wpX_addOp post (cp, pr, 0, gc, gp, nI m, ml, cl, ol, vl, tr, ac, ca, pa, bk, ix, cL, cH, im, tl, tk, dr, cc, ld, sd, gk, gb, ge, po, oa, mn, cu, og, vl_, tp, ce, lN, lC, sk) (nI o) a := by
  have e1 : (nI m).toNatClampNeg = m := nI_clamp (by omega)
  have hi : vp_in (nI m) 32 := vp_in_nI (by omega) (by omega)
  have hl : nI m < 32 := nI_lt (b := 32) hm (by decide)
  have e2 : nI (m + 1) - 1 = nI m := nI_pred m
  refine br_t rfl (br_f (nI_pos (by omega)) (br_t (nI_le (b := 14) ho (by decide)) ?_))
  by_cases h13 : nI o = 13
  · obtain ⟨a0, a1⟩ := h3 (Or.inl ((nI_eq (b := 13) (by omega) (by decide)).mp h13))
    refine br_t h13 (br_f a0 (br_t a1 (br_t hl ⟨hi, nm_r (e' := upd po m (nI o)) (by rw [e1]) ⟨hi, nm_r (e' := upd oa m a) (by rw [e1]) (nm_r (nI_1 m) ?_)⟩⟩)))
    rw [e2]
    exact hp
  · by_cases h14 : nI o = 14
    · obtain ⟨a0, a1⟩ := h3 (Or.inr ((nI_eq (b := 14) (by omega) (by decide)).mp h14))
      refine br_f h13 (br_t h14 (br_f a0 (br_t a1 (br_t hl ⟨hi, nm_r (e' := upd po m (nI o)) (by rw [e1]) ⟨hi, nm_r (e' := upd oa m a) (by rw [e1]) (nm_r (nI_1 m) ?_)⟩⟩))))
      rw [e2]
      exact hp
    · refine br_f h13 (br_f h14 (br_t hl ⟨hi, nm_r (e' := upd po m (nI o)) (by rw [e1]) ⟨hi, nm_r (e' := upd oa m a) (by rw [e1]) (nm_r (nI_1 m) ?_)⟩⟩))
      rw [e2]
      exact hp
theorem cs_yop {m o : Nat} {a : Int32} (hm : m < 32) (ho : o ≤ 14) (h3 : (o = 13 ∨ o = 14) → ¬ a < 0 ∧ a ≤ 32) (post : Int32 → SY → Prop) (hp : post (nI m) (pr, cp, 0, gc, gp, nI (m + 1), ml, cl, ol, vl, tr, ac, ca, pa, bk, ix, cL, cH, im, yn, yl, yt, yr, yo, gk, gb, upd po m (nI o), if o = 0 ∨ o = 13 ∨ o = 14 then upd yA m a else upd yA m 0, mn, cu, og, vl_, cd, ou, sN, sS, sQ, sM, sk)) : wpY_addOp post (pr, cp, 0, gc, gp, nI m, ml, cl, ol, vl, tr, ac, ca, pa, bk, ix, cL, cH, im, yn, yl, yt, yr, yo, gk, gb, po, yA, mn, cu, og, vl_, cd, ou, sN, sS, sQ, sM, sk) (nI o) a := by
  have e1 : (nI m).toNatClampNeg = m := nI_clamp (by omega)
  have hi : vp_in (nI m) 32 := vp_in_nI (by omega) (by omega)
  have hl : nI m < 32 := nI_lt (b := 32) hm (by decide)
  have e2 : nI (m + 1) - 1 = nI m := nI_pred m
  have e3 : upd (upd yA m 0) m a = upd yA m a := cs_uu yA m 0 a
  refine br_t rfl (br_f (nI_pos (by omega)) (br_t (nI_le (b := 14) ho (by decide)) ?_))
  by_cases h13 : nI o = 13
  · have z := (nI_eq (b := 13) (by omega) (by decide)).mp h13
    obtain ⟨a0, a1⟩ := h3 (Or.inl z)
    rw [if_pos (Or.inr (Or.inl z))] at hp
    have h0 : ¬ nI o = 0 := nI_ne0 (by omega) (by omega)
    refine br_t h13 (br_f a0 (br_t a1 (br_t hl ⟨hi, nm_r (e' := upd po m (nI o)) (by rw [e1]) ⟨hi, nm_r (e' := upd yA m 0) (by rw [e1]) (br_f h0 (br_t h13 ⟨hi, nm_r (e' := upd yA m a) (by rw [e1, e3]) (nm_r (nI_1 m) ?_)⟩))⟩⟩)))
    rw [e2]
    exact hp
  · by_cases h14 : nI o = 14
    · have z := (nI_eq (b := 14) (by omega) (by decide)).mp h14
      obtain ⟨a0, a1⟩ := h3 (Or.inr z)
      rw [if_pos (Or.inr (Or.inr z))] at hp
      have h0 : ¬ nI o = 0 := nI_ne0 (by omega) (by omega)
      refine br_f h13 (br_t h14 (br_f a0 (br_t a1 (br_t hl ⟨hi, nm_r (e' := upd po m (nI o)) (by rw [e1]) ⟨hi, nm_r (e' := upd yA m 0) (by rw [e1]) (br_f h0 (br_f h13 (br_t h14 ⟨hi, nm_r (e' := upd yA m a) (by rw [e1, e3]) (nm_r (nI_1 m) ?_)⟩)))⟩⟩))))
      rw [e2]
      exact hp
    · by_cases h0 : nI o = 0
      · have z := (nI_eq (b := 0) (by omega) (by decide)).mp h0
        rw [if_pos (Or.inl z)] at hp
        refine br_f h13 (br_f h14 (br_t hl ⟨hi, nm_r (e' := upd po m (nI o)) (by rw [e1]) ⟨hi, nm_r (e' := upd yA m 0) (by rw [e1]) (br_t h0 ⟨hi, nm_r (e' := upd yA m a) (by rw [e1, e3]) (nm_r (nI_1 m) ?_)⟩)⟩⟩))
        rw [e2]
        exact hp
      · rw [if_neg (fun w => by
          rcases w with w | w | w
          · exact h0 (congrArg nI w)
          · exact h13 (congrArg nI w)
          · exact h14 (congrArg nI w))] at hp
        refine br_f h13 (br_f h14 (br_t hl ⟨hi, nm_r (e' := upd po m (nI o)) (by rw [e1]) ⟨hi, nm_r (e' := upd yA m 0) (by rw [e1]) (br_f h0 (br_f h13 (br_f h14 (nm_r (nI_1 m) ?_))))⟩⟩))
        rw [e2]
        exact hp
theorem cs_xopR {m o : Nat} {a : Int32} (hm : m ≤ 32) (ho : o ≤ 14) (h : 32 ≤ m ∨ ((o = 13 ∨ o = 14) ∧ (a < 0 ∨ ¬ a ≤ 32))) (post : Int32 → SX → Prop) (hp : post (-1) (cp, pr, 0, gc, gp, nI m, ml, cl, ol, vl, tr, ac, ca, pa, bk, ix, cL, cH, im, tl, tk, dr, cc, ld, sd, gk, gb, ge, po, oa, mn, cu, og, vl_, tp, ce, lN, lC, sk)) : wpX_addOp post (cp, pr, 0, gc, gp, nI m, ml, cl, ol, vl, tr, ac, ca, pa, bk, ix, cL, cH, im, tl, tk, dr, cc, ld, sd, gk, gb, ge, po, oa, mn, cu, og, vl_, tp, ce, lN, lC, sk) (nI o) a := by
  refine br_t rfl (br_f (nI_pos (by omega)) (br_t (nI_le (b := 14) ho (by decide)) ?_))
  have hl : ¬ (a < 0 ∨ ¬ a ≤ 32) ∨ ¬ (o = 13 ∨ o = 14) → ¬ nI m < 32 := fun w => nI_nlt (b := 32) (by
    rcases h with h | h
    · exact h
    · exact absurd h (by
        rcases w with w | w
        · exact fun z => w z.2
        · exact fun z => w z.1)) (by omega)
  by_cases h13 : nI o = 13
  · by_cases a0 : a < 0
    · exact br_t h13 (br_t a0 hp)
    · by_cases a1 : a ≤ 32
      · exact br_t h13 (br_f a0 (br_t a1 (br_f (hl (Or.inl (fun z => z.elim a0 (fun y => y a1)))) hp)))
      · exact br_t h13 (br_f a0 (br_f a1 hp))
  · by_cases h14 : nI o = 14
    · by_cases a0 : a < 0
      · exact br_f h13 (br_t h14 (br_t a0 hp))
      · by_cases a1 : a ≤ 32
        · exact br_f h13 (br_t h14 (br_f a0 (br_t a1 (br_f (hl (Or.inl (fun z => z.elim a0 (fun y => y a1)))) hp))))
        · exact br_f h13 (br_t h14 (br_f a0 (br_f a1 hp)))
    · exact br_f h13 (br_f h14 (br_f (hl (Or.inr (fun z => z.elim (fun y => h13 (congrArg nI y)) (fun y => h14 (congrArg nI y))))) hp))
theorem cs_yopR {m o : Nat} {a : Int32} (hm : m ≤ 32) (ho : o ≤ 14) (h : 32 ≤ m ∨ ((o = 13 ∨ o = 14) ∧ (a < 0 ∨ ¬ a ≤ 32))) (post : Int32 → SY → Prop) (hp : post (-1) (pr, cp, 0, gc, gp, nI m, ml, cl, ol, vl, tr, ac, ca, pa, bk, ix, cL, cH, im, yn, yl, yt, yr, yo, gk, gb, po, yA, mn, cu, og, vl_, cd, ou, sN, sS, sQ, sM, sk)) : wpY_addOp post (pr, cp, 0, gc, gp, nI m, ml, cl, ol, vl, tr, ac, ca, pa, bk, ix, cL, cH, im, yn, yl, yt, yr, yo, gk, gb, po, yA, mn, cu, og, vl_, cd, ou, sN, sS, sQ, sM, sk) (nI o) a := by
  refine br_t rfl (br_f (nI_pos (by omega)) (br_t (nI_le (b := 14) ho (by decide)) ?_))
  have hl : ¬ (a < 0 ∨ ¬ a ≤ 32) ∨ ¬ (o = 13 ∨ o = 14) → ¬ nI m < 32 := fun w => nI_nlt (b := 32) (by
    rcases h with h | h
    · exact h
    · exact absurd h (by
        rcases w with w | w
        · exact fun z => w z.2
        · exact fun z => w z.1)) (by omega)
  by_cases h13 : nI o = 13
  · by_cases a0 : a < 0
    · exact br_t h13 (br_t a0 hp)
    · by_cases a1 : a ≤ 32
      · exact br_t h13 (br_f a0 (br_t a1 (br_f (hl (Or.inl (fun z => z.elim a0 (fun y => y a1)))) hp)))
      · exact br_t h13 (br_f a0 (br_f a1 hp))
  · by_cases h14 : nI o = 14
    · by_cases a0 : a < 0
      · exact br_f h13 (br_t h14 (br_t a0 hp))
      · by_cases a1 : a ≤ 32
        · exact br_f h13 (br_t h14 (br_f a0 (br_t a1 (br_f (hl (Or.inl (fun z => z.elim a0 (fun y => y a1)))) hp))))
        · exact br_f h13 (br_t h14 (br_f a0 (br_f a1 hp)))
    · exact br_f h13 (br_f h14 (br_f (hl (Or.inr (fun z => z.elim (fun y => h13 (congrArg nI y)) (fun y => h14 (congrArg nI y))))) hp))
end
theorem i_vc_addOp {k : Nat} {u : SX} {v : SY} (I : i_Rel k u v) (hk : k + 3 ≤ 1538) (v1 : Int32) (v2 : Int32) : wpX_addOp (fun r u' => wpY_addOp (fun r' v' => r' = r ∧ i_Rel (k + 3) u' v') v v1 v2) u v1 v2 := by
  refine cs_elim (P := fun u v => wpX_addOp (fun r u' => wpY_addOp (fun r' v' => r' = r ∧ i_Rel (k + 3) u' v') v v1 v2) u v1 v2) I ?_
  intro cp pr ph gc gp oc ml cl ol vl tr ac ca pa bk ix cL cH im tl tk dr cc ld sd yn yl yt yr yo gk gb ge po oa mn cu og vl_ tp ce lN lC sk yA cd ou sN sS sQ sM hM hG hP hF
  have J : i_Rel (k + 3) (cp, pr, ph, gc, gp, oc, ml, cl, ol, vl, tr, ac, ca, pa, bk, ix, cL, cH, im, tl, tk, dr, cc, ld, sd, gk, gb, ge, po, oa, mn, cu, og, vl_, tp, ce, lN, lC, sk) (pr, cp, ph, gc, gp, oc, ml, cl, ol, vl, tr, ac, ca, pa, bk, ix, cL, cH, im, yn, yl, yt, yr, yo, gk, gb, po, yA, mn, cu, og, vl_, cd, ou, sN, sS, sQ, sM, sk) := cs_mk hM hG hP hF
  obtain ⟨m, hm, rfl, H⟩ := hP
  by_cases hp : ph = 0
  · subst hp
    by_cases h : v1 < 0
    · exact br_t rfl (br_t h (br_t rfl (br_t h ⟨rfl, J⟩)))
    · by_cases h2 : v1 ≤ 14
      · obtain ⟨o, ho, rfl⟩ : ∃ o : Nat, o ≤ 14 ∧ v1 = nI o := nI_of2 (M := 14) (n := 14) (by decide) h h2
        by_cases h3 : (o = 13 ∨ o = 14) → ¬ v2 < 0 ∧ v2 ≤ 32
        · by_cases h4 : m < 32
          · refine cs_xop h4 ho h3 _ (cs_yop h4 ho h3 _ ⟨rfl, ?_⟩)
            refine cs_mk hM hG (cs_Prs (oc := nI m) h4 ho H (fun j hj => ?_) (fun w => ?_) (fun w => ?_)) hF
            · split <;> exact pk_un (by omega)
            · rw [if_pos w]
              exact pk_us
            · obtain ⟨a0, a1⟩ := h3 w
              exact nI_of2 (M := 32) (n := 32) (by decide) a0 a1
          · exact cs_xopR hm ho (Or.inl (by omega)) _ (cs_yopR hm ho (Or.inl (by omega)) _ ⟨rfl, J⟩)
        · have w : (o = 13 ∨ o = 14) ∧ (v2 < 0 ∨ ¬ v2 ≤ 32) := by
            by_cases w1 : o = 13 ∨ o = 14
            · refine ⟨w1, ?_⟩
              by_cases w2 : v2 < 0
              · exact Or.inl w2
              · by_cases w3 : v2 ≤ 32
                · exact absurd (fun _ => ⟨w2, w3⟩) h3
                · exact Or.inr w3
            · exact absurd (fun z => absurd z w1) h3
          exact cs_xopR hm ho (Or.inr w) _ (cs_yopR hm ho (Or.inr w) _ ⟨rfl, J⟩)
      · exact br_t rfl (br_f h (br_f h2 (br_t rfl (br_f h (br_f h2 ⟨rfl, J⟩)))))
  · exact br_f hp (br_f hp ⟨rfl, J⟩)
end
section
theorem cs_xch {x : Int32} (hx : x = 1 ∨ x = 2 ∨ x = 3) (post : Int32 → Prop) (hp : post (nI (cs_ch x))) : wpX_childrenOf post x := by
  rcases hx with rfl | rfl | rfl
  · exact br_f (by decide) (br_f (by decide) hp)
  · exact br_f (by decide) (br_t rfl hp)
  · exact br_t rfl hp
theorem cs_opn {a b : Nat} (h : 1 ≤ a) : nI a + (nI b - 1) = nI (a - 1 + b) := by
  obtain ⟨c, rfl⟩ : ∃ c, a = c + 1 := ⟨a - 1, by omega⟩
  rw [Nat.add_sub_cancel, ← nI_1, ← nI_add]
  grind
section
variable {cp pr ph gc gp oc ml cl ol vl tr ac ca pa bk ix cL cH im tl tk dr cc ld sd yn yl yt yr yo : Int32} {gk gb ge po oa mn cu og vl_ tp ce lN lC sk yA cd ou sN sS sQ sM : Nat → Int32}
theorem cs_xse {n j e : Nat} (post : Int32 → Prop) (hp : post (nI e)) (hn : n ≤ 16) (he : e ≤ n) (H : ∀ k, k < n → 1 ≤ cs_D gk k ∧ (gk k = 1 ∨ gk k = 2 ∨ gk k = 3)) (hE : cs_E gk j e) : ∀ (d k need fuel : Nat), k + d = e → j ≤ k → need + cs_D gk j = cs_D gk k + 1 → d < fuel → wX_subtreeEnd_4 post cp pr ph (nI n) gp oc ml cl ol vl tr ac ca pa bk ix cL cH im tl tk dr cc ld sd gk gb ge po oa mn cu og vl_ tp ce lN lC sk fuel (nI need) (nI k) := by
  intro d
  induction d with
  | zero =>
    intro k need fuel hk hj hc hf
    obtain ⟨f, rfl⟩ : ∃ f, fuel = f + 1 := ⟨fuel - 1, by omega⟩
    have z : k = e := by omega
    subst z
    have z := cs_need0 hE hc
    subst z
    exact br_t (by decide) hp
  | succ d ih =>
    intro k need fuel hk hj hc hf
    obtain ⟨f, rfl⟩ : ∃ f, fuel = f + 1 := ⟨fuel - 1, by omega⟩
    have hj' := hE.1
    have n1 := cs_need (H j (by omega)).1 hE hj (by omega) hc
    have hdk := cs_Dle gk k
    have ec : (nI k).toNatClampNeg = k := nI_clamp (by omega)
    refine br_f (nI_nle n1.1 (by omega)) (br_f (nI_ge (by omega) (by omega)) ⟨vp_in_nI (by omega) (by omega), ?_⟩)
    rw [ec]
    exact cs_xch (H k (by omega)).2 _ (nm_r (cs_opn n1.1) (nm_r (nI_1 k) (ih (k + 1) _ f (by omega) (by omega) n1.2 (by omega))))
theorem cs_yse {n j e : Nat} (post : Int32 → Prop) (hp : post (nI e)) (hn : n ≤ 16) (he : e ≤ n) (H : ∀ k, k < n → 1 ≤ cs_D gk k ∧ (gk k = 1 ∨ gk k = 2 ∨ gk k = 3)) (hE : cs_E gk j e) : ∀ (d k need fuel : Nat), k + d = e → j ≤ k → need + cs_D gk j = cs_D gk k + 1 → d < fuel → wY_subtreeEnd_4 post pr cp ph (nI n) gp oc ml cl ol vl tr ac ca pa bk ix cL cH im yn yl yt yr yo gk gb po yA mn cu og vl_ cd ou sN sS sQ sM sk fuel (nI need) (nI k) := by
  intro d
  induction d with
  | zero =>
    intro k need fuel hk hj hc hf
    obtain ⟨f, rfl⟩ : ∃ f, fuel = f + 1 := ⟨fuel - 1, by omega⟩
    have z : k = e := by omega
    subst z
    have z := cs_need0 hE hc
    subst z
    exact br_t (by decide) hp
  | succ d ih =>
    intro k need fuel hk hj hc hf
    obtain ⟨f, rfl⟩ : ∃ f, fuel = f + 1 := ⟨fuel - 1, by omega⟩
    have hj' := hE.1
    have n1 := cs_need (H j (by omega)).1 hE hj (by omega) hc
    have hdk := cs_Dle gk k
    have ec : (nI k).toNatClampNeg = k := nI_clamp (by omega)
    have hv : vp_in (nI k) 16 := vp_in_nI (by omega) (by omega)
    have ik := ih (k + 1) _ f (by omega) (by omega) n1.2 (by omega)
    refine br_f (nI_nle n1.1 (by omega)) (br_f (nI_ge (by omega) (by omega)) (br_f (nI_pos (by omega)) (nm_r (sb_m1 n1.1) ⟨hv, ?_⟩)))
    rcases (H k (by omega)).2 with g | g | g
    · rw [cs_ch1 g] at ik
      exact br_f (by rw [ec, g]; decide) ⟨hv, br_f (by rw [ec, g]; decide) (nm_r (nI_1 k) ik)⟩
    · rw [cs_ch2 g] at ik
      exact br_t (by rw [ec, g]) (nm_r (nI_1 _) ⟨hv, br_f (by rw [ec, g]; decide) (nm_r (nI_1 k) ik)⟩)
    · rw [cs_ch3 g] at ik
      exact br_f (by rw [ec, g]; decide) ⟨hv, br_t (by rw [ec, g]) (nm_r (nI_add _ 2) (nm_r (nI_1 k) ik))⟩
theorem cs_ysub {n j e : Nat} (post : Int32 → Prop) (hp : post (nI e)) (hn : n ≤ 16) (he : e ≤ n) (H : ∀ k, k < n → 1 ≤ cs_D gk k ∧ (gk k = 1 ∨ gk k = 2 ∨ gk k = 3)) (hE : cs_E gk j e) : wpY_subtreeEnd post (pr, cp, ph, nI n, gp, oc, ml, cl, ol, vl, tr, ac, ca, pa, bk, ix, cL, cH, im, yn, yl, yt, yr, yo, gk, gb, po, yA, mn, cu, og, vl_, cd, ou, sN, sS, sQ, sM, sk) (nI j) := by
  have h := hE.1
  exact ⟨e + 1, cs_yse post hp hn he H hE (e - j) j 1 (e + 1) (by omega) (by omega) (by omega) (by omega)⟩
theorem cs_xmk {n : Nat} (post : SX → Prop) (hn : n ≤ 16) (H : ∀ k, k < n → 1 ≤ cs_D gk k ∧ (gk k = 1 ∨ gk k = 2 ∨ gk k = 3)) (h0 : cs_D gk n = 0) (hp : ∀ ge' : Nat → Int32, (∀ j, j < n → ∃ e, e ≤ n ∧ cs_E gk j e ∧ ge' j = nI e) → post (cp, pr, ph, nI n, gp, oc, ml, cl, ol, vl, tr, ac, ca, pa, bk, ix, cL, cH, im, tl, tk, dr, cc, ld, sd, gk, gb, ge', po, oa, mn, cu, og, vl_, tp, ce, lN, lC, sk)) : ∀ (d i fuel : Nat) (ge : Nat → Int32), i + d = n → (∀ j, j < i → ∃ e, e ≤ n ∧ cs_E gk j e ∧ ge j = nI e) → d < fuel → wX_markSubtreeEnds_2 post cp pr ph (nI n) gp oc ml cl ol vl tr ac ca pa bk ix cL cH im tl tk dr cc ld sd fuel (nI i) gk gb ge po oa mn cu og vl_ tp ce lN lC sk := by
  intro d
  induction d with
  | zero =>
    intro i fuel ge hi hg hf
    obtain ⟨f, rfl⟩ : ∃ f, fuel = f + 1 := ⟨fuel - 1, by omega⟩
    have z : i = n := by omega
    subst z
    exact br_t (nI_le (Nat.le_refl _) (by omega)) (hp ge hg)
  | succ d ih =>
    intro i fuel ge hi hg hf
    obtain ⟨f, rfl⟩ : ∃ f, fuel = f + 1 := ⟨fuel - 1, by omega⟩
    obtain ⟨e, he, hE⟩ := cs_Eex (g := gk) (n := n) (j := i) (by omega) (fun k hk => (H k hk).1) h0
    have hl := hE.1
    have ec : (nI i).toNatClampNeg = i := nI_clamp (by omega)
    refine br_f (nI_ge (by omega) (by omega)) ⟨e + 1, cs_xse _ ?_ hn he H hE (e - i) i 1 (e + 1) (by omega) (by omega) (by omega) (by omega)⟩
    refine ⟨vp_in_nI (by omega) (by omega), nm_r (e' := upd ge i (nI e)) (by rw [ec]) (nm_r (nI_1 i) (ih (i + 1) f (upd ge i (nI e)) (by omega) (fun j hj => ?_) (by omega)))⟩
    by_cases z : j = i
    · exact ⟨e, he, by rw [z]; exact hE, by rw [z, pk_us]⟩
    · obtain ⟨e', a, b, c⟩ := hg j (by omega)
      exact ⟨e', a, b, by rw [pk_un z, c]⟩
theorem cs_xgT {n : Nat} {x z : Int32} (post : Int32 → SX → Prop) (hn : n < 16) (H : ∀ j, j < n → 1 ≤ cs_D gk j ∧ (gk j = 1 ∨ gk j = 2 ∨ gk j = 3)) (hd : 1 ≤ cs_D gk n) (hx : x = 1 ∨ x = 2 ∨ x = 3)
    (hp : ∀ ge' : Nat → Int32, (cs_D (upd gk n x) (n + 1) = 0 → ∀ j, j < n + 1 → ∃ e, e ≤ n + 1 ∧ cs_E (upd gk n x) j e ∧ ge' j = nI e) → post (nI n) (cp, pr, ph, nI (n + 1), nI (cs_D (upd gk n x) (n + 1)), oc, ml, cl, ol, vl, tr, ac, ca, pa, bk, ix, cL, cH, im, tl, tk, dr, cc, ld, sd, upd gk n x, upd gb n z, ge', po, oa, mn, cu, og, vl_, tp, ce, lN, lC, sk)) :
    wX_addGen_83 post x z (nI n) cp pr ph (nI n) (nI (cs_D gk n)) oc ml cl ol vl tr ac ca pa bk ix cL cH im tl tk dr cc ld sd (upd gk n x) gb ge po oa mn cu og vl_ tp ce lN lC sk := by
  obtain ⟨K1, K2⟩ := cs_Gstep H hd hx
  have ec : (nI n).toNatClampNeg = n := nI_clamp (by omega)
  have dl := cs_Dle (upd gk n x) (n + 1)
  have e2 : nI (n + 1) - 1 = nI n := nI_pred n
  have eo : nI (cs_D gk n) + (nI (cs_ch x) - 1) = nI (cs_D (upd gk n x) (n + 1)) := (cs_opn hd).trans (congrArg nI K2.symm)
  refine ⟨vp_in_nI hn (by omega), nm_r (e' := upd gb n z) (by rw [ec]) (nm_r (nI_1 n) (cs_xch hx _ (nm_r eo ?_)))⟩
  rcases Nat.eq_zero_or_pos (cs_D (upd gk n x) (n + 1)) with d | d
  · refine br_t (by rw [d]; rfl) ⟨n + 2, cs_xmk (gk := upd gk n x) _ (by omega) K1 d (fun ge' hg => ?_) (n + 1) 0 (n + 2) ge (by omega) (fun j hj => absurd hj (by omega)) (by omega)⟩
    dsimp only
    rw [e2]
    exact hp ge' (fun _ => hg)
  · refine br_f (nI_ne0 d (by omega)) ?_
    rw [e2]
    exact hp ge (fun z => absurd z (by omega))
theorem cs_ygT {n : Nat} {x : Int32} (post : Int32 → SY → Prop) (hn : n < 16) (H : ∀ j, j < n → 1 ≤ cs_D gk j ∧ (gk j = 1 ∨ gk j = 2 ∨ gk j = 3)) (hd : 1 ≤ cs_D gk n) (hx : x = 1 ∨ x = 2 ∨ x = 3)
    (hp : post (nI n) (pr, cp, ph, nI (n + 1), nI (cs_D (upd gk n x) (n + 1)), oc, ml, cl, ol, vl, tr, ac, ca, pa, bk, ix, cL, cH, im, yn, yl, yt, yr, yo, upd gk n x, gb, po, yA, mn, cu, og, vl_, cd, ou, sN, sS, sQ, sM, sk)) : wY_addGen_94 post x pr cp ph (nI n) (nI (cs_D gk n)) oc ml cl ol vl tr ac ca pa bk ix cL cH im yn yl yt yr yo (upd gk n x) gb po yA mn cu og vl_ cd ou sN sS sQ sM sk := by
  obtain ⟨K1, K2⟩ := cs_Gstep H hd hx
  obtain ⟨D, hD⟩ : ∃ D, cs_D gk n = D + 1 := ⟨cs_D gk n - 1, by omega⟩
  rw [hD] at K2
  rw [K2] at hp
  rw [hD]
  have e2 : nI (n + 1) - 1 = nI n := nI_pred n
  rcases hx with rfl | rfl | rfl
  · refine nm_r (nI_pred D) (br_f (by decide) (br_f (by decide) (nm_r (nI_1 n) ?_)))
    rw [e2]
    exact hp
  · refine nm_r (nI_pred D) (br_t rfl (nm_r (nI_1 D) (br_f (by decide) (nm_r (nI_1 n) ?_))))
    rw [e2]
    exact hp
  · refine nm_r (nI_pred D) (br_f (by decide) (br_t rfl (nm_r (nI_add D 2) (nm_r (nI_1 n) ?_))))
    rw [e2]
    exact hp
end
end
section
section
variable {cp pr ph gc gp oc ml cl ol vl tr ac ca pa bk ix cL cH im tl tk dr cc ld sd yn yl yt yr yo : Int32} {gk gb ge po oa mn cu og vl_ tp ce lN lC sk yA cd ou sN sS sQ sM : Nat → Int32}
theorem cs_xg37 {x b : Int32} (h1 : ¬ x < 1) (h2 : x ≤ 3) (h3 : x = 1 → ¬ b < 0 ∧ b ≤ 255) (post : Int32 → SX → Prop) (hD : wX_addGen_37 post x b cp pr 0 gc gp oc ml cl ol vl tr ac ca pa bk ix cL cH im tl tk dr cc ld sd gk gb ge po oa mn cu og vl_ tp ce lN lC sk) : wpX_addGen post (cp, pr, 0, gc, gp, oc, ml, cl, ol, vl, tr, ac, ca, pa, bk, ix, cL, cH, im, tl, tk, dr, cc, ld, sd, gk, gb, ge, po, oa, mn, cu, og, vl_, tp, ce, lN, lC, sk) x b := by
  by_cases e : x = 1
  · exact br_t rfl (br_f h1 (br_t h2 (br_t e (br_f (h3 e).1 (br_t (h3 e).2 hD)))))
  · exact br_t rfl (br_f h1 (br_t h2 (br_f e hD)))
theorem cs_yg39 {x b : Int32} (h1 : ¬ x < 1) (h2 : x ≤ 3) (h3 : x = 1 → ¬ b < 0 ∧ b ≤ 255) (post : Int32 → SY → Prop) (hD : wY_addGen_39 post x b pr cp 0 gc gp oc ml cl ol vl tr ac ca pa bk ix cL cH im yn yl yt yr yo gk gb po yA mn cu og vl_ cd ou sN sS sQ sM sk) : wpY_addGen post (pr, cp, 0, gc, gp, oc, ml, cl, ol, vl, tr, ac, ca, pa, bk, ix, cL, cH, im, yn, yl, yt, yr, yo, gk, gb, po, yA, mn, cu, og, vl_, cd, ou, sN, sS, sQ, sM, sk) x b := by
  by_cases e : x = 1
  · exact br_t rfl (br_f h1 (br_t h2 (br_t e (br_f (h3 e).1 (br_t (h3 e).2 hD)))))
  · exact br_t rfl (br_f h1 (br_t h2 (br_f e hD)))
theorem cs_xgR {x b : Int32} (h1 : ¬ x < 1) (h2 : x ≤ 3) (h3 : x = 1 ∧ (b < 0 ∨ ¬ b ≤ 255)) (post : Int32 → SX → Prop) (hp : post (-1) (cp, pr, 0, gc, gp, oc, ml, cl, ol, vl, tr, ac, ca, pa, bk, ix, cL, cH, im, tl, tk, dr, cc, ld, sd, gk, gb, ge, po, oa, mn, cu, og, vl_, tp, ce, lN, lC, sk)) : wpX_addGen post (cp, pr, 0, gc, gp, oc, ml, cl, ol, vl, tr, ac, ca, pa, bk, ix, cL, cH, im, tl, tk, dr, cc, ld, sd, gk, gb, ge, po, oa, mn, cu, og, vl_, tp, ce, lN, lC, sk) x b := by
  by_cases a : b < 0
  · exact br_t rfl (br_f h1 (br_t h2 (br_t h3.1 (br_t a hp))))
  · exact br_t rfl (br_f h1 (br_t h2 (br_t h3.1 (br_f a (br_f (h3.2.resolve_left a) hp)))))
theorem cs_ygR {x b : Int32} (h1 : ¬ x < 1) (h2 : x ≤ 3) (h3 : x = 1 ∧ (b < 0 ∨ ¬ b ≤ 255)) (post : Int32 → SY → Prop) (hp : post (-1) (pr, cp, 0, gc, gp, oc, ml, cl, ol, vl, tr, ac, ca, pa, bk, ix, cL, cH, im, yn, yl, yt, yr, yo, gk, gb, po, yA, mn, cu, og, vl_, cd, ou, sN, sS, sQ, sM, sk)) : wpY_addGen post (pr, cp, 0, gc, gp, oc, ml, cl, ol, vl, tr, ac, ca, pa, bk, ix, cL, cH, im, yn, yl, yt, yr, yo, gk, gb, po, yA, mn, cu, og, vl_, cd, ou, sN, sS, sQ, sM, sk) x b := by
  by_cases a : b < 0
  · exact br_t rfl (br_f h1 (br_t h2 (br_t h3.1 (br_t a hp))))
  · exact br_t rfl (br_f h1 (br_t h2 (br_t h3.1 (br_f a (br_f (h3.2.resolve_left a) hp)))))
theorem cs_D0n {g : Nat → Int32} {n : Nat} (h : cs_D g n = 0) : 0 < n := by
  rcases Nat.eq_zero_or_pos n with w | w
  · rw [w] at h
    exact absurd h (show ¬ (1 : Nat) = 0 by decide)
  · exact w
theorem cs_ycp {n : Nat} (hn : n ≤ 16) (post : Int32 → Prop) (p0 : cs_D gk n = 0 → post 1) (p1 : cs_D gk n ≠ 0 → post 0) : wpY_complete post (pr, cp, ph, nI n, nI (cs_D gk n), oc, ml, cl, ol, vl, tr, ac, ca, pa, bk, ix, cL, cH, im, yn, yl, yt, yr, yo, gk, gb, po, yA, mn, cu, og, vl_, cd, ou, sN, sS, sQ, sM, sk) := by
  have dl := cs_Dle gk n
  by_cases d : cs_D gk n = 0
  · exact br_f (nI_nlt (b := 1) (cs_D0n d) (by omega)) (br_t (by rw [d]; rfl) (p0 d))
  · exact br_c (fun _ => p1 d) (fun _ => br_f (nI_ne0 (by omega) (by omega)) (p1 d))
theorem cs_xgF {n : Nat} {x b : Int32} (hn : n ≤ 16) (h : cs_D gk n = 0 ∨ 16 ≤ n) (post : Int32 → SX → Prop) (hp : post (-1) (cp, pr, ph, nI n, nI (cs_D gk n), oc, ml, cl, ol, vl, tr, ac, ca, pa, bk, ix, cL, cH, im, tl, tk, dr, cc, ld, sd, gk, gb, ge, po, oa, mn, cu, og, vl_, tp, ce, lN, lC, sk)) : wX_addGen_37 post x b cp pr ph (nI n) (nI (cs_D gk n)) oc ml cl ol vl tr ac ca pa bk ix cL cH im tl tk dr cc ld sd gk gb ge po oa mn cu og vl_ tp ce lN lC sk := by
  have dl := cs_Dle gk n
  by_cases d : cs_D gk n = 0
  · exact br_t (by rw [d]; rfl) hp
  · exact br_f (nI_ne0 (by omega) (by omega)) (br_f (nI_nlt (b := 16) (h.resolve_left d) (by omega)) hp)
theorem cs_ygF {n : Nat} {x b : Int32} (hn : n ≤ 16) (h : cs_D gk n = 0 ∨ 16 ≤ n) (post : Int32 → SY → Prop) (hp : post (-1) (pr, cp, ph, nI n, nI (cs_D gk n), oc, ml, cl, ol, vl, tr, ac, ca, pa, bk, ix, cL, cH, im, yn, yl, yt, yr, yo, gk, gb, po, yA, mn, cu, og, vl_, cd, ou, sN, sS, sQ, sM, sk)) : wY_addGen_39 post x b pr cp ph (nI n) (nI (cs_D gk n)) oc ml cl ol vl tr ac ca pa bk ix cL cH im yn yl yt yr yo gk gb po yA mn cu og vl_ cd ou sN sS sQ sM sk :=
  cs_ycp hn _ (fun _ => br_f (by decide) hp) (fun d => br_t rfl (br_f (nI_nlt (b := 16) (h.resolve_left d) (by omega)) hp))
theorem cs_xgS {n : Nat} {x b : Int32} (hn : n < 16) (hd : cs_D gk n ≠ 0) (H : ∀ j, j < n → 1 ≤ cs_D gk j ∧ (gk j = 1 ∨ gk j = 2 ∨ gk j = 3)) (hx : x = 1 ∨ x = 2 ∨ x = 3) (post : Int32 → SX → Prop)
    (hp : ∀ ge' : Nat → Int32, (cs_D (upd gk n x) (n + 1) = 0 → ∀ j, j < n + 1 → ∃ e, e ≤ n + 1 ∧ cs_E (upd gk n x) j e ∧ ge' j = nI e) → post (nI n) (cp, pr, ph, nI (n + 1), nI (cs_D (upd gk n x) (n + 1)), oc, ml, cl, ol, vl, tr, ac, ca, pa, bk, ix, cL, cH, im, tl, tk, dr, cc, ld, sd, upd gk n x, upd gb n (if x = 1 then b else 0), ge', po, oa, mn, cu, og, vl_, tp, ce, lN, lC, sk)) : wX_addGen_37 post x b cp pr ph (nI n) (nI (cs_D gk n)) oc ml cl ol vl tr ac ca pa bk ix cL cH im tl tk dr cc ld sd gk gb ge po oa mn cu og vl_ tp ce lN lC sk := by
  have dl := cs_Dle gk n
  have ec : (nI n).toNatClampNeg = n := nI_clamp (by omega)
  refine br_f (nI_ne0 (by omega) (by omega)) (br_t (nI_lt (b := 16) hn (by decide)) ⟨vp_in_nI hn (by omega), nm_r (e' := upd gk n x) (by rw [ec]) ?_⟩)
  by_cases e : x = 1
  · rw [if_pos e] at hp
    exact br_t e (cs_xgT post hn H (by omega) hx hp)
  · rw [if_neg e] at hp
    exact br_f e (cs_xgT post hn H (by omega) hx hp)
theorem cs_ygS {n : Nat} {x b : Int32} (hn : n < 16) (hd : cs_D gk n ≠ 0) (H : ∀ j, j < n → 1 ≤ cs_D gk j ∧ (gk j = 1 ∨ gk j = 2 ∨ gk j = 3)) (hx : x = 1 ∨ x = 2 ∨ x = 3) (post : Int32 → SY → Prop)
    (hp : post (nI n) (pr, cp, ph, nI (n + 1), nI (cs_D (upd gk n x) (n + 1)), oc, ml, cl, ol, vl, tr, ac, ca, pa, bk, ix, cL, cH, im, yn, yl, yt, yr, yo, upd gk n x, upd gb n (if x = 1 then b else 0), po, yA, mn, cu, og, vl_, cd, ou, sN, sS, sQ, sM, sk)) : wY_addGen_39 post x b pr cp ph (nI n) (nI (cs_D gk n)) oc ml cl ol vl tr ac ca pa bk ix cL cH im yn yl yt yr yo gk gb po yA mn cu og vl_ cd ou sN sS sQ sM sk := by
  have ec : (nI n).toNatClampNeg = n := nI_clamp (by omega)
  have hv : vp_in (nI n) 16 := vp_in_nI hn (by omega)
  refine cs_ycp (by omega) _ (fun d => absurd d hd) (fun _ => br_t rfl (br_t (nI_lt (b := 16) hn (by decide)) ⟨hv, nm_r (e' := upd gk n x) (by rw [ec]) ⟨hv, nm_r (e' := upd gb n 0) (by rw [ec]) ?_⟩⟩))
  by_cases e : x = 1
  · rw [if_pos e] at hp
    exact br_t e ⟨hv, nm_r (e' := upd gb n b) (by rw [ec, cs_uu]) (cs_ygT post hn H (by omega) hx hp)⟩
  · rw [if_neg e] at hp
    exact br_f e (cs_ygT post hn H (by omega) hx hp)
end
theorem i_vc_addGen {k : Nat} {u : SX} {v : SY} (I : i_Rel k u v) (hk : k + 3 ≤ 1538) (v1 : Int32) (v2 : Int32) : wpX_addGen (fun r u' => wpY_addGen (fun r' v' => r' = r ∧ i_Rel (k + 3) u' v') v v1 v2) u v1 v2 := by
  refine cs_elim (P := fun u v => wpX_addGen (fun r u' => wpY_addGen (fun r' v' => r' = r ∧ i_Rel (k + 3) u' v') v v1 v2) u v1 v2) I ?_
  intro cp pr ph gc gp oc ml cl ol vl tr ac ca pa bk ix cL cH im tl tk dr cc ld sd yn yl yt yr yo gk gb ge po oa mn cu og vl_ tp ce lN lC sk yA cd ou sN sS sQ sM hM hG hP hF
  have J : i_Rel (k + 3) (cp, pr, ph, gc, gp, oc, ml, cl, ol, vl, tr, ac, ca, pa, bk, ix, cL, cH, im, tl, tk, dr, cc, ld, sd, gk, gb, ge, po, oa, mn, cu, og, vl_, tp, ce, lN, lC, sk) (pr, cp, ph, gc, gp, oc, ml, cl, ol, vl, tr, ac, ca, pa, bk, ix, cL, cH, im, yn, yl, yt, yr, yo, gk, gb, po, yA, mn, cu, og, vl_, cd, ou, sN, sS, sQ, sM, sk) := cs_mk hM hG hP hF
  obtain ⟨n, hn, rfl, rfl, H, hgb, hE⟩ := hG
  by_cases hp : ph = 0
  · subst hp
    by_cases h : v1 < 1
    · exact br_t rfl (br_t h (br_t rfl (br_t h ⟨rfl, J⟩)))
    · by_cases h2 : v1 ≤ 3
      · have hx : v1 = 1 ∨ v1 = 2 ∨ v1 = 3 := by
          have h0 : ¬ v1 < 0 := cs_ix0 (n := 1) (by decide) (Int32.not_lt.mp h)
          obtain ⟨j, hj, rfl⟩ := nI_of2 (M := 3) (n := 3) (by decide) h0 h2
          obtain rfl | rfl | rfl | rfl : j = 0 ∨ j = 1 ∨ j = 2 ∨ j = 3 := by omega
          · exact absurd (show nI 0 < 1 by decide) h
          · exact Or.inl rfl
          · exact Or.inr (Or.inl rfl)
          · exact Or.inr (Or.inr rfl)
        by_cases h3 : v1 = 1 ∧ (v2 < 0 ∨ ¬ v2 ≤ 255)
        · exact cs_xgR h h2 h3 _ (cs_ygR h h2 h3 _ ⟨rfl, J⟩)
        · have h3' : v1 = 1 → ¬ v2 < 0 ∧ v2 ≤ 255 := fun e => ⟨fun z => h3 ⟨e, Or.inl z⟩, Classical.byContradiction fun z => h3 ⟨e, Or.inr z⟩⟩
          by_cases h4 : cs_D gk n = 0 ∨ 16 ≤ n
          · exact cs_xg37 h h2 h3' _ (cs_xgF hn h4 _ (cs_yg39 h h2 h3' _ (cs_ygF hn h4 _ ⟨rfl, J⟩)))
          · have hd : cs_D gk n ≠ 0 := fun z => h4 (Or.inl z)
            have hn16 : n < 16 := Nat.not_le.mp fun z => h4 (Or.inr z)
            refine cs_xg37 h h2 h3' _ (cs_xgS hn16 hd H hx _ (fun ge' hg => cs_yg39 h h2 h3' _ (cs_ygS hn16 hd H hx _ ⟨rfl, ?_⟩)))
            obtain ⟨K1, K2⟩ := cs_Gstep H (by omega) hx
            refine cs_mk hM ⟨n + 1, hn16, rfl, rfl, K1, fun j hj => ?_, fun d => cs_mkG hn16 (by omega) d K1 (hg d)⟩ hP ?_
            · by_cases z : j = n
              · rw [z, pk_us]
                by_cases e : v1 = 1
                · rw [if_pos e]
                  obtain ⟨b, hb, eb⟩ := nI_of2 (M := 255) (n := 255) (by decide) (h3' e).1 (h3' e).2
                  exact ⟨b, by omega, eb⟩
                · rw [if_neg e]
                  exact ⟨0, by omega, rfl⟩
              · rw [pk_un z]
                exact hgb j (by omega)
            · obtain ⟨a1, a2, a3, b1, b2, b3, b4, b5, b6, b7, b8⟩ := hF
              exact ⟨a1, a2, a3, b1, b2, b3, b4, b5, b6, b7, Or.inl rfl⟩
      · exact br_t rfl (br_f h (br_f h2 (br_t rfl (br_f h (br_f h2 ⟨rfl, J⟩)))))
  · exact br_f hp (br_f hp ⟨rfl, J⟩)
end
section
section
variable {cp pr ph gc gp oc ml cl ol vl tr ac ca pa bk ix cL cH im tl tk dr cc ld sd yn yl yt yr yo : Int32} {gk gb ge po oa mn cu og vl_ tp ce lN lC sk yA cd ou sN sS sQ sM : Nat → Int32}
variable {pr' tk' cc' ld' : Int32} {tp' ce' lN' lC' : Nat → Int32}
theorem cs_xgi0 {nd b : Nat} (hn : nd < 16) (hb : gb nd = nI b) (post : Int32 → SX → Prop) (hX : ∀ p : Int32 → SX → Prop, p (-1) (cp, pr', ph, gc, gp, oc, ml, cl, ol, vl, tr, ac, ca, pa, bk, ix, cL, cH, im, tl, tk', dr, cc, ld, sd, gk, gb, ge, po, oa, mn, cu, og, vl_, tp', ce, lN, lC, sk) → wpX_take p (cp, pr, ph, gc, gp, oc, ml, cl, ol, vl, tr, ac, ca, pa, bk, ix, cL, cH, im, tl, tk, dr, cc, ld, sd, gk, gb, ge, po, oa, mn, cu, og, vl_, tp, ce, lN, lC, sk) (nI (b + 1))) (hp : post (-1) (cp, pr', ph, gc, gp, oc, ml, cl, ol, vl, tr, ac, ca, pa, bk, ix, cL, cH, im, tl, tk', dr, cc, ld, sd, gk, gb, ge, po, oa, mn, cu, og, vl_, tp', ce, lN, lC, sk)) : wpX_generateInt post (cp, pr, ph, gc, gp, oc, ml, cl, ol, vl, tr, ac, ca, pa, bk, ix, cL, cH, im, tl, tk, dr, cc, ld, sd, gk, gb, ge, po, oa, mn, cu, og, vl_, tp, ce, lN, lC, sk) (nI nd) := by
  have ec : (nI nd).toNatClampNeg = nd := nI_clamp (by omega)
  exact ⟨vp_in_nI hn (by omega), nm_r (e' := nI (b + 1)) (by rw [ec, hb, nI_1]) (hX _ (br_t rfl hp))⟩
theorem cs_xgi1 {nd b c : Nat} (hn : nd < 16) (hb : gb nd = nI b) (hb2 : b < 256) (hc : c < 256) (post : Int32 → SX → Prop) (hX : ∀ p : Int32 → SX → Prop, p (nI c) (cp, pr', ph, gc, gp, oc, ml, cl, ol, vl, tr, ac, ca, pa, bk, ix, cL, cH, im, tl, tk', dr, nI 32, ld, sd, gk, gb, ge, po, oa, mn, cu, og, vl_, tp', ce, lN, lC, sk) → wpX_take p (cp, pr, ph, gc, gp, oc, ml, cl, ol, vl, tr, ac, ca, pa, bk, ix, cL, cH, im, tl, tk, dr, nI 32, ld, sd, gk, gb, ge, po, oa, mn, cu, og, vl_, tp, ce, lN, lC, sk) (nI (b + 1))) (hp : post (-1) (cp, pr', ph, gc, gp, oc, ml, cl, ol, vl, tr, ac, ca, pa, bk, ix, cL, cH, im, tl, tk', dr, nI 32, ld, sd, gk, gb, ge, po, oa, mn, cu, og, vl_, tp', ce, lN, lC, sk)) : wpX_generateInt post (cp, pr, ph, gc, gp, oc, ml, cl, ol, vl, tr, ac, ca, pa, bk, ix, cL, cH, im, tl, tk, dr, nI 32, ld, sd, gk, gb, ge, po, oa, mn, cu, og, vl_, tp, ce, lN, lC, sk) (nI nd) := by
  have ec : (nI nd).toNatClampNeg = nd := nI_clamp (by omega)
  exact ⟨vp_in_nI hn (by omega), nm_r (e' := nI (b + 1)) (by rw [ec, hb, nI_1]) (hX _ (br_f (cs_nm1 (by omega)) ⟨nI_ne0 (by omega) (by omega), cs_xe0 _ _ (br_t rfl hp)⟩))⟩
theorem cs_xgi2 {nd b c L : Nat} (hn : nd < 16) (hb : gb nd = nI b) (hb2 : b < 256) (hc : c < 256) (hL : L < 32) (post : Int32 → SX → Prop) (hX : ∀ p : Int32 → SX → Prop, p (nI c) (cp, pr', ph, gc, gp, oc, ml, cl, ol, vl, tr, ac, ca, pa, bk, ix, cL, cH, im, tl, tk', dr, nI L, ld, sd, gk, gb, ge, po, oa, mn, cu, og, vl_, tp', ce, lN, lC, sk) → wpX_take p (cp, pr, ph, gc, gp, oc, ml, cl, ol, vl, tr, ac, ca, pa, bk, ix, cL, cH, im, tl, tk, dr, nI L, ld, sd, gk, gb, ge, po, oa, mn, cu, og, vl_, tp, ce, lN, lC, sk) (nI (b + 1))) (hp : post (nI (nd + 1)) (cp, pr', ph, gc, gp, oc, ml, cl, ol, vl, tr, ac, ca, pa, bk, ix, cL, cH, im, tl, tk', dr, nI (L + 1), ld, sd, gk, gb, ge, po, oa, mn, cu, og, vl_, tp', upd ce L (nI (c % (b + 1))), lN, lC, sk)) : wpX_generateInt post (cp, pr, ph, gc, gp, oc, ml, cl, ol, vl, tr, ac, ca, pa, bk, ix, cL, cH, im, tl, tk, dr, nI L, ld, sd, gk, gb, ge, po, oa, mn, cu, og, vl_, tp, ce, lN, lC, sk) (nI nd) := by
  have ec : (nI nd).toNatClampNeg = nd := nI_clamp (by omega)
  have er : nI c - nI c / nI (b + 1) * nI (b + 1) = nI (c % (b + 1)) := pk_rem (by omega) (by omega) (by omega)
  refine ⟨vp_in_nI hn (by omega), nm_r (e' := nI (b + 1)) (by rw [ec, hb, nI_1]) (hX _ (br_f (cs_nm1 (by omega)) ⟨nI_ne0 (by omega) (by omega), ?_⟩))⟩
  rw [er]
  refine cs_xe1 hL _ _ (br_f (by decide) ?_)
  rw [nI_1]
  exact hp
theorem cs_xol0 {nd : Nat} (post : Int32 → SX → Prop) (hp : post (-1) (cp, pr, ph, gc, gp, oc, ml, cl, ol, vl, tr, ac, ca, pa, bk, ix, cL, cH, im, tl, tk, dr, nI 32, ld, sd, gk, gb, ge, po, oa, mn, cu, og, vl_, tp, ce, lN, lC, sk)) : wpX_openList post (cp, pr, ph, gc, gp, oc, ml, cl, ol, vl, tr, ac, ca, pa, bk, ix, cL, cH, im, tl, tk, dr, nI 32, ld, sd, gk, gb, ge, po, oa, mn, cu, og, vl_, tp, ce, lN, lC, sk) (nI nd) := by
  unfold wpX_openList
  exact cs_xe0 _ _ (br_t rfl hp)
theorem cs_xol1 {nd L d e : Nat} (hn : nd < 16) (hL : L < 32) (hd : d < 16) (he : ge nd = nI e) (post : Int32 → SX → Prop) (hp : post (nI e) (cp, pr, ph, gc, gp, oc, ml, cl, ol, vl, tr, ac, ca, pa, bk, ix, cL, cH, im, tl, tk, dr, nI (L + 1), nI (d + 1), sd, gk, gb, ge, po, oa, mn, cu, og, vl_, tp, upd ce L (nI 0), upd lN d (nI nd), upd lC d (nI L), sk)) : wpX_openList post (cp, pr, ph, gc, gp, oc, ml, cl, ol, vl, tr, ac, ca, pa, bk, ix, cL, cH, im, tl, tk, dr, nI L, nI d, sd, gk, gb, ge, po, oa, mn, cu, og, vl_, tp, ce, lN, lC, sk) (nI nd) := by
  have ec : (nI nd).toNatClampNeg = nd := nI_clamp (by omega)
  have ed : (nI d).toNatClampNeg = d := nI_clamp (by omega)
  have hv : vp_in (nI d) 16 := vp_in_nI hd (by omega)
  unfold wpX_openList
  refine cs_xe1 hL _ _ (br_f (by decide) ⟨hv, nm_r (e' := upd lN d (nI nd)) (by rw [ed]) ⟨hv, nm_r (e' := upd lC d (nI L)) (by rw [ed, nI_pred]) (nm_r (nI_1 d) ⟨vp_in_nI hn (by omega), ?_⟩)⟩⟩)
  rw [ec, he]
  exact hp
theorem cs_xcl8 {nd d q e : Nat} (hn : nd < 16) (hd : d < 16) (hq : q < 32) (h1 : lN d = nI nd) (h2 : lC d = nI q) (h3 : ce q = nI 8) (he : ge nd = nI e) (post : Int32 → SX → Prop) (hp : post (nI e) (cp, pr, ph, gc, gp, oc, ml, cl, ol, vl, tr, ac, ca, pa, bk, ix, cL, cH, im, tl, tk, dr, cc, nI d, sd, gk, gb, ge, po, oa, mn, cu, og, vl_, tp, ce, lN, lC, sk)) : wpX_continueList post (cp, pr, ph, gc, gp, oc, ml, cl, ol, vl, tr, ac, ca, pa, bk, ix, cL, cH, im, tl, tk, dr, cc, nI (d + 1), sd, gk, gb, ge, po, oa, mn, cu, og, vl_, tp, ce, lN, lC, sk) := by
  have ec : (nI nd).toNatClampNeg = nd := nI_clamp (by omega)
  have ed : (nI d).toNatClampNeg = d := nI_clamp (by omega)
  have eq : (nI q).toNatClampNeg = q := nI_clamp (by omega)
  have hv : vp_in (nI d) 16 := vp_in_nI hd (by omega)
  refine nm_r (nI_pred d) ⟨hv, nm_r (e' := nI nd) (by rw [ed, h1]) ⟨hv, nm_r (e' := nI q) (by rw [ed, h2]) ⟨vp_in_nI hq (by omega), br_t (by rw [eq, h3]; rfl) (br_f (by decide) (br_t rfl ⟨vp_in_nI hn (by omega), ?_⟩))⟩⟩⟩
  rw [ec, he]
  exact hp
theorem cs_xclt {nd d q m : Nat} (hd : d < 16) (hq : q < 32) (h1 : lN d = nI nd) (h2 : lC d = nI q) (h3 : ce q = nI m) (hm : m < 8) (post : Int32 → SX → Prop) {r : Int32} (hX : ∀ p : Int32 → SX → Prop, p r (cp, pr', ph, gc, gp, oc, ml, cl, ol, vl, tr, ac, ca, pa, bk, ix, cL, cH, im, tl, tk', dr, cc, nI (d + 1), sd, gk, gb, ge, po, oa, mn, cu, og, vl_, tp', ce, lN, lC, sk) → wpX_take p (cp, pr, ph, gc, gp, oc, ml, cl, ol, vl, tr, ac, ca, pa, bk, ix, cL, cH, im, tl, tk, dr, cc, nI (d + 1), sd, gk, gb, ge, po, oa, mn, cu, og, vl_, tp, ce, lN, lC, sk) (nI 4)) (hp : wX_continueList_41 post (nI d) (nI nd) (nI q) r cp pr' ph gc gp oc ml cl ol vl tr ac ca pa bk ix cL cH im tl tk' dr cc (nI (d + 1)) sd gk gb ge po oa mn cu og vl_ tp' ce lN lC sk) : wpX_continueList post (cp, pr, ph, gc, gp, oc, ml, cl, ol, vl, tr, ac, ca, pa, bk, ix, cL, cH, im, tl, tk, dr, cc, nI (d + 1), sd, gk, gb, ge, po, oa, mn, cu, og, vl_, tp, ce, lN, lC, sk) := by
  have ed : (nI d).toNatClampNeg = d := nI_clamp (by omega)
  have eq : (nI q).toNatClampNeg = q := nI_clamp (by omega)
  have hv : vp_in (nI d) 16 := vp_in_nI hd (by omega)
  have h8 : ¬ nI m = 8 := fun z => absurd ((nI_eq (b := 8) (by omega) (by decide)).mp z) (by omega)
  exact nm_r (nI_pred d) ⟨hv, nm_r (e' := nI nd) (by rw [ed, h1]) ⟨hv, nm_r (e' := nI q) (by rw [ed, h2]) ⟨vp_in_nI hq (by omega), br_f (by rw [eq, h3]; exact h8) (hX _ hp)⟩⟩⟩
theorem cs_xc0 {nd d q : Nat} (post : Int32 → SX → Prop) (hp : post (-1) (cp, pr, ph, gc, gp, oc, ml, cl, ol, vl, tr, ac, ca, pa, bk, ix, cL, cH, im, tl, tk, dr, cc, nI (d + 1), sd, gk, gb, ge, po, oa, mn, cu, og, vl_, tp, ce, lN, lC, sk)) : wX_continueList_41 post (nI d) (nI nd) (nI q) (-1) cp pr ph gc gp oc ml cl ol vl tr ac ca pa bk ix cL cH im tl tk dr cc (nI (d + 1)) sd gk gb ge po oa mn cu og vl_ tp ce lN lC sk := br_t rfl hp
theorem cs_xc1 {nd d q e : Nat} (hn : nd < 16) (he : ge nd = nI e) (post : Int32 → SX → Prop) (hp : post (nI e) (cp, pr, ph, gc, gp, oc, ml, cl, ol, vl, tr, ac, ca, pa, bk, ix, cL, cH, im, tl, tk, dr, cc, nI d, sd, gk, gb, ge, po, oa, mn, cu, og, vl_, tp, ce, lN, lC, sk)) : wX_continueList_41 post (nI d) (nI nd) (nI q) (nI 0) cp pr ph gc gp oc ml cl ol vl tr ac ca pa bk ix cL cH im tl tk dr cc (nI (d + 1)) sd gk gb ge po oa mn cu og vl_ tp ce lN lC sk := by
  have ec : (nI nd).toNatClampNeg = nd := nI_clamp (by omega)
  refine br_f (by decide) (br_t rfl ⟨vp_in_nI hn (by omega), ?_⟩)
  rw [ec, he]
  exact hp
theorem cs_xc2 {nd d q c m : Nat} (hq : q < 32) (hc : c < 256) (hc0 : c ≠ 0) (h3 : ce q = nI m) (post : Int32 → SX → Prop) (hp : post (nI (nd + 1)) (cp, pr, ph, gc, gp, oc, ml, cl, ol, vl, tr, ac, ca, pa, bk, ix, cL, cH, im, tl, tk, dr, cc, nI (d + 1), sd, gk, gb, ge, po, oa, mn, cu, og, vl_, tp, upd ce q (nI (m + 1)), lN, lC, sk)) : wX_continueList_41 post (nI d) (nI nd) (nI q) (nI c) cp pr ph gc gp oc ml cl ol vl tr ac ca pa bk ix cL cH im tl tk dr cc (nI (d + 1)) sd gk gb ge po oa mn cu og vl_ tp ce lN lC sk := by
  have eq : (nI q).toNatClampNeg = q := nI_clamp (by omega)
  have hv : vp_in (nI q) 32 := vp_in_nI hq (by omega)
  refine br_f (cs_nm1 (by omega)) (br_f (nI_ne0 (by omega) (by omega)) ⟨hv, hv, nm_r (e' := upd ce q (nI (m + 1))) (by rw [eq, h3, nI_1]) ?_⟩)
  rw [nI_1]
  exact hp
theorem cs_gxE {n st fuel : Nat} (hn : n ≤ 16) (hs : st < 1000000) (post : Int32 → SX → Prop) (hp : post 1 (cp, pr, ph, nI n, gp, oc, ml, cl, ol, vl, tr, ac, ca, pa, bk, ix, cL, cH, im, tl, tk, dr, cc, nI 0, sd, gk, gb, ge, po, oa, mn, cu, og, vl_, tp, ce, lN, lC, sk)) : wX_generate_19 post (fuel + 1) (nI n) (nI st) cp pr ph (nI n) gp oc ml cl ol vl tr ac ca pa bk ix cL cH im tl tk dr cc (nI 0) sd gk gb ge po oa mn cu og vl_ tp ce lN lC sk :=
  br_f (nI_ge (b := 1000000) hs (by decide)) (br_f (cs_nm1 (by omega)) (br_t (by decide) (br_f (nI_nlt (Nat.le_refl n) (by omega)) hp)))
theorem cs_gxF {st fuel : Nat} (hs : st < 1000000) (post : Int32 → SX → Prop) (hp : post 0 (cp, pr, ph, gc, gp, oc, ml, cl, ol, vl, tr, ac, ca, pa, bk, ix, cL, cH, im, tl, tk, dr, cc, ld, sd, gk, gb, ge, po, oa, mn, cu, og, vl_, tp, ce, lN, lC, sk)) : wX_generate_19 post (fuel + 1) (-1) (nI st) cp pr ph gc gp oc ml cl ol vl tr ac ca pa bk ix cL cH im tl tk dr cc ld sd gk gb ge po oa mn cu og vl_ tp ce lN lC sk :=
  br_f (nI_ge (b := 1000000) hs (by decide)) (br_t rfl hp)
theorem cs_gxJ {nd n d st fuel : Nat} {en : Nat → Nat} (hs : st < 1000000) (hn : nd < n) (hn16 : n ≤ 16) (hge : ∀ j, j < n → ge j = nI (en j)) (hz : d = 0 ∨ ∃ d' p, d = d' + 1 ∧ d' < 16 ∧ lN d' = nI p ∧ p < n ∧ nd ≠ en p ∧ en p ≤ n) (post : Int32 → SX → Prop) (hJ : wX_generate_65 post (wX_generate_19 post fuel) (nI nd) (nI st) cp pr ph gc gp oc ml cl ol vl tr ac ca pa bk ix cL cH im tl tk dr cc (nI d) sd gk gb ge po oa mn cu og vl_ tp ce lN lC sk) : wX_generate_19 post (fuel + 1) (nI nd) (nI st) cp pr ph gc gp oc ml cl ol vl tr ac ca pa bk ix cL cH im tl tk dr cc (nI d) sd gk gb ge po oa mn cu og vl_ tp ce lN lC sk := by
  refine br_f (nI_ge (b := 1000000) hs (by decide)) (br_f (cs_nm1 (by omega)) ?_)
  rcases hz with rfl | ⟨d', p, rfl, h1, h2, h3, h4, h5⟩
  · exact br_t (by decide) hJ
  · have ed : (nI (d' + 1) - 1).toNatClampNeg = d' := by rw [nI_pred, nI_clamp (by omega)]
    have ep : (nI p).toNatClampNeg = p := nI_clamp (by omega)
    refine br_f (nI_nle (by omega) (by omega)) ⟨by rw [nI_pred]; exact vp_in_nI h1 (by omega), by rw [ed, h2]; exact vp_in_nI (by omega) (by omega), br_f ?_ hJ⟩
    rw [ed, h2, ep, hge p h3, nI_eq (by omega) (by omega)]
    exact h4
theorem cs_gxL {nd n d st fuel : Nat} {en : Nat → Nat} {r : Int32} (hs : st < 1000000) (hn : nd < n) (hn16 : n ≤ 16) (hen : en nd ≤ n) (hge : ∀ j, j < n → ge j = nI (en j)) (hd : d < 16) (h1 : lN d = nI nd) (post : Int32 → SX → Prop) (hG : ∀ p : Int32 → SX → Prop, p r (cp, pr', ph, gc, gp, oc, ml, cl, ol, vl, tr, ac, ca, pa, bk, ix, cL, cH, im, tl, tk', dr, cc', ld', sd, gk, gb, ge, po, oa, mn, cu, og, vl_, tp', ce', lN', lC', sk) → wpX_continueList p (cp, pr, ph, gc, gp, oc, ml, cl, ol, vl, tr, ac, ca, pa, bk, ix, cL, cH, im, tl, tk, dr, cc, nI (d + 1), sd, gk, gb, ge, po, oa, mn, cu, og, vl_, tp, ce, lN, lC, sk)) (hp : wX_generate_19 post fuel r (nI (st + 1)) cp pr' ph gc gp oc ml cl ol vl tr ac ca pa bk ix cL cH im tl tk' dr cc' ld' sd gk gb ge po oa mn cu og vl_ tp' ce' lN' lC' sk) : wX_generate_19 post (fuel + 1) (nI (en nd)) (nI st) cp pr ph gc gp oc ml cl ol vl tr ac ca pa bk ix cL cH im tl tk dr cc (nI (d + 1)) sd gk gb ge po oa mn cu og vl_ tp ce lN lC sk := by
  have ed : (nI (d + 1) - 1).toNatClampNeg = d := by rw [nI_pred, nI_clamp (by omega)]
  have ep : (nI nd).toNatClampNeg = nd := nI_clamp (by omega)
  refine br_f (nI_ge (b := 1000000) hs (by decide)) (br_f (cs_nm1 (by omega)) (br_f (nI_nle (by omega) (by omega)) ⟨by rw [nI_pred]; exact vp_in_nI hd (by omega), by rw [ed, h1]; exact vp_in_nI (by omega) (by omega), br_t ?_ (hG _ (nm_r (nI_1 st) hp))⟩))
  rw [ed, h1, ep, hge nd hn]
theorem cs_gxI {nd n st fuel : Nat} {r : Int32} (hn : nd < n) (hn16 : n ≤ 16) (hk : gk nd = 1) (post : Int32 → SX → Prop) (hG : ∀ p : Int32 → SX → Prop, p r (cp, pr', ph, nI n, gp, oc, ml, cl, ol, vl, tr, ac, ca, pa, bk, ix, cL, cH, im, tl, tk', dr, cc', ld', sd, gk, gb, ge, po, oa, mn, cu, og, vl_, tp', ce', lN', lC', sk) → wpX_generateInt p (cp, pr, ph, nI n, gp, oc, ml, cl, ol, vl, tr, ac, ca, pa, bk, ix, cL, cH, im, tl, tk, dr, cc, ld, sd, gk, gb, ge, po, oa, mn, cu, og, vl_, tp, ce, lN, lC, sk) (nI nd)) (hp : wX_generate_19 post fuel r (nI (st + 1)) cp pr' ph (nI n) gp oc ml cl ol vl tr ac ca pa bk ix cL cH im tl tk' dr cc' ld' sd gk gb ge po oa mn cu og vl_ tp' ce' lN' lC' sk) : wX_generate_65 post (wX_generate_19 post fuel) (nI nd) (nI st) cp pr ph (nI n) gp oc ml cl ol vl tr ac ca pa bk ix cL cH im tl tk dr cc ld sd gk gb ge po oa mn cu og vl_ tp ce lN lC sk := by
  have ec : (nI nd).toNatClampNeg = nd := nI_clamp (by omega)
  exact br_t (nI_lt hn (by omega)) ⟨vp_in_nI (by omega) (by omega), br_t (by rw [ec, hk]) (hG _ (nm_r (nI_1 st) hp))⟩
theorem cs_gxO {nd n st fuel : Nat} {r : Int32} (hn : nd < n) (hn16 : n ≤ 16) (hk : gk nd = 2) (post : Int32 → SX → Prop) (hG : ∀ p : Int32 → SX → Prop, p r (cp, pr', ph, nI n, gp, oc, ml, cl, ol, vl, tr, ac, ca, pa, bk, ix, cL, cH, im, tl, tk', dr, cc', ld', sd, gk, gb, ge, po, oa, mn, cu, og, vl_, tp', ce', lN', lC', sk) → wpX_openList p (cp, pr, ph, nI n, gp, oc, ml, cl, ol, vl, tr, ac, ca, pa, bk, ix, cL, cH, im, tl, tk, dr, cc, ld, sd, gk, gb, ge, po, oa, mn, cu, og, vl_, tp, ce, lN, lC, sk) (nI nd)) (hp : wX_generate_19 post fuel r (nI (st + 1)) cp pr' ph (nI n) gp oc ml cl ol vl tr ac ca pa bk ix cL cH im tl tk' dr cc' ld' sd gk gb ge po oa mn cu og vl_ tp' ce' lN' lC' sk) : wX_generate_65 post (wX_generate_19 post fuel) (nI nd) (nI st) cp pr ph (nI n) gp oc ml cl ol vl tr ac ca pa bk ix cL cH im tl tk dr cc ld sd gk gb ge po oa mn cu og vl_ tp ce lN lC sk := by
  have ec : (nI nd).toNatClampNeg = nd := nI_clamp (by omega)
  have hv : vp_in (nI nd) 16 := vp_in_nI (by omega) (by omega)
  exact br_t (nI_lt hn (by omega)) ⟨hv, br_f (by rw [ec, hk]; decide) ⟨hv, br_t (by rw [ec, hk]) (hG _ (nm_r (nI_1 st) hp))⟩⟩
theorem cs_gxP {nd n st fuel : Nat} (hn : nd < n) (hn16 : n ≤ 16) (hk : gk nd = 3) (post : Int32 → SX → Prop) (hp : wX_generate_19 post fuel (nI (nd + 1)) (nI (st + 1)) cp pr ph (nI n) gp oc ml cl ol vl tr ac ca pa bk ix cL cH im tl tk dr cc ld sd gk gb ge po oa mn cu og vl_ tp ce lN lC sk) : wX_generate_65 post (wX_generate_19 post fuel) (nI nd) (nI st) cp pr ph (nI n) gp oc ml cl ol vl tr ac ca pa bk ix cL cH im tl tk dr cc ld sd gk gb ge po oa mn cu og vl_ tp ce lN lC sk := by
  have ec : (nI nd).toNatClampNeg = nd := nI_clamp (by omega)
  have hv : vp_in (nI nd) 16 := vp_in_nI (by omega) (by omega)
  exact br_t (nI_lt hn (by omega)) ⟨hv, br_f (by rw [ec, hk]; decide) ⟨hv, br_f (by rw [ec, hk]; decide) (nm_r (nI_1 nd) (nm_r (nI_1 st) hp))⟩⟩
end
end
section
section
variable {cp pr ph gc gp oc ml cl ol vl tr ac ca pa bk ix cL cH im tl tk dr cc ld sd yn yl yt yr yo : Int32} {gk gb ge po oa mn cu og vl_ tp ce lN lC sk yA cd ou sN sS sQ sM : Nat → Int32}
variable {pr' yl' yt' : Int32} {cd' : Nat → Int32}
theorem cs_y405n {d i fuel : Nat} (post : Int32 → SY → Prop) (hp : wY_generate_50 post fuel (nI d) (nI (i + 1)) pr cp ph gc gp oc ml cl ol vl tr ac ca pa bk ix cL cH im yn yl yt yr yo gk gb po yA mn cu og vl_ cd ou sN sS sQ sM sk) : wY_generate_405 post (wY_generate_50 post fuel) (nI d) (nI i) (-1) pr cp ph gc gp oc ml cl ol vl tr ac ca pa bk ix cL cH im yn yl yt yr yo gk gb po yA mn cu og vl_ cd ou sN sS sQ sM sk := br_t (by decide) (nm_r (nI_1 i) hp)
theorem cs_y405c {d i ch n fuel : Nat} (hd : d < 32) (hch : ch < n) (hn : n ≤ 16) (post : Int32 → SY → Prop) (hp : wY_generate_50 post fuel (nI (d + 1)) (nI (i + 1)) pr cp ph (nI n) gp oc ml cl ol vl tr ac ca pa bk ix cL cH im yn yl yt yr yo gk gb po yA mn cu og vl_ cd ou (upd sN d (nI ch)) (upd sS d (nI 0)) sQ sM sk) : wY_generate_405 post (wY_generate_50 post fuel) (nI d) (nI i) (nI ch) pr cp ph (nI n) gp oc ml cl ol vl tr ac ca pa bk ix cL cH im yn yl yt yr yo gk gb po yA mn cu og vl_ cd ou sN sS sQ sM sk := by
  have ed : (nI d).toNatClampNeg = d := nI_clamp (by omega)
  have hv : vp_in (nI d) 32 := vp_in_nI (by omega) (by omega)
  exact br_f (nI_pos (by omega)) (br_f (nI_ge (b := 32) hd (by decide)) (br_t (nI_lt hch (by omega)) ⟨hv, nm_r (e' := upd sN d (nI ch)) (by rw [ed]) ⟨hv, nm_r (e' := upd sS d (nI 0)) (by rw [ed]; rfl) (nm_r (nI_1 d) (nm_r (nI_1 i) hp))⟩⟩))
theorem cs_gyE {i fuel : Nat} (post : Int32 → SY → Prop) (hp : post 1 (pr, cp, ph, gc, gp, oc, ml, cl, ol, vl, tr, ac, ca, pa, bk, ix, cL, cH, im, yn, yl, yt, yr, yo, gk, gb, po, yA, mn, cu, og, vl_, cd, ou, sN, sS, sQ, sM, sk)) : wY_generate_50 post (fuel + 1) (nI 0) (nI i) pr cp ph gc gp oc ml cl ol vl tr ac ca pa bk ix cL cH im yn yl yt yr yo gk gb po yA mn cu og vl_ cd ou sN sS sQ sM sk :=
  br_c (fun _ => br_t rfl hp) (fun _ => br_t (by decide) (br_t rfl hp))
theorem cs_gy1F {d nd n i fuel : Nat} (hd : d < 16) (hnd : nd < n) (hn : n ≤ 16) (hi : i < 8192) (h1 : sN d = nI nd) (hk : gk nd = 1) {b : Nat} (hb : gb nd = nI b) (hY : ∀ p : Int32 → SY → Prop, p (-1) (pr', cp, ph, nI n, gp, oc, ml, cl, ol, vl, tr, ac, ca, pa, bk, ix, cL, cH, im, yn, yl', yt', yr, yo, gk, gb, po, yA, mn, cu, og, vl_, cd', ou, sN, sS, sQ, sM, sk) → wpY_take p (pr, cp, ph, nI n, gp, oc, ml, cl, ol, vl, tr, ac, ca, pa, bk, ix, cL, cH, im, yn, yl, yt, yr, yo, gk, gb, po, yA, mn, cu, og, vl_, cd, ou, sN, sS, sQ, sM, sk) (nI b)) (post : Int32 → SY → Prop) (hp : post 0 (pr', cp, ph, nI n, gp, oc, ml, cl, ol, vl, tr, ac, ca, pa, bk, ix, cL, cH, im, yn, yl', yt', yr, yo, gk, gb, po, yA, mn, cu, og, vl_, cd', ou, sN, sS, sQ, sM, sk)) : wY_generate_50 post (fuel + 1) (nI (d + 1)) (nI i) pr cp ph (nI n) gp oc ml cl ol vl tr ac ca pa bk ix cL cH im yn yl yt yr yo gk gb po yA mn cu og vl_ cd ou sN sS sQ sM sk := by
  have ed : (nI d).toNatClampNeg = d := nI_clamp (by omega)
  have ew : (nI nd).toNatClampNeg = nd := nI_clamp (by omega)
  have hv : vp_in (nI d) 32 := vp_in_nI (by omega) (by omega)
  have hw : vp_in (nI nd) 16 := vp_in_nI (by omega) (by omega)
  refine br_f (nI_ge (b := 8192) hi (by decide)) (br_f (nI_nle (by omega) (by omega)) (nm_r (nI_pred d) ⟨hv, nm_r (e' := nI nd) (by rw [ed, h1]) ⟨hw, nm_r (e' := 1) (by rw [ew, hk]) (br_t rfl ⟨hw, ?_⟩)⟩⟩))
  rw [ew, hb]
  exact hY _ (br_t (by decide) hp)
theorem cs_gy1G {d nd n i fuel : Nat} (hd : d < 16) (hnd : nd < n) (hn : n ≤ 16) (hi : i < 8192) (h1 : sN d = nI nd) (hk : gk nd = 1) {b c : Nat} (hb : gb nd = nI b) (hc : c < 256) (hY : ∀ p : Int32 → SY → Prop, p (nI c) (pr', cp, ph, nI n, gp, oc, ml, cl, ol, vl, tr, ac, ca, pa, bk, ix, cL, cH, im, yn, yl', yt', yr, nI 32, gk, gb, po, yA, mn, cu, og, vl_, cd', ou, sN, sS, sQ, sM, sk) → wpY_take p (pr, cp, ph, nI n, gp, oc, ml, cl, ol, vl, tr, ac, ca, pa, bk, ix, cL, cH, im, yn, yl, yt, yr, nI 32, gk, gb, po, yA, mn, cu, og, vl_, cd, ou, sN, sS, sQ, sM, sk) (nI b)) (post : Int32 → SY → Prop) (hp : post 0 (pr', cp, ph, nI n, gp, oc, ml, cl, ol, vl, tr, ac, ca, pa, bk, ix, cL, cH, im, yn, yl', yt', yr, nI 32, gk, gb, po, yA, mn, cu, og, vl_, cd', ou, sN, sS, sQ, sM, sk)) : wY_generate_50 post (fuel + 1) (nI (d + 1)) (nI i) pr cp ph (nI n) gp oc ml cl ol vl tr ac ca pa bk ix cL cH im yn yl yt yr (nI 32) gk gb po yA mn cu og vl_ cd ou sN sS sQ sM sk := by
  have ed : (nI d).toNatClampNeg = d := nI_clamp (by omega)
  have ew : (nI nd).toNatClampNeg = nd := nI_clamp (by omega)
  have hv : vp_in (nI d) 32 := vp_in_nI (by omega) (by omega)
  have hw : vp_in (nI nd) 16 := vp_in_nI (by omega) (by omega)
  refine br_f (nI_ge (b := 8192) hi (by decide)) (br_f (nI_nle (by omega) (by omega)) (nm_r (nI_pred d) ⟨hv, nm_r (e' := nI nd) (by rw [ed, h1]) ⟨hw, nm_r (e' := 1) (by rw [ew, hk]) (br_t rfl ⟨hw, ?_⟩)⟩⟩))
  rw [ew, hb]
  exact hY _ (br_f (nI_pos (by omega)) (br_f (by decide) hp))
theorem cs_gy1 {d nd n i fuel : Nat} (hd : d < 16) (hnd : nd < n) (hn : n ≤ 16) (hi : i < 8192) (h1 : sN d = nI nd) (hk : gk nd = 1) {b c L : Nat} (hb : gb nd = nI b) (hb2 : b < 256) (hc : c < 256) (hL : L < 32) (hY : ∀ p : Int32 → SY → Prop, p (nI c) (pr', cp, ph, nI n, gp, oc, ml, cl, ol, vl, tr, ac, ca, pa, bk, ix, cL, cH, im, yn, yl', yt', yr, nI L, gk, gb, po, yA, mn, cu, og, vl_, cd', ou, sN, sS, sQ, sM, sk) → wpY_take p (pr, cp, ph, nI n, gp, oc, ml, cl, ol, vl, tr, ac, ca, pa, bk, ix, cL, cH, im, yn, yl, yt, yr, nI L, gk, gb, po, yA, mn, cu, og, vl_, cd, ou, sN, sS, sQ, sM, sk) (nI b)) (post : Int32 → SY → Prop) (hp : wY_generate_50 post fuel (nI (d)) (nI (i + 1)) pr' cp ph (nI n) gp oc ml cl ol vl tr ac ca pa bk ix cL cH im yn yl' yt' yr (nI (L + 1)) gk gb po yA mn cu og vl_ cd' (upd ou L (nI (c % (b + 1)))) sN sS sQ sM sk) : wY_generate_50 post (fuel + 1) (nI (d + 1)) (nI i) pr cp ph (nI n) gp oc ml cl ol vl tr ac ca pa bk ix cL cH im yn yl yt yr (nI L) gk gb po yA mn cu og vl_ cd ou sN sS sQ sM sk := by
  have ed : (nI d).toNatClampNeg = d := nI_clamp (by omega)
  have ew : (nI nd).toNatClampNeg = nd := nI_clamp (by omega)
  have hv : vp_in (nI d) 32 := vp_in_nI (by omega) (by omega)
  have hw : vp_in (nI nd) 16 := vp_in_nI (by omega) (by omega)
  refine br_f (nI_ge (b := 8192) hi (by decide)) (br_f (nI_nle (by omega) (by omega)) (nm_r (nI_pred d) ⟨hv, nm_r (e' := nI nd) (by rw [ed, h1]) ⟨hw, nm_r (e' := 1) (by rw [ew, hk]) (br_t rfl ⟨hw, ?_⟩)⟩⟩))
  have er : nI c - nI c / nI (b + 1) * nI (b + 1) = nI (c % (b + 1)) := pk_rem (by omega) (by omega) (by omega)
  have eL : (nI L).toNatClampNeg = L := nI_clamp (by omega)
  rw [ew, hb]
  refine hY _ (br_f (nI_pos (by omega)) (br_t (nI_lt (b := 32) hL (by decide)) ⟨hw, ?_, vp_in_nI hL (by omega), nm_r (e' := upd ou L (nI (c % (b + 1)))) ?_ (nm_r (nI_1 L) (nm_r (pk_m1 d) (cs_y405n post hp)))⟩))
  · rw [hb, nI_1]
    exact nI_ne0 (by omega) (by omega)
  · rw [eL, hb, nI_1, er]
theorem cs_gy2 {d nd n i fuel : Nat} (hd : d < 16) (hnd : nd < n) (hn : n ≤ 16) (hi : i < 8192) (h1 : sN d = nI nd) (hk : gk nd = 3) (hs : sS d = nI 0) (hc : nd + 1 < n) (post : Int32 → SY → Prop) (hp : wY_generate_50 post fuel (nI (d + 1 + 1)) (nI (i + 1)) pr cp ph (nI n) gp oc ml cl ol vl tr ac ca pa bk ix cL cH im yn yl yt yr yo gk gb po yA mn cu og vl_ cd ou (upd sN (d + 1) (nI (nd + 1))) (upd (upd sS d (nI 1)) (d + 1) (nI 0)) sQ sM sk) : wY_generate_50 post (fuel + 1) (nI (d + 1)) (nI i) pr cp ph (nI n) gp oc ml cl ol vl tr ac ca pa bk ix cL cH im yn yl yt yr yo gk gb po yA mn cu og vl_ cd ou sN sS sQ sM sk := by
  have ed : (nI d).toNatClampNeg = d := nI_clamp (by omega)
  have ew : (nI nd).toNatClampNeg = nd := nI_clamp (by omega)
  have hv : vp_in (nI d) 32 := vp_in_nI (by omega) (by omega)
  have hw : vp_in (nI nd) 16 := vp_in_nI (by omega) (by omega)
  exact br_f (nI_ge (b := 8192) hi (by decide)) (br_f (nI_nle (by omega) (by omega)) (nm_r (nI_pred d) ⟨hv, nm_r (e' := nI nd) (by rw [ed, h1]) ⟨hw, nm_r (e' := 3) (by rw [ew, hk]) (br_f (by decide) (br_t rfl ⟨hv, br_f (by rw [ed, hs]; decide) (nm_r (nI_1 nd) ⟨hv, br_f (by rw [ed, hs]; decide) ⟨hv, hv, nm_r (e' := upd sS d (nI 1)) (by rw [ed, hs]; rfl) (cs_y405c (by omega) hc hn post hp)⟩⟩)⟩))⟩⟩))
theorem cs_gy3 {d nd n i fuel : Nat} (hd : d < 16) (hnd : nd < n) (hn : n ≤ 16) (hi : i < 8192) (h1 : sN d = nI nd) (hk : gk nd = 3) {e : Nat} (hs : sS d = nI 1) (he : e < n) (H : ∀ k, k < n → 1 ≤ cs_D gk k ∧ (gk k = 1 ∨ gk k = 2 ∨ gk k = 3)) (hE : cs_E gk (nd + 1) e) (post : Int32 → SY → Prop) (hp : wY_generate_50 post fuel (nI (d + 1 + 1)) (nI (i + 1)) pr cp ph (nI n) gp oc ml cl ol vl tr ac ca pa bk ix cL cH im yn yl yt yr yo gk gb po yA mn cu og vl_ cd ou (upd sN (d + 1) (nI e)) (upd (upd sS d (nI 2)) (d + 1) (nI 0)) sQ sM sk) : wY_generate_50 post (fuel + 1) (nI (d + 1)) (nI i) pr cp ph (nI n) gp oc ml cl ol vl tr ac ca pa bk ix cL cH im yn yl yt yr yo gk gb po yA mn cu og vl_ cd ou sN sS sQ sM sk := by
  have ed : (nI d).toNatClampNeg = d := nI_clamp (by omega)
  have ew : (nI nd).toNatClampNeg = nd := nI_clamp (by omega)
  have hv : vp_in (nI d) 32 := vp_in_nI (by omega) (by omega)
  have hw : vp_in (nI nd) 16 := vp_in_nI (by omega) (by omega)
  refine br_f (nI_ge (b := 8192) hi (by decide)) (br_f (nI_nle (by omega) (by omega)) (nm_r (nI_pred d) ⟨hv, nm_r (e' := nI nd) (by rw [ed, h1]) ⟨hw, nm_r (e' := 3) (by rw [ew, hk]) (br_f (by decide) (br_t rfl ⟨hv, br_f (by rw [ed, hs]; decide) (nm_r (nI_1 nd) ⟨hv, br_t (by rw [ed, hs]; rfl) ?_⟩)⟩))⟩⟩))
  rw [nI_1]
  exact cs_ysub _ ⟨hv, hv, nm_r (e' := upd sS d (nI 2)) (by rw [ed, hs]; rfl) (cs_y405c (by omega) he hn post hp)⟩ hn (by omega) H hE
theorem cs_gy4 {d nd n i fuel : Nat} (hd : d < 16) (hnd : nd < n) (hn : n ≤ 16) (hi : i < 8192) (h1 : sN d = nI nd) (hk : gk nd = 3) (hs : sS d = nI 2) (post : Int32 → SY → Prop) (hp : wY_generate_50 post fuel (nI (d)) (nI (i + 1)) pr cp ph (nI n) gp oc ml cl ol vl tr ac ca pa bk ix cL cH im yn yl yt yr yo gk gb po yA mn cu og vl_ cd ou sN sS sQ sM sk) : wY_generate_50 post (fuel + 1) (nI (d + 1)) (nI i) pr cp ph (nI n) gp oc ml cl ol vl tr ac ca pa bk ix cL cH im yn yl yt yr yo gk gb po yA mn cu og vl_ cd ou sN sS sQ sM sk := by
  have ed : (nI d).toNatClampNeg = d := nI_clamp (by omega)
  have ew : (nI nd).toNatClampNeg = nd := nI_clamp (by omega)
  have hv : vp_in (nI d) 32 := vp_in_nI (by omega) (by omega)
  have hw : vp_in (nI nd) 16 := vp_in_nI (by omega) (by omega)
  exact br_f (nI_ge (b := 8192) hi (by decide)) (br_f (nI_nle (by omega) (by omega)) (nm_r (nI_pred d) ⟨hv, nm_r (e' := nI nd) (by rw [ed, h1]) ⟨hw, nm_r (e' := 3) (by rw [ew, hk]) (br_f (by decide) (br_t rfl ⟨hv, br_t (by rw [ed, hs]; rfl) (nm_r (pk_m1 d) (cs_y405n post hp))⟩))⟩⟩))
theorem cs_gy5F {d nd n i fuel : Nat} (hd : d < 16) (hnd : nd < n) (hn : n ≤ 16) (hi : i < 8192) (h1 : sN d = nI nd) (hk : gk nd = 2) (hs : sS d = nI 0) (post : Int32 → SY → Prop) (hp : post 0 (pr, cp, ph, nI n, gp, oc, ml, cl, ol, vl, tr, ac, ca, pa, bk, ix, cL, cH, im, yn, yl, yt, yr, nI 32, gk, gb, po, yA, mn, cu, og, vl_, cd, ou, sN, sS, sQ, sM, sk)) : wY_generate_50 post (fuel + 1) (nI (d + 1)) (nI i) pr cp ph (nI n) gp oc ml cl ol vl tr ac ca pa bk ix cL cH im yn yl yt yr (nI 32) gk gb po yA mn cu og vl_ cd ou sN sS sQ sM sk := by
  have ed : (nI d).toNatClampNeg = d := nI_clamp (by omega)
  have ew : (nI nd).toNatClampNeg = nd := nI_clamp (by omega)
  have hv : vp_in (nI d) 32 := vp_in_nI (by omega) (by omega)
  have hw : vp_in (nI nd) 16 := vp_in_nI (by omega) (by omega)
  exact br_f (nI_ge (b := 8192) hi (by decide)) (br_f (nI_nle (by omega) (by omega)) (nm_r (nI_pred d) ⟨hv, nm_r (e' := nI nd) (by rw [ed, h1]) ⟨hw, nm_r (e' := 2) (by rw [ew, hk]) (br_f (by decide) (br_f (by decide) ⟨hv, br_t (by rw [ed, hs]; rfl) (br_f (by decide) hp)⟩))⟩⟩))
theorem cs_gy5 {d nd n i fuel : Nat} (hd : d < 16) (hnd : nd < n) (hn : n ≤ 16) (hi : i < 8192) (h1 : sN d = nI nd) (hk : gk nd = 2) {L : Nat} (hL : L < 32) (hs : sS d = nI 0) (post : Int32 → SY → Prop) (hp : wY_generate_50 post fuel (nI (d + 1)) (nI (i + 1)) pr cp ph (nI n) gp oc ml cl ol vl tr ac ca pa bk ix cL cH im yn yl yt yr (nI (L + 1)) gk gb po yA mn cu og vl_ cd (upd ou L (nI 0)) sN (upd sS d (nI 1)) (upd sQ d (nI L)) (upd sM d (nI 0)) sk) : wY_generate_50 post (fuel + 1) (nI (d + 1)) (nI i) pr cp ph (nI n) gp oc ml cl ol vl tr ac ca pa bk ix cL cH im yn yl yt yr (nI L) gk gb po yA mn cu og vl_ cd ou sN sS sQ sM sk := by
  have ed : (nI d).toNatClampNeg = d := nI_clamp (by omega)
  have ew : (nI nd).toNatClampNeg = nd := nI_clamp (by omega)
  have hv : vp_in (nI d) 32 := vp_in_nI (by omega) (by omega)
  have hw : vp_in (nI nd) 16 := vp_in_nI (by omega) (by omega)
  have eL : (nI L).toNatClampNeg = L := nI_clamp (by omega)
  exact br_f (nI_ge (b := 8192) hi (by decide)) (br_f (nI_nle (by omega) (by omega)) (nm_r (nI_pred d) ⟨hv, nm_r (e' := nI nd) (by rw [ed, h1]) ⟨hw, nm_r (e' := 2) (by rw [ew, hk]) (br_f (by decide) (br_f (by decide) ⟨hv, br_t (by rw [ed, hs]; rfl) (br_t (nI_lt (b := 32) hL (by decide)) ⟨hv, nm_r (e' := upd sQ d (nI L)) (by rw [ed]) ⟨vp_in_nI hL (by omega), nm_r (e' := upd ou L (nI 0)) (by rw [eL]; rfl) (nm_r (nI_1 L) ⟨hv, nm_r (e' := upd sM d (nI 0)) (by rw [ed]; rfl) ⟨hv, nm_r (e' := upd sS d (nI 1)) (by rw [ed]; rfl) (cs_y405n post hp)⟩⟩)⟩⟩)⟩))⟩⟩))
theorem cs_gy6 {d nd n i fuel : Nat} (hd : d < 16) (hnd : nd < n) (hn : n ≤ 16) (hi : i < 8192) (h1 : sN d = nI nd) (hk : gk nd = 2) {m : Nat} (hs : sS d = nI 2) (hm : sM d = nI m) (post : Int32 → SY → Prop) (hp : wY_generate_50 post fuel (nI (d + 1)) (nI (i + 1)) pr cp ph (nI n) gp oc ml cl ol vl tr ac ca pa bk ix cL cH im yn yl yt yr yo gk gb po yA mn cu og vl_ cd ou sN (upd sS d (nI 1)) sQ (upd sM d (nI (m + 1))) sk) : wY_generate_50 post (fuel + 1) (nI (d + 1)) (nI i) pr cp ph (nI n) gp oc ml cl ol vl tr ac ca pa bk ix cL cH im yn yl yt yr yo gk gb po yA mn cu og vl_ cd ou sN sS sQ sM sk := by
  have ed : (nI d).toNatClampNeg = d := nI_clamp (by omega)
  have ew : (nI nd).toNatClampNeg = nd := nI_clamp (by omega)
  have hv : vp_in (nI d) 32 := vp_in_nI (by omega) (by omega)
  have hw : vp_in (nI nd) 16 := vp_in_nI (by omega) (by omega)
  exact br_f (nI_ge (b := 8192) hi (by decide)) (br_f (nI_nle (by omega) (by omega)) (nm_r (nI_pred d) ⟨hv, nm_r (e' := nI nd) (by rw [ed, h1]) ⟨hw, nm_r (e' := 2) (by rw [ew, hk]) (br_f (by decide) (br_f (by decide) ⟨hv, br_f (by rw [ed, hs]; decide) ⟨hv, br_t (by rw [ed, hs]; rfl) ⟨hv, hv, nm_r (e' := upd sM d (nI (m + 1))) (by rw [ed, hm, nI_1]) ⟨hv, nm_r (e' := upd sS d (nI 1)) (by rw [ed]; rfl) (cs_y405n post hp)⟩⟩⟩⟩))⟩⟩))
theorem cs_gy7 {d nd n i fuel : Nat} (hd : d < 16) (hnd : nd < n) (hn : n ≤ 16) (hi : i < 8192) (h1 : sN d = nI nd) (hk : gk nd = 2) {q m : Nat} (hq : q < 32) (hs : sS d = nI 1) (hQ : sQ d = nI q) (hm : sM d = nI m) (h8 : m = 8) (post : Int32 → SY → Prop) (hp : wY_generate_50 post fuel (nI (d)) (nI (i + 1)) pr cp ph (nI n) gp oc ml cl ol vl tr ac ca pa bk ix cL cH im yn yl yt yr yo gk gb po yA mn cu og vl_ cd (upd ou q (nI m)) sN sS sQ sM sk) : wY_generate_50 post (fuel + 1) (nI (d + 1)) (nI i) pr cp ph (nI n) gp oc ml cl ol vl tr ac ca pa bk ix cL cH im yn yl yt yr yo gk gb po yA mn cu og vl_ cd ou sN sS sQ sM sk := by
  have ed : (nI d).toNatClampNeg = d := nI_clamp (by omega)
  have ew : (nI nd).toNatClampNeg = nd := nI_clamp (by omega)
  have hv : vp_in (nI d) 32 := vp_in_nI (by omega) (by omega)
  have hw : vp_in (nI nd) 16 := vp_in_nI (by omega) (by omega)
  have eq : (nI q).toNatClampNeg = q := nI_clamp (by omega)
  exact br_f (nI_ge (b := 8192) hi (by decide)) (br_f (nI_nle (by omega) (by omega)) (nm_r (nI_pred d) ⟨hv, nm_r (e' := nI nd) (by rw [ed, h1]) ⟨hw, nm_r (e' := 2) (by rw [ew, hk]) (br_f (by decide) (br_f (by decide) ⟨hv, br_f (by rw [ed, hs]; decide) ⟨hv, br_f (by rw [ed, hs]; decide) ⟨hv, br_t (by rw [ed, hm, h8]; rfl) (br_f (by decide) (br_f (by decide) ⟨hv, hv, by rw [ed, hQ]; exact vp_in_nI hq (by omega), nm_r (e' := upd ou q (nI m)) (by rw [ed, hQ, hm, eq]) (nm_r (pk_m1 d) (cs_y405n post hp))⟩))⟩⟩⟩))⟩⟩))
theorem cs_gy7t {d nd n i fuel : Nat} (hd : d < 16) (hnd : nd < n) (hn : n ≤ 16) (hi : i < 8192) (h1 : sN d = nI nd) (hk : gk nd = 2) {q m : Nat} (hq : q < 32) (hs : sS d = nI 1) (hQ : sQ d = nI q) (hm : sM d = nI m) (hm8 : m < 8) (hY : ∀ p : Int32 → SY → Prop, p (nI 0) (pr', cp, ph, nI n, gp, oc, ml, cl, ol, vl, tr, ac, ca, pa, bk, ix, cL, cH, im, yn, yl', yt', yr, yo, gk, gb, po, yA, mn, cu, og, vl_, cd', ou, sN, sS, sQ, sM, sk) → wpY_take p (pr, cp, ph, nI n, gp, oc, ml, cl, ol, vl, tr, ac, ca, pa, bk, ix, cL, cH, im, yn, yl, yt, yr, yo, gk, gb, po, yA, mn, cu, og, vl_, cd, ou, sN, sS, sQ, sM, sk) (-1)) (post : Int32 → SY → Prop) (hp : wY_generate_50 post fuel (nI (d)) (nI (i + 1)) pr' cp ph (nI n) gp oc ml cl ol vl tr ac ca pa bk ix cL cH im yn yl' yt' yr yo gk gb po yA mn cu og vl_ cd' (upd ou q (nI m)) sN sS sQ sM sk) : wY_generate_50 post (fuel + 1) (nI (d + 1)) (nI i) pr cp ph (nI n) gp oc ml cl ol vl tr ac ca pa bk ix cL cH im yn yl yt yr yo gk gb po yA mn cu og vl_ cd ou sN sS sQ sM sk := by
  have ed : (nI d).toNatClampNeg = d := nI_clamp (by omega)
  have ew : (nI nd).toNatClampNeg = nd := nI_clamp (by omega)
  have hv : vp_in (nI d) 32 := vp_in_nI (by omega) (by omega)
  have hw : vp_in (nI nd) 16 := vp_in_nI (by omega) (by omega)
  have eq : (nI q).toNatClampNeg = q := nI_clamp (by omega)
  have h8 : ¬ nI m = 8 := fun z => absurd ((nI_eq (b := 8) (by omega) (by decide)).mp z) (by omega)
  exact br_f (nI_ge (b := 8192) hi (by decide)) (br_f (nI_nle (by omega) (by omega)) (nm_r (nI_pred d) ⟨hv, nm_r (e' := nI nd) (by rw [ed, h1]) ⟨hw, nm_r (e' := 2) (by rw [ew, hk]) (br_f (by decide) (br_f (by decide) ⟨hv, br_f (by rw [ed, hs]; decide) ⟨hv, br_f (by rw [ed, hs]; decide) ⟨hv, br_f (by rw [ed, hm]; exact h8) (br_t rfl (hY _ (br_t (by decide) (br_t rfl (br_f (by decide) ⟨hv, hv, by rw [ed, hQ]; exact vp_in_nI hq (by omega), nm_r (e' := upd ou q (nI m)) (by rw [ed, hQ, hm, eq]) (nm_r (pk_m1 d) (cs_y405n post hp))⟩)))))⟩⟩⟩))⟩⟩))
theorem cs_gy8 {d nd n i fuel : Nat} (hd : d < 16) (hnd : nd < n) (hn : n ≤ 16) (hi : i < 8192) (h1 : sN d = nI nd) (hk : gk nd = 2) {m c : Nat} (hs : sS d = nI 1) (hm : sM d = nI m) (hm8 : m < 8) (hc : c < 256) (hc0 : c ≠ 0) (hch : nd + 1 < n) (hY : ∀ p : Int32 → SY → Prop, p (nI c) (pr', cp, ph, nI n, gp, oc, ml, cl, ol, vl, tr, ac, ca, pa, bk, ix, cL, cH, im, yn, yl', yt', yr, yo, gk, gb, po, yA, mn, cu, og, vl_, cd', ou, sN, sS, sQ, sM, sk) → wpY_take p (pr, cp, ph, nI n, gp, oc, ml, cl, ol, vl, tr, ac, ca, pa, bk, ix, cL, cH, im, yn, yl, yt, yr, yo, gk, gb, po, yA, mn, cu, og, vl_, cd, ou, sN, sS, sQ, sM, sk) (-1)) (post : Int32 → SY → Prop) (hp : wY_generate_50 post fuel (nI (d + 1 + 1)) (nI (i + 1)) pr' cp ph (nI n) gp oc ml cl ol vl tr ac ca pa bk ix cL cH im yn yl' yt' yr yo gk gb po yA mn cu og vl_ cd' ou (upd sN (d + 1) (nI (nd + 1))) (upd (upd sS d (nI 2)) (d + 1) (nI 0)) sQ sM sk) : wY_generate_50 post (fuel + 1) (nI (d + 1)) (nI i) pr cp ph (nI n) gp oc ml cl ol vl tr ac ca pa bk ix cL cH im yn yl yt yr yo gk gb po yA mn cu og vl_ cd ou sN sS sQ sM sk := by
  have ed : (nI d).toNatClampNeg = d := nI_clamp (by omega)
  have ew : (nI nd).toNatClampNeg = nd := nI_clamp (by omega)
  have hv : vp_in (nI d) 32 := vp_in_nI (by omega) (by omega)
  have hw : vp_in (nI nd) 16 := vp_in_nI (by omega) (by omega)
  have h8 : ¬ nI m = 8 := fun z => absurd ((nI_eq (b := 8) (by omega) (by decide)).mp z) (by omega)
  exact br_f (nI_ge (b := 8192) hi (by decide)) (br_f (nI_nle (by omega) (by omega)) (nm_r (nI_pred d) ⟨hv, nm_r (e' := nI nd) (by rw [ed, h1]) ⟨hw, nm_r (e' := 2) (by rw [ew, hk]) (br_f (by decide) (br_f (by decide) ⟨hv, br_f (by rw [ed, hs]; decide) ⟨hv, br_f (by rw [ed, hs]; decide) ⟨hv, br_f (by rw [ed, hm]; exact h8) (br_t rfl (hY _ (br_t (nI_pos' (by omega)) (br_f (nI_ne0 (by omega) (by omega)) (br_t rfl ⟨hv, nm_r (e' := upd sS d (nI 2)) (by rw [ed]; rfl) (nm_r (nI_1 nd) (cs_y405c (by omega) hch hn post hp))⟩)))))⟩⟩⟩))⟩⟩))
theorem cs_gy8F {d nd n i fuel : Nat} (hd : d < 16) (hnd : nd < n) (hn : n ≤ 16) (hi : i < 8192) (h1 : sN d = nI nd) (hk : gk nd = 2) {m : Nat} (hs : sS d = nI 1) (hm : sM d = nI m) (hm8 : m < 8) (hY : ∀ p : Int32 → SY → Prop, p (-1) (pr', cp, ph, nI n, gp, oc, ml, cl, ol, vl, tr, ac, ca, pa, bk, ix, cL, cH, im, yn, yl', yt', yr, yo, gk, gb, po, yA, mn, cu, og, vl_, cd', ou, sN, sS, sQ, sM, sk) → wpY_take p (pr, cp, ph, nI n, gp, oc, ml, cl, ol, vl, tr, ac, ca, pa, bk, ix, cL, cH, im, yn, yl, yt, yr, yo, gk, gb, po, yA, mn, cu, og, vl_, cd, ou, sN, sS, sQ, sM, sk) (-1)) (post : Int32 → SY → Prop) (hp : post 0 (pr', cp, ph, nI n, gp, oc, ml, cl, ol, vl, tr, ac, ca, pa, bk, ix, cL, cH, im, yn, yl', yt', yr, yo, gk, gb, po, yA, mn, cu, og, vl_, cd', ou, sN, sS, sQ, sM, sk)) : wY_generate_50 post (fuel + 1) (nI (d + 1)) (nI i) pr cp ph (nI n) gp oc ml cl ol vl tr ac ca pa bk ix cL cH im yn yl yt yr yo gk gb po yA mn cu og vl_ cd ou sN sS sQ sM sk := by
  have ed : (nI d).toNatClampNeg = d := nI_clamp (by omega)
  have ew : (nI nd).toNatClampNeg = nd := nI_clamp (by omega)
  have hv : vp_in (nI d) 32 := vp_in_nI (by omega) (by omega)
  have hw : vp_in (nI nd) 16 := vp_in_nI (by omega) (by omega)
  have h8 : ¬ nI m = 8 := fun z => absurd ((nI_eq (b := 8) (by omega) (by decide)).mp z) (by omega)
  exact br_f (nI_ge (b := 8192) hi (by decide)) (br_f (nI_nle (by omega) (by omega)) (nm_r (nI_pred d) ⟨hv, nm_r (e' := nI nd) (by rw [ed, h1]) ⟨hw, nm_r (e' := 2) (by rw [ew, hk]) (br_f (by decide) (br_f (by decide) ⟨hv, br_f (by rw [ed, hs]; decide) ⟨hv, br_f (by rw [ed, hs]; decide) ⟨hv, br_f (by rw [ed, hm]; exact h8) (br_t rfl (hY _ (br_f (by decide) hp)))⟩⟩⟩))⟩⟩))
end
end
section
def cs_con (cp ph gc gp oc ml cl ol vl tr ac ca pa bk ix cL cH im dr sd yn : Int32) (gk gb ge po oa mn cu og vl_ sk yA : Nat → Int32) (lim M n : Nat) (en : Nat → Nat) (F : List cs_Fr) (t L : Nat) (pr yl : Int32) (tp ce lN lC cd ou sN sS sQ sM : Nat → Int32) : Prop :=
  ∃ (r pr' tk' cc' ld' yl' yt' yo' : Int32) (tp' ce' lN' lC' cd' ou' sN' sS' sQ' sM' : Nat → Int32), cs_fin r tk' cc' yt' yo' tp' ce' cd' ou' ∧
  (∀ (post : Int32 → SX → Prop) (fuel st : Nat), M < fuel → st + M < 1000000 → post r (cp, pr', ph, gc, gp, oc, ml, cl, ol, vl, tr, ac, ca, pa, bk, ix, cL, cH, im, nI lim, tk', dr, cc', ld', sd, gk, gb, ge, po, oa, mn, cu, og, vl_, tp', ce', lN', lC', sk) → wX_generate_19 post fuel (nI (cs_pos gk en n F)) (nI st) cp pr ph gc gp oc ml cl ol vl tr ac ca pa bk ix cL cH im (nI lim) (nI t) dr (nI L) (nI (cs_L gk F).length) sd gk gb ge po oa mn cu og vl_ tp ce lN lC sk) ∧
  (∀ (post : Int32 → SY → Prop) (fuel i : Nat), M < fuel → i + M ≤ 8192 → post r (pr', cp, ph, gc, gp, oc, ml, cl, ol, vl, tr, ac, ca, pa, bk, ix, cL, cH, im, yn, yl', yt', dr, yo', gk, gb, po, yA, mn, cu, og, vl_, cd', ou', sN', sS', sQ', sM', sk) → wY_generate_50 post fuel (nI F.length) (nI i) pr cp ph gc gp oc ml cl ol vl tr ac ca pa bk ix cL cH im yn yl (nI t) dr (nI L) gk gb po yA mn cu og vl_ cd ou sN sS sQ sM sk)
section
variable {cp pr ph gc gp oc ml cl ol vl tr ac ca pa bk ix cL cH im tl tk dr cc ld sd yn yl yt yr yo : Int32} {gk gb ge po oa mn cu og vl_ tp ce lN lC sk yA cd ou sN sS sQ sM : Nat → Int32}
variable {lim M n t L t2 L2 : Nat} {en : Nat → Nat} {F F2 : List cs_Fr} {pr2 yl2 : Int32} {tp2 ce2 lN2 lC2 cd2 ou2 sN2 sS2 sQ2 sM2 : Nat → Int32}
theorem cs_conT (h : cs_con cp ph gc gp oc ml cl ol vl tr ac ca pa bk ix cL cH im dr sd yn gk gb ge po oa mn cu og vl_ sk yA lim M n en F2 t2 L2 pr2 yl2 tp2 ce2 lN2 lC2 cd2 ou2 sN2 sS2 sQ2 sM2)
    (hx : ∀ (post : Int32 → SX → Prop) (fuel st : Nat), st < 1000000 → wX_generate_19 post fuel (nI (cs_pos gk en n F2)) (nI (st + 1)) cp pr2 ph gc gp oc ml cl ol vl tr ac ca pa bk ix cL cH im (nI lim) (nI t2) dr (nI L2) (nI (cs_L gk F2).length) sd gk gb ge po oa mn cu og vl_ tp2 ce2 lN2 lC2 sk → wX_generate_19 post (fuel + 1) (nI (cs_pos gk en n F)) (nI st) cp pr ph gc gp oc ml cl ol vl tr ac ca pa bk ix cL cH im (nI lim) (nI t) dr (nI L) (nI (cs_L gk F).length) sd gk gb ge po oa mn cu og vl_ tp ce lN lC sk)
    (hy : ∀ (post : Int32 → SY → Prop) (fuel i : Nat), i < 8192 → wY_generate_50 post fuel (nI F2.length) (nI (i + 1)) pr2 cp ph gc gp oc ml cl ol vl tr ac ca pa bk ix cL cH im yn yl2 (nI t2) dr (nI L2) gk gb po yA mn cu og vl_ cd2 ou2 sN2 sS2 sQ2 sM2 sk → wY_generate_50 post (fuel + 1) (nI F.length) (nI i) pr cp ph gc gp oc ml cl ol vl tr ac ca pa bk ix cL cH im yn yl (nI t) dr (nI L) gk gb po yA mn cu og vl_ cd ou sN sS sQ sM sk) :
    cs_con cp ph gc gp oc ml cl ol vl tr ac ca pa bk ix cL cH im dr sd yn gk gb ge po oa mn cu og vl_ sk yA lim (M + 1) n en F t L pr yl tp ce lN lC cd ou sN sS sQ sM := by
  obtain ⟨r, pr', tk', cc', ld', yl', yt', yo', tp', ce', lN', lC', cd', ou', sN', sS', sQ', sM', hf, HX, HY⟩ := h
  refine ⟨r, pr', tk', cc', ld', yl', yt', yo', tp', ce', lN', lC', cd', ou', sN', sS', sQ', sM', hf, fun post fuel st h1 h2 hp => ?_, fun post fuel i h1 h2 hp => ?_⟩
  · obtain ⟨f, rfl⟩ : ∃ f, fuel = f + 1 := ⟨fuel - 1, by omega⟩
    exact hx post f st (by omega) (HX post f (st + 1) (by omega) (by omega) hp)
  · obtain ⟨f, rfl⟩ : ∃ f, fuel = f + 1 := ⟨fuel - 1, by omega⟩
    exact hy post f i (by omega) (HY post f (i + 1) (by omega) (by omega) hp)
theorem cs_conS (h : cs_con cp ph gc gp oc ml cl ol vl tr ac ca pa bk ix cL cH im dr sd yn gk gb ge po oa mn cu og vl_ sk yA lim M n en F2 t L pr yl tp ce lN lC cd ou2 sN2 sS2 sQ2 sM2) (h1 : cs_pos gk en n F2 = cs_pos gk en n F) (h2 : (cs_L gk F2).length = (cs_L gk F).length)
    (hy : ∀ (post : Int32 → SY → Prop) (fuel i : Nat), i < 8192 → wY_generate_50 post fuel (nI F2.length) (nI (i + 1)) pr cp ph gc gp oc ml cl ol vl tr ac ca pa bk ix cL cH im yn yl (nI t) dr (nI L) gk gb po yA mn cu og vl_ cd ou2 sN2 sS2 sQ2 sM2 sk → wY_generate_50 post (fuel + 1) (nI F.length) (nI i) pr cp ph gc gp oc ml cl ol vl tr ac ca pa bk ix cL cH im yn yl (nI t) dr (nI L) gk gb po yA mn cu og vl_ cd ou sN sS sQ sM sk) :
    cs_con cp ph gc gp oc ml cl ol vl tr ac ca pa bk ix cL cH im dr sd yn gk gb ge po oa mn cu og vl_ sk yA lim (M + 1) n en F t L pr yl tp ce lN lC cd ou sN sS sQ sM := by
  obtain ⟨r, pr', tk', cc', ld', yl', yt', yo', tp', ce', lN', lC', cd', ou', sN', sS', sQ', sM', hf, HX, HY⟩ := h
  refine ⟨r, pr', tk', cc', ld', yl', yt', yo', tp', ce', lN', lC', cd', ou', sN', sS', sQ', sM', hf, fun post fuel st h3 h4 hp => ?_, fun post fuel i h3 h4 hp => ?_⟩
  · rw [← h1, ← h2]
    exact HX post fuel st (by omega) (by omega) hp
  · obtain ⟨f, rfl⟩ : ∃ f, fuel = f + 1 := ⟨fuel - 1, by omega⟩
    exact hy post f i (by omega) (HY post f (i + 1) (by omega) (by omega) hp)
end
end
section
section
variable {cp pr ph gc gp oc ml cl ol vl tr ac ca pa bk ix cL cH im tl tk dr cc ld sd yn yl yt yr yo : Int32} {gk gb ge po oa mn cu og vl_ tp ce lN lC sk yA cd ou sN sS sQ sM : Nat → Int32}
variable {lim M n t L nd q m : Nat} {en : Nat → Nat} {fs : List cs_Fr}
theorem cs_c1 (G : cs_G gk en n) (hge : ∀ j, j < n → ge j = nI (en j)) (hgb : ∀ j, j < n → ∃ b : Nat, b < 256 ∧ gb j = nI b) (hc : dr ≠ 0 → cp = nI lim)
    (ih : ∀ (F : List cs_Fr) (t L : Nat) (pr yl : Int32) (tp ce lN lC cd ou sN sS sQ sM : Nat → Int32), cs_mu gk en n lim t F < M → cs_S gk en n F L ce ou sN sS sQ sM lN lC → L ≤ 32 → cs_T dr yl lim t tp cd → cs_con cp ph (nI n) gp oc ml cl ol vl tr ac ca pa bk ix cL cH im dr sd yn gk gb ge po oa mn cu og vl_ sk yA lim M n en F t L pr yl tp ce lN lC cd ou sN sS sQ sM)
    (hmu : cs_mu gk en n lim t ((nd, 0, q, m) :: fs) < M + 1) (hS : cs_S gk en n ((nd, 0, q, m) :: fs) L ce ou sN sS sQ sM lN lC) (hL : L ≤ 32) (hT : cs_T dr yl lim t tp cd) (k : gk nd = 1) : cs_con cp ph (nI n) gp oc ml cl ol vl tr ac ca pa bk ix cL cH im dr sd yn gk gb ge po oa mn cu og vl_ sk yA lim (M + 1) n en ((nd, 0, q, m) :: fs) t L pr yl tp ce lN lC cd ou sN sS sQ sM := by
  have n16 := G.2.1
  obtain ⟨hn, hfl, hN, hs, _⟩ := cs_tf G hS
  obtain ⟨_, _, hll, hz⟩ := cs_nz G hS
  obtain ⟨b, hb2, hb⟩ := hgb nd hn
  have e0 : cs_pos gk en n ((nd, 0, q, m) :: fs) = nd := cs_p0 gk en n nd q m fs
  have e1 : cs_L gk ((nd, 0, q, m) :: fs) = cs_L gk fs := cs_L0 gk nd q m fs
  rcases cs_take (cp := cp) (pr := pr) (ph := ph) (gc := nI n) (gp := gp) (oc := oc) (ml := ml) (cl := cl) (ol := ol) (vl := vl) (tr := tr) (ac := ac) (ca := ca) (pa := pa) (bk := bk) (ix := ix) (cL := cL) (cH := cH) (im := im) (dr := dr) (cc := nI L) (ld := nI (cs_L gk fs).length) (sd := sd) (gk := gk) (gb := gb) (ge := ge) (po := po) (oa := oa) (mn := mn) (cu := cu) (og := og) (vl_ := vl_) (tp := tp) (ce := ce) (lN := lN) (lC := lC) (sk := sk) (yn := yn) (yl := yl) (yo := nI L) (yA := yA) (cd := cd) (ou := ou) (sN := sN) (sS := sS) (sQ := sQ) (sM := sM) (w := b + 1) (lim := lim) (t := t) (b := nI b) (by omega) (by omega) (Or.inl rfl) hc hT with ⟨ht, hX, hY⟩ | ⟨ht, c, pr', yl', tp', cd', hc2, hT', hX, hY⟩
  · refine ⟨0, pr, nI t, nI L, nI (cs_L gk fs).length, yl, nI t, nI L, tp, ce, lN, lC, cd, ou, sN, sS, sQ, sM, Or.inl rfl, fun post fuel st h1 h2 hp => ?_, fun post fuel i h1 h2 hp => ?_⟩
    · obtain ⟨f, rfl⟩ : ∃ f, fuel = f + 1 + 1 := ⟨fuel - 2, by omega⟩
      rw [e0, e1]
      exact cs_gxJ (by omega) hn n16 hge hz post (cs_gxI hn n16 k post (fun p h => cs_xgi0 (by omega) hb p hX h) (cs_gxF (by omega) post hp))
    · obtain ⟨f, rfl⟩ : ∃ f, fuel = f + 1 := ⟨fuel - 1, by omega⟩
      rw [List.length_cons]
      exact cs_gy1F (by omega) hn n16 (by omega) hN k hb hY post hp
  · by_cases hL2 : L < 32
    · obtain ⟨S', m', p'⟩ := cs_t1 G k hS (nI (c % (b + 1))) lim t ht
      refine cs_conT (ih fs (t + 1) (L + 1) pr' yl' tp' (upd ce L (nI (c % (b + 1)))) lN lC cd' (upd ou L (nI (c % (b + 1)))) sN sS sQ sM (by omega) S' (by omega) hT') (fun post fuel st h1 h2 => ?_) (fun post fuel i h1 h2 => ?_)
      · rw [e0, e1]
        rw [p'] at h2
        exact cs_gxJ h1 hn n16 hge hz post (cs_gxI hn n16 k post (fun p h => cs_xgi2 (by omega) hb hb2 hc2 hL2 p hX h) h2)
      · rw [List.length_cons]
        exact cs_gy1 (by omega) hn n16 h1 hN k hb hb2 hc2 hL2 hY post h2
    · have z : L = 32 := by omega
      subst z
      refine ⟨0, pr', nI (t + 1), nI 32, nI (cs_L gk fs).length, yl', nI (t + 1), nI 32, tp', ce, lN, lC, cd', ou, sN, sS, sQ, sM, Or.inl rfl, fun post fuel st h1 h2 hp => ?_, fun post fuel i h1 h2 hp => ?_⟩
      · obtain ⟨f, rfl⟩ : ∃ f, fuel = f + 1 + 1 := ⟨fuel - 2, by omega⟩
        rw [e0, e1]
        exact cs_gxJ (by omega) hn n16 hge hz post (cs_gxI hn n16 k post (fun p h => cs_xgi1 (by omega) hb hb2 hc2 p hX h) (cs_gxF (by omega) post hp))
      · obtain ⟨f, rfl⟩ : ∃ f, fuel = f + 1 := ⟨fuel - 1, by omega⟩
        rw [List.length_cons]
        exact cs_gy1G (by omega) hn n16 (by omega) hN k hb hc2 hY post hp
theorem cs_c2 (G : cs_G gk en n) (hge : ∀ j, j < n → ge j = nI (en j)) (hgb : ∀ j, j < n → ∃ b : Nat, b < 256 ∧ gb j = nI b) (hc : dr ≠ 0 → cp = nI lim)
    (ih : ∀ (F : List cs_Fr) (t L : Nat) (pr yl : Int32) (tp ce lN lC cd ou sN sS sQ sM : Nat → Int32), cs_mu gk en n lim t F < M → cs_S gk en n F L ce ou sN sS sQ sM lN lC → L ≤ 32 → cs_T dr yl lim t tp cd → cs_con cp ph (nI n) gp oc ml cl ol vl tr ac ca pa bk ix cL cH im dr sd yn gk gb ge po oa mn cu og vl_ sk yA lim M n en F t L pr yl tp ce lN lC cd ou sN sS sQ sM)
    (hmu : cs_mu gk en n lim t ((nd, 0, q, m) :: fs) < M + 1) (hS : cs_S gk en n ((nd, 0, q, m) :: fs) L ce ou sN sS sQ sM lN lC) (hL : L ≤ 32) (hT : cs_T dr yl lim t tp cd) (k : gk nd = 3) : cs_con cp ph (nI n) gp oc ml cl ol vl tr ac ca pa bk ix cL cH im dr sd yn gk gb ge po oa mn cu og vl_ sk yA lim (M + 1) n en ((nd, 0, q, m) :: fs) t L pr yl tp ce lN lC cd ou sN sS sQ sM := by
  have n16 := G.2.1
  obtain ⟨hn, hfl, hN, hs, _⟩ := cs_tf G hS
  obtain ⟨_, _, hll, hz⟩ := cs_nz G hS
  have e0 : cs_pos gk en n ((nd, 0, q, m) :: fs) = nd := cs_p0 gk en n nd q m fs
  have e1 : cs_L gk ((nd, 0, q, m) :: fs) = cs_L gk fs := cs_L0 gk nd q m fs
  obtain ⟨S', m', p'⟩ := cs_t2 G k hS lim t
  have e2 : cs_pos gk en n ((nd + 1, 0, 0, 0) :: (nd, 1, q, m) :: fs) = nd + 1 := cs_p0 gk en n (nd + 1) 0 0 _
  have e3 : cs_L gk ((nd + 1, 0, 0, 0) :: (nd, 1, q, m) :: fs) = cs_L gk fs := (cs_L0 gk (nd + 1) 0 0 _).trans (cs_L3 k 1 q m fs)
  refine cs_conT (ih _ t L pr yl tp ce lN lC cd ou _ _ sQ sM (by omega) S' hL hT) (fun post fuel st h1 h2 => ?_) (fun post fuel i h1 h2 => ?_)
  · rw [e0, e1]
    rw [e2, e3] at h2
    exact cs_gxJ h1 hn n16 hge hz post (cs_gxP hn n16 k post h2)
  · rw [List.length_cons]
    rw [List.length_cons, List.length_cons] at h2
    exact cs_gy2 (by omega) hn n16 h1 hN k hs p' post h2
theorem cs_c3 (G : cs_G gk en n) (hge : ∀ j, j < n → ge j = nI (en j)) (hgb : ∀ j, j < n → ∃ b : Nat, b < 256 ∧ gb j = nI b) (hc : dr ≠ 0 → cp = nI lim)
    (ih : ∀ (F : List cs_Fr) (t L : Nat) (pr yl : Int32) (tp ce lN lC cd ou sN sS sQ sM : Nat → Int32), cs_mu gk en n lim t F < M → cs_S gk en n F L ce ou sN sS sQ sM lN lC → L ≤ 32 → cs_T dr yl lim t tp cd → cs_con cp ph (nI n) gp oc ml cl ol vl tr ac ca pa bk ix cL cH im dr sd yn gk gb ge po oa mn cu og vl_ sk yA lim M n en F t L pr yl tp ce lN lC cd ou sN sS sQ sM)
    (hmu : cs_mu gk en n lim t ((nd, 1, q, m) :: fs) < M + 1) (hS : cs_S gk en n ((nd, 1, q, m) :: fs) L ce ou sN sS sQ sM lN lC) (hL : L ≤ 32) (hT : cs_T dr yl lim t tp cd) (k : gk nd = 3) : cs_con cp ph (nI n) gp oc ml cl ol vl tr ac ca pa bk ix cL cH im dr sd yn gk gb ge po oa mn cu og vl_ sk yA lim (M + 1) n en ((nd, 1, q, m) :: fs) t L pr yl tp ce lN lC cd ou sN sS sQ sM := by
  have n16 := G.2.1
  obtain ⟨hn, hfl, hN, hs, _⟩ := cs_tf G hS
  obtain ⟨S', m', p1, p2⟩ := cs_t3 G k hS lim t
  have e3 : cs_L gk ((en (nd + 1), 0, 0, 0) :: (nd, 2, q, m) :: fs) = cs_L gk ((nd, 1, q, m) :: fs) := ((cs_L0 gk _ 0 0 _).trans (cs_L3 k 2 q m fs)).trans (cs_L3 k 1 q m fs).symm
  have hp := cs_par G hn k
  have H := G.2.2.2
  refine cs_conS (ih _ t L pr yl tp ce lN lC cd ou _ _ sQ sM (by omega) S' hL hT) p2 (by rw [e3]) (fun post fuel i h1 h2 => ?_)
  rw [List.length_cons]
  rw [List.length_cons, List.length_cons] at h2
  exact cs_gy3 (by omega) hn n16 h1 hN k hs p1 (fun j hj => ⟨(H j hj).1, (H j hj).2.2⟩) (H (nd + 1) hp.1).2.1 post h2
theorem cs_c4 (G : cs_G gk en n) (hge : ∀ j, j < n → ge j = nI (en j)) (hgb : ∀ j, j < n → ∃ b : Nat, b < 256 ∧ gb j = nI b) (hc : dr ≠ 0 → cp = nI lim)
    (ih : ∀ (F : List cs_Fr) (t L : Nat) (pr yl : Int32) (tp ce lN lC cd ou sN sS sQ sM : Nat → Int32), cs_mu gk en n lim t F < M → cs_S gk en n F L ce ou sN sS sQ sM lN lC → L ≤ 32 → cs_T dr yl lim t tp cd → cs_con cp ph (nI n) gp oc ml cl ol vl tr ac ca pa bk ix cL cH im dr sd yn gk gb ge po oa mn cu og vl_ sk yA lim M n en F t L pr yl tp ce lN lC cd ou sN sS sQ sM)
    (hmu : cs_mu gk en n lim t ((nd, 2, q, m) :: fs) < M + 1) (hS : cs_S gk en n ((nd, 2, q, m) :: fs) L ce ou sN sS sQ sM lN lC) (hL : L ≤ 32) (hT : cs_T dr yl lim t tp cd) (k : gk nd = 3) : cs_con cp ph (nI n) gp oc ml cl ol vl tr ac ca pa bk ix cL cH im dr sd yn gk gb ge po oa mn cu og vl_ sk yA lim (M + 1) n en ((nd, 2, q, m) :: fs) t L pr yl tp ce lN lC cd ou sN sS sQ sM := by
  have n16 := G.2.1
  obtain ⟨hn, hfl, hN, hs, _⟩ := cs_tf G hS
  obtain ⟨S', m', p2⟩ := cs_t4 G k hS lim t
  have e3 : cs_L gk fs = cs_L gk ((nd, 2, q, m) :: fs) := (cs_L3 k 2 q m fs).symm
  refine cs_conS (ih _ t L pr yl tp ce lN lC cd ou _ _ sQ sM (by omega) S' hL hT) p2 (by rw [e3]) (fun post fuel i h1 h2 => ?_)
  rw [List.length_cons]
  exact cs_gy4 (by omega) hn n16 h1 hN k hs post h2
theorem cs_c5 (G : cs_G gk en n) (hge : ∀ j, j < n → ge j = nI (en j)) (hgb : ∀ j, j < n → ∃ b : Nat, b < 256 ∧ gb j = nI b) (hc : dr ≠ 0 → cp = nI lim)
    (ih : ∀ (F : List cs_Fr) (t L : Nat) (pr yl : Int32) (tp ce lN lC cd ou sN sS sQ sM : Nat → Int32), cs_mu gk en n lim t F < M → cs_S gk en n F L ce ou sN sS sQ sM lN lC → L ≤ 32 → cs_T dr yl lim t tp cd → cs_con cp ph (nI n) gp oc ml cl ol vl tr ac ca pa bk ix cL cH im dr sd yn gk gb ge po oa mn cu og vl_ sk yA lim M n en F t L pr yl tp ce lN lC cd ou sN sS sQ sM)
    (hmu : cs_mu gk en n lim t ((nd, 0, q, m) :: fs) < M + 1) (hS : cs_S gk en n ((nd, 0, q, m) :: fs) L ce ou sN sS sQ sM lN lC) (hL : L ≤ 32) (hT : cs_T dr yl lim t tp cd) (k : gk nd = 2) : cs_con cp ph (nI n) gp oc ml cl ol vl tr ac ca pa bk ix cL cH im dr sd yn gk gb ge po oa mn cu og vl_ sk yA lim (M + 1) n en ((nd, 0, q, m) :: fs) t L pr yl tp ce lN lC cd ou sN sS sQ sM := by
  have n16 := G.2.1
  obtain ⟨hn, hfl, hN, hs, _⟩ := cs_tf G hS
  obtain ⟨_, _, hll, hz⟩ := cs_nz G hS
  have e0 : cs_pos gk en n ((nd, 0, q, m) :: fs) = nd := cs_p0 gk en n nd q m fs
  have e1 : cs_L gk ((nd, 0, q, m) :: fs) = cs_L gk fs := cs_L0 gk nd q m fs
  by_cases hL2 : L < 32
  · obtain ⟨S', m'⟩ := cs_t5 G k hS lim t
    have e2 : cs_pos gk en n ((nd, 1, L, 0) :: fs) = en nd := cs_p21 en n k L 0 fs
    have e3 : cs_L gk ((nd, 1, L, 0) :: fs) = (nd, L) :: cs_L gk fs := cs_L2 k 0 L 0 fs
    refine cs_conT (ih _ t (L + 1) pr yl tp _ _ _ cd _ sN _ _ _ (by omega) S' (by omega) hT) (fun post fuel st h1 h2 => ?_) (fun post fuel i h1 h2 => ?_)
    · rw [e0, e1]
      rw [e2, e3, List.length_cons] at h2
      exact cs_gxJ h1 hn n16 hge hz post (cs_gxO hn n16 k post (fun p h => cs_xol1 (by omega) hL2 (by omega) (hge nd hn) p h) h2)
    · rw [List.length_cons]
      rw [List.length_cons] at h2
      exact cs_gy5 (by omega) hn n16 h1 hN k hL2 hs post h2
  · have z : L = 32 := by omega
    subst z
    refine ⟨0, pr, nI t, nI 32, nI (cs_L gk fs).length, yl, nI t, nI 32, tp, ce, lN, lC, cd, ou, sN, sS, sQ, sM, Or.inl rfl, fun post fuel st h1 h2 hp => ?_, fun post fuel i h1 h2 hp => ?_⟩
    · obtain ⟨f, rfl⟩ : ∃ f, fuel = f + 1 + 1 := ⟨fuel - 2, by omega⟩
      rw [e0, e1]
      exact cs_gxJ (by omega) hn n16 hge hz post (cs_gxO hn n16 k post (fun p h => cs_xol0 p h) (cs_gxF (by omega) post hp))
    · obtain ⟨f, rfl⟩ : ∃ f, fuel = f + 1 := ⟨fuel - 1, by omega⟩
      rw [List.length_cons]
      exact cs_gy5F (by omega) hn n16 (by omega) hN k hs post hp
theorem cs_c6 (G : cs_G gk en n) (hge : ∀ j, j < n → ge j = nI (en j)) (hgb : ∀ j, j < n → ∃ b : Nat, b < 256 ∧ gb j = nI b) (hc : dr ≠ 0 → cp = nI lim)
    (ih : ∀ (F : List cs_Fr) (t L : Nat) (pr yl : Int32) (tp ce lN lC cd ou sN sS sQ sM : Nat → Int32), cs_mu gk en n lim t F < M → cs_S gk en n F L ce ou sN sS sQ sM lN lC → L ≤ 32 → cs_T dr yl lim t tp cd → cs_con cp ph (nI n) gp oc ml cl ol vl tr ac ca pa bk ix cL cH im dr sd yn gk gb ge po oa mn cu og vl_ sk yA lim M n en F t L pr yl tp ce lN lC cd ou sN sS sQ sM)
    (hmu : cs_mu gk en n lim t ((nd, 2, q, m) :: fs) < M + 1) (hS : cs_S gk en n ((nd, 2, q, m) :: fs) L ce ou sN sS sQ sM lN lC) (hL : L ≤ 32) (hT : cs_T dr yl lim t tp cd) (k : gk nd = 2) : cs_con cp ph (nI n) gp oc ml cl ol vl tr ac ca pa bk ix cL cH im dr sd yn gk gb ge po oa mn cu og vl_ sk yA lim (M + 1) n en ((nd, 2, q, m) :: fs) t L pr yl tp ce lN lC cd ou sN sS sQ sM := by
  have n16 := G.2.1
  obtain ⟨hn, hfl, hN, hs, _⟩ := cs_tf G hS
  obtain ⟨S', m', p2⟩ := cs_t6 G k hS lim t
  have e3 : cs_L gk ((nd, 1, q, m + 1) :: fs) = cs_L gk ((nd, 2, q, m) :: fs) := (cs_L2 k 0 q (m + 1) fs).trans (cs_L2 k 1 q m fs).symm
  have hm : sM fs.length = nI m := (hS.2.1.2.2.1 k (show (2 : Nat) ≠ 0 by decide)).2
  refine cs_conS (ih _ t L pr yl tp ce lN lC cd ou sN _ sQ _ (by omega) S' hL hT) p2 (by rw [e3]) (fun post fuel i h1 h2 => ?_)
  rw [List.length_cons]
  rw [List.length_cons] at h2
  exact cs_gy6 (by omega) hn n16 h1 hN k hs hm post h2
theorem cs_c7 (G : cs_G gk en n) (hge : ∀ j, j < n → ge j = nI (en j)) (hgb : ∀ j, j < n → ∃ b : Nat, b < 256 ∧ gb j = nI b) (hc : dr ≠ 0 → cp = nI lim)
    (ih : ∀ (F : List cs_Fr) (t L : Nat) (pr yl : Int32) (tp ce lN lC cd ou sN sS sQ sM : Nat → Int32), cs_mu gk en n lim t F < M → cs_S gk en n F L ce ou sN sS sQ sM lN lC → L ≤ 32 → cs_T dr yl lim t tp cd → cs_con cp ph (nI n) gp oc ml cl ol vl tr ac ca pa bk ix cL cH im dr sd yn gk gb ge po oa mn cu og vl_ sk yA lim M n en F t L pr yl tp ce lN lC cd ou sN sS sQ sM)
    (hmu : cs_mu gk en n lim t ((nd, 1, q, m) :: fs) < M + 1) (hS : cs_S gk en n ((nd, 1, q, m) :: fs) L ce ou sN sS sQ sM lN lC) (hL : L ≤ 32) (hT : cs_T dr yl lim t tp cd) (k : gk nd = 2) : cs_con cp ph (nI n) gp oc ml cl ol vl tr ac ca pa bk ix cL cH im dr sd yn gk gb ge po oa mn cu og vl_ sk yA lim (M + 1) n en ((nd, 1, q, m) :: fs) t L pr yl tp ce lN lC cd ou sN sS sQ sM := by
  have n16 := G.2.1
  obtain ⟨hn, hfl, hN, hs, _⟩ := cs_tf G hS
  obtain ⟨_, _, hll, hlen, hlN, hlC, hq, hcq, hm8, hQ, hM⟩ := cs_lz G k hS
  have hen := (cs_le G hn).2
  have e0 : cs_pos gk en n ((nd, 1, q, m) :: fs) = en nd := cs_p21 en n k q m fs
  by_cases h8 : m = 8
  · obtain ⟨S', m', p'⟩ := cs_t7 G k hS lim t t (Nat.le_refl t)
    refine cs_conT (ih fs t L pr yl tp ce lN lC cd _ sN sS sQ sM (by omega) S' hL hT) (fun post fuel st h1 h2 => ?_) (fun post fuel i h1 h2 => ?_)
    · rw [e0, hlen]
      rw [p'] at h2
      exact cs_gxL h1 hn n16 hen hge (by omega) hlN post (fun p h => cs_xcl8 (by omega) (by omega) (by omega) hlN hlC (by rw [hcq, h8]) (hge nd hn) p h) h2
    · rw [List.length_cons]
      exact cs_gy7 (by omega) hn n16 h1 hN k (by omega) hs hQ hM h8 post h2
  · rcases cs_take (cp := cp) (pr := pr) (ph := ph) (gc := nI n) (gp := gp) (oc := oc) (ml := ml) (cl := cl) (ol := ol) (vl := vl) (tr := tr) (ac := ac) (ca := ca) (pa := pa) (bk := bk) (ix := ix) (cL := cL) (cH := cH) (im := im) (dr := dr) (cc := nI L) (ld := nI ((cs_L gk fs).length + 1)) (sd := sd) (gk := gk) (gb := gb) (ge := ge) (po := po) (oa := oa) (mn := mn) (cu := cu) (og := og) (vl_ := vl_) (tp := tp) (ce := ce) (lN := lN) (lC := lC) (sk := sk) (yn := yn) (yl := yl) (yo := nI L) (yA := yA) (cd := cd) (ou := ou) (sN := sN) (sS := sS) (sQ := sQ) (sM := sM) (w := 4) (lim := lim) (t := t) (b := -1) (by omega) (by omega) (Or.inr ⟨rfl, rfl⟩) hc hT with ⟨ht, hX, hY⟩ | ⟨ht, c, pr', yl', tp', cd', hc2, hT', hX, hY⟩
    · refine ⟨0, pr, nI t, nI L, nI ((cs_L gk fs).length + 1), yl, nI t, nI L, tp, ce, lN, lC, cd, ou, sN, sS, sQ, sM, Or.inl rfl, fun post fuel st h1 h2 hp => ?_, fun post fuel i h1 h2 hp => ?_⟩
      · obtain ⟨f, rfl⟩ : ∃ f, fuel = f + 1 + 1 := ⟨fuel - 2, by omega⟩
        rw [e0, hlen]
        exact cs_gxL (by omega) hn n16 hen hge (by omega) hlN post (fun p h => cs_xclt (by omega) (by omega) hlN hlC hcq (by omega) p hX (cs_xc0 p h)) (cs_gxF (by omega) post hp)
      · obtain ⟨f, rfl⟩ : ∃ f, fuel = f + 1 := ⟨fuel - 1, by omega⟩
        rw [List.length_cons]
        exact cs_gy8F (by omega) hn n16 (by omega) hN k hs hM (by omega) hY post hp
    · by_cases hc0 : c = 0
      · subst hc0
        obtain ⟨S', m', p'⟩ := cs_t7 G k hS lim t (t + 1) (by omega)
        refine cs_conT (ih fs (t + 1) L pr' yl' tp' ce lN lC cd' _ sN sS sQ sM (by omega) S' hL hT') (fun post fuel st h1 h2 => ?_) (fun post fuel i h1 h2 => ?_)
        · rw [e0, hlen]
          rw [p'] at h2
          exact cs_gxL h1 hn n16 hen hge (by omega) hlN post (fun p h => cs_xclt (by omega) (by omega) hlN hlC hcq (by omega) p hX (cs_xc1 (by omega) (hge nd hn) p h)) h2
        · rw [List.length_cons]
          exact cs_gy7t (by omega) hn n16 h1 hN k (by omega) hs hQ hM (by omega) hY post h2
      · obtain ⟨S', m', p'⟩ := cs_t8 G k hS h8 lim t ht
        have e2 : cs_pos gk en n ((nd + 1, 0, 0, 0) :: (nd, 2, q, m) :: fs) = nd + 1 := cs_p0 gk en n (nd + 1) 0 0 _
        have e3 : cs_L gk ((nd + 1, 0, 0, 0) :: (nd, 2, q, m) :: fs) = (nd, q) :: cs_L gk fs := (cs_L0 gk (nd + 1) 0 0 _).trans (cs_L2 k 1 q m fs)
        refine cs_conT (ih _ (t + 1) L pr' yl' tp' _ lN lC cd' ou _ _ sQ sM (by omega) S' hL hT') (fun post fuel st h1 h2 => ?_) (fun post fuel i h1 h2 => ?_)
        · rw [e0, hlen]
          rw [e2, e3, List.length_cons] at h2
          exact cs_gxL h1 hn n16 hen hge (by omega) hlN post (fun p h => cs_xclt (by omega) (by omega) hlN hlC hcq (by omega) p hX (cs_xc2 (by omega) hc2 hc0 hcq p h)) h2
        · rw [List.length_cons]
          rw [List.length_cons, List.length_cons] at h2
          exact cs_gy8 (by omega) hn n16 h1 hN k hs hM (by omega) hc2 hc0 p' hY post h2
theorem cs_gen0 (G : cs_G gk en n) (hge : ∀ j, j < n → ge j = nI (en j)) (hgb : ∀ j, j < n → ∃ b : Nat, b < 256 ∧ gb j = nI b) (hc : dr ≠ 0 → cp = nI lim) :
    ∀ (M : Nat) (F : List cs_Fr) (t L : Nat) (pr yl : Int32) (tp ce lN lC cd ou sN sS sQ sM : Nat → Int32), cs_mu gk en n lim t F < M → cs_S gk en n F L ce ou sN sS sQ sM lN lC → L ≤ 32 → cs_T dr yl lim t tp cd → cs_con cp ph (nI n) gp oc ml cl ol vl tr ac ca pa bk ix cL cH im dr sd yn gk gb ge po oa mn cu og vl_ sk yA lim M n en F t L pr yl tp ce lN lC cd ou sN sS sQ sM := by
  intro M
  induction M with
  | zero => intro F t L pr yl tp ce lN lC cd ou sN sS sQ sM hmu; omega
  | succ M ih =>
    intro F t L pr yl tp ce lN lC cd ou sN sS sQ sM hmu hS hL hT
    have n16 := G.2.1
    cases F with
    | nil =>
      obtain ⟨h1, h2, h3, h4, h5, h6⟩ := hT
      refine ⟨1, pr, nI t, nI L, nI 0, yl, nI t, nI L, tp, ce, lN, lC, cd, ou, sN, sS, sQ, sM, Or.inr ⟨rfl, t, L, by omega, hL, rfl, rfl, rfl, rfl, h4, h5, fun j hj => hS.2.2.2.2 j hj (fun p hp => absurd hp (by simp [cs_L]))⟩, fun post fuel st h1 h2 hp => ?_, fun post fuel i h1 h2 hp => ?_⟩
      · obtain ⟨f, rfl⟩ : ∃ f, fuel = f + 1 := ⟨fuel - 1, by omega⟩
        exact cs_gxE n16 (by omega) post hp
      · obtain ⟨f, rfl⟩ : ∃ f, fuel = f + 1 := ⟨fuel - 1, by omega⟩
        exact cs_gyE post hp
    | cons fr fs =>
      obtain ⟨nd, s, q, m⟩ := fr
      obtain ⟨hn, _, _, _, hst⟩ := cs_tf G hS
      have hk := (G.2.2.2 nd hn).2.2
      by_cases s0 : s = 0
      · subst s0
        rcases hk with k | k | k
        · exact cs_c1 G hge hgb hc ih hmu hS hL hT k
        · exact cs_c5 G hge hgb hc ih hmu hS hL hT k
        · exact cs_c2 G hge hgb hc ih hmu hS hL hT k
      · obtain ⟨k | k, rfl | rfl⟩ := hst.resolve_left s0
        · exact cs_c3 G hge hgb hc ih hmu hS hL hT k
        · exact cs_c4 G hge hgb hc ih hmu hS hL hT k
        · exact cs_c7 G hge hgb hc ih hmu hS hL hT k
        · exact cs_c6 G hge hgb hc ih hmu hS hL hT k
end
end
section
section
variable {cp pr ph gc gp oc ml cl ol vl tr ac ca pa bk ix cL cH im tl tk dr cc ld sd yn yl yt yr yo : Int32} {gk gb ge po oa mn cu og vl_ tp ce lN lC sk yA cd ou sN sS sQ sM : Nat → Int32}
theorem cs_gen {lim : Nat} (hG : cs_Gn gc gp gk gb ge) (hgp : gp = 0) (hc : dr ≠ 0 → cp = nI lim) (hT : cs_T dr yl lim 0 tp cd) :
    ∃ (r pr' tk' cc' ld' yl' yt' yo' : Int32) (tp' ce' lN' lC' cd' ou' sN' sS' sQ' sM' : Nat → Int32), cs_fin r tk' cc' yt' yo' tp' ce' cd' ou' ∧
    (∀ post : Int32 → SX → Prop, post r (cp, pr', ph, gc, gp, oc, ml, cl, ol, vl, tr, ac, ca, pa, bk, ix, cL, cH, im, nI lim, tk', dr, cc', ld', sd, gk, gb, ge, po, oa, mn, cu, og, vl_, tp', ce', lN', lC', sk) → wpX_generate post (cp, pr, ph, gc, gp, oc, ml, cl, ol, vl, tr, ac, ca, pa, bk, ix, cL, cH, im, nI lim, tk, dr, cc, ld, sd, gk, gb, ge, po, oa, mn, cu, og, vl_, tp, ce, lN, lC, sk)) ∧
    (∀ post : Int32 → SY → Prop, post r (pr', cp, ph, gc, gp, oc, ml, cl, ol, vl, tr, ac, ca, pa, bk, ix, cL, cH, im, yn, yl', yt', dr, yo', gk, gb, po, yA, mn, cu, og, vl_, cd', ou', sN', sS', sQ', sM', sk) → wpY_generate post (pr, cp, ph, gc, gp, oc, ml, cl, ol, vl, tr, ac, ca, pa, bk, ix, cL, cH, im, yn, yl, yt, dr, yo, gk, gb, po, yA, mn, cu, og, vl_, cd, ou, sN, sS, sQ, sM, sk)) := by
  obtain ⟨n, hn, rfl, rfl, H, hgb, hE⟩ := hG
  have dl := cs_Dle gk n
  have d0 : cs_D gk n = 0 := (nI_eq (b := 0) (by omega) (by decide)).mp hgp
  obtain ⟨en, G, hge⟩ := hE d0
  have n0 := G.1
  have hl := hT.2.1
  have e0 : cs_pos gk en n [(0, 0, 0, 0)] = 0 := cs_p0 gk en n 0 0 0 []
  have e1 : cs_L gk [(0, 0, 0, 0)] = [] := cs_L0 gk 0 0 0 []
  have e2 : cs_ph gk [(0, 0, 0, 0)] = 0 := cs_h0 gk 0 0 0 []
  have hmu : cs_mu gk en n lim 0 [(0, 0, 0, 0)] < 1700 := by
    unfold cs_mu
    rw [e0, e2]
    omega
  by_cases hd : dr = 0
  · obtain ⟨r, pr', tk', cc', ld', yl', yt', yo', tp', ce', lN', lC', cd', ou', sN', sS', sQ', sM', hf, HX, HY⟩ := cs_gen0 (cp := cp) (ph := ph) (gp := nI (cs_D gk n)) (oc := oc) (ml := ml) (cl := cl) (ol := ol) (vl := vl) (tr := tr) (ac := ac) (ca := ca) (pa := pa) (bk := bk) (ix := ix) (cL := cL) (cH := cH) (im := im) (sd := sd) (yn := yn) (po := po) (oa := oa) (mn := mn) (cu := cu) (og := og) (vl_ := vl_) (sk := sk) (yA := yA) G hge hgb hc 1700 [(0, 0, 0, 0)] 0 0 pr yl tp ce lN lC cd ou (upd sN 0 0) (upd sS 0 0) sQ sM hmu (cs_S0 G) (by omega) hT
    refine ⟨r, pr', tk', cc', ld', yl', yt', yo', tp', ce', lN', lC', cd', ou', sN', sS', sQ', sM', hf, fun post hp => ?_, fun post hp => ?_⟩
    · have h := HX post 1701 0 (by omega) (by omega) hp
      rw [e0, e1] at h
      exact ⟨1701, h⟩
    · have h := HY post 1701 0 (by omega) (by omega) hp
      exact br_t hd (br_t (nI_le (a := 1) n0 (by omega)) (nm_e (nm_e ⟨1701, h⟩)))
  · obtain ⟨h1, h2, h3, h4, h5, h6⟩ := hT
    obtain ⟨r, pr', tk', cc', ld', yl', yt', yo', tp', ce', lN', lC', cd', ou', sN', sS', sQ', sM', hf, HX, HY⟩ := cs_gen0 (cp := cp) (ph := ph) (gp := nI (cs_D gk n)) (oc := oc) (ml := ml) (cl := cl) (ol := ol) (vl := vl) (tr := tr) (ac := ac) (ca := ca) (pa := pa) (bk := bk) (ix := ix) (cL := cL) (cH := cH) (im := im) (sd := sd) (yn := yn) (po := po) (oa := oa) (mn := mn) (cu := cu) (og := og) (vl_ := vl_) (sk := sk) (yA := yA) G hge hgb hc 1700 [(0, 0, 0, 0)] 0 0 pr 0 tp ce lN lC cd ou (upd sN 0 0) (upd sS 0 0) sQ sM hmu (cs_S0 G) (by omega) ⟨h1, h2, h3, h4, h5, fun z => absurd z hd⟩
    refine ⟨r, pr', tk', cc', ld', yl', yt', yo', tp', ce', lN', lC', cd', ou', sN', sS', sQ', sM', hf, fun post hp => ?_, fun post hp => ?_⟩
    · have h := HX post 1701 0 (by omega) (by omega) hp
      rw [e0, e1] at h
      exact ⟨1701, h⟩
    · have h := HY post 1701 0 (by omega) (by omega) hp
      exact br_f hd (br_t (nI_le (a := 1) n0 (by omega)) (nm_e (nm_e ⟨1701, h⟩)))
end
end
section
section
variable {cp pr ph gc gp oc ml cl ol vl tr ac ca pa bk ix cL cH im tl tk dr cc ld sd yn yl yt yr yo : Int32} {gk gb ge po oa mn cu og vl_ tp ce lN lC sk yA cd ou sN sS sQ sM : Nat → Int32}
theorem cs_xpush {d : Nat} {x : Int32} (hd : d < 16) (post : SX → Prop) (hp : post (cp, pr, ph, gc, gp, oc, ml, cl, ol, vl, tr, ac, ca, pa, bk, ix, cL, cH, im, tl, tk, dr, cc, ld, nI (d + 1), gk, gb, ge, po, oa, mn, cu, og, vl_, tp, ce, lN, lC, upd sk d x)) : wpX_push post (cp, pr, ph, gc, gp, oc, ml, cl, ol, vl, tr, ac, ca, pa, bk, ix, cL, cH, im, tl, tk, dr, cc, ld, nI d, gk, gb, ge, po, oa, mn, cu, og, vl_, tp, ce, lN, lC, sk) x :=
  ⟨vp_in_nI hd (by omega), nm_r (e' := upd sk d x) (by rw [nI_clamp (by omega)]) (nm_r (nI_1 d) hp)⟩
theorem cs_ex0 {p d : Nat} (hp32 : p < 32) (ho : po p = nI 0) (hd : d < 16) (post : Int32 → SX → Prop) (hp : post (nI (p + 1)) (cp, pr, ph, gc, gp, oc, ml, cl, ol, vl, tr, ac, ca, pa, bk, ix, cL, cH, im, tl, tk, dr, cc, ld, nI (d + 1), gk, gb, ge, po, oa, mn, cu, og, vl_, tp, ce, lN, lC, upd sk d (oa p))) : wpX_execute post (cp, pr, ph, gc, gp, oc, ml, cl, ol, vl, tr, ac, ca, pa, bk, ix, cL, cH, im, tl, tk, dr, cc, ld, nI (d), gk, gb, ge, po, oa, mn, cu, og, vl_, tp, ce, lN, lC, sk) (nI p) := by
  have ep : (nI p).toNatClampNeg = p := nI_clamp (by omega)
  have hv : vp_in (nI p) 32 := vp_in_nI hp32 (by omega)
  refine ⟨hv, nm_r (e' := nI 0) (by rw [ep, ho]) ⟨hv, nm_r (e' := oa p) (by rw [ep]) (nm_e (nm_e (br_f (by decide) (br_f (by decide) (br_t rfl (br_f (nI_nlt (b := 0) (by omega) (by omega)) (br_t rfl (br_f (by decide) (br_t (nI_lt (b := 16) hd (by decide)) (br_f (by decide) (br_f (by decide) (br_t rfl (cs_xpush hd _ ?_)))))))))))))⟩⟩
  rw [nI_1]
  exact hp
theorem cs_ex1 {p e : Nat} (hp32 : p < 32) (ho : po p = nI 1) (hd : e + 1 ≤ 16) {w : Int32} (hw : ∀ q : Int32 → Prop, q w → wpX_cellOrZero q (cp, pr, ph, gc, gp, oc, ml, cl, ol, vl, tr, ac, ca, pa, bk, ix, cL, cH, im, tl, tk, dr, cc, ld, nI (e + 1), gk, gb, ge, po, oa, mn, cu, og, vl_, tp, ce, lN, lC, sk) (sk e)) (post : Int32 → SX → Prop) (hp : post (nI (p + 1)) (cp, pr, ph, gc, gp, oc, ml, cl, ol, vl, tr, ac, ca, pa, bk, ix, cL, cH, im, tl, tk, dr, cc, ld, nI (e + 1), gk, gb, ge, po, oa, mn, cu, og, vl_, tp, ce, lN, lC, upd sk e w)) : wpX_execute post (cp, pr, ph, gc, gp, oc, ml, cl, ol, vl, tr, ac, ca, pa, bk, ix, cL, cH, im, tl, tk, dr, cc, ld, nI (e + 1), gk, gb, ge, po, oa, mn, cu, og, vl_, tp, ce, lN, lC, sk) (nI p) := by
  have ep : (nI p).toNatClampNeg = p := nI_clamp (by omega)
  have hv : vp_in (nI p) 32 := vp_in_nI hp32 (by omega)
  have ee : (nI e).toNatClampNeg = e := nI_clamp (by omega)
  have he : vp_in (nI e) 16 := vp_in_nI (by omega) (by omega)
  refine ⟨hv, nm_r (e' := nI 1) (by rw [ep, ho]) ⟨hv, nm_r (e' := oa p) (by rw [ep]) (nm_r (nI_pred e) (nm_e (br_f (by decide) (br_f (by decide) (br_f (by decide) (br_t rfl (br_f (nI_nlt (b := 1) (by omega) (by omega)) (br_f (by decide) (br_f (by decide) (br_f (by decide) (br_f (by decide) (br_t rfl (br_f (by decide) (br_f (by decide) (br_f (by decide) (br_t rfl (⟨he, ?_⟩)))))))))))))))))⟩⟩
  rw [ee]
  refine hw _ ⟨he, nm_e ?_⟩
  rw [nI_1]
  exact hp
theorem cs_ex2 {p d : Nat}  {L : Nat}(hp32 : p < 32) (ho : po p = nI 2) (hd : d < 16) (post : Int32 → SX → Prop) (hp : post (nI (p + 1)) (cp, pr, ph, gc, gp, oc, ml, cl, ol, vl, tr, ac, ca, pa, bk, ix, cL, cH, im, tl, tk, dr, nI L, ld, nI (d + 1), gk, gb, ge, po, oa, mn, cu, og, vl_, tp, ce, lN, lC, upd sk d (nI L))) : wpX_execute post (cp, pr, ph, gc, gp, oc, ml, cl, ol, vl, tr, ac, ca, pa, bk, ix, cL, cH, im, tl, tk, dr, nI L, ld, nI (d), gk, gb, ge, po, oa, mn, cu, og, vl_, tp, ce, lN, lC, sk) (nI p) := by
  have ep : (nI p).toNatClampNeg = p := nI_clamp (by omega)
  have hv : vp_in (nI p) 32 := vp_in_nI hp32 (by omega)
  refine ⟨hv, nm_r (e' := nI 2) (by rw [ep, ho]) ⟨hv, nm_r (e' := oa p) (by rw [ep]) (nm_e (nm_e (br_f (by decide) (br_f (by decide) (br_f (by decide) (br_f (by decide) (br_t rfl (br_f (nI_nlt (b := 0) (by omega) (by omega)) (br_f (by decide) (br_t rfl (br_f (by decide) (br_t (nI_lt (b := 16) hd (by decide)) (br_f (by decide) (br_f (by decide) (br_f (by decide) (br_f (by decide) (br_t rfl (cs_xpush hd _ ?_))))))))))))))))))⟩⟩
  rw [nI_1]
  exact hp
theorem cs_ex3 {p e : Nat} (hp32 : p < 32) (ho : po p = nI 3) (hd : e + 2 ≤ 16) (post : Int32 → SX → Prop) (hp : post (nI (p + 1)) (cp, pr, ph, gc, gp, oc, ml, cl, ol, vl, tr, ac, ca, pa, bk, ix, cL, cH, im, tl, tk, dr, cc, ld, nI (e + 1), gk, gb, ge, po, oa, mn, cu, og, vl_, tp, ce, lN, lC, upd sk e (sk e + sk (e + 1)))) : wpX_execute post (cp, pr, ph, gc, gp, oc, ml, cl, ol, vl, tr, ac, ca, pa, bk, ix, cL, cH, im, tl, tk, dr, cc, ld, nI (e + 2), gk, gb, ge, po, oa, mn, cu, og, vl_, tp, ce, lN, lC, sk) (nI p) := by
  have ep : (nI p).toNatClampNeg = p := nI_clamp (by omega)
  have hv : vp_in (nI p) 32 := vp_in_nI hp32 (by omega)
  have ee : (nI e).toNatClampNeg = e := nI_clamp (by omega)
  have he : vp_in (nI e) 16 := vp_in_nI (by omega) (by omega)
  have ee1 : (nI (e + 1)).toNatClampNeg = e + 1 := nI_clamp (by omega)
  have he1 : vp_in (nI (e + 1)) 16 := vp_in_nI (by omega) (by omega)
  have h2 : nI (e + 2) - 2 = nI e := (pk_sub (a := e + 2) (b := 2) (by omega)).trans (congrArg nI (by omega))
  refine ⟨hv, nm_r (e' := nI 3) (by rw [ep, ho]) ⟨hv, nm_r (e' := oa p) (by rw [ep]) (nm_r (nI_pred (e + 1)) (nm_r h2 (br_f (by decide) (br_f (by decide) (br_f (by decide) (br_f (by decide) (br_f (by decide) (br_t rfl (br_f (nI_nlt (b := 2) (by omega) (by omega)) (br_f (by decide) (br_f (by decide) (br_f (by decide) (br_f (by decide) (br_t rfl (br_f (by decide) (br_f (by decide) (br_f (by decide) (br_f (by decide) (br_f (by decide) (br_t rfl (⟨he, he1, ?_⟩)))))))))))))))))))))⟩⟩
  rw [ee, ee1]
  refine br_f (by decide) (br_f (by decide) (br_t rfl ⟨he, nm_e ?_⟩))
  rw [nI_1]
  exact hp
theorem cs_ex4 {p e : Nat} (hp32 : p < 32) (ho : po p = nI 4) (hd : e + 2 ≤ 16) (post : Int32 → SX → Prop) (hp : post (nI (p + 1)) (cp, pr, ph, gc, gp, oc, ml, cl, ol, vl, tr, ac, ca, pa, bk, ix, cL, cH, im, tl, tk, dr, cc, ld, nI (e + 1), gk, gb, ge, po, oa, mn, cu, og, vl_, tp, ce, lN, lC, upd sk e (sk e - sk (e + 1)))) : wpX_execute post (cp, pr, ph, gc, gp, oc, ml, cl, ol, vl, tr, ac, ca, pa, bk, ix, cL, cH, im, tl, tk, dr, cc, ld, nI (e + 2), gk, gb, ge, po, oa, mn, cu, og, vl_, tp, ce, lN, lC, sk) (nI p) := by
  have ep : (nI p).toNatClampNeg = p := nI_clamp (by omega)
  have hv : vp_in (nI p) 32 := vp_in_nI hp32 (by omega)
  have ee : (nI e).toNatClampNeg = e := nI_clamp (by omega)
  have he : vp_in (nI e) 16 := vp_in_nI (by omega) (by omega)
  have ee1 : (nI (e + 1)).toNatClampNeg = e + 1 := nI_clamp (by omega)
  have he1 : vp_in (nI (e + 1)) 16 := vp_in_nI (by omega) (by omega)
  have h2 : nI (e + 2) - 2 = nI e := (pk_sub (a := e + 2) (b := 2) (by omega)).trans (congrArg nI (by omega))
  refine ⟨hv, nm_r (e' := nI 4) (by rw [ep, ho]) ⟨hv, nm_r (e' := oa p) (by rw [ep]) (nm_r (nI_pred (e + 1)) (nm_r h2 (br_f (by decide) (br_f (by decide) (br_f (by decide) (br_f (by decide) (br_f (by decide) (br_f (by decide) (br_t rfl (br_f (nI_nlt (b := 2) (by omega) (by omega)) (br_f (by decide) (br_f (by decide) (br_f (by decide) (br_f (by decide) (br_t rfl (br_f (by decide) (br_f (by decide) (br_f (by decide) (br_f (by decide) (br_f (by decide) (br_f (by decide) (br_t rfl (⟨he, he1, ?_⟩)))))))))))))))))))))))⟩⟩
  rw [ee, ee1]
  refine br_f (by decide) (br_f (by decide) (br_f (by decide) (br_t rfl ⟨he, nm_e ?_⟩)))
  rw [nI_1]
  exact hp
theorem cs_ex5 {p e : Nat} (hp32 : p < 32) (ho : po p = nI 5) (hd : e + 2 ≤ 16) (post : Int32 → SX → Prop) (hp : post (nI (p + 1)) (cp, pr, ph, gc, gp, oc, ml, cl, ol, vl, tr, ac, ca, pa, bk, ix, cL, cH, im, tl, tk, dr, cc, ld, nI (e + 1), gk, gb, ge, po, oa, mn, cu, og, vl_, tp, ce, lN, lC, upd sk e (sk e * sk (e + 1)))) : wpX_execute post (cp, pr, ph, gc, gp, oc, ml, cl, ol, vl, tr, ac, ca, pa, bk, ix, cL, cH, im, tl, tk, dr, cc, ld, nI (e + 2), gk, gb, ge, po, oa, mn, cu, og, vl_, tp, ce, lN, lC, sk) (nI p) := by
  have ep : (nI p).toNatClampNeg = p := nI_clamp (by omega)
  have hv : vp_in (nI p) 32 := vp_in_nI hp32 (by omega)
  have ee : (nI e).toNatClampNeg = e := nI_clamp (by omega)
  have he : vp_in (nI e) 16 := vp_in_nI (by omega) (by omega)
  have ee1 : (nI (e + 1)).toNatClampNeg = e + 1 := nI_clamp (by omega)
  have he1 : vp_in (nI (e + 1)) 16 := vp_in_nI (by omega) (by omega)
  have h2 : nI (e + 2) - 2 = nI e := (pk_sub (a := e + 2) (b := 2) (by omega)).trans (congrArg nI (by omega))
  refine ⟨hv, nm_r (e' := nI 5) (by rw [ep, ho]) ⟨hv, nm_r (e' := oa p) (by rw [ep]) (nm_r (nI_pred (e + 1)) (nm_r h2 (br_f (by decide) (br_f (by decide) (br_f (by decide) (br_f (by decide) (br_f (by decide) (br_f (by decide) (br_f (by decide) (br_t rfl (br_f (nI_nlt (b := 2) (by omega) (by omega)) (br_f (by decide) (br_f (by decide) (br_f (by decide) (br_f (by decide) (br_t rfl (br_f (by decide) (br_f (by decide) (br_f (by decide) (br_f (by decide) (br_f (by decide) (br_f (by decide) (br_f (by decide) (br_t rfl (⟨he, he1, ?_⟩)))))))))))))))))))))))))⟩⟩
  rw [ee, ee1]
  refine br_f (by decide) (br_f (by decide) (br_f (by decide) (br_f (by decide) (br_t rfl ⟨he, nm_e ?_⟩))))
  rw [nI_1]
  exact hp
theorem cs_ex6 {p e : Nat} (hp32 : p < 32) (ho : po p = nI 6) (hd : e + 2 ≤ 16) (post : Int32 → SX → Prop) (hp : post (nI (p + 1)) (cp, pr, ph, gc, gp, oc, ml, cl, ol, vl, tr, ac, ca, pa, bk, ix, cL, cH, im, tl, tk, dr, cc, ld, nI (e + 1), gk, gb, ge, po, oa, mn, cu, og, vl_, tp, ce, lN, lC, upd sk e ((if sk (e + 1) ≤ sk e then 0 else 1)))) : wpX_execute post (cp, pr, ph, gc, gp, oc, ml, cl, ol, vl, tr, ac, ca, pa, bk, ix, cL, cH, im, tl, tk, dr, cc, ld, nI (e + 2), gk, gb, ge, po, oa, mn, cu, og, vl_, tp, ce, lN, lC, sk) (nI p) := by
  have ep : (nI p).toNatClampNeg = p := nI_clamp (by omega)
  have hv : vp_in (nI p) 32 := vp_in_nI hp32 (by omega)
  have ee : (nI e).toNatClampNeg = e := nI_clamp (by omega)
  have he : vp_in (nI e) 16 := vp_in_nI (by omega) (by omega)
  have ee1 : (nI (e + 1)).toNatClampNeg = e + 1 := nI_clamp (by omega)
  have he1 : vp_in (nI (e + 1)) 16 := vp_in_nI (by omega) (by omega)
  have h2 : nI (e + 2) - 2 = nI e := (pk_sub (a := e + 2) (b := 2) (by omega)).trans (congrArg nI (by omega))
  refine ⟨hv, nm_r (e' := nI 6) (by rw [ep, ho]) ⟨hv, nm_r (e' := oa p) (by rw [ep]) (nm_r (nI_pred (e + 1)) (nm_r h2 (br_f (by decide) (br_f (by decide) (br_f (by decide) (br_f (by decide) (br_f (by decide) (br_f (by decide) (br_f (by decide) (br_f (by decide) (br_t rfl (br_f (nI_nlt (b := 2) (by omega) (by omega)) (br_f (by decide) (br_f (by decide) (br_f (by decide) (br_f (by decide) (br_t rfl (br_f (by decide) (br_f (by decide) (br_f (by decide) (br_f (by decide) (br_f (by decide) (br_f (by decide) (br_f (by decide) (br_f (by decide) (br_t rfl (⟨he, he1, ?_⟩)))))))))))))))))))))))))))⟩⟩
  rw [ee, ee1]
  by_cases z : sk (e + 1) ≤ sk e
  · rw [if_pos z] at hp
    refine br_f (by decide) (br_f (by decide) (br_f (by decide) (br_f (by decide) (br_f (by decide) (br_t rfl (br_t z ⟨he, nm_e ?_⟩))))))
    rw [nI_1]
    exact hp
  · rw [if_neg z] at hp
    refine br_f (by decide) (br_f (by decide) (br_f (by decide) (br_f (by decide) (br_f (by decide) (br_t rfl (br_f z ⟨he, nm_e ?_⟩))))))
    rw [nI_1]
    exact hp
theorem cs_ex7 {p e : Nat} (hp32 : p < 32) (ho : po p = nI 7) (hd : e + 2 ≤ 16) (post : Int32 → SX → Prop) (hp : post (nI (p + 1)) (cp, pr, ph, gc, gp, oc, ml, cl, ol, vl, tr, ac, ca, pa, bk, ix, cL, cH, im, tl, tk, dr, cc, ld, nI (e + 1), gk, gb, ge, po, oa, mn, cu, og, vl_, tp, ce, lN, lC, upd sk e ((if sk e = sk (e + 1) then 1 else 0)))) : wpX_execute post (cp, pr, ph, gc, gp, oc, ml, cl, ol, vl, tr, ac, ca, pa, bk, ix, cL, cH, im, tl, tk, dr, cc, ld, nI (e + 2), gk, gb, ge, po, oa, mn, cu, og, vl_, tp, ce, lN, lC, sk) (nI p) := by
  have ep : (nI p).toNatClampNeg = p := nI_clamp (by omega)
  have hv : vp_in (nI p) 32 := vp_in_nI hp32 (by omega)
  have ee : (nI e).toNatClampNeg = e := nI_clamp (by omega)
  have he : vp_in (nI e) 16 := vp_in_nI (by omega) (by omega)
  have ee1 : (nI (e + 1)).toNatClampNeg = e + 1 := nI_clamp (by omega)
  have he1 : vp_in (nI (e + 1)) 16 := vp_in_nI (by omega) (by omega)
  have h2 : nI (e + 2) - 2 = nI e := (pk_sub (a := e + 2) (b := 2) (by omega)).trans (congrArg nI (by omega))
  refine ⟨hv, nm_r (e' := nI 7) (by rw [ep, ho]) ⟨hv, nm_r (e' := oa p) (by rw [ep]) (nm_r (nI_pred (e + 1)) (nm_r h2 (br_f (by decide) (br_f (by decide) (br_f (by decide) (br_f (by decide) (br_f (by decide) (br_f (by decide) (br_f (by decide) (br_f (by decide) (br_f (by decide) (br_t rfl (br_f (nI_nlt (b := 2) (by omega) (by omega)) (br_f (by decide) (br_f (by decide) (br_f (by decide) (br_f (by decide) (br_t rfl (br_f (by decide) (br_f (by decide) (br_f (by decide) (br_f (by decide) (br_f (by decide) (br_f (by decide) (br_f (by decide) (br_f (by decide) (br_f (by decide) (br_t rfl (⟨he, he1, ?_⟩)))))))))))))))))))))))))))))⟩⟩
  rw [ee, ee1]
  by_cases z : sk e = sk (e + 1)
  · rw [if_pos z] at hp
    refine br_f (by decide) (br_t (by decide) (br_t z ⟨he, nm_e ?_⟩))
    rw [nI_1]
    exact hp
  · rw [if_neg z] at hp
    refine br_f (by decide) (br_t (by decide) (br_f z ⟨he, nm_e ?_⟩))
    rw [nI_1]
    exact hp
theorem cs_ex8 {p e : Nat} (hp32 : p < 32) (ho : po p = nI 8) (hd : e + 1 ≤ 16) (post : Int32 → SX → Prop) (hp : post (nI (p + 1)) (cp, pr, ph, gc, gp, oc, ml, cl, ol, vl, tr, ac, ca, pa, bk, ix, cL, cH, im, tl, tk, dr, cc, ld, nI (e + 1), gk, gb, ge, po, oa, mn, cu, og, vl_, tp, ce, lN, lC, upd sk e (if sk e = 0 then 1 else 0))) : wpX_execute post (cp, pr, ph, gc, gp, oc, ml, cl, ol, vl, tr, ac, ca, pa, bk, ix, cL, cH, im, tl, tk, dr, cc, ld, nI (e + 1), gk, gb, ge, po, oa, mn, cu, og, vl_, tp, ce, lN, lC, sk) (nI p) := by
  have ep : (nI p).toNatClampNeg = p := nI_clamp (by omega)
  have hv : vp_in (nI p) 32 := vp_in_nI hp32 (by omega)
  have ee : (nI e).toNatClampNeg = e := nI_clamp (by omega)
  have he : vp_in (nI e) 16 := vp_in_nI (by omega) (by omega)
  refine ⟨hv, nm_r (e' := nI 8) (by rw [ep, ho]) ⟨hv, nm_r (e' := oa p) (by rw [ep]) (nm_r (nI_pred e) (nm_e (br_f (by decide) (br_f (by decide) (br_f (by decide) (br_f (by decide) (br_f (by decide) (br_f (by decide) (br_f (by decide) (br_f (by decide) (br_f (by decide) (br_f (by decide) (br_t rfl (br_f (nI_nlt (b := 1) (by omega) (by omega)) (br_f (by decide) (br_f (by decide) (br_f (by decide) (br_f (by decide) (br_t rfl (br_f (by decide) (br_f (by decide) (br_f (by decide) (br_f (by decide) (br_f (by decide) (br_f (by decide) (br_f (by decide) (br_f (by decide) (br_f (by decide) (br_f (by decide) (br_t rfl (⟨he, ?_⟩)))))))))))))))))))))))))))))))⟩⟩
  by_cases z : sk e = 0
  · rw [if_pos z] at hp
    refine br_t (by rw [ee]; exact z) ⟨he, nm_r (e' := upd sk e 1) (by rw [ee]) ?_⟩
    rw [nI_1]
    exact hp
  · rw [if_neg z] at hp
    refine br_f (by rw [ee]; exact z) ⟨he, nm_r (e' := upd sk e 0) (by rw [ee]) ?_⟩
    rw [nI_1]
    exact hp
theorem cs_ex9 {p e : Nat} (hp32 : p < 32) (ho : po p = nI 9) (hd : e + 1 < 16) (post : Int32 → SX → Prop) (hp : post (nI (p + 1)) (cp, pr, ph, gc, gp, oc, ml, cl, ol, vl, tr, ac, ca, pa, bk, ix, cL, cH, im, tl, tk, dr, cc, ld, nI (e + 1 + 1), gk, gb, ge, po, oa, mn, cu, og, vl_, tp, ce, lN, lC, upd sk (e + 1) (sk e))) : wpX_execute post (cp, pr, ph, gc, gp, oc, ml, cl, ol, vl, tr, ac, ca, pa, bk, ix, cL, cH, im, tl, tk, dr, cc, ld, nI (e + 1), gk, gb, ge, po, oa, mn, cu, og, vl_, tp, ce, lN, lC, sk) (nI p) := by
  have ep : (nI p).toNatClampNeg = p := nI_clamp (by omega)
  have hv : vp_in (nI p) 32 := vp_in_nI hp32 (by omega)
  have ee : (nI e).toNatClampNeg = e := nI_clamp (by omega)
  have he : vp_in (nI e) 16 := vp_in_nI (by omega) (by omega)
  refine ⟨hv, nm_r (e' := nI 9) (by rw [ep, ho]) ⟨hv, nm_r (e' := oa p) (by rw [ep]) (nm_r (nI_pred e) (nm_e (br_f (by decide) (br_f (by decide) (br_f (by decide) (br_f (by decide) (br_f (by decide) (br_f (by decide) (br_f (by decide) (br_f (by decide) (br_f (by decide) (br_f (by decide) (br_f (by decide) (br_t rfl (br_f (nI_nlt (b := 1) (by omega) (by omega)) (br_f (by decide) (br_f (by decide) (br_t rfl (br_f (by decide) (br_t (nI_lt (b := 16) hd (by decide)) (br_f (by decide) (br_f (by decide) (br_f (by decide) (br_f (by decide) (br_f (by decide) (br_f (by decide) (br_f (by decide) (br_f (by decide) (br_f (by decide) (br_f (by decide) (br_f (by decide) (br_t rfl (⟨he, ?_⟩)))))))))))))))))))))))))))))))))⟩⟩
  rw [ee]
  refine cs_xpush hd _ ?_
  rw [nI_1]
  exact hp
theorem cs_ex10 {p e : Nat} (hp32 : p < 32) (ho : po p = nI 10) (hd : e + 2 ≤ 16) (post : Int32 → SX → Prop) (hp : post (nI (p + 1)) (cp, pr, ph, gc, gp, oc, ml, cl, ol, vl, tr, ac, ca, pa, bk, ix, cL, cH, im, tl, tk, dr, cc, ld, nI (e + 2), gk, gb, ge, po, oa, mn, cu, og, vl_, tp, ce, lN, lC, upd (upd sk (e + 1) (sk e)) e (sk (e + 1)))) : wpX_execute post (cp, pr, ph, gc, gp, oc, ml, cl, ol, vl, tr, ac, ca, pa, bk, ix, cL, cH, im, tl, tk, dr, cc, ld, nI (e + 2), gk, gb, ge, po, oa, mn, cu, og, vl_, tp, ce, lN, lC, sk) (nI p) := by
  have ep : (nI p).toNatClampNeg = p := nI_clamp (by omega)
  have hv : vp_in (nI p) 32 := vp_in_nI hp32 (by omega)
  have ee : (nI e).toNatClampNeg = e := nI_clamp (by omega)
  have he : vp_in (nI e) 16 := vp_in_nI (by omega) (by omega)
  have ee1 : (nI (e + 1)).toNatClampNeg = e + 1 := nI_clamp (by omega)
  have he1 : vp_in (nI (e + 1)) 16 := vp_in_nI (by omega) (by omega)
  have h2 : nI (e + 2) - 2 = nI e := (pk_sub (a := e + 2) (b := 2) (by omega)).trans (congrArg nI (by omega))
  refine ⟨hv, nm_r (e' := nI 10) (by rw [ep, ho]) ⟨hv, nm_r (e' := oa p) (by rw [ep]) (nm_r (nI_pred (e + 1)) (nm_r h2 (br_f (by decide) (br_f (by decide) (br_f (by decide) (br_f (by decide) (br_f (by decide) (br_f (by decide) (br_f (by decide) (br_f (by decide) (br_f (by decide) (br_f (by decide) (br_f (by decide) (br_f (by decide) (br_t rfl (br_f (nI_nlt (b := 2) (by omega) (by omega)) (br_f (by decide) (br_f (by decide) (br_f (by decide) (br_f (by decide) (br_t rfl (br_f (by decide) (br_f (by decide) (br_f (by decide) (br_f (by decide) (br_f (by decide) (br_f (by decide) (br_f (by decide) (br_f (by decide) (br_f (by decide) (br_f (by decide) (br_f (by decide) (br_f (by decide) (br_t rfl (⟨he1, nm_r (e' := sk (e + 1)) (by rw [ee1]) ⟨he, he1, nm_r (e' := upd sk (e + 1) (sk e)) (by rw [ee1, ee]) ⟨he, nm_r (e' := upd (upd sk (e + 1) (sk e)) e (sk (e + 1))) (by rw [ee]) ?_⟩⟩⟩)))))))))))))))))))))))))))))))))))⟩⟩
  rw [nI_1]
  exact hp
theorem cs_ex11 {p e : Nat} (hp32 : p < 32) (ho : po p = nI 11) (hd : e + 1 ≤ 16) (post : Int32 → SX → Prop) (hp : post (nI (p + 1)) (cp, pr, ph, gc, gp, oc, ml, cl, ol, vl, tr, ac, ca, pa, bk, ix, cL, cH, im, tl, tk, dr, cc, ld, nI (e), gk, gb, ge, po, oa, mn, cu, og, vl_, tp, ce, lN, lC, sk)) : wpX_execute post (cp, pr, ph, gc, gp, oc, ml, cl, ol, vl, tr, ac, ca, pa, bk, ix, cL, cH, im, tl, tk, dr, cc, ld, nI (e + 1), gk, gb, ge, po, oa, mn, cu, og, vl_, tp, ce, lN, lC, sk) (nI p) := by
  have ep : (nI p).toNatClampNeg = p := nI_clamp (by omega)
  have hv : vp_in (nI p) 32 := vp_in_nI hp32 (by omega)
  have ee : (nI e).toNatClampNeg = e := nI_clamp (by omega)
  have he : vp_in (nI e) 16 := vp_in_nI (by omega) (by omega)
  refine ⟨hv, nm_r (e' := nI 11) (by rw [ep, ho]) ⟨hv, nm_r (e' := oa p) (by rw [ep]) (nm_r (nI_pred e) (nm_e (br_f (by decide) (br_f (by decide) (br_f (by decide) (br_f (by decide) (br_f (by decide) (br_f (by decide) (br_f (by decide) (br_f (by decide) (br_f (by decide) (br_f (by decide) (br_f (by decide) (br_f (by decide) (br_f (by decide) (br_t rfl (br_f (nI_nlt (b := 1) (by omega) (by omega)) (br_f (by decide) (br_f (by decide) (br_f (by decide) (br_f (by decide) (br_t rfl (br_f (by decide) (br_f (by decide) (br_f (by decide) (br_f (by decide) (br_f (by decide) (br_f (by decide) (br_f (by decide) (br_f (by decide) (br_f (by decide) (br_f (by decide) (br_f (by decide) (br_f (by decide) (br_f (by decide) (br_t rfl (?_)))))))))))))))))))))))))))))))))))))⟩⟩
  rw [nI_1]
  exact hp
theorem cs_ex12 {p e : Nat} (hp32 : p < 32) (ho : po p = nI 12) (hd : e + 2 < 16) (post : Int32 → SX → Prop) (hp : post (nI (p + 1)) (cp, pr, ph, gc, gp, oc, ml, cl, ol, vl, tr, ac, ca, pa, bk, ix, cL, cH, im, tl, tk, dr, cc, ld, nI (e + 2 + 1), gk, gb, ge, po, oa, mn, cu, og, vl_, tp, ce, lN, lC, upd sk (e + 2) (sk e))) : wpX_execute post (cp, pr, ph, gc, gp, oc, ml, cl, ol, vl, tr, ac, ca, pa, bk, ix, cL, cH, im, tl, tk, dr, cc, ld, nI (e + 2), gk, gb, ge, po, oa, mn, cu, og, vl_, tp, ce, lN, lC, sk) (nI p) := by
  have ep : (nI p).toNatClampNeg = p := nI_clamp (by omega)
  have hv : vp_in (nI p) 32 := vp_in_nI hp32 (by omega)
  have ee : (nI e).toNatClampNeg = e := nI_clamp (by omega)
  have he : vp_in (nI e) 16 := vp_in_nI (by omega) (by omega)
  have ee1 : (nI (e + 1)).toNatClampNeg = e + 1 := nI_clamp (by omega)
  have he1 : vp_in (nI (e + 1)) 16 := vp_in_nI (by omega) (by omega)
  have h2 : nI (e + 2) - 2 = nI e := (pk_sub (a := e + 2) (b := 2) (by omega)).trans (congrArg nI (by omega))
  refine ⟨hv, nm_r (e' := nI 12) (by rw [ep, ho]) ⟨hv, nm_r (e' := oa p) (by rw [ep]) (nm_r (nI_pred (e + 1)) (nm_r h2 (br_f (by decide) (br_f (by decide) (br_f (by decide) (br_f (by decide) (br_f (by decide) (br_f (by decide) (br_f (by decide) (br_f (by decide) (br_f (by decide) (br_f (by decide) (br_f (by decide) (br_f (by decide) (br_f (by decide) (br_f (by decide) (br_t rfl (br_f (nI_nlt (b := 2) (by omega) (by omega)) (br_f (by decide) (br_f (by decide) (br_f (by decide) (br_t rfl (br_f (by decide) (br_t (nI_lt (b := 16) hd (by decide)) (br_f (by decide) (br_f (by decide) (br_f (by decide) (br_f (by decide) (br_f (by decide) (br_f (by decide) (br_f (by decide) (br_f (by decide) (br_f (by decide) (br_f (by decide) (br_f (by decide) (br_f (by decide) (br_f (by decide) (br_f (by decide) (br_t rfl (⟨he, ?_⟩))))))))))))))))))))))))))))))))))))))))⟩⟩
  rw [ee]
  refine cs_xpush hd _ ?_
  rw [nI_1]
  exact hp
theorem cs_ex13 {p e : Nat} (hp32 : p < 32) (ho : po p = nI 13) (hd : e + 1 ≤ 16) (post : Int32 → SX → Prop) (hp : post ((if sk e = 0 then oa p else nI (p + 1))) (cp, pr, ph, gc, gp, oc, ml, cl, ol, vl, tr, ac, ca, pa, bk, ix, cL, cH, im, tl, tk, dr, cc, ld, nI (e), gk, gb, ge, po, oa, mn, cu, og, vl_, tp, ce, lN, lC, sk)) : wpX_execute post (cp, pr, ph, gc, gp, oc, ml, cl, ol, vl, tr, ac, ca, pa, bk, ix, cL, cH, im, tl, tk, dr, cc, ld, nI (e + 1), gk, gb, ge, po, oa, mn, cu, og, vl_, tp, ce, lN, lC, sk) (nI p) := by
  have ep : (nI p).toNatClampNeg = p := nI_clamp (by omega)
  have hv : vp_in (nI p) 32 := vp_in_nI hp32 (by omega)
  have ee : (nI e).toNatClampNeg = e := nI_clamp (by omega)
  have he : vp_in (nI e) 16 := vp_in_nI (by omega) (by omega)
  refine ⟨hv, nm_r (e' := nI 13) (by rw [ep, ho]) ⟨hv, nm_r (e' := oa p) (by rw [ep]) (nm_r (nI_pred e) (nm_e (br_f (by decide) (br_f (by decide) (br_f (by decide) (br_f (by decide) (br_f (by decide) (br_f (by decide) (br_f (by decide) (br_f (by decide) (br_f (by decide) (br_f (by decide) (br_f (by decide) (br_f (by decide) (br_f (by decide) (br_f (by decide) (br_f (by decide) (br_t rfl (br_f (nI_nlt (b := 1) (by omega) (by omega)) (br_f (by decide) (br_f (by decide) (br_f (by decide) (br_f (by decide) (br_t rfl (br_f (by decide) (br_f (by decide) (br_f (by decide) (br_f (by decide) (br_f (by decide) (br_f (by decide) (br_f (by decide) (br_f (by decide) (br_f (by decide) (br_f (by decide) (br_f (by decide) (br_f (by decide) (br_f (by decide) (br_f (by decide) (br_f (by decide) (br_t rfl (⟨he, ?_⟩)))))))))))))))))))))))))))))))))))))))))⟩⟩
  by_cases z : sk e = 0
  · rw [if_pos z] at hp
    exact br_t (by rw [ee]; exact z) hp
  · rw [if_neg z] at hp
    refine br_f (by rw [ee]; exact z) ?_
    rw [nI_1]
    exact hp
theorem cs_ex14 {p d : Nat} (hp32 : p < 32) (ho : po p = nI 14) (hd : d ≤ 16) (post : Int32 → SX → Prop) (hp : post (oa p) (cp, pr, ph, gc, gp, oc, ml, cl, ol, vl, tr, ac, ca, pa, bk, ix, cL, cH, im, tl, tk, dr, cc, ld, nI (d), gk, gb, ge, po, oa, mn, cu, og, vl_, tp, ce, lN, lC, sk)) : wpX_execute post (cp, pr, ph, gc, gp, oc, ml, cl, ol, vl, tr, ac, ca, pa, bk, ix, cL, cH, im, tl, tk, dr, cc, ld, nI (d), gk, gb, ge, po, oa, mn, cu, og, vl_, tp, ce, lN, lC, sk) (nI p) := by
  have ep : (nI p).toNatClampNeg = p := nI_clamp (by omega)
  have hv : vp_in (nI p) 32 := vp_in_nI hp32 (by omega)
  exact ⟨hv, nm_r (e' := nI 14) (by rw [ep, ho]) ⟨hv, nm_r (e' := oa p) (by rw [ep]) (nm_e (nm_e (br_f (by decide) (br_f (by decide) (br_f (by decide) (br_f (by decide) (br_f (by decide) (br_f (by decide) (br_f (by decide) (br_f (by decide) (br_f (by decide) (br_f (by decide) (br_f (by decide) (br_f (by decide) (br_f (by decide) (br_f (by decide) (br_f (by decide) (br_f (by decide) (br_t rfl (br_f (nI_nlt (b := 0) (by omega) (by omega)) (br_f (by decide) (br_f (by decide) (br_f (by decide) (br_f (by decide) (br_t rfl (br_f (by decide) (br_f (by decide) (br_f (by decide) (br_f (by decide) (br_f (by decide) (br_f (by decide) (br_f (by decide) (br_f (by decide) (br_f (by decide) (br_f (by decide) (br_f (by decide) (br_f (by decide) (br_f (by decide) (br_f (by decide) (br_f (by decide) (br_f (by decide) (br_t rfl (hp)))))))))))))))))))))))))))))))))))))))))))⟩⟩
theorem cs_exG0 {p : Nat} (hp32 : p < 32) (ho : po p = nI 0) (post : Int32 → SX → Prop) (hp : post (-1) (cp, pr, ph, gc, gp, oc, ml, cl, ol, vl, tr, ac, ca, pa, bk, ix, cL, cH, im, tl, tk, dr, cc, ld, nI 16, gk, gb, ge, po, oa, mn, cu, og, vl_, tp, ce, lN, lC, sk)) : wpX_execute post (cp, pr, ph, gc, gp, oc, ml, cl, ol, vl, tr, ac, ca, pa, bk, ix, cL, cH, im, tl, tk, dr, cc, ld, nI 16, gk, gb, ge, po, oa, mn, cu, og, vl_, tp, ce, lN, lC, sk) (nI p) := by
  have ep : (nI p).toNatClampNeg = p := nI_clamp (by omega)
  have hv : vp_in (nI p) 32 := vp_in_nI hp32 (by omega)
  exact ⟨hv, nm_r (e' := nI 0) (by rw [ep, ho]) ⟨hv, nm_r (e' := oa p) (by rw [ep]) (nm_e (nm_e (br_f (by decide) (br_f (by decide) (br_t rfl (br_f (by decide) (br_t rfl (br_f (by decide) (br_f (by decide) hp)))))))))⟩⟩
theorem cs_exF1 {p d : Nat} (hp32 : p < 32) (ho : po p = nI 1) (hd : d < 1) (post : Int32 → SX → Prop) (hp : post (-1) (cp, pr, ph, gc, gp, oc, ml, cl, ol, vl, tr, ac, ca, pa, bk, ix, cL, cH, im, tl, tk, dr, cc, ld, nI d, gk, gb, ge, po, oa, mn, cu, og, vl_, tp, ce, lN, lC, sk)) : wpX_execute post (cp, pr, ph, gc, gp, oc, ml, cl, ol, vl, tr, ac, ca, pa, bk, ix, cL, cH, im, tl, tk, dr, cc, ld, nI d, gk, gb, ge, po, oa, mn, cu, og, vl_, tp, ce, lN, lC, sk) (nI p) := by
  have ep : (nI p).toNatClampNeg = p := nI_clamp (by omega)
  have hv : vp_in (nI p) 32 := vp_in_nI hp32 (by omega)
  exact ⟨hv, nm_r (e' := nI 1) (by rw [ep, ho]) ⟨hv, nm_r (e' := oa p) (by rw [ep]) (nm_e (nm_e (br_f (by decide) (br_f (by decide) (br_f (by decide) (br_t rfl (br_t (nI_lt (b := 1) hd (by decide)) hp)))))))⟩⟩
theorem cs_exG2 {p : Nat} (hp32 : p < 32) (ho : po p = nI 2) (post : Int32 → SX → Prop) (hp : post (-1) (cp, pr, ph, gc, gp, oc, ml, cl, ol, vl, tr, ac, ca, pa, bk, ix, cL, cH, im, tl, tk, dr, cc, ld, nI 16, gk, gb, ge, po, oa, mn, cu, og, vl_, tp, ce, lN, lC, sk)) : wpX_execute post (cp, pr, ph, gc, gp, oc, ml, cl, ol, vl, tr, ac, ca, pa, bk, ix, cL, cH, im, tl, tk, dr, cc, ld, nI 16, gk, gb, ge, po, oa, mn, cu, og, vl_, tp, ce, lN, lC, sk) (nI p) := by
  have ep : (nI p).toNatClampNeg = p := nI_clamp (by omega)
  have hv : vp_in (nI p) 32 := vp_in_nI hp32 (by omega)
  exact ⟨hv, nm_r (e' := nI 2) (by rw [ep, ho]) ⟨hv, nm_r (e' := oa p) (by rw [ep]) (nm_e (nm_e (br_f (by decide) (br_f (by decide) (br_f (by decide) (br_f (by decide) (br_t rfl (br_f (by decide) (br_f (by decide) (br_t rfl (br_f (by decide) (br_f (by decide) hp))))))))))))⟩⟩
theorem cs_exF3 {p d : Nat} (hp32 : p < 32) (ho : po p = nI 3) (hd : d < 2) (post : Int32 → SX → Prop) (hp : post (-1) (cp, pr, ph, gc, gp, oc, ml, cl, ol, vl, tr, ac, ca, pa, bk, ix, cL, cH, im, tl, tk, dr, cc, ld, nI d, gk, gb, ge, po, oa, mn, cu, og, vl_, tp, ce, lN, lC, sk)) : wpX_execute post (cp, pr, ph, gc, gp, oc, ml, cl, ol, vl, tr, ac, ca, pa, bk, ix, cL, cH, im, tl, tk, dr, cc, ld, nI d, gk, gb, ge, po, oa, mn, cu, og, vl_, tp, ce, lN, lC, sk) (nI p) := by
  have ep : (nI p).toNatClampNeg = p := nI_clamp (by omega)
  have hv : vp_in (nI p) 32 := vp_in_nI hp32 (by omega)
  exact ⟨hv, nm_r (e' := nI 3) (by rw [ep, ho]) ⟨hv, nm_r (e' := oa p) (by rw [ep]) (nm_e (nm_e (br_f (by decide) (br_f (by decide) (br_f (by decide) (br_f (by decide) (br_f (by decide) (br_t rfl (br_t (nI_lt (b := 2) hd (by decide)) hp)))))))))⟩⟩
theorem cs_exF4 {p d : Nat} (hp32 : p < 32) (ho : po p = nI 4) (hd : d < 2) (post : Int32 → SX → Prop) (hp : post (-1) (cp, pr, ph, gc, gp, oc, ml, cl, ol, vl, tr, ac, ca, pa, bk, ix, cL, cH, im, tl, tk, dr, cc, ld, nI d, gk, gb, ge, po, oa, mn, cu, og, vl_, tp, ce, lN, lC, sk)) : wpX_execute post (cp, pr, ph, gc, gp, oc, ml, cl, ol, vl, tr, ac, ca, pa, bk, ix, cL, cH, im, tl, tk, dr, cc, ld, nI d, gk, gb, ge, po, oa, mn, cu, og, vl_, tp, ce, lN, lC, sk) (nI p) := by
  have ep : (nI p).toNatClampNeg = p := nI_clamp (by omega)
  have hv : vp_in (nI p) 32 := vp_in_nI hp32 (by omega)
  exact ⟨hv, nm_r (e' := nI 4) (by rw [ep, ho]) ⟨hv, nm_r (e' := oa p) (by rw [ep]) (nm_e (nm_e (br_f (by decide) (br_f (by decide) (br_f (by decide) (br_f (by decide) (br_f (by decide) (br_f (by decide) (br_t rfl (br_t (nI_lt (b := 2) hd (by decide)) hp))))))))))⟩⟩
theorem cs_exF5 {p d : Nat} (hp32 : p < 32) (ho : po p = nI 5) (hd : d < 2) (post : Int32 → SX → Prop) (hp : post (-1) (cp, pr, ph, gc, gp, oc, ml, cl, ol, vl, tr, ac, ca, pa, bk, ix, cL, cH, im, tl, tk, dr, cc, ld, nI d, gk, gb, ge, po, oa, mn, cu, og, vl_, tp, ce, lN, lC, sk)) : wpX_execute post (cp, pr, ph, gc, gp, oc, ml, cl, ol, vl, tr, ac, ca, pa, bk, ix, cL, cH, im, tl, tk, dr, cc, ld, nI d, gk, gb, ge, po, oa, mn, cu, og, vl_, tp, ce, lN, lC, sk) (nI p) := by
  have ep : (nI p).toNatClampNeg = p := nI_clamp (by omega)
  have hv : vp_in (nI p) 32 := vp_in_nI hp32 (by omega)
  exact ⟨hv, nm_r (e' := nI 5) (by rw [ep, ho]) ⟨hv, nm_r (e' := oa p) (by rw [ep]) (nm_e (nm_e (br_f (by decide) (br_f (by decide) (br_f (by decide) (br_f (by decide) (br_f (by decide) (br_f (by decide) (br_f (by decide) (br_t rfl (br_t (nI_lt (b := 2) hd (by decide)) hp)))))))))))⟩⟩
theorem cs_exF6 {p d : Nat} (hp32 : p < 32) (ho : po p = nI 6) (hd : d < 2) (post : Int32 → SX → Prop) (hp : post (-1) (cp, pr, ph, gc, gp, oc, ml, cl, ol, vl, tr, ac, ca, pa, bk, ix, cL, cH, im, tl, tk, dr, cc, ld, nI d, gk, gb, ge, po, oa, mn, cu, og, vl_, tp, ce, lN, lC, sk)) : wpX_execute post (cp, pr, ph, gc, gp, oc, ml, cl, ol, vl, tr, ac, ca, pa, bk, ix, cL, cH, im, tl, tk, dr, cc, ld, nI d, gk, gb, ge, po, oa, mn, cu, og, vl_, tp, ce, lN, lC, sk) (nI p) := by
  have ep : (nI p).toNatClampNeg = p := nI_clamp (by omega)
  have hv : vp_in (nI p) 32 := vp_in_nI hp32 (by omega)
  exact ⟨hv, nm_r (e' := nI 6) (by rw [ep, ho]) ⟨hv, nm_r (e' := oa p) (by rw [ep]) (nm_e (nm_e (br_f (by decide) (br_f (by decide) (br_f (by decide) (br_f (by decide) (br_f (by decide) (br_f (by decide) (br_f (by decide) (br_f (by decide) (br_t rfl (br_t (nI_lt (b := 2) hd (by decide)) hp))))))))))))⟩⟩
theorem cs_exF7 {p d : Nat} (hp32 : p < 32) (ho : po p = nI 7) (hd : d < 2) (post : Int32 → SX → Prop) (hp : post (-1) (cp, pr, ph, gc, gp, oc, ml, cl, ol, vl, tr, ac, ca, pa, bk, ix, cL, cH, im, tl, tk, dr, cc, ld, nI d, gk, gb, ge, po, oa, mn, cu, og, vl_, tp, ce, lN, lC, sk)) : wpX_execute post (cp, pr, ph, gc, gp, oc, ml, cl, ol, vl, tr, ac, ca, pa, bk, ix, cL, cH, im, tl, tk, dr, cc, ld, nI d, gk, gb, ge, po, oa, mn, cu, og, vl_, tp, ce, lN, lC, sk) (nI p) := by
  have ep : (nI p).toNatClampNeg = p := nI_clamp (by omega)
  have hv : vp_in (nI p) 32 := vp_in_nI hp32 (by omega)
  exact ⟨hv, nm_r (e' := nI 7) (by rw [ep, ho]) ⟨hv, nm_r (e' := oa p) (by rw [ep]) (nm_e (nm_e (br_f (by decide) (br_f (by decide) (br_f (by decide) (br_f (by decide) (br_f (by decide) (br_f (by decide) (br_f (by decide) (br_f (by decide) (br_f (by decide) (br_t rfl (br_t (nI_lt (b := 2) hd (by decide)) hp)))))))))))))⟩⟩
theorem cs_exF8 {p d : Nat} (hp32 : p < 32) (ho : po p = nI 8) (hd : d < 1) (post : Int32 → SX → Prop) (hp : post (-1) (cp, pr, ph, gc, gp, oc, ml, cl, ol, vl, tr, ac, ca, pa, bk, ix, cL, cH, im, tl, tk, dr, cc, ld, nI d, gk, gb, ge, po, oa, mn, cu, og, vl_, tp, ce, lN, lC, sk)) : wpX_execute post (cp, pr, ph, gc, gp, oc, ml, cl, ol, vl, tr, ac, ca, pa, bk, ix, cL, cH, im, tl, tk, dr, cc, ld, nI d, gk, gb, ge, po, oa, mn, cu, og, vl_, tp, ce, lN, lC, sk) (nI p) := by
  have ep : (nI p).toNatClampNeg = p := nI_clamp (by omega)
  have hv : vp_in (nI p) 32 := vp_in_nI hp32 (by omega)
  exact ⟨hv, nm_r (e' := nI 8) (by rw [ep, ho]) ⟨hv, nm_r (e' := oa p) (by rw [ep]) (nm_e (nm_e (br_f (by decide) (br_f (by decide) (br_f (by decide) (br_f (by decide) (br_f (by decide) (br_f (by decide) (br_f (by decide) (br_f (by decide) (br_f (by decide) (br_f (by decide) (br_t rfl (br_t (nI_lt (b := 1) hd (by decide)) hp))))))))))))))⟩⟩
theorem cs_exF9 {p d : Nat} (hp32 : p < 32) (ho : po p = nI 9) (hd : d < 1) (post : Int32 → SX → Prop) (hp : post (-1) (cp, pr, ph, gc, gp, oc, ml, cl, ol, vl, tr, ac, ca, pa, bk, ix, cL, cH, im, tl, tk, dr, cc, ld, nI d, gk, gb, ge, po, oa, mn, cu, og, vl_, tp, ce, lN, lC, sk)) : wpX_execute post (cp, pr, ph, gc, gp, oc, ml, cl, ol, vl, tr, ac, ca, pa, bk, ix, cL, cH, im, tl, tk, dr, cc, ld, nI d, gk, gb, ge, po, oa, mn, cu, og, vl_, tp, ce, lN, lC, sk) (nI p) := by
  have ep : (nI p).toNatClampNeg = p := nI_clamp (by omega)
  have hv : vp_in (nI p) 32 := vp_in_nI hp32 (by omega)
  exact ⟨hv, nm_r (e' := nI 9) (by rw [ep, ho]) ⟨hv, nm_r (e' := oa p) (by rw [ep]) (nm_e (nm_e (br_f (by decide) (br_f (by decide) (br_f (by decide) (br_f (by decide) (br_f (by decide) (br_f (by decide) (br_f (by decide) (br_f (by decide) (br_f (by decide) (br_f (by decide) (br_f (by decide) (br_t rfl (br_t (nI_lt (b := 1) hd (by decide)) hp)))))))))))))))⟩⟩
theorem cs_exG9 {p : Nat} (hp32 : p < 32) (ho : po p = nI 9) (post : Int32 → SX → Prop) (hp : post (-1) (cp, pr, ph, gc, gp, oc, ml, cl, ol, vl, tr, ac, ca, pa, bk, ix, cL, cH, im, tl, tk, dr, cc, ld, nI 16, gk, gb, ge, po, oa, mn, cu, og, vl_, tp, ce, lN, lC, sk)) : wpX_execute post (cp, pr, ph, gc, gp, oc, ml, cl, ol, vl, tr, ac, ca, pa, bk, ix, cL, cH, im, tl, tk, dr, cc, ld, nI 16, gk, gb, ge, po, oa, mn, cu, og, vl_, tp, ce, lN, lC, sk) (nI p) := by
  have ep : (nI p).toNatClampNeg = p := nI_clamp (by omega)
  have hv : vp_in (nI p) 32 := vp_in_nI hp32 (by omega)
  exact ⟨hv, nm_r (e' := nI 9) (by rw [ep, ho]) ⟨hv, nm_r (e' := oa p) (by rw [ep]) (nm_e (nm_e (br_f (by decide) (br_f (by decide) (br_f (by decide) (br_f (by decide) (br_f (by decide) (br_f (by decide) (br_f (by decide) (br_f (by decide) (br_f (by decide) (br_f (by decide) (br_f (by decide) (br_t rfl (br_f (by decide) (br_f (by decide) (br_f (by decide) (br_t rfl (br_f (by decide) (br_f (by decide) hp))))))))))))))))))))⟩⟩
theorem cs_exF10 {p d : Nat} (hp32 : p < 32) (ho : po p = nI 10) (hd : d < 2) (post : Int32 → SX → Prop) (hp : post (-1) (cp, pr, ph, gc, gp, oc, ml, cl, ol, vl, tr, ac, ca, pa, bk, ix, cL, cH, im, tl, tk, dr, cc, ld, nI d, gk, gb, ge, po, oa, mn, cu, og, vl_, tp, ce, lN, lC, sk)) : wpX_execute post (cp, pr, ph, gc, gp, oc, ml, cl, ol, vl, tr, ac, ca, pa, bk, ix, cL, cH, im, tl, tk, dr, cc, ld, nI d, gk, gb, ge, po, oa, mn, cu, og, vl_, tp, ce, lN, lC, sk) (nI p) := by
  have ep : (nI p).toNatClampNeg = p := nI_clamp (by omega)
  have hv : vp_in (nI p) 32 := vp_in_nI hp32 (by omega)
  exact ⟨hv, nm_r (e' := nI 10) (by rw [ep, ho]) ⟨hv, nm_r (e' := oa p) (by rw [ep]) (nm_e (nm_e (br_f (by decide) (br_f (by decide) (br_f (by decide) (br_f (by decide) (br_f (by decide) (br_f (by decide) (br_f (by decide) (br_f (by decide) (br_f (by decide) (br_f (by decide) (br_f (by decide) (br_f (by decide) (br_t rfl (br_t (nI_lt (b := 2) hd (by decide)) hp))))))))))))))))⟩⟩
theorem cs_exF11 {p d : Nat} (hp32 : p < 32) (ho : po p = nI 11) (hd : d < 1) (post : Int32 → SX → Prop) (hp : post (-1) (cp, pr, ph, gc, gp, oc, ml, cl, ol, vl, tr, ac, ca, pa, bk, ix, cL, cH, im, tl, tk, dr, cc, ld, nI d, gk, gb, ge, po, oa, mn, cu, og, vl_, tp, ce, lN, lC, sk)) : wpX_execute post (cp, pr, ph, gc, gp, oc, ml, cl, ol, vl, tr, ac, ca, pa, bk, ix, cL, cH, im, tl, tk, dr, cc, ld, nI d, gk, gb, ge, po, oa, mn, cu, og, vl_, tp, ce, lN, lC, sk) (nI p) := by
  have ep : (nI p).toNatClampNeg = p := nI_clamp (by omega)
  have hv : vp_in (nI p) 32 := vp_in_nI hp32 (by omega)
  exact ⟨hv, nm_r (e' := nI 11) (by rw [ep, ho]) ⟨hv, nm_r (e' := oa p) (by rw [ep]) (nm_e (nm_e (br_f (by decide) (br_f (by decide) (br_f (by decide) (br_f (by decide) (br_f (by decide) (br_f (by decide) (br_f (by decide) (br_f (by decide) (br_f (by decide) (br_f (by decide) (br_f (by decide) (br_f (by decide) (br_f (by decide) (br_t rfl (br_t (nI_lt (b := 1) hd (by decide)) hp)))))))))))))))))⟩⟩
theorem cs_exF12 {p d : Nat} (hp32 : p < 32) (ho : po p = nI 12) (hd : d < 2) (post : Int32 → SX → Prop) (hp : post (-1) (cp, pr, ph, gc, gp, oc, ml, cl, ol, vl, tr, ac, ca, pa, bk, ix, cL, cH, im, tl, tk, dr, cc, ld, nI d, gk, gb, ge, po, oa, mn, cu, og, vl_, tp, ce, lN, lC, sk)) : wpX_execute post (cp, pr, ph, gc, gp, oc, ml, cl, ol, vl, tr, ac, ca, pa, bk, ix, cL, cH, im, tl, tk, dr, cc, ld, nI d, gk, gb, ge, po, oa, mn, cu, og, vl_, tp, ce, lN, lC, sk) (nI p) := by
  have ep : (nI p).toNatClampNeg = p := nI_clamp (by omega)
  have hv : vp_in (nI p) 32 := vp_in_nI hp32 (by omega)
  exact ⟨hv, nm_r (e' := nI 12) (by rw [ep, ho]) ⟨hv, nm_r (e' := oa p) (by rw [ep]) (nm_e (nm_e (br_f (by decide) (br_f (by decide) (br_f (by decide) (br_f (by decide) (br_f (by decide) (br_f (by decide) (br_f (by decide) (br_f (by decide) (br_f (by decide) (br_f (by decide) (br_f (by decide) (br_f (by decide) (br_f (by decide) (br_f (by decide) (br_t rfl (br_t (nI_lt (b := 2) hd (by decide)) hp))))))))))))))))))⟩⟩
theorem cs_exG12 {p : Nat} (hp32 : p < 32) (ho : po p = nI 12) (post : Int32 → SX → Prop) (hp : post (-1) (cp, pr, ph, gc, gp, oc, ml, cl, ol, vl, tr, ac, ca, pa, bk, ix, cL, cH, im, tl, tk, dr, cc, ld, nI 16, gk, gb, ge, po, oa, mn, cu, og, vl_, tp, ce, lN, lC, sk)) : wpX_execute post (cp, pr, ph, gc, gp, oc, ml, cl, ol, vl, tr, ac, ca, pa, bk, ix, cL, cH, im, tl, tk, dr, cc, ld, nI 16, gk, gb, ge, po, oa, mn, cu, og, vl_, tp, ce, lN, lC, sk) (nI p) := by
  have ep : (nI p).toNatClampNeg = p := nI_clamp (by omega)
  have hv : vp_in (nI p) 32 := vp_in_nI hp32 (by omega)
  exact ⟨hv, nm_r (e' := nI 12) (by rw [ep, ho]) ⟨hv, nm_r (e' := oa p) (by rw [ep]) (nm_e (nm_e (br_f (by decide) (br_f (by decide) (br_f (by decide) (br_f (by decide) (br_f (by decide) (br_f (by decide) (br_f (by decide) (br_f (by decide) (br_f (by decide) (br_f (by decide) (br_f (by decide) (br_f (by decide) (br_f (by decide) (br_f (by decide) (br_t rfl (br_f (by decide) (br_f (by decide) (br_f (by decide) (br_f (by decide) (br_t rfl (br_f (by decide) (br_f (by decide) hp))))))))))))))))))))))))⟩⟩
theorem cs_exF13 {p d : Nat} (hp32 : p < 32) (ho : po p = nI 13) (hd : d < 1) (post : Int32 → SX → Prop) (hp : post (-1) (cp, pr, ph, gc, gp, oc, ml, cl, ol, vl, tr, ac, ca, pa, bk, ix, cL, cH, im, tl, tk, dr, cc, ld, nI d, gk, gb, ge, po, oa, mn, cu, og, vl_, tp, ce, lN, lC, sk)) : wpX_execute post (cp, pr, ph, gc, gp, oc, ml, cl, ol, vl, tr, ac, ca, pa, bk, ix, cL, cH, im, tl, tk, dr, cc, ld, nI d, gk, gb, ge, po, oa, mn, cu, og, vl_, tp, ce, lN, lC, sk) (nI p) := by
  have ep : (nI p).toNatClampNeg = p := nI_clamp (by omega)
  have hv : vp_in (nI p) 32 := vp_in_nI hp32 (by omega)
  exact ⟨hv, nm_r (e' := nI 13) (by rw [ep, ho]) ⟨hv, nm_r (e' := oa p) (by rw [ep]) (nm_e (nm_e (br_f (by decide) (br_f (by decide) (br_f (by decide) (br_f (by decide) (br_f (by decide) (br_f (by decide) (br_f (by decide) (br_f (by decide) (br_f (by decide) (br_f (by decide) (br_f (by decide) (br_f (by decide) (br_f (by decide) (br_f (by decide) (br_f (by decide) (br_t rfl (br_t (nI_lt (b := 1) hd (by decide)) hp)))))))))))))))))))⟩⟩
end
end
section
section
variable {cp pr ph gc gp oc ml cl ol vl tr ac ca pa bk ix cL cH im tl tk dr cc ld sd yn yl yt yr yo : Int32} {gk gb ge po oa mn cu og vl_ tp ce lN lC sk yA cd ou sN sS sQ sM : Nat → Int32}
theorem cs_ey0 {p s i m fuel : Nat} {d : Nat} (hd : d < 16) (hm : m ≤ 32) (hpm : p < m) (ho : po p = nI 0) (hs : s < 256) (hi : i < 300) (post : Int32 → SY → Prop) (hp : wY_holds_9 post pr cp ph gc gp (nI m) ml cl ol vl tr ac ca pa bk ix cL cH im yn yl yt yr yo fuel (nI (d + 1)) (nI (p + 1)) (nI (s + 1)) (nI (i + 1)) gk gb po yA mn cu og vl_ cd ou sN sS sQ sM (upd sk d (yA p))) : wY_holds_9 post pr cp ph gc gp (nI m) ml cl ol vl tr ac ca pa bk ix cL cH im yn yl yt yr yo (fuel + 1) (nI (d)) (nI p) (nI s) (nI i) gk gb po yA mn cu og vl_ cd ou sN sS sQ sM sk := by
  have ep : (nI p).toNatClampNeg = p := nI_clamp (by omega)
  have hv : vp_in (nI p) 32 := vp_in_nI (by omega) (by omega)
  have hs256 : ¬ nI s = 256 := fun z => absurd ((nI_eq (b := 256) (by omega) (by decide)).mp z) (by omega)
  have ee : (nI d).toNatClampNeg = d := nI_clamp (by omega)
  exact br_f (nI_ge (b := 300) hi (by decide)) (br_t (nI_lt hpm (by omega)) (br_f hs256 (nm_r (nI_1 s) ⟨hv, nm_r (e' := nI 0) (by rw [ep, ho]) (nm_r (nI_1 p) (br_t rfl (br_t (nI_lt (b := 16) hd (by decide)) ⟨hv, vp_in_nI hd (by omega), nm_r (e' := upd sk d (yA p)) (by rw [ee, ep]) (br_f (by decide) (nm_r (nI_1 d) (nm_r (nI_1 i) hp)))⟩)))⟩)))
theorem cs_ey1 {p s i m fuel : Nat} {e L : Nat} (hd : e + 1 ≤ 16) (hL : L ≤ 32) (hm : m ≤ 32) (hpm : p < m) (ho : po p = nI 1) (hs : s < 256) (hi : i < 300) (post : Int32 → SY → Prop) (hp : wY_holds_9 post pr cp ph gc gp (nI m) ml cl ol vl tr ac ca pa bk ix cL cH im yn yl yt yr (nI L) fuel (nI (e + 1)) (nI (p + 1)) (nI (s + 1)) (nI (i + 1)) gk gb po yA mn cu og vl_ cd ou sN sS sQ sM (upd sk e (if sk e < 0 then 0 else if nI L ≤ sk e then 0 else ou (sk e).toNatClampNeg))) : wY_holds_9 post pr cp ph gc gp (nI m) ml cl ol vl tr ac ca pa bk ix cL cH im yn yl yt yr (nI L) (fuel + 1) (nI (e + 1)) (nI p) (nI s) (nI i) gk gb po yA mn cu og vl_ cd ou sN sS sQ sM sk := by
  have ep : (nI p).toNatClampNeg = p := nI_clamp (by omega)
  have hv : vp_in (nI p) 32 := vp_in_nI (by omega) (by omega)
  have hs256 : ¬ nI s = 256 := fun z => absurd ((nI_eq (b := 256) (by omega) (by decide)).mp z) (by omega)
  have ee : (nI e).toNatClampNeg = e := nI_clamp (by omega)
  have he : vp_in (nI e) 16 := vp_in_nI (by omega) (by omega)
  have hx : nI (e + 1) - 1 = nI e := nI_pred e
  refine br_f (nI_ge (b := 300) hi (by decide)) (br_t (nI_lt hpm (by omega)) (br_f hs256 (nm_r (nI_1 s) ⟨hv, nm_r (e' := nI 1) (by rw [ep, ho]) (nm_r (nI_1 p) (br_f (by decide) (br_f (by decide) (br_t rfl (br_t (nI_le (a := 1) (by omega) (by omega)) ⟨(by rw [hx]; exact he), nm_r (e' := sk e) (by rw [hx, ee]) ⟨(by rw [hx]; exact he), nm_r (e' := upd sk e 0) (by rw [hx, ee]) ?_⟩⟩)))))⟩)))
  by_cases z : sk e < 0
  · rw [if_pos z] at hp
    exact br_t z (nm_r (nI_1 i) hp)
  · rw [if_neg z] at hp
    by_cases z2 : nI L ≤ sk e
    · rw [if_pos z2] at hp
      exact br_f z (br_t z2 (nm_r (nI_1 i) hp))
    · rw [if_neg z2] at hp
      obtain ⟨j, hj, ej⟩ := nI_of z
      have hjL : j < L := by
        rw [ej, nI_leI (by omega) hj] at z2
        omega
      exact br_f z (br_f z2 ⟨by rw [ej]; exact vp_in_nI (by omega) (by omega), (by rw [hx]; exact he), nm_r (e' := upd sk e (ou (sk e).toNatClampNeg)) (by rw [hx, ee, cs_uu]) (nm_r (nI_1 i) hp)⟩)
theorem cs_ey2 {p s i m fuel : Nat} {d : Nat} {L : Nat} (hd : d < 16) (hm : m ≤ 32) (hpm : p < m) (ho : po p = nI 2) (hs : s < 256) (hi : i < 300) (post : Int32 → SY → Prop) (hp : wY_holds_9 post pr cp ph gc gp (nI m) ml cl ol vl tr ac ca pa bk ix cL cH im yn yl yt yr (nI L) fuel (nI (d + 1)) (nI (p + 1)) (nI (s + 1)) (nI (i + 1)) gk gb po yA mn cu og vl_ cd ou sN sS sQ sM (upd sk d (nI L))) : wY_holds_9 post pr cp ph gc gp (nI m) ml cl ol vl tr ac ca pa bk ix cL cH im yn yl yt yr (nI L) (fuel + 1) (nI (d)) (nI p) (nI s) (nI i) gk gb po yA mn cu og vl_ cd ou sN sS sQ sM sk := by
  have ep : (nI p).toNatClampNeg = p := nI_clamp (by omega)
  have hv : vp_in (nI p) 32 := vp_in_nI (by omega) (by omega)
  have hs256 : ¬ nI s = 256 := fun z => absurd ((nI_eq (b := 256) (by omega) (by decide)).mp z) (by omega)
  have ee : (nI d).toNatClampNeg = d := nI_clamp (by omega)
  exact br_f (nI_ge (b := 300) hi (by decide)) (br_t (nI_lt hpm (by omega)) (br_f hs256 (nm_r (nI_1 s) ⟨hv, nm_r (e' := nI 2) (by rw [ep, ho]) (nm_r (nI_1 p) (br_f (by decide) (br_t rfl (br_t (nI_lt (b := 16) hd (by decide)) ⟨hv, vp_in_nI hd (by omega), nm_r (e' := upd sk d (yA p)) (by rw [ee, ep]) (br_t rfl ⟨vp_in_nI hd (by omega), nm_r (e' := upd sk d (nI L)) (by rw [ee, cs_uu]) (nm_r (nI_1 d) (nm_r (nI_1 i) hp))⟩)⟩))))⟩)))
theorem cs_ey3 {p s i m fuel : Nat} {e : Nat} (hd : e + 2 ≤ 16) (hm : m ≤ 32) (hpm : p < m) (ho : po p = nI 3) (hs : s < 256) (hi : i < 300) (post : Int32 → SY → Prop) (hp : wY_holds_9 post pr cp ph gc gp (nI m) ml cl ol vl tr ac ca pa bk ix cL cH im yn yl yt yr yo fuel (nI (e + 1)) (nI (p + 1)) (nI (s + 1)) (nI (i + 1)) gk gb po yA mn cu og vl_ cd ou sN sS sQ sM (upd sk e (sk e + sk (e + 1)))) : wY_holds_9 post pr cp ph gc gp (nI m) ml cl ol vl tr ac ca pa bk ix cL cH im yn yl yt yr yo (fuel + 1) (nI (e + 2)) (nI p) (nI s) (nI i) gk gb po yA mn cu og vl_ cd ou sN sS sQ sM sk := by
  have ep : (nI p).toNatClampNeg = p := nI_clamp (by omega)
  have hv : vp_in (nI p) 32 := vp_in_nI (by omega) (by omega)
  have hs256 : ¬ nI s = 256 := fun z => absurd ((nI_eq (b := 256) (by omega) (by decide)).mp z) (by omega)
  have ee : (nI e).toNatClampNeg = e := nI_clamp (by omega)
  have he : vp_in (nI e) 16 := vp_in_nI (by omega) (by omega)
  have ee1 : (nI (e + 1)).toNatClampNeg = e + 1 := nI_clamp (by omega)
  have he1 : vp_in (nI (e + 1)) 16 := vp_in_nI (by omega) (by omega)
  have h2 : nI (e + 2) - 2 = nI e := (pk_sub (a := e + 2) (b := 2) (by omega)).trans (congrArg nI (by omega))
  have hx : nI (e + 2) - 1 = nI (e + 1) := nI_pred (e + 1)
  exact br_f (nI_ge (b := 300) hi (by decide)) (br_t (nI_lt hpm (by omega)) (br_f hs256 (nm_r (nI_1 s) ⟨hv, nm_r (e' := nI 3) (by rw [ep, ho]) (nm_r (nI_1 p) (br_f (by decide) (br_f (by decide) (br_f (by decide) (br_f (by decide) (br_f (by decide) (br_t (nI_le (a := 2) (by omega) (by omega)) ⟨(by rw [hx]; exact he1), nm_r (e' := sk (e + 1)) (by rw [hx, ee1]) ⟨(by rw [h2]; exact he), nm_r (e' := sk e) (by rw [h2, ee]) (nm_e (br_f (by decide) (br_f (by decide) (br_f (by decide) (br_f (by decide) (nm_r (pk_m1 (e + 1)) ⟨by rw [nI_pred]; exact he, nm_r (e' := upd sk e (sk e + sk (e + 1))) (by rw [nI_pred, ee]) (nm_r (nI_1 i) hp)⟩))))))⟩⟩)))))))⟩)))
theorem cs_ey4 {p s i m fuel : Nat} {e : Nat} (hd : e + 2 ≤ 16) (hm : m ≤ 32) (hpm : p < m) (ho : po p = nI 4) (hs : s < 256) (hi : i < 300) (post : Int32 → SY → Prop) (hp : wY_holds_9 post pr cp ph gc gp (nI m) ml cl ol vl tr ac ca pa bk ix cL cH im yn yl yt yr yo fuel (nI (e + 1)) (nI (p + 1)) (nI (s + 1)) (nI (i + 1)) gk gb po yA mn cu og vl_ cd ou sN sS sQ sM (upd sk e (sk e - sk (e + 1)))) : wY_holds_9 post pr cp ph gc gp (nI m) ml cl ol vl tr ac ca pa bk ix cL cH im yn yl yt yr yo (fuel + 1) (nI (e + 2)) (nI p) (nI s) (nI i) gk gb po yA mn cu og vl_ cd ou sN sS sQ sM sk := by
  have ep : (nI p).toNatClampNeg = p := nI_clamp (by omega)
  have hv : vp_in (nI p) 32 := vp_in_nI (by omega) (by omega)
  have hs256 : ¬ nI s = 256 := fun z => absurd ((nI_eq (b := 256) (by omega) (by decide)).mp z) (by omega)
  have ee : (nI e).toNatClampNeg = e := nI_clamp (by omega)
  have he : vp_in (nI e) 16 := vp_in_nI (by omega) (by omega)
  have ee1 : (nI (e + 1)).toNatClampNeg = e + 1 := nI_clamp (by omega)
  have he1 : vp_in (nI (e + 1)) 16 := vp_in_nI (by omega) (by omega)
  have h2 : nI (e + 2) - 2 = nI e := (pk_sub (a := e + 2) (b := 2) (by omega)).trans (congrArg nI (by omega))
  have hx : nI (e + 2) - 1 = nI (e + 1) := nI_pred (e + 1)
  exact br_f (nI_ge (b := 300) hi (by decide)) (br_t (nI_lt hpm (by omega)) (br_f hs256 (nm_r (nI_1 s) ⟨hv, nm_r (e' := nI 4) (by rw [ep, ho]) (nm_r (nI_1 p) (br_f (by decide) (br_f (by decide) (br_f (by decide) (br_f (by decide) (br_f (by decide) (br_t (nI_le (a := 2) (by omega) (by omega)) ⟨(by rw [hx]; exact he1), nm_r (e' := sk (e + 1)) (by rw [hx, ee1]) ⟨(by rw [h2]; exact he), nm_r (e' := sk e) (by rw [h2, ee]) (nm_e (br_t rfl (nm_e (br_f (by decide) (br_f (by decide) (br_f (by decide) (nm_r (pk_m1 (e + 1)) ⟨by rw [nI_pred]; exact he, nm_r (e' := upd sk e (sk e - sk (e + 1))) (by rw [nI_pred, ee]) (nm_r (nI_1 i) hp)⟩)))))))⟩⟩)))))))⟩)))
theorem cs_ey5 {p s i m fuel : Nat} {e : Nat} (hd : e + 2 ≤ 16) (hm : m ≤ 32) (hpm : p < m) (ho : po p = nI 5) (hs : s < 256) (hi : i < 300) (post : Int32 → SY → Prop) (hp : wY_holds_9 post pr cp ph gc gp (nI m) ml cl ol vl tr ac ca pa bk ix cL cH im yn yl yt yr yo fuel (nI (e + 1)) (nI (p + 1)) (nI (s + 1)) (nI (i + 1)) gk gb po yA mn cu og vl_ cd ou sN sS sQ sM (upd sk e (sk e * sk (e + 1)))) : wY_holds_9 post pr cp ph gc gp (nI m) ml cl ol vl tr ac ca pa bk ix cL cH im yn yl yt yr yo (fuel + 1) (nI (e + 2)) (nI p) (nI s) (nI i) gk gb po yA mn cu og vl_ cd ou sN sS sQ sM sk := by
  have ep : (nI p).toNatClampNeg = p := nI_clamp (by omega)
  have hv : vp_in (nI p) 32 := vp_in_nI (by omega) (by omega)
  have hs256 : ¬ nI s = 256 := fun z => absurd ((nI_eq (b := 256) (by omega) (by decide)).mp z) (by omega)
  have ee : (nI e).toNatClampNeg = e := nI_clamp (by omega)
  have he : vp_in (nI e) 16 := vp_in_nI (by omega) (by omega)
  have ee1 : (nI (e + 1)).toNatClampNeg = e + 1 := nI_clamp (by omega)
  have he1 : vp_in (nI (e + 1)) 16 := vp_in_nI (by omega) (by omega)
  have h2 : nI (e + 2) - 2 = nI e := (pk_sub (a := e + 2) (b := 2) (by omega)).trans (congrArg nI (by omega))
  have hx : nI (e + 2) - 1 = nI (e + 1) := nI_pred (e + 1)
  exact br_f (nI_ge (b := 300) hi (by decide)) (br_t (nI_lt hpm (by omega)) (br_f hs256 (nm_r (nI_1 s) ⟨hv, nm_r (e' := nI 5) (by rw [ep, ho]) (nm_r (nI_1 p) (br_f (by decide) (br_f (by decide) (br_f (by decide) (br_f (by decide) (br_f (by decide) (br_t (nI_le (a := 2) (by omega) (by omega)) ⟨(by rw [hx]; exact he1), nm_r (e' := sk (e + 1)) (by rw [hx, ee1]) ⟨(by rw [h2]; exact he), nm_r (e' := sk e) (by rw [h2, ee]) (nm_e (br_f (by decide) (br_t rfl (nm_e (br_f (by decide) (br_f (by decide) (nm_r (pk_m1 (e + 1)) ⟨by rw [nI_pred]; exact he, nm_r (e' := upd sk e (sk e * sk (e + 1))) (by rw [nI_pred, ee]) (nm_r (nI_1 i) hp)⟩)))))))⟩⟩)))))))⟩)))
theorem cs_ey6 {p s i m fuel : Nat} {e : Nat} (hd : e + 2 ≤ 16) (hm : m ≤ 32) (hpm : p < m) (ho : po p = nI 6) (hs : s < 256) (hi : i < 300) (post : Int32 → SY → Prop) (hp : wY_holds_9 post pr cp ph gc gp (nI m) ml cl ol vl tr ac ca pa bk ix cL cH im yn yl yt yr yo fuel (nI (e + 1)) (nI (p + 1)) (nI (s + 1)) (nI (i + 1)) gk gb po yA mn cu og vl_ cd ou sN sS sQ sM (upd sk e ((if sk (e + 1) ≤ sk e then 0 else 1)))) : wY_holds_9 post pr cp ph gc gp (nI m) ml cl ol vl tr ac ca pa bk ix cL cH im yn yl yt yr yo (fuel + 1) (nI (e + 2)) (nI p) (nI s) (nI i) gk gb po yA mn cu og vl_ cd ou sN sS sQ sM sk := by
  have ep : (nI p).toNatClampNeg = p := nI_clamp (by omega)
  have hv : vp_in (nI p) 32 := vp_in_nI (by omega) (by omega)
  have hs256 : ¬ nI s = 256 := fun z => absurd ((nI_eq (b := 256) (by omega) (by decide)).mp z) (by omega)
  have ee : (nI e).toNatClampNeg = e := nI_clamp (by omega)
  have he : vp_in (nI e) 16 := vp_in_nI (by omega) (by omega)
  have ee1 : (nI (e + 1)).toNatClampNeg = e + 1 := nI_clamp (by omega)
  have he1 : vp_in (nI (e + 1)) 16 := vp_in_nI (by omega) (by omega)
  have h2 : nI (e + 2) - 2 = nI e := (pk_sub (a := e + 2) (b := 2) (by omega)).trans (congrArg nI (by omega))
  have hx : nI (e + 2) - 1 = nI (e + 1) := nI_pred (e + 1)
  refine br_f (nI_ge (b := 300) hi (by decide)) (br_t (nI_lt hpm (by omega)) (br_f hs256 (nm_r (nI_1 s) ⟨hv, nm_r (e' := nI 6) (by rw [ep, ho]) (nm_r (nI_1 p) (br_f (by decide) (br_f (by decide) (br_f (by decide) (br_f (by decide) (br_f (by decide) (br_t (nI_le (a := 2) (by omega) (by omega)) ⟨(by rw [hx]; exact he1), nm_r (e' := sk (e + 1)) (by rw [hx, ee1]) ⟨(by rw [h2]; exact he), nm_r (e' := sk e) (by rw [h2, ee]) (nm_e (br_f (by decide) (br_f (by decide) (br_t rfl ?_))))⟩⟩)))))))⟩)))
  by_cases z : sk (e + 1) ≤ sk e
  · rw [if_pos z] at hp
    exact br_t z (br_f (by decide) (nm_r (pk_m1 (e + 1)) ⟨by rw [nI_pred]; exact he, nm_r (e' := upd sk e (0)) (by rw [nI_pred, ee]) (nm_r (nI_1 i) hp)⟩))
  · rw [if_neg z] at hp
    exact br_f z (br_f (by decide) (nm_r (pk_m1 (e + 1)) ⟨by rw [nI_pred]; exact he, nm_r (e' := upd sk e (1)) (by rw [nI_pred, ee]) (nm_r (nI_1 i) hp)⟩))
theorem cs_ey7 {p s i m fuel : Nat} {e : Nat} (hd : e + 2 ≤ 16) (hm : m ≤ 32) (hpm : p < m) (ho : po p = nI 7) (hs : s < 256) (hi : i < 300) (post : Int32 → SY → Prop) (hp : wY_holds_9 post pr cp ph gc gp (nI m) ml cl ol vl tr ac ca pa bk ix cL cH im yn yl yt yr yo fuel (nI (e + 1)) (nI (p + 1)) (nI (s + 1)) (nI (i + 1)) gk gb po yA mn cu og vl_ cd ou sN sS sQ sM (upd sk e ((if sk e = sk (e + 1) then 1 else 0)))) : wY_holds_9 post pr cp ph gc gp (nI m) ml cl ol vl tr ac ca pa bk ix cL cH im yn yl yt yr yo (fuel + 1) (nI (e + 2)) (nI p) (nI s) (nI i) gk gb po yA mn cu og vl_ cd ou sN sS sQ sM sk := by
  have ep : (nI p).toNatClampNeg = p := nI_clamp (by omega)
  have hv : vp_in (nI p) 32 := vp_in_nI (by omega) (by omega)
  have hs256 : ¬ nI s = 256 := fun z => absurd ((nI_eq (b := 256) (by omega) (by decide)).mp z) (by omega)
  have ee : (nI e).toNatClampNeg = e := nI_clamp (by omega)
  have he : vp_in (nI e) 16 := vp_in_nI (by omega) (by omega)
  have ee1 : (nI (e + 1)).toNatClampNeg = e + 1 := nI_clamp (by omega)
  have he1 : vp_in (nI (e + 1)) 16 := vp_in_nI (by omega) (by omega)
  have h2 : nI (e + 2) - 2 = nI e := (pk_sub (a := e + 2) (b := 2) (by omega)).trans (congrArg nI (by omega))
  have hx : nI (e + 2) - 1 = nI (e + 1) := nI_pred (e + 1)
  refine br_f (nI_ge (b := 300) hi (by decide)) (br_t (nI_lt hpm (by omega)) (br_f hs256 (nm_r (nI_1 s) ⟨hv, nm_r (e' := nI 7) (by rw [ep, ho]) (nm_r (nI_1 p) (br_f (by decide) (br_f (by decide) (br_f (by decide) (br_f (by decide) (br_f (by decide) (br_t (nI_le (a := 2) (by omega) (by omega)) ⟨(by rw [hx]; exact he1), nm_r (e' := sk (e + 1)) (by rw [hx, ee1]) ⟨(by rw [h2]; exact he), nm_r (e' := sk e) (by rw [h2, ee]) (nm_e (br_f (by decide) (br_f (by decide) (br_f (by decide) (br_t rfl ?_)))))⟩⟩)))))))⟩)))
  by_cases z : sk e = sk (e + 1)
  · rw [if_pos z] at hp
    exact br_t z (nm_r (pk_m1 (e + 1)) ⟨by rw [nI_pred]; exact he, nm_r (e' := upd sk e (1)) (by rw [nI_pred, ee]) (nm_r (nI_1 i) hp)⟩)
  · rw [if_neg z] at hp
    exact br_f z (nm_r (pk_m1 (e + 1)) ⟨by rw [nI_pred]; exact he, nm_r (e' := upd sk e (0)) (by rw [nI_pred, ee]) (nm_r (nI_1 i) hp)⟩)
theorem cs_ey8 {p s i m fuel : Nat} {e : Nat} (hd : e + 1 ≤ 16) (hm : m ≤ 32) (hpm : p < m) (ho : po p = nI 8) (hs : s < 256) (hi : i < 300) (post : Int32 → SY → Prop) (hp : wY_holds_9 post pr cp ph gc gp (nI m) ml cl ol vl tr ac ca pa bk ix cL cH im yn yl yt yr yo fuel (nI (e + 1)) (nI (p + 1)) (nI (s + 1)) (nI (i + 1)) gk gb po yA mn cu og vl_ cd ou sN sS sQ sM (upd sk e (if sk e = 0 then 1 else 0))) : wY_holds_9 post pr cp ph gc gp (nI m) ml cl ol vl tr ac ca pa bk ix cL cH im yn yl yt yr yo (fuel + 1) (nI (e + 1)) (nI p) (nI s) (nI i) gk gb po yA mn cu og vl_ cd ou sN sS sQ sM sk := by
  have ep : (nI p).toNatClampNeg = p := nI_clamp (by omega)
  have hv : vp_in (nI p) 32 := vp_in_nI (by omega) (by omega)
  have hs256 : ¬ nI s = 256 := fun z => absurd ((nI_eq (b := 256) (by omega) (by decide)).mp z) (by omega)
  have ee : (nI e).toNatClampNeg = e := nI_clamp (by omega)
  have he : vp_in (nI e) 16 := vp_in_nI (by omega) (by omega)
  have hx : nI (e + 1) - 1 = nI e := nI_pred e
  refine br_f (nI_ge (b := 300) hi (by decide)) (br_t (nI_lt hpm (by omega)) (br_f hs256 (nm_r (nI_1 s) ⟨hv, nm_r (e' := nI 8) (by rw [ep, ho]) (nm_r (nI_1 p) (br_f (by decide) (br_f (by decide) (br_f (by decide) (br_f (by decide) (br_t (by decide) (br_t rfl (br_t (nI_le (a := 1) (by omega) (by omega)) ⟨(by rw [hx]; exact he), ?_⟩))))))))⟩)))
  by_cases z : sk e = 0
  · rw [if_pos z] at hp
    exact br_t (by rw [hx, ee]; exact z) ⟨(by rw [hx]; exact he), nm_r (e' := upd sk e 1) (by rw [hx, ee]) (nm_r (nI_1 i) hp)⟩
  · rw [if_neg z] at hp
    exact br_f (by rw [hx, ee]; exact z) ⟨(by rw [hx]; exact he), nm_r (e' := upd sk e 0) (by rw [hx, ee]) (nm_r (nI_1 i) hp)⟩
theorem cs_ey9 {p s i m fuel : Nat} {e : Nat} (hd : e + 1 < 16) (hm : m ≤ 32) (hpm : p < m) (ho : po p = nI 9) (hs : s < 256) (hi : i < 300) (post : Int32 → SY → Prop) (hp : wY_holds_9 post pr cp ph gc gp (nI m) ml cl ol vl tr ac ca pa bk ix cL cH im yn yl yt yr yo fuel (nI (e + 1 + 1)) (nI (p + 1)) (nI (s + 1)) (nI (i + 1)) gk gb po yA mn cu og vl_ cd ou sN sS sQ sM (upd sk (e + 1) (sk e))) : wY_holds_9 post pr cp ph gc gp (nI m) ml cl ol vl tr ac ca pa bk ix cL cH im yn yl yt yr yo (fuel + 1) (nI (e + 1)) (nI p) (nI s) (nI i) gk gb po yA mn cu og vl_ cd ou sN sS sQ sM sk := by
  have ep : (nI p).toNatClampNeg = p := nI_clamp (by omega)
  have hv : vp_in (nI p) 32 := vp_in_nI (by omega) (by omega)
  have hs256 : ¬ nI s = 256 := fun z => absurd ((nI_eq (b := 256) (by omega) (by decide)).mp z) (by omega)
  have ee : (nI e).toNatClampNeg = e := nI_clamp (by omega)
  have he : vp_in (nI e) 16 := vp_in_nI (by omega) (by omega)
  have hx : nI (e + 1) - 1 = nI e := nI_pred e
  exact br_f (nI_ge (b := 300) hi (by decide)) (br_t (nI_lt hpm (by omega)) (br_f hs256 (nm_r (nI_1 s) ⟨hv, nm_r (e' := nI 9) (by rw [ep, ho]) (nm_r (nI_1 p) (br_f (by decide) (br_f (by decide) (br_f (by decide) (br_f (by decide) (br_t (by decide) (br_f (by decide) (br_t rfl (br_f (by decide) (br_f (nI_nlt (b := 1) (by omega) (by omega)) (br_t (nI_lt (b := 16) hd (by decide)) ⟨(by rw [hx]; exact he), vp_in_nI hd (by omega), nm_r (e' := upd sk (e + 1) (sk e)) (by rw [hx, ee, nI_clamp (n := e + 1) (by omega)]) (nm_r (nI_1 (e + 1)) (nm_r (nI_1 i) hp))⟩)))))))))))⟩)))
theorem cs_ey10 {p s i m fuel : Nat} {e : Nat} (hd : e + 2 ≤ 16) (hm : m ≤ 32) (hpm : p < m) (ho : po p = nI 10) (hs : s < 256) (hi : i < 300) (post : Int32 → SY → Prop) (hp : wY_holds_9 post pr cp ph gc gp (nI m) ml cl ol vl tr ac ca pa bk ix cL cH im yn yl yt yr yo fuel (nI (e + 2)) (nI (p + 1)) (nI (s + 1)) (nI (i + 1)) gk gb po yA mn cu og vl_ cd ou sN sS sQ sM (upd (upd sk (e + 1) (sk e)) e (sk (e + 1)))) : wY_holds_9 post pr cp ph gc gp (nI m) ml cl ol vl tr ac ca pa bk ix cL cH im yn yl yt yr yo (fuel + 1) (nI (e + 2)) (nI p) (nI s) (nI i) gk gb po yA mn cu og vl_ cd ou sN sS sQ sM sk := by
  have ep : (nI p).toNatClampNeg = p := nI_clamp (by omega)
  have hv : vp_in (nI p) 32 := vp_in_nI (by omega) (by omega)
  have hs256 : ¬ nI s = 256 := fun z => absurd ((nI_eq (b := 256) (by omega) (by decide)).mp z) (by omega)
  have ee : (nI e).toNatClampNeg = e := nI_clamp (by omega)
  have he : vp_in (nI e) 16 := vp_in_nI (by omega) (by omega)
  have ee1 : (nI (e + 1)).toNatClampNeg = e + 1 := nI_clamp (by omega)
  have he1 : vp_in (nI (e + 1)) 16 := vp_in_nI (by omega) (by omega)
  have h2 : nI (e + 2) - 2 = nI e := (pk_sub (a := e + 2) (b := 2) (by omega)).trans (congrArg nI (by omega))
  have hx : nI (e + 2) - 1 = nI (e + 1) := nI_pred (e + 1)
  exact br_f (nI_ge (b := 300) hi (by decide)) (br_t (nI_lt hpm (by omega)) (br_f hs256 (nm_r (nI_1 s) ⟨hv, nm_r (e' := nI 10) (by rw [ep, ho]) (nm_r (nI_1 p) (br_f (by decide) (br_f (by decide) (br_f (by decide) (br_f (by decide) (br_t (by decide) (br_f (by decide) (br_f (by decide) (br_f (by decide) (br_t rfl (br_t (nI_le (a := 2) (by omega) (by omega)) ⟨(by rw [hx]; exact he1), nm_r (e' := sk (e + 1)) (by rw [hx, ee1]) ⟨(by rw [h2]; exact he), (by rw [hx]; exact he1), nm_r (e' := upd sk (e + 1) (sk e)) (by rw [hx, h2, ee, ee1]) ⟨(by rw [h2]; exact he), nm_r (e' := upd (upd sk (e + 1) (sk e)) e (sk (e + 1))) (by rw [h2, ee]) (nm_r (nI_1 i) hp)⟩⟩⟩)))))))))))⟩)))
theorem cs_ey11 {p s i m fuel : Nat} {e : Nat} (hd : e + 1 ≤ 16) (hm : m ≤ 32) (hpm : p < m) (ho : po p = nI 11) (hs : s < 256) (hi : i < 300) (post : Int32 → SY → Prop) (hp : wY_holds_9 post pr cp ph gc gp (nI m) ml cl ol vl tr ac ca pa bk ix cL cH im yn yl yt yr yo fuel (nI (e)) (nI (p + 1)) (nI (s + 1)) (nI (i + 1)) gk gb po yA mn cu og vl_ cd ou sN sS sQ sM sk) : wY_holds_9 post pr cp ph gc gp (nI m) ml cl ol vl tr ac ca pa bk ix cL cH im yn yl yt yr yo (fuel + 1) (nI (e + 1)) (nI p) (nI s) (nI i) gk gb po yA mn cu og vl_ cd ou sN sS sQ sM sk := by
  have ep : (nI p).toNatClampNeg = p := nI_clamp (by omega)
  have hv : vp_in (nI p) 32 := vp_in_nI (by omega) (by omega)
  have hs256 : ¬ nI s = 256 := fun z => absurd ((nI_eq (b := 256) (by omega) (by decide)).mp z) (by omega)
  have ee : (nI e).toNatClampNeg = e := nI_clamp (by omega)
  have he : vp_in (nI e) 16 := vp_in_nI (by omega) (by omega)
  have hx : nI (e + 1) - 1 = nI e := nI_pred e
  exact br_f (nI_ge (b := 300) hi (by decide)) (br_t (nI_lt hpm (by omega)) (br_f hs256 (nm_r (nI_1 s) ⟨hv, nm_r (e' := nI 11) (by rw [ep, ho]) (nm_r (nI_1 p) (br_f (by decide) (br_f (by decide) (br_f (by decide) (br_f (by decide) (br_t (by decide) (br_f (by decide) (br_f (by decide) (br_f (by decide) (br_f (by decide) (br_t rfl (br_t (nI_le (a := 1) (by omega) (by omega)) (nm_r (pk_m1 e) (br_f (by decide) (nm_r (nI_1 i) hp)))))))))))))))⟩)))
theorem cs_ey12 {p s i m fuel : Nat} {e : Nat} (hd : e + 2 < 16) (hm : m ≤ 32) (hpm : p < m) (ho : po p = nI 12) (hs : s < 256) (hi : i < 300) (post : Int32 → SY → Prop) (hp : wY_holds_9 post pr cp ph gc gp (nI m) ml cl ol vl tr ac ca pa bk ix cL cH im yn yl yt yr yo fuel (nI (e + 2 + 1)) (nI (p + 1)) (nI (s + 1)) (nI (i + 1)) gk gb po yA mn cu og vl_ cd ou sN sS sQ sM (upd sk (e + 2) (sk e))) : wY_holds_9 post pr cp ph gc gp (nI m) ml cl ol vl tr ac ca pa bk ix cL cH im yn yl yt yr yo (fuel + 1) (nI (e + 2)) (nI p) (nI s) (nI i) gk gb po yA mn cu og vl_ cd ou sN sS sQ sM sk := by
  have ep : (nI p).toNatClampNeg = p := nI_clamp (by omega)
  have hv : vp_in (nI p) 32 := vp_in_nI (by omega) (by omega)
  have hs256 : ¬ nI s = 256 := fun z => absurd ((nI_eq (b := 256) (by omega) (by decide)).mp z) (by omega)
  have ee : (nI e).toNatClampNeg = e := nI_clamp (by omega)
  have he : vp_in (nI e) 16 := vp_in_nI (by omega) (by omega)
  have ee1 : (nI (e + 1)).toNatClampNeg = e + 1 := nI_clamp (by omega)
  have he1 : vp_in (nI (e + 1)) 16 := vp_in_nI (by omega) (by omega)
  have h2 : nI (e + 2) - 2 = nI e := (pk_sub (a := e + 2) (b := 2) (by omega)).trans (congrArg nI (by omega))
  have hx : nI (e + 2) - 1 = nI (e + 1) := nI_pred (e + 1)
  exact br_f (nI_ge (b := 300) hi (by decide)) (br_t (nI_lt hpm (by omega)) (br_f hs256 (nm_r (nI_1 s) ⟨hv, nm_r (e' := nI 12) (by rw [ep, ho]) (nm_r (nI_1 p) (br_f (by decide) (br_f (by decide) (br_f (by decide) (br_f (by decide) (br_t (by decide) (br_f (by decide) (br_f (by decide) (br_t rfl (br_t rfl (br_f (nI_nlt (b := 2) (by omega) (by omega)) (br_t (nI_lt (b := 16) hd (by decide)) ⟨(by rw [h2]; exact he), vp_in_nI hd (by omega), nm_r (e' := upd sk (e + 2) (sk e)) (by rw [h2, ee, nI_clamp (n := e + 2) (by omega)]) (nm_r (nI_1 (e + 2)) (nm_r (nI_1 i) hp))⟩))))))))))))⟩)))
theorem cs_ey13 {p s i m fuel : Nat} {e : Nat} (hd : e + 1 ≤ 16) (hm : m ≤ 32) (hpm : p < m) (ho : po p = nI 13) (hs : s < 256) (hi : i < 300) (post : Int32 → SY → Prop) (hp : wY_holds_9 post pr cp ph gc gp (nI m) ml cl ol vl tr ac ca pa bk ix cL cH im yn yl yt yr yo fuel (nI (e)) ((if sk e = 0 then yA p else nI (p + 1))) (nI (s + 1)) (nI (i + 1)) gk gb po yA mn cu og vl_ cd ou sN sS sQ sM sk) : wY_holds_9 post pr cp ph gc gp (nI m) ml cl ol vl tr ac ca pa bk ix cL cH im yn yl yt yr yo (fuel + 1) (nI (e + 1)) (nI p) (nI s) (nI i) gk gb po yA mn cu og vl_ cd ou sN sS sQ sM sk := by
  have ep : (nI p).toNatClampNeg = p := nI_clamp (by omega)
  have hv : vp_in (nI p) 32 := vp_in_nI (by omega) (by omega)
  have hs256 : ¬ nI s = 256 := fun z => absurd ((nI_eq (b := 256) (by omega) (by decide)).mp z) (by omega)
  have ee : (nI e).toNatClampNeg = e := nI_clamp (by omega)
  have he : vp_in (nI e) 16 := vp_in_nI (by omega) (by omega)
  have hx : nI (e + 1) - 1 = nI e := nI_pred e
  refine br_f (nI_ge (b := 300) hi (by decide)) (br_t (nI_lt hpm (by omega)) (br_f hs256 (nm_r (nI_1 s) ⟨hv, nm_r (e' := nI 13) (by rw [ep, ho]) (nm_r (nI_1 p) (br_f (by decide) (br_f (by decide) (br_f (by decide) (br_f (by decide) (br_t (by decide) (br_f (by decide) (br_f (by decide) (br_f (by decide) (br_f (by decide) (br_f (by decide) (br_t rfl (br_t (nI_le (a := 1) (by omega) (by omega)) (nm_r (pk_m1 e) (br_t rfl ⟨he, ?_⟩)))))))))))))))⟩)))
  by_cases z : sk e = 0
  · rw [if_pos z] at hp
    exact br_t (by rw [ee]; exact z) ⟨hv, nm_r (e' := yA p) (by rw [ep]) (nm_r (nI_1 i) hp)⟩
  · rw [if_neg z] at hp
    exact br_f (by rw [ee]; exact z) (nm_r (nI_1 i) hp)
theorem cs_ey14 {p s i m fuel : Nat} {d : Nat} (hd : d ≤ 16) (hm : m ≤ 32) (hpm : p < m) (ho : po p = nI 14) (hs : s < 256) (hi : i < 300) (post : Int32 → SY → Prop) (hp : wY_holds_9 post pr cp ph gc gp (nI m) ml cl ol vl tr ac ca pa bk ix cL cH im yn yl yt yr yo fuel (nI (d)) (yA p) (nI (s + 1)) (nI (i + 1)) gk gb po yA mn cu og vl_ cd ou sN sS sQ sM sk) : wY_holds_9 post pr cp ph gc gp (nI m) ml cl ol vl tr ac ca pa bk ix cL cH im yn yl yt yr yo (fuel + 1) (nI (d)) (nI p) (nI s) (nI i) gk gb po yA mn cu og vl_ cd ou sN sS sQ sM sk := by
  have ep : (nI p).toNatClampNeg = p := nI_clamp (by omega)
  have hv : vp_in (nI p) 32 := vp_in_nI (by omega) (by omega)
  have hs256 : ¬ nI s = 256 := fun z => absurd ((nI_eq (b := 256) (by omega) (by decide)).mp z) (by omega)
  have ee : (nI d).toNatClampNeg = d := nI_clamp (by omega)
  exact br_f (nI_ge (b := 300) hi (by decide)) (br_t (nI_lt hpm (by omega)) (br_f hs256 (nm_r (nI_1 s) ⟨hv, nm_r (e' := nI 14) (by rw [ep, ho]) (nm_r (nI_1 p) (br_f (by decide) (br_f (by decide) (br_f (by decide) (br_f (by decide) (br_t (by decide) (br_f (by decide) (br_f (by decide) (br_f (by decide) (br_f (by decide) (br_f (by decide) (br_f (by decide) (⟨hv, nm_r (e' := yA p) (by rw [ep]) (nm_r (nI_1 i) hp)⟩)))))))))))))⟩)))
theorem cs_eyG0 {p s i m fuel : Nat} (hm : m ≤ 32) (hpm : p < m) (ho : po p = nI 0) (hs : s < 256) (hi : i < 300) (post : Int32 → SY → Prop) (hp : post 0 (pr, cp, ph, gc, gp, nI m, ml, cl, ol, vl, tr, ac, ca, pa, bk, ix, cL, cH, im, yn, yl, yt, yr, yo, gk, gb, po, yA, mn, cu, og, vl_, cd, ou, sN, sS, sQ, sM, sk)) : wY_holds_9 post pr cp ph gc gp (nI m) ml cl ol vl tr ac ca pa bk ix cL cH im yn yl yt yr yo (fuel + 1) (nI (16)) (nI p) (nI s) (nI i) gk gb po yA mn cu og vl_ cd ou sN sS sQ sM sk := by
  have ep : (nI p).toNatClampNeg = p := nI_clamp (by omega)
  have hv : vp_in (nI p) 32 := vp_in_nI (by omega) (by omega)
  have hs256 : ¬ nI s = 256 := fun z => absurd ((nI_eq (b := 256) (by omega) (by decide)).mp z) (by omega)
  exact br_f (nI_ge (b := 300) hi (by decide)) (br_t (nI_lt hpm (by omega)) (br_f hs256 (nm_r (nI_1 s) ⟨hv, nm_r (e' := nI 0) (by rw [ep, ho]) (nm_r (nI_1 p) (br_t rfl (br_f (by decide) hp)))⟩)))
theorem cs_eyF1 {p s i m fuel : Nat} {d : Nat} (hd : d < 1) (hm : m ≤ 32) (hpm : p < m) (ho : po p = nI 1) (hs : s < 256) (hi : i < 300) (post : Int32 → SY → Prop) (hp : post 0 (pr, cp, ph, gc, gp, nI m, ml, cl, ol, vl, tr, ac, ca, pa, bk, ix, cL, cH, im, yn, yl, yt, yr, yo, gk, gb, po, yA, mn, cu, og, vl_, cd, ou, sN, sS, sQ, sM, sk)) : wY_holds_9 post pr cp ph gc gp (nI m) ml cl ol vl tr ac ca pa bk ix cL cH im yn yl yt yr yo (fuel + 1) (nI (d)) (nI p) (nI s) (nI i) gk gb po yA mn cu og vl_ cd ou sN sS sQ sM sk := by
  have ep : (nI p).toNatClampNeg = p := nI_clamp (by omega)
  have hv : vp_in (nI p) 32 := vp_in_nI (by omega) (by omega)
  have hs256 : ¬ nI s = 256 := fun z => absurd ((nI_eq (b := 256) (by omega) (by decide)).mp z) (by omega)
  exact br_f (nI_ge (b := 300) hi (by decide)) (br_t (nI_lt hpm (by omega)) (br_f hs256 (nm_r (nI_1 s) ⟨hv, nm_r (e' := nI 1) (by rw [ep, ho]) (nm_r (nI_1 p) (br_f (by decide) (br_f (by decide) (br_t rfl (br_f (nI_ge (b := 1) hd (by decide)) hp)))))⟩)))
theorem cs_eyG2 {p s i m fuel : Nat} (hm : m ≤ 32) (hpm : p < m) (ho : po p = nI 2) (hs : s < 256) (hi : i < 300) (post : Int32 → SY → Prop) (hp : post 0 (pr, cp, ph, gc, gp, nI m, ml, cl, ol, vl, tr, ac, ca, pa, bk, ix, cL, cH, im, yn, yl, yt, yr, yo, gk, gb, po, yA, mn, cu, og, vl_, cd, ou, sN, sS, sQ, sM, sk)) : wY_holds_9 post pr cp ph gc gp (nI m) ml cl ol vl tr ac ca pa bk ix cL cH im yn yl yt yr yo (fuel + 1) (nI (16)) (nI p) (nI s) (nI i) gk gb po yA mn cu og vl_ cd ou sN sS sQ sM sk := by
  have ep : (nI p).toNatClampNeg = p := nI_clamp (by omega)
  have hv : vp_in (nI p) 32 := vp_in_nI (by omega) (by omega)
  have hs256 : ¬ nI s = 256 := fun z => absurd ((nI_eq (b := 256) (by omega) (by decide)).mp z) (by omega)
  exact br_f (nI_ge (b := 300) hi (by decide)) (br_t (nI_lt hpm (by omega)) (br_f hs256 (nm_r (nI_1 s) ⟨hv, nm_r (e' := nI 2) (by rw [ep, ho]) (nm_r (nI_1 p) (br_f (by decide) (br_t rfl (br_f (by decide) hp))))⟩)))
theorem cs_eyF3 {p s i m fuel : Nat} {d : Nat} (hd : d < 2) (hm : m ≤ 32) (hpm : p < m) (ho : po p = nI 3) (hs : s < 256) (hi : i < 300) (post : Int32 → SY → Prop) (hp : post 0 (pr, cp, ph, gc, gp, nI m, ml, cl, ol, vl, tr, ac, ca, pa, bk, ix, cL, cH, im, yn, yl, yt, yr, yo, gk, gb, po, yA, mn, cu, og, vl_, cd, ou, sN, sS, sQ, sM, sk)) : wY_holds_9 post pr cp ph gc gp (nI m) ml cl ol vl tr ac ca pa bk ix cL cH im yn yl yt yr yo (fuel + 1) (nI (d)) (nI p) (nI s) (nI i) gk gb po yA mn cu og vl_ cd ou sN sS sQ sM sk := by
  have ep : (nI p).toNatClampNeg = p := nI_clamp (by omega)
  have hv : vp_in (nI p) 32 := vp_in_nI (by omega) (by omega)
  have hs256 : ¬ nI s = 256 := fun z => absurd ((nI_eq (b := 256) (by omega) (by decide)).mp z) (by omega)
  exact br_f (nI_ge (b := 300) hi (by decide)) (br_t (nI_lt hpm (by omega)) (br_f hs256 (nm_r (nI_1 s) ⟨hv, nm_r (e' := nI 3) (by rw [ep, ho]) (nm_r (nI_1 p) (br_f (by decide) (br_f (by decide) (br_f (by decide) (br_f (by decide) (br_f (by decide) (br_f (nI_ge (b := 2) hd (by decide)) hp)))))))⟩)))
theorem cs_eyF4 {p s i m fuel : Nat} {d : Nat} (hd : d < 2) (hm : m ≤ 32) (hpm : p < m) (ho : po p = nI 4) (hs : s < 256) (hi : i < 300) (post : Int32 → SY → Prop) (hp : post 0 (pr, cp, ph, gc, gp, nI m, ml, cl, ol, vl, tr, ac, ca, pa, bk, ix, cL, cH, im, yn, yl, yt, yr, yo, gk, gb, po, yA, mn, cu, og, vl_, cd, ou, sN, sS, sQ, sM, sk)) : wY_holds_9 post pr cp ph gc gp (nI m) ml cl ol vl tr ac ca pa bk ix cL cH im yn yl yt yr yo (fuel + 1) (nI (d)) (nI p) (nI s) (nI i) gk gb po yA mn cu og vl_ cd ou sN sS sQ sM sk := by
  have ep : (nI p).toNatClampNeg = p := nI_clamp (by omega)
  have hv : vp_in (nI p) 32 := vp_in_nI (by omega) (by omega)
  have hs256 : ¬ nI s = 256 := fun z => absurd ((nI_eq (b := 256) (by omega) (by decide)).mp z) (by omega)
  exact br_f (nI_ge (b := 300) hi (by decide)) (br_t (nI_lt hpm (by omega)) (br_f hs256 (nm_r (nI_1 s) ⟨hv, nm_r (e' := nI 4) (by rw [ep, ho]) (nm_r (nI_1 p) (br_f (by decide) (br_f (by decide) (br_f (by decide) (br_f (by decide) (br_f (by decide) (br_f (nI_ge (b := 2) hd (by decide)) hp)))))))⟩)))
theorem cs_eyF5 {p s i m fuel : Nat} {d : Nat} (hd : d < 2) (hm : m ≤ 32) (hpm : p < m) (ho : po p = nI 5) (hs : s < 256) (hi : i < 300) (post : Int32 → SY → Prop) (hp : post 0 (pr, cp, ph, gc, gp, nI m, ml, cl, ol, vl, tr, ac, ca, pa, bk, ix, cL, cH, im, yn, yl, yt, yr, yo, gk, gb, po, yA, mn, cu, og, vl_, cd, ou, sN, sS, sQ, sM, sk)) : wY_holds_9 post pr cp ph gc gp (nI m) ml cl ol vl tr ac ca pa bk ix cL cH im yn yl yt yr yo (fuel + 1) (nI (d)) (nI p) (nI s) (nI i) gk gb po yA mn cu og vl_ cd ou sN sS sQ sM sk := by
  have ep : (nI p).toNatClampNeg = p := nI_clamp (by omega)
  have hv : vp_in (nI p) 32 := vp_in_nI (by omega) (by omega)
  have hs256 : ¬ nI s = 256 := fun z => absurd ((nI_eq (b := 256) (by omega) (by decide)).mp z) (by omega)
  exact br_f (nI_ge (b := 300) hi (by decide)) (br_t (nI_lt hpm (by omega)) (br_f hs256 (nm_r (nI_1 s) ⟨hv, nm_r (e' := nI 5) (by rw [ep, ho]) (nm_r (nI_1 p) (br_f (by decide) (br_f (by decide) (br_f (by decide) (br_f (by decide) (br_f (by decide) (br_f (nI_ge (b := 2) hd (by decide)) hp)))))))⟩)))
theorem cs_eyF6 {p s i m fuel : Nat} {d : Nat} (hd : d < 2) (hm : m ≤ 32) (hpm : p < m) (ho : po p = nI 6) (hs : s < 256) (hi : i < 300) (post : Int32 → SY → Prop) (hp : post 0 (pr, cp, ph, gc, gp, nI m, ml, cl, ol, vl, tr, ac, ca, pa, bk, ix, cL, cH, im, yn, yl, yt, yr, yo, gk, gb, po, yA, mn, cu, og, vl_, cd, ou, sN, sS, sQ, sM, sk)) : wY_holds_9 post pr cp ph gc gp (nI m) ml cl ol vl tr ac ca pa bk ix cL cH im yn yl yt yr yo (fuel + 1) (nI (d)) (nI p) (nI s) (nI i) gk gb po yA mn cu og vl_ cd ou sN sS sQ sM sk := by
  have ep : (nI p).toNatClampNeg = p := nI_clamp (by omega)
  have hv : vp_in (nI p) 32 := vp_in_nI (by omega) (by omega)
  have hs256 : ¬ nI s = 256 := fun z => absurd ((nI_eq (b := 256) (by omega) (by decide)).mp z) (by omega)
  exact br_f (nI_ge (b := 300) hi (by decide)) (br_t (nI_lt hpm (by omega)) (br_f hs256 (nm_r (nI_1 s) ⟨hv, nm_r (e' := nI 6) (by rw [ep, ho]) (nm_r (nI_1 p) (br_f (by decide) (br_f (by decide) (br_f (by decide) (br_f (by decide) (br_f (by decide) (br_f (nI_ge (b := 2) hd (by decide)) hp)))))))⟩)))
theorem cs_eyF7 {p s i m fuel : Nat} {d : Nat} (hd : d < 2) (hm : m ≤ 32) (hpm : p < m) (ho : po p = nI 7) (hs : s < 256) (hi : i < 300) (post : Int32 → SY → Prop) (hp : post 0 (pr, cp, ph, gc, gp, nI m, ml, cl, ol, vl, tr, ac, ca, pa, bk, ix, cL, cH, im, yn, yl, yt, yr, yo, gk, gb, po, yA, mn, cu, og, vl_, cd, ou, sN, sS, sQ, sM, sk)) : wY_holds_9 post pr cp ph gc gp (nI m) ml cl ol vl tr ac ca pa bk ix cL cH im yn yl yt yr yo (fuel + 1) (nI (d)) (nI p) (nI s) (nI i) gk gb po yA mn cu og vl_ cd ou sN sS sQ sM sk := by
  have ep : (nI p).toNatClampNeg = p := nI_clamp (by omega)
  have hv : vp_in (nI p) 32 := vp_in_nI (by omega) (by omega)
  have hs256 : ¬ nI s = 256 := fun z => absurd ((nI_eq (b := 256) (by omega) (by decide)).mp z) (by omega)
  exact br_f (nI_ge (b := 300) hi (by decide)) (br_t (nI_lt hpm (by omega)) (br_f hs256 (nm_r (nI_1 s) ⟨hv, nm_r (e' := nI 7) (by rw [ep, ho]) (nm_r (nI_1 p) (br_f (by decide) (br_f (by decide) (br_f (by decide) (br_f (by decide) (br_f (by decide) (br_f (nI_ge (b := 2) hd (by decide)) hp)))))))⟩)))
theorem cs_eyF8 {p s i m fuel : Nat} {d : Nat} (hd : d < 1) (hm : m ≤ 32) (hpm : p < m) (ho : po p = nI 8) (hs : s < 256) (hi : i < 300) (post : Int32 → SY → Prop) (hp : post 0 (pr, cp, ph, gc, gp, nI m, ml, cl, ol, vl, tr, ac, ca, pa, bk, ix, cL, cH, im, yn, yl, yt, yr, yo, gk, gb, po, yA, mn, cu, og, vl_, cd, ou, sN, sS, sQ, sM, sk)) : wY_holds_9 post pr cp ph gc gp (nI m) ml cl ol vl tr ac ca pa bk ix cL cH im yn yl yt yr yo (fuel + 1) (nI (d)) (nI p) (nI s) (nI i) gk gb po yA mn cu og vl_ cd ou sN sS sQ sM sk := by
  have ep : (nI p).toNatClampNeg = p := nI_clamp (by omega)
  have hv : vp_in (nI p) 32 := vp_in_nI (by omega) (by omega)
  have hs256 : ¬ nI s = 256 := fun z => absurd ((nI_eq (b := 256) (by omega) (by decide)).mp z) (by omega)
  exact br_f (nI_ge (b := 300) hi (by decide)) (br_t (nI_lt hpm (by omega)) (br_f hs256 (nm_r (nI_1 s) ⟨hv, nm_r (e' := nI 8) (by rw [ep, ho]) (nm_r (nI_1 p) (br_f (by decide) (br_f (by decide) (br_f (by decide) (br_f (by decide) (br_t (by decide) (br_t rfl (br_f (nI_ge (b := 1) hd (by decide)) hp))))))))⟩)))
theorem cs_eyF9 {p s i m fuel : Nat} {d : Nat} (hd : d < 1) (hm : m ≤ 32) (hpm : p < m) (ho : po p = nI 9) (hs : s < 256) (hi : i < 300) (post : Int32 → SY → Prop) (hp : post 0 (pr, cp, ph, gc, gp, nI m, ml, cl, ol, vl, tr, ac, ca, pa, bk, ix, cL, cH, im, yn, yl, yt, yr, yo, gk, gb, po, yA, mn, cu, og, vl_, cd, ou, sN, sS, sQ, sM, sk)) : wY_holds_9 post pr cp ph gc gp (nI m) ml cl ol vl tr ac ca pa bk ix cL cH im yn yl yt yr yo (fuel + 1) (nI (d)) (nI p) (nI s) (nI i) gk gb po yA mn cu og vl_ cd ou sN sS sQ sM sk := by
  have ep : (nI p).toNatClampNeg = p := nI_clamp (by omega)
  have hv : vp_in (nI p) 32 := vp_in_nI (by omega) (by omega)
  have hs256 : ¬ nI s = 256 := fun z => absurd ((nI_eq (b := 256) (by omega) (by decide)).mp z) (by omega)
  exact br_f (nI_ge (b := 300) hi (by decide)) (br_t (nI_lt hpm (by omega)) (br_f hs256 (nm_r (nI_1 s) ⟨hv, nm_r (e' := nI 9) (by rw [ep, ho]) (nm_r (nI_1 p) (br_f (by decide) (br_f (by decide) (br_f (by decide) (br_f (by decide) (br_t (by decide) (br_f (by decide) (br_t rfl (br_f (by decide) (br_t (nI_lt (b := 1) hd (by decide)) hp))))))))))⟩)))
theorem cs_eyG9 {p s i m fuel : Nat} (hm : m ≤ 32) (hpm : p < m) (ho : po p = nI 9) (hs : s < 256) (hi : i < 300) (post : Int32 → SY → Prop) (hp : post 0 (pr, cp, ph, gc, gp, nI m, ml, cl, ol, vl, tr, ac, ca, pa, bk, ix, cL, cH, im, yn, yl, yt, yr, yo, gk, gb, po, yA, mn, cu, og, vl_, cd, ou, sN, sS, sQ, sM, sk)) : wY_holds_9 post pr cp ph gc gp (nI m) ml cl ol vl tr ac ca pa bk ix cL cH im yn yl yt yr yo (fuel + 1) (nI (16)) (nI p) (nI s) (nI i) gk gb po yA mn cu og vl_ cd ou sN sS sQ sM sk := by
  have ep : (nI p).toNatClampNeg = p := nI_clamp (by omega)
  have hv : vp_in (nI p) 32 := vp_in_nI (by omega) (by omega)
  have hs256 : ¬ nI s = 256 := fun z => absurd ((nI_eq (b := 256) (by omega) (by decide)).mp z) (by omega)
  exact br_f (nI_ge (b := 300) hi (by decide)) (br_t (nI_lt hpm (by omega)) (br_f hs256 (nm_r (nI_1 s) ⟨hv, nm_r (e' := nI 9) (by rw [ep, ho]) (nm_r (nI_1 p) (br_f (by decide) (br_f (by decide) (br_f (by decide) (br_f (by decide) (br_t (by decide) (br_f (by decide) (br_t rfl (br_f (by decide) (br_f (by decide) (br_f (by decide) hp)))))))))))⟩)))
theorem cs_eyF10 {p s i m fuel : Nat} {d : Nat} (hd : d < 2) (hm : m ≤ 32) (hpm : p < m) (ho : po p = nI 10) (hs : s < 256) (hi : i < 300) (post : Int32 → SY → Prop) (hp : post 0 (pr, cp, ph, gc, gp, nI m, ml, cl, ol, vl, tr, ac, ca, pa, bk, ix, cL, cH, im, yn, yl, yt, yr, yo, gk, gb, po, yA, mn, cu, og, vl_, cd, ou, sN, sS, sQ, sM, sk)) : wY_holds_9 post pr cp ph gc gp (nI m) ml cl ol vl tr ac ca pa bk ix cL cH im yn yl yt yr yo (fuel + 1) (nI (d)) (nI p) (nI s) (nI i) gk gb po yA mn cu og vl_ cd ou sN sS sQ sM sk := by
  have ep : (nI p).toNatClampNeg = p := nI_clamp (by omega)
  have hv : vp_in (nI p) 32 := vp_in_nI (by omega) (by omega)
  have hs256 : ¬ nI s = 256 := fun z => absurd ((nI_eq (b := 256) (by omega) (by decide)).mp z) (by omega)
  exact br_f (nI_ge (b := 300) hi (by decide)) (br_t (nI_lt hpm (by omega)) (br_f hs256 (nm_r (nI_1 s) ⟨hv, nm_r (e' := nI 10) (by rw [ep, ho]) (nm_r (nI_1 p) (br_f (by decide) (br_f (by decide) (br_f (by decide) (br_f (by decide) (br_t (by decide) (br_f (by decide) (br_f (by decide) (br_f (by decide) (br_t rfl (br_f (nI_ge (b := 2) hd (by decide)) hp)))))))))))⟩)))
theorem cs_eyF11 {p s i m fuel : Nat} {d : Nat} (hd : d < 1) (hm : m ≤ 32) (hpm : p < m) (ho : po p = nI 11) (hs : s < 256) (hi : i < 300) (post : Int32 → SY → Prop) (hp : post 0 (pr, cp, ph, gc, gp, nI m, ml, cl, ol, vl, tr, ac, ca, pa, bk, ix, cL, cH, im, yn, yl, yt, yr, yo, gk, gb, po, yA, mn, cu, og, vl_, cd, ou, sN, sS, sQ, sM, sk)) : wY_holds_9 post pr cp ph gc gp (nI m) ml cl ol vl tr ac ca pa bk ix cL cH im yn yl yt yr yo (fuel + 1) (nI (d)) (nI p) (nI s) (nI i) gk gb po yA mn cu og vl_ cd ou sN sS sQ sM sk := by
  have ep : (nI p).toNatClampNeg = p := nI_clamp (by omega)
  have hv : vp_in (nI p) 32 := vp_in_nI (by omega) (by omega)
  have hs256 : ¬ nI s = 256 := fun z => absurd ((nI_eq (b := 256) (by omega) (by decide)).mp z) (by omega)
  exact br_f (nI_ge (b := 300) hi (by decide)) (br_t (nI_lt hpm (by omega)) (br_f hs256 (nm_r (nI_1 s) ⟨hv, nm_r (e' := nI 11) (by rw [ep, ho]) (nm_r (nI_1 p) (br_f (by decide) (br_f (by decide) (br_f (by decide) (br_f (by decide) (br_t (by decide) (br_f (by decide) (br_f (by decide) (br_f (by decide) (br_f (by decide) (br_t rfl (br_f (nI_ge (b := 1) hd (by decide)) hp))))))))))))⟩)))
theorem cs_eyF12 {p s i m fuel : Nat} {d : Nat} (hd : d < 2) (hm : m ≤ 32) (hpm : p < m) (ho : po p = nI 12) (hs : s < 256) (hi : i < 300) (post : Int32 → SY → Prop) (hp : post 0 (pr, cp, ph, gc, gp, nI m, ml, cl, ol, vl, tr, ac, ca, pa, bk, ix, cL, cH, im, yn, yl, yt, yr, yo, gk, gb, po, yA, mn, cu, og, vl_, cd, ou, sN, sS, sQ, sM, sk)) : wY_holds_9 post pr cp ph gc gp (nI m) ml cl ol vl tr ac ca pa bk ix cL cH im yn yl yt yr yo (fuel + 1) (nI (d)) (nI p) (nI s) (nI i) gk gb po yA mn cu og vl_ cd ou sN sS sQ sM sk := by
  have ep : (nI p).toNatClampNeg = p := nI_clamp (by omega)
  have hv : vp_in (nI p) 32 := vp_in_nI (by omega) (by omega)
  have hs256 : ¬ nI s = 256 := fun z => absurd ((nI_eq (b := 256) (by omega) (by decide)).mp z) (by omega)
  exact br_f (nI_ge (b := 300) hi (by decide)) (br_t (nI_lt hpm (by omega)) (br_f hs256 (nm_r (nI_1 s) ⟨hv, nm_r (e' := nI 12) (by rw [ep, ho]) (nm_r (nI_1 p) (br_f (by decide) (br_f (by decide) (br_f (by decide) (br_f (by decide) (br_t (by decide) (br_f (by decide) (br_f (by decide) (br_t rfl (br_t rfl (br_t (nI_lt (b := 2) hd (by decide)) hp)))))))))))⟩)))
theorem cs_eyG12 {p s i m fuel : Nat} (hm : m ≤ 32) (hpm : p < m) (ho : po p = nI 12) (hs : s < 256) (hi : i < 300) (post : Int32 → SY → Prop) (hp : post 0 (pr, cp, ph, gc, gp, nI m, ml, cl, ol, vl, tr, ac, ca, pa, bk, ix, cL, cH, im, yn, yl, yt, yr, yo, gk, gb, po, yA, mn, cu, og, vl_, cd, ou, sN, sS, sQ, sM, sk)) : wY_holds_9 post pr cp ph gc gp (nI m) ml cl ol vl tr ac ca pa bk ix cL cH im yn yl yt yr yo (fuel + 1) (nI (16)) (nI p) (nI s) (nI i) gk gb po yA mn cu og vl_ cd ou sN sS sQ sM sk := by
  have ep : (nI p).toNatClampNeg = p := nI_clamp (by omega)
  have hv : vp_in (nI p) 32 := vp_in_nI (by omega) (by omega)
  have hs256 : ¬ nI s = 256 := fun z => absurd ((nI_eq (b := 256) (by omega) (by decide)).mp z) (by omega)
  exact br_f (nI_ge (b := 300) hi (by decide)) (br_t (nI_lt hpm (by omega)) (br_f hs256 (nm_r (nI_1 s) ⟨hv, nm_r (e' := nI 12) (by rw [ep, ho]) (nm_r (nI_1 p) (br_f (by decide) (br_f (by decide) (br_f (by decide) (br_f (by decide) (br_t (by decide) (br_f (by decide) (br_f (by decide) (br_t rfl (br_t rfl (br_f (by decide) (br_f (by decide) hp))))))))))))⟩)))
theorem cs_eyF13 {p s i m fuel : Nat} {d : Nat} (hd : d < 1) (hm : m ≤ 32) (hpm : p < m) (ho : po p = nI 13) (hs : s < 256) (hi : i < 300) (post : Int32 → SY → Prop) (hp : post 0 (pr, cp, ph, gc, gp, nI m, ml, cl, ol, vl, tr, ac, ca, pa, bk, ix, cL, cH, im, yn, yl, yt, yr, yo, gk, gb, po, yA, mn, cu, og, vl_, cd, ou, sN, sS, sQ, sM, sk)) : wY_holds_9 post pr cp ph gc gp (nI m) ml cl ol vl tr ac ca pa bk ix cL cH im yn yl yt yr yo (fuel + 1) (nI (d)) (nI p) (nI s) (nI i) gk gb po yA mn cu og vl_ cd ou sN sS sQ sM sk := by
  have ep : (nI p).toNatClampNeg = p := nI_clamp (by omega)
  have hv : vp_in (nI p) 32 := vp_in_nI (by omega) (by omega)
  have hs256 : ¬ nI s = 256 := fun z => absurd ((nI_eq (b := 256) (by omega) (by decide)).mp z) (by omega)
  exact br_f (nI_ge (b := 300) hi (by decide)) (br_t (nI_lt hpm (by omega)) (br_f hs256 (nm_r (nI_1 s) ⟨hv, nm_r (e' := nI 13) (by rw [ep, ho]) (nm_r (nI_1 p) (br_f (by decide) (br_f (by decide) (br_f (by decide) (br_f (by decide) (br_t (by decide) (br_f (by decide) (br_f (by decide) (br_f (by decide) (br_f (by decide) (br_f (by decide) (br_t rfl (br_f (nI_ge (b := 1) hd (by decide)) hp)))))))))))))⟩)))
end
end
section
section
variable {cp pr ph gc gp oc ml cl ol vl tr ac ca pa bk ix cL cH im tl tk dr cc ld sd yn yl yt yr yo : Int32} {gk gb ge po oa mn cu og vl_ tp ce lN lC sk yA cd ou sN sS sQ sM : Nat → Int32}
theorem cs_xcz {L : Nat} {x : Int32} (hL : L ≤ 32) (hco : ∀ j, j < L → ce j = ou j) (q : Int32 → Prop) (hq : q (if x < 0 then 0 else if nI L ≤ x then 0 else ou x.toNatClampNeg)) : wpX_cellOrZero q (cp, pr, ph, gc, gp, oc, ml, cl, ol, vl, tr, ac, ca, pa, bk, ix, cL, cH, im, tl, tk, dr, nI L, ld, sd, gk, gb, ge, po, oa, mn, cu, og, vl_, tp, ce, lN, lC, sk) x := by
  by_cases z : x < 0
  · rw [if_pos z] at hq
    exact br_t z hq
  · rw [if_neg z] at hq
    by_cases z2 : nI L ≤ x
    · rw [if_pos z2] at hq
      exact br_f z (br_t z2 hq)
    · rw [if_neg z2] at hq
      obtain ⟨j, hj, ej⟩ := nI_of z
      have hjL : j < L := by
        rw [ej, nI_leI (by omega) hj] at z2
        omega
      have ec : x.toNatClampNeg = j := by rw [ej, nI_clamp hj]
      refine br_f z (br_f z2 ⟨by rw [ej]; exact vp_in_nI (by omega) (by omega), ?_⟩)
      rw [ec, hco j hjL, ← ec]
      exact hq
theorem cs_exe {p d L m : Nat} (hm : m ≤ 32) (hpm : p < m) (hd : d ≤ 16) (hL : L ≤ 32) (hco : ∀ j, j < L → ce j = ou j) (H : ∃ o : Nat, o ≤ 14 ∧ po p = nI o ∧ ((o = 0 ∨ o = 13 ∨ o = 14) → oa p = yA p) ∧ ((o = 13 ∨ o = 14) → ∃ a : Nat, a ≤ 32 ∧ yA p = nI a)) :
    ((∀ post : Int32 → SX → Prop, post (-1) (cp, pr, ph, gc, gp, nI m, ml, cl, ol, vl, tr, ac, ca, pa, bk, ix, cL, cH, im, tl, tk, dr, nI L, ld, nI d, gk, gb, ge, po, oa, mn, cu, og, vl_, tp, ce, lN, lC, sk) → wpX_execute post (cp, pr, ph, gc, gp, nI m, ml, cl, ol, vl, tr, ac, ca, pa, bk, ix, cL, cH, im, tl, tk, dr, nI L, ld, nI d, gk, gb, ge, po, oa, mn, cu, og, vl_, tp, ce, lN, lC, sk) (nI p)) ∧ (∀ (post : Int32 → SY → Prop) (fuel s i : Nat), s < 256 → i < 300 → post 0 (pr, cp, ph, gc, gp, nI m, ml, cl, ol, vl, tr, ac, ca, pa, bk, ix, cL, cH, im, yn, yl, yt, yr, nI L, gk, gb, po, yA, mn, cu, og, vl_, cd, ou, sN, sS, sQ, sM, sk) → wY_holds_9 post pr cp ph gc gp (nI m) ml cl ol vl tr ac ca pa bk ix cL cH im yn yl yt yr (nI L) (fuel + 1) (nI d) (nI p) (nI s) (nI i) gk gb po yA mn cu og vl_ cd ou sN sS sQ sM sk)) ∨
    (∃ (p' d' : Nat) (sk' : Nat → Int32), p' ≤ 32 ∧ d' ≤ 16 ∧ (∀ post : Int32 → SX → Prop, post (nI p') (cp, pr, ph, gc, gp, nI m, ml, cl, ol, vl, tr, ac, ca, pa, bk, ix, cL, cH, im, tl, tk, dr, nI L, ld, nI d', gk, gb, ge, po, oa, mn, cu, og, vl_, tp, ce, lN, lC, sk') → wpX_execute post (cp, pr, ph, gc, gp, nI m, ml, cl, ol, vl, tr, ac, ca, pa, bk, ix, cL, cH, im, tl, tk, dr, nI L, ld, nI d, gk, gb, ge, po, oa, mn, cu, og, vl_, tp, ce, lN, lC, sk) (nI p)) ∧ (∀ (post : Int32 → SY → Prop) (fuel s i : Nat), s < 256 → i < 300 → wY_holds_9 post pr cp ph gc gp (nI m) ml cl ol vl tr ac ca pa bk ix cL cH im yn yl yt yr (nI L) fuel (nI d') (nI p') (nI (s + 1)) (nI (i + 1)) gk gb po yA mn cu og vl_ cd ou sN sS sQ sM sk' → wY_holds_9 post pr cp ph gc gp (nI m) ml cl ol vl tr ac ca pa bk ix cL cH im yn yl yt yr (nI L) (fuel + 1) (nI d) (nI p) (nI s) (nI i) gk gb po yA mn cu og vl_ cd ou sN sS sQ sM sk)) := by
  have hp1 : p + 1 ≤ 32 := by omega
  have hp32 : p < 32 := by omega
  obtain ⟨o, ho14, ho, hA, hB⟩ := H
  obtain rfl | rfl | rfl | rfl | rfl | rfl | rfl | rfl | rfl | rfl | rfl | rfl | rfl | rfl | rfl : o = 0 ∨ o = 1 ∨ o = 2 ∨ o = 3 ∨ o = 4 ∨ o = 5 ∨ o = 6 ∨ o = 7 ∨ o = 8 ∨ o = 9 ∨ o = 10 ∨ o = 11 ∨ o = 12 ∨ o = 13 ∨ o = 14 := by
    clear hA hB
    omega
  · by_cases h16 : d < 16
    · exact Or.inr ⟨p + 1, d + 1, _, hp1, by omega, fun post hp => cs_ex0 hp32 ho h16 post (by rw [hA (Or.inl rfl)]; exact hp), fun post fuel s i hs hi hp => cs_ey0 h16 hm hpm ho hs hi post hp⟩
    · have z : d = 16 := by omega
      subst z
      exact Or.inl ⟨fun post hp => cs_exG0 hp32 ho post hp, fun post fuel s i hs hi hp => cs_eyG0 hm hpm ho hs hi post hp⟩
  · by_cases h : d < 1
    · exact Or.inl ⟨fun post hp => cs_exF1 hp32 ho h post hp, fun post fuel s i hs hi hp => cs_eyF1 h hm hpm ho hs hi post hp⟩
    · obtain ⟨e, rfl⟩ : ∃ e, d = e + 1 := ⟨d - 1, by omega⟩
      exact Or.inr ⟨p + 1, e + 1, _, hp1, by omega, fun post hp => cs_ex1 hp32 ho hd (fun q hq => cs_xcz hL hco q hq) post hp, fun post fuel s i hs hi hp => cs_ey1 hd hL hm hpm ho hs hi post hp⟩
  · by_cases h16 : d < 16
    · exact Or.inr ⟨p + 1, d + 1, _, hp1, by omega, fun post hp => cs_ex2 hp32 ho h16 post hp, fun post fuel s i hs hi hp => cs_ey2 h16 hm hpm ho hs hi post hp⟩
    · have z : d = 16 := by omega
      subst z
      exact Or.inl ⟨fun post hp => cs_exG2 hp32 ho post hp, fun post fuel s i hs hi hp => cs_eyG2 hm hpm ho hs hi post hp⟩
  · by_cases h : d < 2
    · exact Or.inl ⟨fun post hp => cs_exF3 hp32 ho h post hp, fun post fuel s i hs hi hp => cs_eyF3 h hm hpm ho hs hi post hp⟩
    · obtain ⟨e, rfl⟩ : ∃ e, d = e + 2 := ⟨d - 2, by omega⟩
      exact Or.inr ⟨p + 1, e + 1, _, hp1, by omega, fun post hp => cs_ex3 hp32 ho hd post hp, fun post fuel s i hs hi hp => cs_ey3 hd hm hpm ho hs hi post hp⟩
  · by_cases h : d < 2
    · exact Or.inl ⟨fun post hp => cs_exF4 hp32 ho h post hp, fun post fuel s i hs hi hp => cs_eyF4 h hm hpm ho hs hi post hp⟩
    · obtain ⟨e, rfl⟩ : ∃ e, d = e + 2 := ⟨d - 2, by omega⟩
      exact Or.inr ⟨p + 1, e + 1, _, hp1, by omega, fun post hp => cs_ex4 hp32 ho hd post hp, fun post fuel s i hs hi hp => cs_ey4 hd hm hpm ho hs hi post hp⟩
  · by_cases h : d < 2
    · exact Or.inl ⟨fun post hp => cs_exF5 hp32 ho h post hp, fun post fuel s i hs hi hp => cs_eyF5 h hm hpm ho hs hi post hp⟩
    · obtain ⟨e, rfl⟩ : ∃ e, d = e + 2 := ⟨d - 2, by omega⟩
      exact Or.inr ⟨p + 1, e + 1, _, hp1, by omega, fun post hp => cs_ex5 hp32 ho hd post hp, fun post fuel s i hs hi hp => cs_ey5 hd hm hpm ho hs hi post hp⟩
  · by_cases h : d < 2
    · exact Or.inl ⟨fun post hp => cs_exF6 hp32 ho h post hp, fun post fuel s i hs hi hp => cs_eyF6 h hm hpm ho hs hi post hp⟩
    · obtain ⟨e, rfl⟩ : ∃ e, d = e + 2 := ⟨d - 2, by omega⟩
      exact Or.inr ⟨p + 1, e + 1, _, hp1, by omega, fun post hp => cs_ex6 hp32 ho hd post hp, fun post fuel s i hs hi hp => cs_ey6 hd hm hpm ho hs hi post hp⟩
  · by_cases h : d < 2
    · exact Or.inl ⟨fun post hp => cs_exF7 hp32 ho h post hp, fun post fuel s i hs hi hp => cs_eyF7 h hm hpm ho hs hi post hp⟩
    · obtain ⟨e, rfl⟩ : ∃ e, d = e + 2 := ⟨d - 2, by omega⟩
      exact Or.inr ⟨p + 1, e + 1, _, hp1, by omega, fun post hp => cs_ex7 hp32 ho hd post hp, fun post fuel s i hs hi hp => cs_ey7 hd hm hpm ho hs hi post hp⟩
  · by_cases h : d < 1
    · exact Or.inl ⟨fun post hp => cs_exF8 hp32 ho h post hp, fun post fuel s i hs hi hp => cs_eyF8 h hm hpm ho hs hi post hp⟩
    · obtain ⟨e, rfl⟩ : ∃ e, d = e + 1 := ⟨d - 1, by omega⟩
      exact Or.inr ⟨p + 1, e + 1, _, hp1, by omega, fun post hp => cs_ex8 hp32 ho hd post hp, fun post fuel s i hs hi hp => cs_ey8 hd hm hpm ho hs hi post hp⟩
  · by_cases h : d < 1
    · exact Or.inl ⟨fun post hp => cs_exF9 hp32 ho h post hp, fun post fuel s i hs hi hp => cs_eyF9 h hm hpm ho hs hi post hp⟩
    · obtain ⟨e, rfl⟩ : ∃ e, d = e + 1 := ⟨d - 1, by omega⟩
      by_cases h16 : e + 1 < 16
      · exact Or.inr ⟨p + 1, e + 1 + 1, _, hp1, by omega, fun post hp => cs_ex9 hp32 ho h16 post hp, fun post fuel s i hs hi hp => cs_ey9 h16 hm hpm ho hs hi post hp⟩
      · have z : e + 1 = 16 := by omega
        rw [z]
        exact Or.inl ⟨fun post hp => cs_exG9 hp32 ho post hp, fun post fuel s i hs hi hp => cs_eyG9 hm hpm ho hs hi post hp⟩
  · by_cases h : d < 2
    · exact Or.inl ⟨fun post hp => cs_exF10 hp32 ho h post hp, fun post fuel s i hs hi hp => cs_eyF10 h hm hpm ho hs hi post hp⟩
    · obtain ⟨e, rfl⟩ : ∃ e, d = e + 2 := ⟨d - 2, by omega⟩
      exact Or.inr ⟨p + 1, e + 2, _, hp1, by omega, fun post hp => cs_ex10 hp32 ho hd post hp, fun post fuel s i hs hi hp => cs_ey10 hd hm hpm ho hs hi post hp⟩
  · by_cases h : d < 1
    · exact Or.inl ⟨fun post hp => cs_exF11 hp32 ho h post hp, fun post fuel s i hs hi hp => cs_eyF11 h hm hpm ho hs hi post hp⟩
    · obtain ⟨e, rfl⟩ : ∃ e, d = e + 1 := ⟨d - 1, by omega⟩
      exact Or.inr ⟨p + 1, e, _, hp1, by omega, fun post hp => cs_ex11 hp32 ho hd post hp, fun post fuel s i hs hi hp => cs_ey11 hd hm hpm ho hs hi post hp⟩
  · by_cases h : d < 2
    · exact Or.inl ⟨fun post hp => cs_exF12 hp32 ho h post hp, fun post fuel s i hs hi hp => cs_eyF12 h hm hpm ho hs hi post hp⟩
    · obtain ⟨e, rfl⟩ : ∃ e, d = e + 2 := ⟨d - 2, by omega⟩
      by_cases h16 : e + 2 < 16
      · exact Or.inr ⟨p + 1, e + 2 + 1, _, hp1, by omega, fun post hp => cs_ex12 hp32 ho h16 post hp, fun post fuel s i hs hi hp => cs_ey12 h16 hm hpm ho hs hi post hp⟩
      · have z : e + 2 = 16 := by omega
        rw [z]
        exact Or.inl ⟨fun post hp => cs_exG12 hp32 ho post hp, fun post fuel s i hs hi hp => cs_eyG12 hm hpm ho hs hi post hp⟩
  · by_cases h : d < 1
    · exact Or.inl ⟨fun post hp => cs_exF13 hp32 ho h post hp, fun post fuel s i hs hi hp => cs_eyF13 h hm hpm ho hs hi post hp⟩
    · obtain ⟨e, rfl⟩ : ∃ e, d = e + 1 := ⟨d - 1, by omega⟩
      obtain ⟨a, ha, ea⟩ := hB (Or.inl rfl)
      have eA := hA (Or.inr (Or.inl rfl))
      by_cases z : sk e = 0
      · exact Or.inr ⟨a, e, sk, ha, by omega, fun post hp => cs_ex13 hp32 ho hd post (by rw [if_pos z, eA, ea]; exact hp), fun post fuel s i hs hi hp => cs_ey13 hd hm hpm ho hs hi post (by rw [if_pos z, ea]; exact hp)⟩
      · exact Or.inr ⟨p + 1, e, sk, hp1, by omega, fun post hp => cs_ex13 hp32 ho hd post (by rw [if_neg z]; exact hp), fun post fuel s i hs hi hp => cs_ey13 hd hm hpm ho hs hi post (by rw [if_neg z]; exact hp)⟩
  · obtain ⟨a, ha, ea⟩ := hB (Or.inr rfl)
    have eA := hA (Or.inr (Or.inr rfl))
    exact Or.inr ⟨a, d, sk, ha, hd, fun post hp => cs_ex14 hp32 ho hd post (by rw [eA, ea]; exact hp), fun post fuel s i hs hi hp => cs_ey14 hd hm hpm ho hs hi post (by rw [ea]; exact hp)⟩
theorem cs_n1m {m : Nat} (h : m < 2 ^ 31) : (-1 : Int32) < nI m := by
  rw [Int32.lt_iff_toInt_lt, nI_toInt h, show (-1 : Int32).toInt = -1 from by decide]
  omega
theorem cs_pe {d : Nat} (hd : d ≤ 16) : ∃ r : Int32, (r = 0 ∨ r = 1) ∧ (∀ (p m : Nat) (post : Int32 → SX → Prop), m ≤ p → p ≤ 32 → post r (cp, pr, ph, gc, gp, nI m, ml, cl, ol, vl, tr, ac, ca, pa, bk, ix, cL, cH, im, tl, tk, dr, cc, ld, nI d, gk, gb, ge, po, oa, mn, cu, og, vl_, tp, ce, lN, lC, sk) → wX_propertyHolds_41 post (nI p) cp pr ph gc gp (nI m) ml cl ol vl tr ac ca pa bk ix cL cH im tl tk dr cc ld (nI d) gk gb ge po oa mn cu og vl_ tp ce lN lC sk) ∧ (∀ (p m s fuel : Nat) (x : Int32) (post : Int32 → SY → Prop), m ≤ p → p ≤ 32 → s < 300 → post r (pr, cp, ph, gc, gp, nI m, ml, cl, ol, vl, tr, ac, ca, pa, bk, ix, cL, cH, im, yn, yl, yt, yr, yo, gk, gb, po, yA, mn, cu, og, vl_, cd, ou, sN, sS, sQ, sM, sk) → wY_holds_9 post pr cp ph gc gp (nI m) ml cl ol vl tr ac ca pa bk ix cL cH im yn yl yt yr yo (fuel + 1) (nI d) (nI p) x (nI s) gk gb po yA mn cu og vl_ cd ou sN sS sQ sM sk) := by
  by_cases d0 : d = 0
  · subst d0
    exact ⟨0, Or.inl rfl, fun p m post h1 h2 hp => br_f (nI_nlt h1 (by omega)) (br_t (by decide) hp), fun p m s fuel x post h1 h2 h3 hp => br_f (nI_ge (b := 300) h3 (by decide)) (br_f (nI_nlt h1 (by omega)) (br_t (by decide) hp))⟩
  · obtain ⟨e, rfl⟩ : ∃ e, d = e + 1 := ⟨d - 1, by omega⟩
    have ee : (nI (e + 1) - 1).toNatClampNeg = e := by rw [nI_pred, nI_clamp (by omega)]
    have hv : vp_in (nI (e + 1) - 1) 16 := by rw [nI_pred]; exact vp_in_nI (by omega) (by omega)
    have h0 : ¬ nI (e + 1) ≤ 0 := nI_nle (by omega) (by omega)
    by_cases z : sk e = 0
    · exact ⟨0, Or.inl rfl, fun p m post h1 h2 hp => br_f (nI_nlt h1 (by omega)) (br_f h0 ⟨hv, br_t (by rw [ee]; exact z) hp⟩), fun p m s fuel x post h1 h2 h3 hp => br_f (nI_ge (b := 300) h3 (by decide)) (br_f (nI_nlt h1 (by omega)) (br_f h0 ⟨hv, br_t (by rw [ee]; exact z) hp⟩))⟩
    · exact ⟨1, Or.inr rfl, fun p m post h1 h2 hp => br_f (nI_nlt h1 (by omega)) (br_f h0 ⟨hv, br_f (by rw [ee]; exact z) hp⟩), fun p m s fuel x post h1 h2 h3 hp => br_f (nI_ge (b := 300) h3 (by decide)) (br_f (nI_nlt h1 (by omega)) (br_f h0 ⟨hv, br_f (by rw [ee]; exact z) hp⟩))⟩
theorem cs_xpF {s m fuel : Nat} (hm : m ≤ 32) (hs : s ≤ 256) (post : Int32 → SX → Prop) (hp : post 0 (cp, pr, ph, gc, gp, nI m, ml, cl, ol, vl, tr, ac, ca, pa, bk, ix, cL, cH, im, tl, tk, dr, cc, ld, sd, gk, gb, ge, po, oa, mn, cu, og, vl_, tp, ce, lN, lC, sk)) : wX_propertyHolds_9 post (fuel + 1) (-1) (nI s) cp pr ph gc gp (nI m) ml cl ol vl tr ac ca pa bk ix cL cH im tl tk dr cc ld sd gk gb ge po oa mn cu og vl_ tp ce lN lC sk :=
  br_c (fun _ => br_t (cs_n1m (by omega)) hp) (fun _ => br_t rfl (br_t (cs_n1m (by omega)) hp))
theorem cs_hl {L m : Nat} (hm : m ≤ 32) (hL : L ≤ 32) (hco : ∀ j, j < L → ce j = ou j) (H : ∀ j, j < m → ∃ o : Nat, o ≤ 14 ∧ po j = nI o ∧ ((o = 0 ∨ o = 13 ∨ o = 14) → oa j = yA j) ∧ ((o = 13 ∨ o = 14) → ∃ a : Nat, a ≤ 32 ∧ yA j = nI a)) :
    ∀ (c p d s : Nat) (sk : Nat → Int32), s + c = 256 → p ≤ 32 → d ≤ 16 → ∃ (r sd' : Int32) (sk' : Nat → Int32), (r = 0 ∨ r = 1) ∧
    (∀ (post : Int32 → SX → Prop) (fuel : Nat), c + 1 < fuel → post r (cp, pr, ph, gc, gp, nI m, ml, cl, ol, vl, tr, ac, ca, pa, bk, ix, cL, cH, im, tl, tk, dr, nI L, ld, sd', gk, gb, ge, po, oa, mn, cu, og, vl_, tp, ce, lN, lC, sk') → wX_propertyHolds_9 post fuel (nI p) (nI s) cp pr ph gc gp (nI m) ml cl ol vl tr ac ca pa bk ix cL cH im tl tk dr (nI L) ld (nI d) gk gb ge po oa mn cu og vl_ tp ce lN lC sk) ∧
    (∀ (post : Int32 → SY → Prop) (fuel : Nat), c + 1 < fuel → post r (pr, cp, ph, gc, gp, nI m, ml, cl, ol, vl, tr, ac, ca, pa, bk, ix, cL, cH, im, yn, yl, yt, yr, nI L, gk, gb, po, yA, mn, cu, og, vl_, cd, ou, sN, sS, sQ, sM, sk') → wY_holds_9 post pr cp ph gc gp (nI m) ml cl ol vl tr ac ca pa bk ix cL cH im yn yl yt yr (nI L) fuel (nI d) (nI p) (nI s) (nI s) gk gb po yA mn cu og vl_ cd ou sN sS sQ sM sk) := by
  intro c
  induction c with
  | zero =>
    intro p d s sk hs hp32 hd
    have z : s = 256 := by omega
    subst z
    by_cases h : p < m
    · refine ⟨0, nI d, sk, Or.inl rfl, fun post fuel hf hp => ?_, fun post fuel hf hp => ?_⟩
      · obtain ⟨f, rfl⟩ : ∃ f, fuel = f + 1 := ⟨fuel - 1, by omega⟩
        exact br_t (by decide) (br_t (nI_lt h (by omega)) hp)
      · obtain ⟨f, rfl⟩ : ∃ f, fuel = f + 1 := ⟨fuel - 1, by omega⟩
        exact br_f (by decide) (br_t (nI_lt h (by omega)) (br_t rfl hp))
    · obtain ⟨r, hr, hX, hY⟩ := cs_pe (cp := cp) (pr := pr) (ph := ph) (gc := gc) (gp := gp) (ml := ml) (cl := cl) (ol := ol) (vl := vl) (tr := tr) (ac := ac) (ca := ca) (pa := pa) (bk := bk) (ix := ix) (cL := cL) (cH := cH) (im := im) (tl := tl) (tk := tk) (dr := dr) (cc := nI L) (ld := ld) (gk := gk) (gb := gb) (ge := ge) (po := po) (oa := oa) (mn := mn) (cu := cu) (og := og) (vl_ := vl_) (tp := tp) (ce := ce) (lN := lN) (lC := lC) (sk := sk) (yn := yn) (yl := yl) (yt := yt) (yr := yr) (yo := nI L) (yA := yA) (cd := cd) (ou := ou) (sN := sN) (sS := sS) (sQ := sQ) (sM := sM) (d := d) hd
      refine ⟨r, nI d, sk, hr, fun post fuel hf hp => ?_, fun post fuel hf hp => ?_⟩
      · obtain ⟨f, rfl⟩ : ∃ f, fuel = f + 1 := ⟨fuel - 1, by omega⟩
        exact br_t (by decide) (hX p m post (by omega) hp32 hp)
      · obtain ⟨f, rfl⟩ : ∃ f, fuel = f + 1 := ⟨fuel - 1, by omega⟩
        exact hY p m 256 f _ post (by omega) hp32 (by omega) hp
  | succ c ih =>
    intro p d s sk hs hp32 hd
    by_cases h : p < m
    · rcases cs_exe (sk := sk) (cp := cp) (pr := pr) (ph := ph) (gc := gc) (gp := gp) (ml := ml) (cl := cl) (ol := ol) (vl := vl) (tr := tr) (ac := ac) (ca := ca) (pa := pa) (bk := bk) (ix := ix) (cL := cL) (cH := cH) (im := im) (tl := tl) (tk := tk) (dr := dr) (ld := ld) (gk := gk) (gb := gb) (ge := ge) (po := po) (oa := oa) (mn := mn) (cu := cu) (og := og) (vl_ := vl_) (tp := tp) (ce := ce) (lN := lN) (lC := lC) (yn := yn) (yl := yl) (yt := yt) (yr := yr) (yA := yA) (cd := cd) (ou := ou) (sN := sN) (sS := sS) (sQ := sQ) (sM := sM) (p := p) (d := d) (L := L) (m := m) hm h hd hL hco (H p h) with ⟨hX, hY⟩ | ⟨p', d', sk', h1, h2, hX, hY⟩
      · refine ⟨0, nI d, sk, Or.inl rfl, fun post fuel hf hp => ?_, fun post fuel hf hp => ?_⟩
        · obtain ⟨f, rfl⟩ : ∃ f, fuel = f + 1 + 1 := ⟨fuel - 2, by omega⟩
          exact br_f (nI_ge (b := 256) (by omega) (by decide)) (br_f (cs_nm1 (by omega)) (br_f (nI_ge h (by omega)) (hX _ (nm_r (nI_1 s) (cs_xpF hm (by omega) post hp)))))
        · obtain ⟨f, rfl⟩ : ∃ f, fuel = f + 1 := ⟨fuel - 1, by omega⟩
          exact hY post f s s (by omega) (by omega) hp
      · obtain ⟨r, sd', sk2, hr, HX, HY⟩ := ih p' d' (s + 1) sk' (by omega) h1 h2
        refine ⟨r, sd', sk2, hr, fun post fuel hf hp => ?_, fun post fuel hf hp => ?_⟩
        · obtain ⟨f, rfl⟩ : ∃ f, fuel = f + 1 := ⟨fuel - 1, by omega⟩
          exact br_f (nI_ge (b := 256) (by omega) (by decide)) (br_f (cs_nm1 (by omega)) (br_f (nI_ge h (by omega)) (hX _ (nm_r (nI_1 s) (HX post f (by omega) hp)))))
        · obtain ⟨f, rfl⟩ : ∃ f, fuel = f + 1 := ⟨fuel - 1, by omega⟩
          exact hY post f s s (by omega) (by omega) (HY post f (by omega) hp)
    · obtain ⟨r, hr, hX, hY⟩ := cs_pe (cp := cp) (pr := pr) (ph := ph) (gc := gc) (gp := gp) (ml := ml) (cl := cl) (ol := ol) (vl := vl) (tr := tr) (ac := ac) (ca := ca) (pa := pa) (bk := bk) (ix := ix) (cL := cL) (cH := cH) (im := im) (tl := tl) (tk := tk) (dr := dr) (cc := nI L) (ld := ld) (gk := gk) (gb := gb) (ge := ge) (po := po) (oa := oa) (mn := mn) (cu := cu) (og := og) (vl_ := vl_) (tp := tp) (ce := ce) (lN := lN) (lC := lC) (sk := sk) (yn := yn) (yl := yl) (yt := yt) (yr := yr) (yo := nI L) (yA := yA) (cd := cd) (ou := ou) (sN := sN) (sS := sS) (sQ := sQ) (sM := sM) (d := d) hd
      refine ⟨r, nI d, sk, hr, fun post fuel hf hp => ?_, fun post fuel hf hp => ?_⟩
      · obtain ⟨f, rfl⟩ : ∃ f, fuel = f + 1 := ⟨fuel - 1, by omega⟩
        exact br_f (nI_ge (b := 256) (by omega) (by decide)) (br_f (cs_nm1 (by omega)) (br_t (nI_le (by omega) (by omega)) (hX p m post (by omega) hp32 hp)))
      · obtain ⟨f, rfl⟩ : ∃ f, fuel = f + 1 := ⟨fuel - 1, by omega⟩
        exact hY p m s f _ post (by omega) hp32 (by omega) hp
theorem cs_hold {L : Nat} (hL : L ≤ 32) (hco : ∀ j, j < L → ce j = ou j) (hP : cs_Pr oc po oa yA) : ∃ (r sd' : Int32) (sk' : Nat → Int32), (r = 0 ∨ r = 1) ∧
    (∀ post : Int32 → SX → Prop, post r (cp, pr, ph, gc, gp, oc, ml, cl, ol, vl, tr, ac, ca, pa, bk, ix, cL, cH, im, tl, tk, dr, nI L, ld, sd', gk, gb, ge, po, oa, mn, cu, og, vl_, tp, ce, lN, lC, sk') → wpX_propertyHolds post (cp, pr, ph, gc, gp, oc, ml, cl, ol, vl, tr, ac, ca, pa, bk, ix, cL, cH, im, tl, tk, dr, nI L, ld, sd, gk, gb, ge, po, oa, mn, cu, og, vl_, tp, ce, lN, lC, sk)) ∧
    (∀ post : Int32 → SY → Prop, post r (pr, cp, ph, gc, gp, oc, ml, cl, ol, vl, tr, ac, ca, pa, bk, ix, cL, cH, im, yn, yl, yt, yr, nI L, gk, gb, po, yA, mn, cu, og, vl_, cd, ou, sN, sS, sQ, sM, sk') → wpY_holds post (pr, cp, ph, gc, gp, oc, ml, cl, ol, vl, tr, ac, ca, pa, bk, ix, cL, cH, im, yn, yl, yt, yr, nI L, gk, gb, po, yA, mn, cu, og, vl_, cd, ou, sN, sS, sQ, sM, sk)) := by
  obtain ⟨m, hm, rfl, H⟩ := hP
  obtain ⟨r, sd', sk', hr, hX, hY⟩ := cs_hl (cp := cp) (pr := pr) (ph := ph) (gc := gc) (gp := gp) (ml := ml) (cl := cl) (ol := ol) (vl := vl) (tr := tr) (ac := ac) (ca := ca) (pa := pa) (bk := bk) (ix := ix) (cL := cL) (cH := cH) (im := im) (tl := tl) (tk := tk) (dr := dr) (ld := ld) (gk := gk) (gb := gb) (ge := ge) (po := po) (oa := oa) (mn := mn) (cu := cu) (og := og) (vl_ := vl_) (tp := tp) (ce := ce) (lN := lN) (lC := lC) (yn := yn) (yl := yl) (yt := yt) (yr := yr) (yA := yA) (cd := cd) (ou := ou) (sN := sN) (sS := sS) (sQ := sQ) (sM := sM) (L := L) (m := m) hm hL hco H 256 0 0 0 sk (by omega) (by omega) (by omega)
  exact ⟨r, sd', sk', hr, fun post hp => ⟨258, hX post 258 (by omega) hp⟩, fun post hp => ⟨258, hY post 258 (by omega) hp⟩⟩
end
end
section
section
variable {cp pr ph gc gp oc ml cl ol vl tr ac ca pa bk ix cL cH im tl tk dr cc ld sd yn yl yt yr yo : Int32} {gk gb ge po oa mn cu og vl_ tp ce lN lC sk yA cd ou sN sS sQ sM : Nat → Int32}
theorem cs_xc_tape_current {n : Nat} (hn : n ≤ 32) (post : SX → Prop) (hp : post (cp, pr, ph, gc, gp, oc, ml, cl, ol, vl, tr, ac, ca, pa, bk, ix, cL, cH, im, tl, tk, dr, cc, ld, sd, gk, gb, ge, po, oa, mn, cs_cp tp cu n, og, vl_, tp, ce, lN, lC, sk)) : wpX_copy__tape_current post (cp, pr, ph, gc, gp, oc, ml, cl, ol, vl, tr, ac, ca, pa, bk, ix, cL, cH, im, tl, tk, dr, cc, ld, sd, gk, gb, ge, po, oa, mn, cu, og, vl_, tp, ce, lN, lC, sk) (nI n) := by
  have loop : ∀ (d i fuel : Nat), i + d = n → d < fuel → wX_copy__tape_current_2 post (nI n) cp pr ph gc gp oc ml cl ol vl tr ac ca pa bk ix cL cH im tl tk dr cc ld sd fuel (nI i) gk gb ge po oa mn (cs_cp tp cu i) og vl_ tp ce lN lC sk := by
    intro d
    induction d with
    | zero =>
      intro i fuel hi hf
      obtain ⟨g, rfl⟩ : ∃ g, fuel = g + 1 := ⟨fuel - 1, by omega⟩
      have z : i = n := by omega
      subst z
      exact br_t (nI_le (Nat.le_refl _) (by omega)) hp
    | succ d ih =>
      intro i fuel hi hf
      obtain ⟨g, rfl⟩ : ∃ g, fuel = g + 1 := ⟨fuel - 1, by omega⟩
      have ec : (nI i).toNatClampNeg = i := nI_clamp (by omega)
      have hv : vp_in (nI i) 32 := vp_in_nI (by omega) (by omega)
      exact br_f (nI_ge (by omega) (by omega)) ⟨hv, hv, nm_r (e' := cs_cp tp cu (i + 1)) (by rw [ec, cs_cps]) (nm_r (nI_1 i) (ih (i + 1) g (by omega) (by omega)))⟩
  have h := loop n 0 (n + 1) (by omega) (by omega)
  rw [cs_cp0] at h
  exact ⟨n + 1, h⟩
theorem cs_xc_cells_value {n : Nat} (hn : n ≤ 32) (post : SX → Prop) (hp : post (cp, pr, ph, gc, gp, oc, ml, cl, ol, vl, tr, ac, ca, pa, bk, ix, cL, cH, im, tl, tk, dr, cc, ld, sd, gk, gb, ge, po, oa, mn, cu, og, cs_cp ce vl_ n, tp, ce, lN, lC, sk)) : wpX_copy__cells_value post (cp, pr, ph, gc, gp, oc, ml, cl, ol, vl, tr, ac, ca, pa, bk, ix, cL, cH, im, tl, tk, dr, cc, ld, sd, gk, gb, ge, po, oa, mn, cu, og, vl_, tp, ce, lN, lC, sk) (nI n) := by
  have loop : ∀ (d i fuel : Nat), i + d = n → d < fuel → wX_copy__cells_value_2 post (nI n) cp pr ph gc gp oc ml cl ol vl tr ac ca pa bk ix cL cH im tl tk dr cc ld sd fuel (nI i) gk gb ge po oa mn cu og (cs_cp ce vl_ i) tp ce lN lC sk := by
    intro d
    induction d with
    | zero =>
      intro i fuel hi hf
      obtain ⟨g, rfl⟩ : ∃ g, fuel = g + 1 := ⟨fuel - 1, by omega⟩
      have z : i = n := by omega
      subst z
      exact br_t (nI_le (Nat.le_refl _) (by omega)) hp
    | succ d ih =>
      intro i fuel hi hf
      obtain ⟨g, rfl⟩ : ∃ g, fuel = g + 1 := ⟨fuel - 1, by omega⟩
      have ec : (nI i).toNatClampNeg = i := nI_clamp (by omega)
      have hv : vp_in (nI i) 32 := vp_in_nI (by omega) (by omega)
      exact br_f (nI_ge (by omega) (by omega)) ⟨hv, hv, nm_r (e' := cs_cp ce vl_ (i + 1)) (by rw [ec, cs_cps]) (nm_r (nI_1 i) (ih (i + 1) g (by omega) (by omega)))⟩
  have h := loop n 0 (n + 1) (by omega) (by omega)
  rw [cs_cp0] at h
  exact ⟨n + 1, h⟩
theorem cs_xc_tape_original {n : Nat} (hn : n ≤ 32) (post : SX → Prop) (hp : post (cp, pr, ph, gc, gp, oc, ml, cl, ol, vl, tr, ac, ca, pa, bk, ix, cL, cH, im, tl, tk, dr, cc, ld, sd, gk, gb, ge, po, oa, mn, cu, cs_cp tp og n, vl_, tp, ce, lN, lC, sk)) : wpX_copy__tape_original post (cp, pr, ph, gc, gp, oc, ml, cl, ol, vl, tr, ac, ca, pa, bk, ix, cL, cH, im, tl, tk, dr, cc, ld, sd, gk, gb, ge, po, oa, mn, cu, og, vl_, tp, ce, lN, lC, sk) (nI n) := by
  have loop : ∀ (d i fuel : Nat), i + d = n → d < fuel → wX_copy__tape_original_2 post (nI n) cp pr ph gc gp oc ml cl ol vl tr ac ca pa bk ix cL cH im tl tk dr cc ld sd fuel (nI i) gk gb ge po oa mn cu (cs_cp tp og i) vl_ tp ce lN lC sk := by
    intro d
    induction d with
    | zero =>
      intro i fuel hi hf
      obtain ⟨g, rfl⟩ : ∃ g, fuel = g + 1 := ⟨fuel - 1, by omega⟩
      have z : i = n := by omega
      subst z
      exact br_t (nI_le (Nat.le_refl _) (by omega)) hp
    | succ d ih =>
      intro i fuel hi hf
      obtain ⟨g, rfl⟩ : ∃ g, fuel = g + 1 := ⟨fuel - 1, by omega⟩
      have ec : (nI i).toNatClampNeg = i := nI_clamp (by omega)
      have hv : vp_in (nI i) 32 := vp_in_nI (by omega) (by omega)
      exact br_f (nI_ge (by omega) (by omega)) ⟨hv, hv, nm_r (e' := cs_cp tp og (i + 1)) (by rw [ec, cs_cps]) (nm_r (nI_1 i) (ih (i + 1) g (by omega) (by omega)))⟩
  have h := loop n 0 (n + 1) (by omega) (by omega)
  rw [cs_cp0] at h
  exact ⟨n + 1, h⟩
theorem cs_xc_manual_tape {n : Nat} (hn : n ≤ 32) (post : SX → Prop) (hp : post (cp, pr, ph, gc, gp, oc, ml, cl, ol, vl, tr, ac, ca, pa, bk, ix, cL, cH, im, tl, tk, dr, cc, ld, sd, gk, gb, ge, po, oa, mn, cu, og, vl_, cs_cp mn tp n, ce, lN, lC, sk)) : wpX_copy__manual_tape post (cp, pr, ph, gc, gp, oc, ml, cl, ol, vl, tr, ac, ca, pa, bk, ix, cL, cH, im, tl, tk, dr, cc, ld, sd, gk, gb, ge, po, oa, mn, cu, og, vl_, tp, ce, lN, lC, sk) (nI n) := by
  have loop : ∀ (d i fuel : Nat), i + d = n → d < fuel → wX_copy__manual_tape_2 post (nI n) cp pr ph gc gp oc ml cl ol vl tr ac ca pa bk ix cL cH im tl tk dr cc ld sd fuel (nI i) gk gb ge po oa mn cu og vl_ (cs_cp mn tp i) ce lN lC sk := by
    intro d
    induction d with
    | zero =>
      intro i fuel hi hf
      obtain ⟨g, rfl⟩ : ∃ g, fuel = g + 1 := ⟨fuel - 1, by omega⟩
      have z : i = n := by omega
      subst z
      exact br_t (nI_le (Nat.le_refl _) (by omega)) hp
    | succ d ih =>
      intro i fuel hi hf
      obtain ⟨g, rfl⟩ : ∃ g, fuel = g + 1 := ⟨fuel - 1, by omega⟩
      have ec : (nI i).toNatClampNeg = i := nI_clamp (by omega)
      have hv : vp_in (nI i) 32 := vp_in_nI (by omega) (by omega)
      exact br_f (nI_ge (by omega) (by omega)) ⟨hv, hv, nm_r (e' := cs_cp mn tp (i + 1)) (by rw [ec, cs_cps]) (nm_r (nI_1 i) (ih (i + 1) g (by omega) (by omega)))⟩
  have h := loop n 0 (n + 1) (by omega) (by omega)
  rw [cs_cp0] at h
  exact ⟨n + 1, h⟩
theorem cs_yreplay25 {n : Nat} (hn : n ≤ 32) (post : Int32 → SY → Prop) (hp : wY_replay_57 post pr cp ph gc gp oc (nI n) cl ol vl tr ac ca pa bk ix cL cH im yn yl yt yr yo gk gb po yA mn cu og vl_ (cs_cp mn cd n) ou sN sS sQ sM sk) : ∃ k : Nat, wY_replay_25 post pr cp ph gc gp oc (nI n) cl ol vl tr ac ca pa bk ix cL cH im yn yl yt yr yo k (nI 0) gk gb po yA mn cu og vl_ cd ou sN sS sQ sM sk := by
  have loop : ∀ (d i fuel : Nat), i + d = n → d < fuel → wY_replay_25 post pr cp ph gc gp oc (nI n) cl ol vl tr ac ca pa bk ix cL cH im yn yl yt yr yo fuel (nI i) gk gb po yA mn cu og vl_ (cs_cp mn cd i) ou sN sS sQ sM sk := by
    intro d
    induction d with
    | zero =>
      intro i fuel hi hf
      obtain ⟨g, rfl⟩ : ∃ g, fuel = g + 1 := ⟨fuel - 1, by omega⟩
      have z : i = n := by omega
      subst z
      exact br_t (nI_le (Nat.le_refl _) (by omega)) hp
    | succ d ih =>
      intro i fuel hi hf
      obtain ⟨g, rfl⟩ : ∃ g, fuel = g + 1 := ⟨fuel - 1, by omega⟩
      have ec : (nI i).toNatClampNeg = i := nI_clamp (by omega)
      have hv : vp_in (nI i) 32 := vp_in_nI (by omega) (by omega)
      exact br_f (nI_ge (by omega) (by omega)) (br_f (nI_ge (b := 32) (by omega) (by decide)) ⟨hv, hv, nm_r (e' := cs_cp mn cd (i + 1)) (by rw [ec, cs_cps]) (nm_r (nI_1 i) (ih (i + 1) g (by omega) (by omega)))⟩)
  have h := loop n 0 (n + 1) (by omega) (by omega)
  rw [cs_cp0] at h
  exact ⟨n + 1, h⟩
theorem cs_yfound55 {n : Nat} (hn : n ≤ 32) (post : SY → Prop) (hp : wY_found_87 post pr cp ph gc gp oc ml cl ol vl tr ac ca pa bk ix cL cH im yn yl yt yr (nI n) gk gb po yA mn cu og (cs_cp ou vl_ n) cd ou sN sS sQ sM sk) : ∃ k : Nat, wY_found_55 post pr cp ph gc gp oc ml cl ol vl tr ac ca pa bk ix cL cH im yn yl yt yr (nI n) k (nI 0) gk gb po yA mn cu og vl_ cd ou sN sS sQ sM sk := by
  have loop : ∀ (d i fuel : Nat), i + d = n → d < fuel → wY_found_55 post pr cp ph gc gp oc ml cl ol vl tr ac ca pa bk ix cL cH im yn yl yt yr (nI n) fuel (nI i) gk gb po yA mn cu og (cs_cp ou vl_ i) cd ou sN sS sQ sM sk := by
    intro d
    induction d with
    | zero =>
      intro i fuel hi hf
      obtain ⟨g, rfl⟩ : ∃ g, fuel = g + 1 := ⟨fuel - 1, by omega⟩
      have z : i = n := by omega
      subst z
      exact br_t (nI_le (Nat.le_refl _) (by omega)) hp
    | succ d ih =>
      intro i fuel hi hf
      obtain ⟨g, rfl⟩ : ∃ g, fuel = g + 1 := ⟨fuel - 1, by omega⟩
      have ec : (nI i).toNatClampNeg = i := nI_clamp (by omega)
      have hv : vp_in (nI i) 32 := vp_in_nI (by omega) (by omega)
      exact br_f (nI_ge (by omega) (by omega)) (br_f (nI_ge (b := 32) (by omega) (by decide)) ⟨hv, hv, nm_r (e' := cs_cp ou vl_ (i + 1)) (by rw [ec, cs_cps]) (nm_r (nI_1 i) (ih (i + 1) g (by omega) (by omega)))⟩)
  have h := loop n 0 (n + 1) (by omega) (by omega)
  rw [cs_cp0] at h
  exact ⟨n + 1, h⟩
theorem cs_yfound2 {n : Nat} (hn : n ≤ 32) (post : SY → Prop) (hp : wY_found_43 post (nI n) pr cp ph gc gp oc ml cl ol vl tr ac ca pa bk ix cL cH im yn yl yt yr yo gk gb po yA mn (cs_cp cd cu n) (cs_cp cd og n) vl_ cd ou sN sS sQ sM sk) : ∃ k : Nat, wY_found_2 post (nI n) pr cp ph gc gp oc ml cl ol vl tr ac ca pa bk ix cL cH im yn yl yt yr yo k (nI 0) gk gb po yA mn cu og vl_ cd ou sN sS sQ sM sk := by
  have loop : ∀ (d i fuel : Nat), i + d = n → d < fuel → wY_found_2 post (nI n) pr cp ph gc gp oc ml cl ol vl tr ac ca pa bk ix cL cH im yn yl yt yr yo fuel (nI i) gk gb po yA mn (cs_cp cd cu i) (cs_cp cd og i) vl_ cd ou sN sS sQ sM sk := by
    intro d
    induction d with
    | zero =>
      intro i fuel hi hf
      obtain ⟨g, rfl⟩ : ∃ g, fuel = g + 1 := ⟨fuel - 1, by omega⟩
      have z : i = n := by omega
      subst z
      exact br_t (nI_le (Nat.le_refl _) (by omega)) hp
    | succ d ih =>
      intro i fuel hi hf
      obtain ⟨g, rfl⟩ : ∃ g, fuel = g + 1 := ⟨fuel - 1, by omega⟩
      have ec : (nI i).toNatClampNeg = i := nI_clamp (by omega)
      have hv : vp_in (nI i) 32 := vp_in_nI (by omega) (by omega)
      exact br_f (nI_ge (by omega) (by omega)) (br_f (nI_ge (b := 32) (by omega) (by decide)) ⟨hv, hv, nm_r (e' := cs_cp cd cu (i + 1)) (by rw [ec, cs_cps]) ⟨hv, hv, nm_r (e' := cs_cp cd og (i + 1)) (by rw [ec, cs_cps]) (nm_r (nI_1 i) (ih (i + 1) g (by omega) (by omega)))⟩⟩)
  have h := loop n 0 (n + 1) (by omega) (by omega)
  rw [cs_cp0, cs_cp0] at h
  exact ⟨n + 1, h⟩
theorem cs_ytrial183 {n : Nat} (hn : n ≤ 32) (post : Int32 → SY → Prop) (hp : wY_trial_215 post pr cp ph gc gp oc ml cl ol vl tr ac ca pa bk ix cL cH im yn yl yt yr (nI n) gk gb po yA mn cu og (cs_cp ou vl_ n) cd ou sN sS sQ sM sk) : ∃ k : Nat, wY_trial_183 post pr cp ph gc gp oc ml cl ol vl tr ac ca pa bk ix cL cH im yn yl yt yr (nI n) k (nI 0) gk gb po yA mn cu og vl_ cd ou sN sS sQ sM sk := by
  have loop : ∀ (d i fuel : Nat), i + d = n → d < fuel → wY_trial_183 post pr cp ph gc gp oc ml cl ol vl tr ac ca pa bk ix cL cH im yn yl yt yr (nI n) fuel (nI i) gk gb po yA mn cu og (cs_cp ou vl_ i) cd ou sN sS sQ sM sk := by
    intro d
    induction d with
    | zero =>
      intro i fuel hi hf
      obtain ⟨g, rfl⟩ : ∃ g, fuel = g + 1 := ⟨fuel - 1, by omega⟩
      have z : i = n := by omega
      subst z
      exact br_t (nI_le (Nat.le_refl _) (by omega)) hp
    | succ d ih =>
      intro i fuel hi hf
      obtain ⟨g, rfl⟩ : ∃ g, fuel = g + 1 := ⟨fuel - 1, by omega⟩
      have ec : (nI i).toNatClampNeg = i := nI_clamp (by omega)
      have hv : vp_in (nI i) 32 := vp_in_nI (by omega) (by omega)
      exact br_f (nI_ge (by omega) (by omega)) (br_f (nI_ge (b := 32) (by omega) (by decide)) ⟨hv, hv, nm_r (e' := cs_cp ou vl_ (i + 1)) (by rw [ec, cs_cps]) (nm_r (nI_1 i) (ih (i + 1) g (by omega) (by omega)))⟩)
  have h := loop n 0 (n + 1) (by omega) (by omega)
  rw [cs_cp0] at h
  exact ⟨n + 1, h⟩
theorem cs_ytrial141 {n : Nat} (hn : n ≤ 32) (post : Int32 → SY → Prop) (hp : ∃ k : Nat, wY_trial_183 post pr cp ph gc gp oc ml (nI n) ol vl tr ac ca pa bk ix cL cH im yn yl (nI n) yr yo k (nI 0) gk gb po yA mn (cs_cp cd cu n) og vl_ cd ou sN sS sQ sM sk) : ∃ k : Nat, wY_trial_141 post pr cp ph gc gp oc ml cl ol vl tr ac ca pa bk ix cL cH im yn yl (nI n) yr yo k (nI 0) gk gb po yA mn cu og vl_ cd ou sN sS sQ sM sk := by
  have loop : ∀ (d i fuel : Nat), i + d = n → d < fuel → wY_trial_141 post pr cp ph gc gp oc ml cl ol vl tr ac ca pa bk ix cL cH im yn yl (nI n) yr yo fuel (nI i) gk gb po yA mn (cs_cp cd cu i) og vl_ cd ou sN sS sQ sM sk := by
    intro d
    induction d with
    | zero =>
      intro i fuel hi hf
      obtain ⟨g, rfl⟩ : ∃ g, fuel = g + 1 := ⟨fuel - 1, by omega⟩
      have z : i = n := by omega
      subst z
      exact br_t (nI_le (Nat.le_refl _) (by omega)) hp
    | succ d ih =>
      intro i fuel hi hf
      obtain ⟨g, rfl⟩ : ∃ g, fuel = g + 1 := ⟨fuel - 1, by omega⟩
      have ec : (nI i).toNatClampNeg = i := nI_clamp (by omega)
      have hv : vp_in (nI i) 32 := vp_in_nI (by omega) (by omega)
      exact br_f (nI_ge (by omega) (by omega)) (br_f (nI_ge (b := 32) (by omega) (by decide)) ⟨hv, hv, nm_r (e' := cs_cp cd cu (i + 1)) (by rw [ec, cs_cps]) (nm_r (nI_1 i) (ih (i + 1) g (by omega) (by omega)))⟩)
  have h := loop n 0 (n + 1) (by omega) (by omega)
  rw [cs_cp0] at h
  exact ⟨n + 1, h⟩
theorem cs_ycopyS {n : Nat} (hn : n ≤ 32) (post : SY → Prop) (hp : post (pr, cp, ph, gc, gp, oc, ml, nI n, ol, vl, tr, ac, ca, pa, bk, ix, cL, cH, im, yn, nI n, yt, yr, yo, gk, gb, po, yA, mn, cu, og, vl_, cs_cp cu cd n, ou, sN, sS, sQ, sM, sk)) : ∃ k : Nat, wY_copySToCand_2 post pr cp ph gc gp oc ml (nI n) ol vl tr ac ca pa bk ix cL cH im yn yl yt yr yo k (nI 0) gk gb po yA mn cu og vl_ cd ou sN sS sQ sM sk := by
  have loop : ∀ (d i fuel : Nat), i + d = n → d < fuel → wY_copySToCand_2 post pr cp ph gc gp oc ml (nI n) ol vl tr ac ca pa bk ix cL cH im yn yl yt yr yo fuel (nI i) gk gb po yA mn cu og vl_ (cs_cp cu cd i) ou sN sS sQ sM sk := by
    intro d
    induction d with
    | zero =>
      intro i fuel hi hf
      obtain ⟨g, rfl⟩ : ∃ g, fuel = g + 1 := ⟨fuel - 1, by omega⟩
      have z : i = n := by omega
      subst z
      exact br_t (nI_le (Nat.le_refl _) (by omega)) hp
    | succ d ih =>
      intro i fuel hi hf
      obtain ⟨g, rfl⟩ : ∃ g, fuel = g + 1 := ⟨fuel - 1, by omega⟩
      have ec : (nI i).toNatClampNeg = i := nI_clamp (by omega)
      have hv : vp_in (nI i) 32 := vp_in_nI (by omega) (by omega)
      exact br_f (nI_ge (by omega) (by omega)) (br_f (nI_ge (b := 32) (by omega) (by decide)) ⟨hv, hv, nm_r (e' := cs_cp cu cd (i + 1)) (by rw [ec, cs_cps]) (nm_r (nI_1 i) (ih (i + 1) g (by omega) (by omega)))⟩)
  have h := loop n 0 (n + 1) (by omega) (by omega)
  rw [cs_cp0] at h
  exact ⟨n + 1, h⟩
theorem cs_xkeep {t L : Nat} (ht : t ≤ 32) (hL : L ≤ 32) (post : SX → Prop) (hp : post (cp, pr, ph, gc, gp, oc, ml, nI t, ol, nI L, tr, ac, ca, pa, bk, ix, cL, cH, im, tl, nI t, dr, nI L, ld, sd, gk, gb, ge, po, oa, mn, cs_cp tp cu t, og, cs_cp ce vl_ L, tp, ce, lN, lC, sk)) : wpX_keepTape post (cp, pr, ph, gc, gp, oc, ml, cl, ol, vl, tr, ac, ca, pa, bk, ix, cL, cH, im, tl, nI t, dr, nI L, ld, sd, gk, gb, ge, po, oa, mn, cu, og, vl_, tp, ce, lN, lC, sk) := by
  unfold wpX_keepTape
  refine cs_xc_tape_current ht _ ?_
  refine cs_xc_cells_value hL _ ?_
  exact hp
theorem cs_xfind {t L : Nat} (ht : t ≤ 32) (hL : L ≤ 32) (post : SX → Prop) (hp : post (cp, pr, 1, gc, gp, oc, ml, nI t, nI t, nI L, 0, 0, ca, 0, 0, 0, 0, 0, 0, tl, nI t, dr, nI L, ld, sd, gk, gb, ge, po, oa, mn, cs_cp tp cu t, cs_cp tp og t, cs_cp ce vl_ L, tp, ce, lN, lC, sk)) : wpX_keepFinding post (cp, pr, ph, gc, gp, oc, ml, cl, ol, vl, tr, ac, ca, pa, bk, ix, cL, cH, im, tl, nI t, dr, nI L, ld, sd, gk, gb, ge, po, oa, mn, cu, og, vl_, tp, ce, lN, lC, sk) := by
  unfold wpX_keepFinding
  refine cs_xkeep ht hL _ ?_
  refine cs_xc_tape_original ht _ ?_
  exact hp
theorem cs_yfind {t L : Nat} (ht : t ≤ 32) (hL : L ≤ 32) (post : SY → Prop) (hp : post (pr, cp, 1, gc, gp, oc, ml, nI t, nI t, nI L, 0, 0, ca, 0, 0, 0, 0, 0, 0, 0, yl, yt, yr, nI L, gk, gb, po, yA, mn, cs_cp cd cu t, cs_cp cd og t, cs_cp ou vl_ L, cd, ou, sN, sS, sQ, sM, sk)) : wpY_found post (pr, cp, ph, gc, gp, oc, ml, cl, ol, vl, tr, ac, ca, pa, bk, ix, cL, cH, im, yn, yl, yt, yr, nI L, gk, gb, po, yA, mn, cu, og, vl_, cd, ou, sN, sS, sQ, sM, sk) (nI t) := by
  refine cs_yfound2 ht post ?_
  refine cs_yfound55 hL post ?_
  exact hp
end
end
section
theorem cs_nb0 : narrow .boolean (.int 0) = .int 0 := rfl
theorem cs_nb1 : narrow .boolean (.int 1) = .int 1 := rfl
theorem cs_fb0 : fits .boolean (.int 0) = true := by decide
theorem cs_fb1 : fits .boolean (.int 1) = true := by decide
section
variable {cp pr ph gc gp oc ml cl ol vl tr ac ca pa bk ix cL cH im tl tk dr cc ld sd yn yl yt yr yo : Int32} {gk gb ge po oa mn cu og vl_ tp ce lN lC sk yA cd ou sN sS sQ sM : Nat → Int32}
variable {dx : Int32}
theorem cs_out {lim : Nat} (hG : cs_Gn gc gp gk gb ge) (hgp : gp = 0) (hP : cs_Pr oc po oa yA) (hc : dr ≠ 0 → cp = nI lim) (hT : cs_T dr yl lim 0 tp cd) :
    (∃ (pr' tk' cc' ld' yl' yt' yo' : Int32) (tp' ce' lN' lC' cd' ou' sN' sS' sQ' sM' : Nat → Int32), (∀ post : Int32 → SX → Prop, post 2 (cp, pr', ph, gc, gp, oc, ml, cl, ol, vl, tr, ac, ca, pa, bk, ix, cL, cH, im, nI lim, tk', dr, cc', ld', sd, gk, gb, ge, po, oa, mn, cu, og, vl_, tp', ce', lN', lC', sk) → wpX_outcomeOfTape post (cp, pr, ph, gc, gp, oc, ml, cl, ol, vl, tr, ac, ca, pa, bk, ix, cL, cH, im, nI lim, tk, dx, cc, ld, sd, gk, gb, ge, po, oa, mn, cu, og, vl_, tp, ce, lN, lC, sk) dr) ∧ (∀ post : Int32 → SY → Prop, post 0 (pr', cp, ph, gc, gp, oc, ml, cl, ol, vl, tr, ac, ca, pa, bk, ix, cL, cH, im, yn, yl', yt', dr, yo', gk, gb, po, yA, mn, cu, og, vl_, cd', ou', sN', sS', sQ', sM', sk) → wpY_generate post (pr, cp, ph, gc, gp, oc, ml, cl, ol, vl, tr, ac, ca, pa, bk, ix, cL, cH, im, yn, yl, yt, dr, yo, gk, gb, po, yA, mn, cu, og, vl_, cd, ou, sN, sS, sQ, sM, sk))) ∨
    (∃ (t L : Nat) (pr' ld' yl' sd' : Int32) (tp' ce' lN' lC' cd' ou' sN' sS' sQ' sM' sk' : Nat → Int32), t ≤ 32 ∧ L ≤ 32 ∧ (∀ j, j < t → tp' j = cd' j) ∧ cs_by tp' t ∧ (∀ j, j < L → ce' j = ou' j) ∧ (∀ post : Int32 → SX → Prop, post 0 (cp, pr', ph, gc, gp, oc, ml, cl, ol, vl, tr, ac, ca, pa, bk, ix, cL, cH, im, nI lim, nI t, dr, nI L, ld', sd', gk, gb, ge, po, oa, mn, cu, og, vl_, tp', ce', lN', lC', sk') → wpX_outcomeOfTape post (cp, pr, ph, gc, gp, oc, ml, cl, ol, vl, tr, ac, ca, pa, bk, ix, cL, cH, im, nI lim, tk, dx, cc, ld, sd, gk, gb, ge, po, oa, mn, cu, og, vl_, tp, ce, lN, lC, sk) dr) ∧ (∀ post : Int32 → SY → Prop, post 1 (pr', cp, ph, gc, gp, oc, ml, cl, ol, vl, tr, ac, ca, pa, bk, ix, cL, cH, im, yn, yl', nI t, dr, nI L, gk, gb, po, yA, mn, cu, og, vl_, cd', ou', sN', sS', sQ', sM', sk) → wpY_generate post (pr, cp, ph, gc, gp, oc, ml, cl, ol, vl, tr, ac, ca, pa, bk, ix, cL, cH, im, yn, yl, yt, dr, yo, gk, gb, po, yA, mn, cu, og, vl_, cd, ou, sN, sS, sQ, sM, sk)) ∧ (∀ post : Int32 → SY → Prop, post 1 (pr', cp, ph, gc, gp, oc, ml, cl, ol, vl, tr, ac, ca, pa, bk, ix, cL, cH, im, yn, yl', nI t, 0, nI L, gk, gb, po, yA, mn, cu, og, vl_, cd', ou', sN', sS', sQ', sM', sk') → wpY_holds post (pr', cp, ph, gc, gp, oc, ml, cl, ol, vl, tr, ac, ca, pa, bk, ix, cL, cH, im, yn, yl', nI t, 0, nI L, gk, gb, po, yA, mn, cu, og, vl_, cd', ou', sN', sS', sQ', sM', sk))) ∨
    (∃ (t L : Nat) (pr' ld' yl' sd' : Int32) (tp' ce' lN' lC' cd' ou' sN' sS' sQ' sM' sk' : Nat → Int32), t ≤ 32 ∧ L ≤ 32 ∧ (∀ j, j < t → tp' j = cd' j) ∧ cs_by tp' t ∧ (∀ j, j < L → ce' j = ou' j) ∧ (∀ post : Int32 → SX → Prop, post 1 (cp, pr', ph, gc, gp, oc, ml, cl, ol, vl, tr, ac, ca, pa, bk, ix, cL, cH, im, nI lim, nI t, dr, nI L, ld', sd', gk, gb, ge, po, oa, mn, cu, og, vl_, tp', ce', lN', lC', sk') → wpX_outcomeOfTape post (cp, pr, ph, gc, gp, oc, ml, cl, ol, vl, tr, ac, ca, pa, bk, ix, cL, cH, im, nI lim, tk, dx, cc, ld, sd, gk, gb, ge, po, oa, mn, cu, og, vl_, tp, ce, lN, lC, sk) dr) ∧ (∀ post : Int32 → SY → Prop, post 1 (pr', cp, ph, gc, gp, oc, ml, cl, ol, vl, tr, ac, ca, pa, bk, ix, cL, cH, im, yn, yl', nI t, dr, nI L, gk, gb, po, yA, mn, cu, og, vl_, cd', ou', sN', sS', sQ', sM', sk) → wpY_generate post (pr, cp, ph, gc, gp, oc, ml, cl, ol, vl, tr, ac, ca, pa, bk, ix, cL, cH, im, yn, yl, yt, dr, yo, gk, gb, po, yA, mn, cu, og, vl_, cd, ou, sN, sS, sQ, sM, sk)) ∧ (∀ post : Int32 → SY → Prop, post 0 (pr', cp, ph, gc, gp, oc, ml, cl, ol, vl, tr, ac, ca, pa, bk, ix, cL, cH, im, yn, yl', nI t, 0, nI L, gk, gb, po, yA, mn, cu, og, vl_, cd', ou', sN', sS', sQ', sM', sk') → wpY_holds post (pr', cp, ph, gc, gp, oc, ml, cl, ol, vl, tr, ac, ca, pa, bk, ix, cL, cH, im, yn, yl', nI t, 0, nI L, gk, gb, po, yA, mn, cu, og, vl_, cd', ou', sN', sS', sQ', sM', sk))) := by
  have hdr : dr = 0 ∨ dr = 1 := hT.2.2.1
  have hn : narrow .boolean (.int dr) = .int dr ∧ fits .boolean (.int dr) = true := by
    rcases hdr with rfl | rfl
    · exact ⟨cs_nb0, cs_fb0⟩
    · exact ⟨cs_nb1, cs_fb1⟩
  obtain ⟨r, pr', tk', cc', ld', yl', yt', yo', tp', ce', lN', lC', cd', ou', sN', sS', sQ', sM', hf, HX, HY⟩ := cs_gen (cp := cp) (pr := pr) (ph := ph) (gc := gc) (gp := gp) (oc := oc) (ml := ml) (cl := cl) (ol := ol) (vl := vl) (tr := tr) (ac := ac) (ca := ca) (pa := pa) (bk := bk) (ix := ix) (cL := cL) (cH := cH) (im := im) (tk := tk) (dr := dr) (cc := cc) (ld := ld) (sd := sd) (gk := gk) (gb := gb) (ge := ge) (po := po) (oa := oa) (mn := mn) (cu := cu) (og := og) (vl_ := vl_) (tp := tp) (ce := ce) (lN := lN) (lC := lC) (sk := sk) (yn := yn) (yl := yl) (yt := yt) (yo := yo) (yA := yA) (cd := cd) (ou := ou) (sN := sN) (sS := sS) (sQ := sQ) (sM := sM) (lim := lim) hG hgp hc hT
  rcases hf with rfl | ⟨rfl, t, L, ht, hL, rfl, rfl, rfl, rfl, h1, h2, h3⟩
  · exact Or.inl ⟨pr', tk', cc', ld', yl', yt', yo', tp', ce', lN', lC', cd', ou', sN', sS', sQ', sM', fun post hp => ⟨hn.1, hn.2, HX _ (br_t rfl hp)⟩, HY⟩
  · obtain ⟨r2, sd', sk', hr, hX, hY⟩ := cs_hold (cp := cp) (pr := pr') (ph := ph) (gc := gc) (gp := gp) (oc := oc) (ml := ml) (cl := cl) (ol := ol) (vl := vl) (tr := tr) (ac := ac) (ca := ca) (pa := pa) (bk := bk) (ix := ix) (cL := cL) (cH := cH) (im := im) (tl := nI lim) (tk := nI t) (dr := dr) (ld := ld') (sd := sd) (gk := gk) (gb := gb) (ge := ge) (po := po) (oa := oa) (mn := mn) (cu := cu) (og := og) (vl_ := vl_) (tp := tp') (ce := ce') (lN := lN') (lC := lC') (sk := sk) (yn := yn) (yl := yl') (yt := nI t) (yr := 0) (yA := yA) (cd := cd') (ou := ou') (sN := sN') (sS := sS') (sQ := sQ') (sM := sM') (L := L) hL h3 hP
    rcases hr with rfl | rfl
    · exact Or.inr (Or.inr ⟨t, L, pr', ld', yl', sd', tp', ce', lN', lC', cd', ou', sN', sS', sQ', sM', sk', ht, hL, h1, h2, h3, fun post hp => ⟨hn.1, hn.2, HX _ (br_f (by decide) (hX _ (br_t rfl hp)))⟩, HY, hY⟩)
    · exact Or.inr (Or.inl ⟨t, L, pr', ld', yl', sd', tp', ce', lN', lC', cd', ou', sN', sS', sQ', sM', sk', ht, hL, h1, h2, h3, fun post hp => ⟨hn.1, hn.2, HX _ (br_f (by decide) (hX _ (br_f (by decide) hp)))⟩, HY, hY⟩)
theorem cs_xrdy1 {m : Nat} (hm : 0 < m) (hm2 : m ≤ 32) (hgp : gp = 0) (post : Int32 → Prop) (hp : post 1) : wpX_readyToTest post (cp, pr, 0, gc, gp, nI m, ml, cl, ol, vl, tr, ac, ca, pa, bk, ix, cL, cH, im, tl, tk, dr, cc, ld, sd, gk, gb, ge, po, oa, mn, cu, og, vl_, tp, ce, lN, lC, sk) :=
  br_t rfl (br_t hgp (br_f (nI_nle hm (by omega)) hp))
theorem cs_xrdy0 {m : Nat} (h : ph ≠ 0 ∨ gp ≠ 0 ∨ m = 0) (post : Int32 → Prop) (hp : post 0) : wpX_readyToTest post (cp, pr, ph, gc, gp, nI m, ml, cl, ol, vl, tr, ac, ca, pa, bk, ix, cL, cH, im, tl, tk, dr, cc, ld, sd, gk, gb, ge, po, oa, mn, cu, og, vl_, tp, ce, lN, lC, sk) := by
  by_cases h1 : ph = 0
  · by_cases h2 : gp = 0
    · have z := (h.resolve_left (fun w => w h1)).resolve_left (fun w => w h2)
      subst z
      exact br_t h1 (br_t h2 (br_t (by decide) hp))
    · exact br_t h1 (br_f h2 hp)
  · exact br_f h1 hp
end
end
section
section
variable {cp pr ph gc gp oc ml cl ol vl tr ac ca pa bk ix cL cH im tl tk dr cc ld sd yn yl yt yr yo : Int32} {gk gb ge po oa mn cu og vl_ tp ce lN lC sk yA cd ou sN sS sQ sM : Nat → Int32}
variable {pr' ld' yl' sd' : Int32} {tp' ce' lN' lC' cd' ou' sN' sS' sQ' sM' sk' : Nat → Int32}
theorem cs_Ffind {t L : Nat} {gp : Int32} {tp cu : Nat → Int32} (ht : t ≤ 32) (hL : L ≤ 32) (hgp : gp = 0) (hb : cs_by tp t) : cs_F 1 gp (nI t) (nI t) (nI L) 0 0 0 0 0 0 0 (cs_cp tp cu t) :=
  ⟨t, t, L, ht, ht, hL, rfl, rfl, rfl, cs_byc hb (fun j hj => cs_cpl hj), Or.inr (Or.inr ⟨rfl, hgp, Or.inl ⟨rfl, rfl, rfl, rfl, rfl, rfl, rfl⟩⟩)⟩
theorem cs_Tman {m : Nat} {tp cd : Nat → Int32} (hm : m ≤ 32) (hb : cs_by mn m) : cs_T 0 (nI m) m 0 (cs_cp mn tp m) (cs_cp mn cd m) :=
  ⟨by omega, hm, Or.inl rfl, fun j hj => absurd hj (by omega), cs_by0 _, fun _ => ⟨rfl, fun j hj => by rw [cs_cpl hj, cs_cpl hj], cs_byc hb (fun j hj => cs_cpl hj)⟩⟩
theorem cs_yrdy {n m : Nat} (hn : n ≤ 16) (hm : m ≤ 32) (h : ph ≠ 0 ∨ cs_D gk n ≠ 0 ∨ m = 0) (post : Int32 → SY → Prop) (hp : post (-1) (pr, cp, ph, nI n, nI (cs_D gk n), nI m, ml, cl, ol, vl, tr, ac, ca, pa, bk, ix, cL, cH, im, yn, yl, yt, yr, yo, gk, gb, po, yA, mn, cu, og, vl_, cd, ou, sN, sS, sQ, sM, sk)) : wpY_replay post (pr, cp, ph, nI n, nI (cs_D gk n), nI m, ml, cl, ol, vl, tr, ac, ca, pa, bk, ix, cL, cH, im, yn, yl, yt, yr, yo, gk, gb, po, yA, mn, cu, og, vl_, cd, ou, sN, sS, sQ, sM, sk) := by
  by_cases h1 : ph = 0
  · refine br_t h1 (cs_ycp hn _ (fun d => ?_) (fun d => br_t rfl hp))
    have z := (h.resolve_left (fun w => w h1)).resolve_left (fun w => w d)
    subst z
    exact br_f (by decide) (br_t rfl hp)
  · exact br_f h1 hp
theorem cs_yrdyR {n m : Nat} (x : Int32) (hn : n ≤ 16) (hm : m ≤ 32) (h : ph ≠ 0 ∨ cs_D gk n ≠ 0 ∨ m = 0) (post : Int32 → SY → Prop) (hp : post (-1) (pr, cp, ph, nI n, nI (cs_D gk n), nI m, ml, cl, ol, vl, tr, ac, ca, pa, bk, ix, cL, cH, im, yn, yl, yt, yr, yo, gk, gb, po, yA, mn, cu, og, vl_, cd, ou, sN, sS, sQ, sM, sk)) : wpY_run post (pr, cp, ph, nI n, nI (cs_D gk n), nI m, ml, cl, ol, vl, tr, ac, ca, pa, bk, ix, cL, cH, im, yn, yl, yt, yr, yo, gk, gb, po, yA, mn, cu, og, vl_, cd, ou, sN, sS, sQ, sM, sk) x := by
  by_cases h1 : ph = 0
  · refine br_t h1 (cs_ycp hn _ (fun d => ?_) (fun d => br_t rfl hp))
    have z := (h.resolve_left (fun w => w h1)).resolve_left (fun w => w d)
    subst z
    exact br_f (by decide) (br_t rfl hp)
  · exact br_f h1 hp
end
theorem i_vc_replay {k : Nat} {u : SX} {v : SY} (I : i_Rel k u v) (hk : k + 3 ≤ 1538) : wpX_replay (fun r u' => wpY_replay (fun r' v' => r' = r ∧ i_Rel (k + 3) u' v') v) u := by
  refine cs_elim (P := fun u v => wpX_replay (fun r u' => wpY_replay (fun r' v' => r' = r ∧ i_Rel (k + 3) u' v') v) u) I ?_
  intro cp pr ph gc gp oc ml cl ol vl tr ac ca pa bk ix cL cH im tl tk dr cc ld sd yn yl yt yr yo gk gb ge po oa mn cu og vl_ tp ce lN lC sk yA cd ou sN sS sQ sM hM hG hP hF
  have J : i_Rel (k + 3) (cp, pr, ph, gc, gp, oc, ml, cl, ol, vl, tr, ac, ca, pa, bk, ix, cL, cH, im, tl, tk, dr, cc, ld, sd, gk, gb, ge, po, oa, mn, cu, og, vl_, tp, ce, lN, lC, sk) (pr, cp, ph, gc, gp, oc, ml, cl, ol, vl, tr, ac, ca, pa, bk, ix, cL, cH, im, yn, yl, yt, yr, yo, gk, gb, po, yA, mn, cu, og, vl_, cd, ou, sN, sS, sQ, sM, sk) := cs_mk hM hG hP hF
  have hG' := hG
  have hP' := hP
  obtain ⟨n, hn, rfl, rfl, H, hgb, hE⟩ := hG
  obtain ⟨m, hm, rfl, hops⟩ := hP
  have dl := cs_Dle gk n
  by_cases h : ph ≠ 0 ∨ cs_D gk n ≠ 0 ∨ m = 0
  · have h' : ph ≠ 0 ∨ nI (cs_D gk n) ≠ 0 ∨ m = 0 := by
      rcases h with h | h | h
      · exact Or.inl h
      · exact Or.inr (Or.inl (nI_ne0 (by omega) (by omega)))
      · exact Or.inr (Or.inr h)
    unfold wpX_replay
    exact cs_xrdy0 h' _ (br_t rfl (cs_yrdy hn hm h _ ⟨rfl, J⟩))
  · have h1 : ph = 0 := Classical.byContradiction fun w => h (Or.inl w)
    have h2 : cs_D gk n = 0 := Classical.byContradiction fun w => h (Or.inr (Or.inl w))
    have h3 : m ≠ 0 := fun w => h (Or.inr (Or.inr w))
    have hgp : nI (cs_D gk n) = 0 := by rw [h2]; rfl
    subst h1
    obtain ⟨c, ml', c4, c32, mc, rfl, rfl, hb⟩ := hM
    have hM : cs_M (nI c) (nI ml') mn := ⟨c, ml', c4, c32, mc, rfl, rfl, hb⟩
    have Yp : ∀ post : Int32 → SY → Prop, wY_replay_57 post pr (nI c) 0 (nI n) (nI (cs_D gk n)) (nI m) (nI ml') cl ol vl tr ac ca pa bk ix cL cH im yn yl yt yr yo gk gb po yA mn cu og vl_ (cs_cp mn cd ml') ou sN sS sQ sM sk → wpY_replay post (pr, nI c, 0, nI n, nI (cs_D gk n), nI m, nI ml', cl, ol, vl, tr, ac, ca, pa, bk, ix, cL, cH, im, yn, yl, yt, yr, yo, gk, gb, po, yA, mn, cu, og, vl_, cd, ou, sN, sS, sQ, sM, sk) := fun post hp =>
      br_t rfl (cs_ycp hn _ (fun _ => br_f (by decide) (br_f (nI_ne0 (by omega) (by omega)) (cs_yreplay25 (by omega) post hp))) (fun d => absurd h2 d))
    unfold wpX_replay
    refine cs_xrdy1 (by omega) hm hgp _ (br_f (by decide) ?_)
    refine cs_xc_manual_tape (by omega) _ ?_
    rcases cs_out (cp := nI c) (pr := pr) (ph := 0) (gc := nI n) (gp := nI (cs_D gk n)) (oc := nI m) (ml := nI ml') (cl := cl) (ol := ol) (vl := vl) (tr := tr) (ac := ac) (ca := ca) (pa := pa) (bk := bk) (ix := ix) (cL := cL) (cH := cH) (im := im) (tk := tk) (dr := 0) (cc := cc) (ld := ld) (sd := sd) (gk := gk) (gb := gb) (ge := ge) (po := po) (oa := oa) (mn := mn) (cu := cu) (og := og) (vl_ := vl_) (tp := cs_cp mn tp ml') (ce := ce) (lN := lN) (lC := lC) (sk := sk) (yn := yn) (yl := nI ml') (yt := yt) (yo := yo) (yA := yA) (cd := cs_cp mn cd ml') (ou := ou) (sN := sN) (sS := sS) (sQ := sQ) (sM := sM) (dx := dr) (lim := ml') hG' hgp hP' (fun w => absurd rfl w) (cs_Tman (by omega) hb) with ⟨pr', tk', cc', ld', yl', yt', yo', tp', ce', lN', lC', cd', ou', sN', sS', sQ', sM', hX, hY⟩ | ⟨t, L, pr', ld', yl', sd', tp', ce', lN', lC', cd', ou', sN', sS', sQ', sM', sk', ht, hL, e1, e2, e3, hX, hY, hH⟩ | ⟨t, L, pr', ld', yl', sd', tp', ce', lN', lC', cd', ou', sN', sS', sQ', sM', sk', ht, hL, e1, e2, e3, hX, hY, hH⟩
    · refine hX _ (br_f (by decide) (Yp _ ?_))
      unfold wY_replay_57
      exact hY _ (br_t rfl ⟨rfl, cs_mk hM hG' hP' hF⟩)
    · refine hX _ (br_f (by decide) (Yp _ ?_))
      unfold wY_replay_57
      exact hY _ (br_f (by decide) (hH _ (br_f (by decide) ⟨rfl, cs_mk hM hG' hP' hF⟩)))
    · refine hX _ (br_t rfl (cs_xfind ht hL _ (Yp _ ?_)))
      unfold wY_replay_57
      refine hY _ (br_f (by decide) (hH _ (br_t rfl (cs_yfind ht hL _ ?_))))
      rw [← cs_cpe (t := cu) e1, ← cs_cpe (t := og) e1, ← cs_cpe (t := vl_) e3]
      exact ⟨rfl, cs_mk hM hG' hP' (cs_Ffind ht hL hgp e2)⟩
end
section
section
variable {cp pr ph gc gp oc ml cl ol vl tr ac ca pa bk ix cL cH im tl tk dr cc ld sd yn yl yt yr yo : Int32} {gk gb ge po oa mn cu og vl_ tp ce lN lC sk yA cd ou sN sS sQ sM : Nat → Int32}
theorem cs_runL {k c0 last : Nat} (hM : cs_M (nI c0) ml mn) (h32 : c0 ≤ 32) (hG : cs_Gn gc gp gk gb ge) (hgp : gp = 0) (hP : cs_Pr oc po oa yA) (hF : cs_F 0 gp cl ol vl pa bk ix cL cH im yn cu) (hl : last ≤ 16) :
    ∀ (c j : Nat) (pr ca tl tk dr cc ld sd yl yt yr yo : Int32) (tp ce lN lC cd ou sN sS sQ sM sk : Nat → Int32), j + c = last + 1 → ∃ (r : Int32) (u' : SX) (v' : SY), i_Rel k u' v' ∧
    (∀ (post : Int32 → SX → Prop) (fuel : Nat), c < fuel → post r u' → wX_run_19 post (nI last) fuel (nI j) (nI c0) pr 0 gc gp oc ml cl ol vl tr ac ca pa bk ix cL cH im tl tk dr cc ld sd gk gb ge po oa mn cu og vl_ tp ce lN lC sk) ∧
    (∀ (post : Int32 → SY → Prop) (fuel : Nat), c < fuel → post r v' → wY_run_43 post (nI last) fuel (nI j) pr (nI c0) 0 gc gp oc ml cl ol vl tr ac ca pa bk ix cL cH im yn yl yt yr yo gk gb po yA mn cu og vl_ cd ou sN sS sQ sM sk) := by
  intro c
  induction c with
  | zero =>
    intro j pr ca tl tk dr cc ld sd yl yt yr yo tp ce lN lC cd ou sN sS sQ sM sk hj
    refine ⟨0, (nI c0, pr, 0, gc, gp, oc, ml, cl, ol, vl, tr, ac, ca, pa, bk, ix, cL, cH, im, tl, tk, dr, cc, ld, sd, gk, gb, ge, po, oa, mn, cu, og, vl_, tp, ce, lN, lC, sk), (pr, nI c0, 0, gc, gp, oc, ml, cl, ol, vl, tr, ac, ca, pa, bk, ix, cL, cH, im, yn, yl, yt, yr, yo, gk, gb, po, yA, mn, cu, og, vl_, cd, ou, sN, sS, sQ, sM, sk), cs_mk hM hG hP hF, fun post fuel hf hp => ?_, fun post fuel hf hp => ?_⟩
    · obtain ⟨f, rfl⟩ : ∃ f, fuel = f + 1 := ⟨fuel - 1, by omega⟩
      exact br_t (nI_lt (by omega) (by omega)) hp
    · obtain ⟨f, rfl⟩ : ∃ f, fuel = f + 1 := ⟨fuel - 1, by omega⟩
      exact br_t (nI_lt (by omega) (by omega)) hp
  | succ c ih =>
    intro j pr ca tl tk dr cc ld sd yl yt yr yo tp ce lN lC cd ou sN sS sQ sM sk hj
    have hlt : ¬ nI last < nI j := nI_nlt (by omega) (by omega)
    rcases cs_out (cp := nI c0) (pr := pr) (ph := 0) (gc := gc) (gp := gp) (oc := oc) (ml := ml) (cl := cl) (ol := ol) (vl := vl) (tr := tr) (ac := ac) (ca := ca + 1) (pa := pa) (bk := bk) (ix := ix) (cL := cL) (cH := cH) (im := im) (tk := tk) (dr := 1) (cc := cc) (ld := ld) (sd := sd) (gk := gk) (gb := gb) (ge := ge) (po := po) (oa := oa) (mn := mn) (cu := cu) (og := og) (vl_ := vl_) (tp := tp) (ce := ce) (lN := lN) (lC := lC) (sk := sk) (yn := yn) (yl := yl) (yt := yt) (yo := yo) (yA := yA) (cd := cd) (ou := ou) (sN := sN) (sS := sS) (sQ := sQ) (sM := sM) (dx := dr) (lim := c0) hG hgp hP (fun _ => rfl) ⟨by omega, h32, Or.inr rfl, fun j hj => absurd hj (by omega), cs_by0 _, fun z => absurd z (by decide)⟩ with ⟨pr', tk', cc', ld', yl', yt', yo', tp', ce', lN', lC', cd', ou', sN', sS', sQ', sM', hX, hY⟩ | ⟨t, L, pr', ld', yl', sd', tp', ce', lN', lC', cd', ou', sN', sS', sQ', sM', sk', ht, hL, e1, e2, e3, hX, hY, hH⟩ | ⟨t, L, pr', ld', yl', sd', tp', ce', lN', lC', cd', ou', sN', sS', sQ', sM', sk', ht, hL, e1, e2, e3, hX, hY, hH⟩
    · obtain ⟨r, u', v', hR, HX, HY⟩ := ih (j + 1) pr' (ca + 1) (nI c0) tk' 1 cc' ld' sd yl' yt' 0 yo' tp' ce' lN' lC' cd' ou' sN' sS' sQ' sM' sk (by omega)
      refine ⟨r, u', v', hR, fun post fuel hf hp => ?_, fun post fuel hf hp => ?_⟩
      · obtain ⟨f, rfl⟩ : ∃ f, fuel = f + 1 := ⟨fuel - 1, by omega⟩
        exact br_f hlt (nm_e (hX _ (br_f (by decide) (nm_r (nI_1 j) (HX post f (by omega) hp)))))
      · obtain ⟨f, rfl⟩ : ∃ f, fuel = f + 1 := ⟨fuel - 1, by omega⟩
        exact br_f hlt (nm_e (hY _ (br_t rfl (nm_r (nI_1 j) (HY post f (by omega) hp)))))
    · obtain ⟨r, u', v', hR, HX, HY⟩ := ih (j + 1) pr' (ca + 1) (nI c0) (nI t) 1 (nI L) ld' sd' yl' (nI t) 0 (nI L) tp' ce' lN' lC' cd' ou' sN' sS' sQ' sM' sk' (by omega)
      refine ⟨r, u', v', hR, fun post fuel hf hp => ?_, fun post fuel hf hp => ?_⟩
      · obtain ⟨f, rfl⟩ : ∃ f, fuel = f + 1 := ⟨fuel - 1, by omega⟩
        exact br_f hlt (nm_e (hX _ (br_f (by decide) (nm_r (nI_1 j) (HX post f (by omega) hp)))))
      · obtain ⟨f, rfl⟩ : ∃ f, fuel = f + 1 := ⟨fuel - 1, by omega⟩
        exact br_f hlt (nm_e (hY _ (br_f (by decide) (hH _ (br_f (by decide) (nm_r (nI_1 j) (HY post f (by omega) hp)))))))
    · refine ⟨nI j, (nI c0, pr', 1, gc, gp, oc, ml, nI t, nI t, nI L, 0, 0, ca + 1, 0, 0, 0, 0, 0, 0, nI c0, nI t, 1, nI L, ld', sd', gk, gb, ge, po, oa, mn, cs_cp tp' cu t, cs_cp tp' og t, cs_cp ce' vl_ L, tp', ce', lN', lC', sk'), (pr', nI c0, 1, gc, gp, oc, ml, nI t, nI t, nI L, 0, 0, ca + 1, 0, 0, 0, 0, 0, 0, 0, yl', nI t, 0, nI L, gk, gb, po, yA, mn, cs_cp tp' cu t, cs_cp tp' og t, cs_cp ce' vl_ L, cd', ou', sN', sS', sQ', sM', sk'), cs_mk hM hG hP (cs_Ffind ht hL hgp e2), fun post fuel hf hp => ?_, fun post fuel hf hp => ?_⟩
      · obtain ⟨f, rfl⟩ : ∃ f, fuel = f + 1 := ⟨fuel - 1, by omega⟩
        exact br_f hlt (nm_e (hX _ (br_t rfl (cs_xfind ht hL _ hp))))
      · obtain ⟨f, rfl⟩ : ∃ f, fuel = f + 1 := ⟨fuel - 1, by omega⟩
        refine br_f hlt (nm_e (hY _ (br_f (by decide) (hH _ (br_t rfl (cs_yfind ht hL _ ?_))))))
        rw [← cs_cpe (t := cu) e1, ← cs_cpe (t := og) e1, ← cs_cpe (t := vl_) e3]
        exact hp
end
theorem i_vc_run {k : Nat} {u : SX} {v : SY} (I : i_Rel k u v) (hk : k + 3 ≤ 1538) (v1 : Int32) : wpX_run (fun r u' => wpY_run (fun r' v' => r' = r ∧ i_Rel (k + 3) u' v') v v1) u v1 := by
  refine cs_elim (P := fun u v => wpX_run (fun r u' => wpY_run (fun r' v' => r' = r ∧ i_Rel (k + 3) u' v') v v1) u v1) I ?_
  intro cp pr ph gc gp oc ml cl ol vl tr ac ca pa bk ix cL cH im tl tk dr cc ld sd yn yl yt yr yo gk gb ge po oa mn cu og vl_ tp ce lN lC sk yA cd ou sN sS sQ sM hM hG hP hF
  have J : i_Rel (k + 3) (cp, pr, ph, gc, gp, oc, ml, cl, ol, vl, tr, ac, ca, pa, bk, ix, cL, cH, im, tl, tk, dr, cc, ld, sd, gk, gb, ge, po, oa, mn, cu, og, vl_, tp, ce, lN, lC, sk) (pr, cp, ph, gc, gp, oc, ml, cl, ol, vl, tr, ac, ca, pa, bk, ix, cL, cH, im, yn, yl, yt, yr, yo, gk, gb, po, yA, mn, cu, og, vl_, cd, ou, sN, sS, sQ, sM, sk) := cs_mk hM hG hP hF
  have hG' := hG
  have hP' := hP
  obtain ⟨n, hn, rfl, rfl, H, hgb, hE⟩ := hG
  obtain ⟨m, hm, rfl, hops⟩ := hP
  have dl := cs_Dle gk n
  by_cases h : ph ≠ 0 ∨ cs_D gk n ≠ 0 ∨ m = 0
  · have h' : ph ≠ 0 ∨ nI (cs_D gk n) ≠ 0 ∨ m = 0 := by
      rcases h with h | h | h
      · exact Or.inl h
      · exact Or.inr (Or.inl (nI_ne0 (by omega) (by omega)))
      · exact Or.inr (Or.inr h)
    unfold wpX_run
    exact cs_xrdy0 h' _ (br_t rfl (cs_yrdyR v1 hn hm h _ ⟨rfl, J⟩))
  · have h1 : ph = 0 := Classical.byContradiction fun w => h (Or.inl w)
    have h2 : cs_D gk n = 0 := Classical.byContradiction fun w => h (Or.inr (Or.inl w))
    have h3 : m ≠ 0 := fun w => h (Or.inr (Or.inr w))
    have hgp : nI (cs_D gk n) = 0 := by rw [h2]; rfl
    subst h1
    obtain ⟨c, ml', c4, c32, mc, rfl, rfl, hb⟩ := hM
    have hM : cs_M (nI c) (nI ml') mn := ⟨c, ml', c4, c32, mc, rfl, rfl, hb⟩
    obtain ⟨last, l1, l16, hC, hC'⟩ := cs_clamp (x := v1) 1 16 (by omega) (by omega)
    obtain ⟨r, u', v', hR, HX, HY⟩ := cs_runL (k := k + 3) (c0 := c) (last := last) hM c32 hG' hgp hP' hF l16 last 1 pr ca tl tk dr cc ld sd yl yt yr yo tp ce lN lC cd ou sN sS sQ sM sk (by omega)
    unfold wpX_run
    refine cs_xrdy1 (by omega) hm hgp _ (br_f (by decide) ?_)
    refine hC _ ⟨last + 1, HX _ (last + 1) (by omega) ?_⟩
    refine br_t rfl (cs_ycp hn _ (fun _ => br_f (by decide) (br_f (nI_ne0 (by omega) (by omega)) ?_)) (fun d => absurd h2 d))
    rcases hC' with ⟨a, b, rfl⟩ | ⟨a, rfl⟩ | ⟨a, b, rfl⟩
    · exact br_t a (br_t b ⟨last + 1, HY _ (last + 1) (by omega) ⟨rfl, hR⟩⟩)
    · exact br_f a (br_t (by decide) ⟨2, HY _ 2 (by omega) ⟨rfl, hR⟩⟩)
    · exact br_t a (br_f b ⟨17, HY _ 17 (by omega) ⟨rfl, hR⟩⟩)
end
section
section
variable {cp pr ph gc gp oc ml cl ol vl tr ac ca pa bk ix cL cH im tl tk dr cc ld sd yn yl yt yr yo : Int32} {gk gb ge po oa mn cu og vl_ tp ce lN lC sk yA cd ou sN sS sQ sM : Nat → Int32}
theorem cs_xls {t n d : Nat} (ht : t ≤ 32) (hd : d ≤ t) (he : ∀ j, j < d → tp j = cu j) (q : Int32 → Prop) (hE : ∀ f : Nat, wX_tapeIsSmaller_30 q cp pr ph gc gp oc ml (nI n) ol vl tr ac ca pa bk ix cL cH im tl (nI t) dr cc ld sd gk gb ge po oa mn cu og vl_ tp ce lN lC sk (f + 1) (nI d)) : ∀ (e j fuel : Nat), j + e = d → e < fuel → wX_tapeIsSmaller_30 q cp pr ph gc gp oc ml (nI n) ol vl tr ac ca pa bk ix cL cH im tl (nI t) dr cc ld sd gk gb ge po oa mn cu og vl_ tp ce lN lC sk fuel (nI j) := by
  intro e
  induction e with
  | zero =>
    intro j fuel hj hf
    obtain ⟨f, rfl⟩ : ∃ f, fuel = f + 1 := ⟨fuel - 1, by omega⟩
    have z : j = d := by omega
    subst z
    exact hE f
  | succ e ih =>
    intro j fuel hj hf
    obtain ⟨f, rfl⟩ : ∃ f, fuel = f + 1 := ⟨fuel - 1, by omega⟩
    have ec : (nI j).toNatClampNeg = j := nI_clamp (by omega)
    have hv : vp_in (nI j) 32 := vp_in_nI (by omega) (by omega)
    exact br_f (nI_ge (by omega) (by omega)) ⟨hv, hv, br_t (by rw [ec]; exact he j (by omega)) (nm_r (nI_1 j) (ih (j + 1) f (by omega) (by omega)))⟩
theorem cs_yls {t n d : Nat} (ht : t ≤ 32) (hd : d ≤ t) (he : ∀ j, j < d → cd j = cu j) (q : Int32 → SY → Prop) (hE : ∀ f : Nat, wY_trial_63 q pr cp ph gc gp oc ml (nI n) ol vl tr ac ca pa bk ix cL cH im yn yl (nI t) yr yo gk gb po yA mn cu og vl_ cd ou sN sS sQ sM sk (f + 1) (nI d)) : ∀ (e j fuel : Nat), j + e = d → e < fuel → wY_trial_63 q pr cp ph gc gp oc ml (nI n) ol vl tr ac ca pa bk ix cL cH im yn yl (nI t) yr yo gk gb po yA mn cu og vl_ cd ou sN sS sQ sM sk fuel (nI j) := by
  intro e
  induction e with
  | zero =>
    intro j fuel hj hf
    obtain ⟨f, rfl⟩ : ∃ f, fuel = f + 1 := ⟨fuel - 1, by omega⟩
    have z : j = d := by omega
    subst z
    exact hE f
  | succ e ih =>
    intro j fuel hj hf
    obtain ⟨f, rfl⟩ : ∃ f, fuel = f + 1 := ⟨fuel - 1, by omega⟩
    have ec : (nI j).toNatClampNeg = j := nI_clamp (by omega)
    have hv : vp_in (nI j) 32 := vp_in_nI (by omega) (by omega)
    exact br_f (nI_ge (by omega) (by omega)) (br_f (nI_ge (b := 32) (by omega) (by decide)) ⟨hv, hv, br_t (by rw [ec]; exact he j (by omega)) (nm_r (nI_1 j) (ih (j + 1) f (by omega) (by omega)))⟩)
theorem cs_less {t n : Nat} (ht : t ≤ 32) (hn : n ≤ 32) (he : ∀ j, j < t → tp j = cd j) : ∃ b : Int32, (b = 0 ∨ (b = 1 ∧ t ≤ n)) ∧ (∀ q : Int32 → Prop, q b → wpX_tapeIsSmaller q (cp, pr, ph, gc, gp, oc, ml, nI n, ol, vl, tr, ac, ca, pa, bk, ix, cL, cH, im, tl, nI t, dr, cc, ld, sd, gk, gb, ge, po, oa, mn, cu, og, vl_, tp, ce, lN, lC, sk)) ∧
    (∀ post : Int32 → SY → Prop, wY_trial_133 post b pr cp ph gc gp oc ml (nI n) ol vl tr ac ca pa bk ix cL cH im yn yl (nI t) yr yo gk gb po yA mn cu og vl_ cd ou sN sS sQ sM sk → ((nI n ≤ nI t → wY_trial_49 post 0 pr cp ph gc gp oc ml (nI n) ol vl tr ac ca pa bk ix cL cH im yn yl (nI t) yr yo gk gb po yA mn cu og vl_ cd ou sN sS sQ sM sk) ∧ (¬ nI n ≤ nI t → wY_trial_49 post 1 pr cp ph gc gp oc ml (nI n) ol vl tr ac ca pa bk ix cL cH im yn yl (nI t) yr yo gk gb po yA mn cu og vl_ cd ou sN sS sQ sM sk))) := by
  rcases Nat.lt_trichotomy t n with l | l | l
  · have h1 : ¬ nI t = nI n := fun z => absurd ((nI_eq (by omega) (by omega)).mp z) (by omega)
    have h2 : ¬ nI n ≤ nI t := nI_ge l (by omega)
    exact ⟨1, Or.inr ⟨rfl, by omega⟩, fun q hq => br_f h1 (br_f h2 hq), fun post hp => br_f h2 (br_f h1 hp)⟩
  · subst l
    obtain ⟨d, hd, h1, h2⟩ := cs_fd tp cu t
    have ec : (nI d).toNatClampNeg = d := nI_clamp (by omega)
    have hle : nI t ≤ nI t := nI_le (Nat.le_refl t) (by omega)
    by_cases hdt : d = t
    · subst hdt
      refine ⟨0, Or.inl rfl, fun q hq => br_t rfl ⟨d + 1, cs_xls ht hd h1 q (fun f => br_t hle hq) d 0 (d + 1) (by omega) (by omega)⟩, fun post hp => br_t hle (br_t rfl ⟨d + 1, cs_yls ht hd (fun j hj => (he j (by omega)).symm.trans (h1 j hj)) post (fun f => br_t hle (br_t hle hp)) d 0 (d + 1) (by omega) (by omega)⟩)⟩
    · have hl : ¬ nI t ≤ nI d := nI_ge (by omega) (by omega)
      have hv : vp_in (nI d) 32 := vp_in_nI (by omega) (by omega)
      have hne : ¬ tp d = cu d := h2 (by omega)
      have hne' : ¬ cd d = cu d := by rw [← he d (by omega)]; exact hne
      have h32 : ¬ (32 : Int32) ≤ nI d := nI_ge (b := 32) (by omega) (by decide)
      by_cases z : cu d ≤ tp d
      · refine ⟨0, Or.inl rfl, fun q hq => br_t rfl ⟨d + 1, cs_xls ht hd h1 q (fun f => br_f hl ⟨hv, hv, br_f (by rw [ec]; exact hne) ⟨hv, hv, br_t (by rw [ec]; exact z) hq⟩⟩) d 0 (d + 1) (by omega) (by omega)⟩, fun post hp => br_t hle (br_t rfl ⟨d + 1, cs_yls ht hd (fun j hj => (he j (by omega)).symm.trans (h1 j hj)) post (fun f => br_f hl (br_f h32 ⟨hv, hv, br_f (by rw [ec]; exact hne') (br_f hl (br_f h32 ⟨hv, hv, br_t (by rw [ec, ← he d (by omega)]; exact z) hp⟩))⟩)) d 0 (d + 1) (by omega) (by omega)⟩)⟩
      · refine ⟨1, Or.inr ⟨rfl, by omega⟩, fun q hq => br_t rfl ⟨d + 1, cs_xls ht hd h1 q (fun f => br_f hl ⟨hv, hv, br_f (by rw [ec]; exact hne) ⟨hv, hv, br_f (by rw [ec]; exact z) hq⟩⟩) d 0 (d + 1) (by omega) (by omega)⟩, fun post hp => br_t hle (br_t rfl ⟨d + 1, cs_yls ht hd (fun j hj => (he j (by omega)).symm.trans (h1 j hj)) post (fun f => br_f hl (br_f h32 ⟨hv, hv, br_f (by rw [ec]; exact hne') (br_f hl (br_f h32 ⟨hv, hv, br_f (by rw [ec, ← he d (by omega)]; exact z) hp⟩))⟩)) d 0 (d + 1) (by omega) (by omega)⟩)⟩
  · have h1 : ¬ nI t = nI n := fun z => absurd ((nI_eq (by omega) (by omega)).mp z) (by omega)
    have h2 : nI n ≤ nI t := nI_le (by omega) (by omega)
    exact ⟨0, Or.inl rfl, fun q hq => br_f h1 (br_t h2 hq), fun post hp => br_t h2 (br_f h1 hp)⟩
theorem cs_core {n lim : Nat} {mid : Int32} {T C : Nat → Int32} (hn : n ≤ 32) (hG : cs_Gn gc gp gk gb ge) (hgp : gp = 0) (hP : cs_Pr oc po oa yA) (hmid : (cL + cH) / 2 = mid) (hput : ∀ post : SX → Prop, post (cp, pr, ph, gc, gp, oc, ml, nI n, ol, vl, tr, ac, ca, pa, bk, ix, cL, cH, im, nI lim, tk, dr, cc, ld, sd, gk, gb, ge, po, oa, mn, cu, og, vl_, T, ce, lN, lC, sk) → wpX_putCandidateOnTape post (cp, pr, ph, gc, gp, oc, ml, nI n, ol, vl, tr, ac, ca, pa, bk, ix, cL, cH, im, tl, tk, dr, cc, ld, sd, gk, gb, ge, po, oa, mn, cu, og, vl_, tp, ce, lN, lC, sk) mid) (hT : cs_T 0 (nI lim) lim 0 T C) :
    (∃ (pr' tk' cc' ld' sd' yl' yt' yo' : Int32) (tp' ce' lN' lC' cd' ou' sN' sS' sQ' sM' sk' : Nat → Int32), (∀ post : SX → Prop, wX_performTrial_48 post mid 0 cp pr' ph gc gp oc ml (nI n) ol vl (tr + 1) ac ca pa bk ix cL cH im (nI lim) tk' 0 cc' ld' sd' gk gb ge po oa mn cu og vl_ tp' ce' lN' lC' sk' → wpX_performTrial post (cp, pr, ph, gc, gp, oc, ml, nI n, ol, vl, tr, ac, ca, pa, bk, ix, cL, cH, im, tl, tk, dr, cc, ld, sd, gk, gb, ge, po, oa, mn, cu, og, vl_, tp, ce, lN, lC, sk)) ∧ (∀ post : Int32 → SY → Prop, post 0 (pr', cp, ph, gc, gp, oc, ml, nI n, ol, vl, tr + 1, ac, ca, pa, bk, ix, cL, cH, im, yn, yl', yt', 0, yo', gk, gb, po, yA, mn, cu, og, vl_, cd', ou', sN', sS', sQ', sM', sk') → wpY_trial post (pr, cp, ph, gc, gp, oc, ml, nI n, ol, vl, tr, ac, ca, pa, bk, ix, cL, cH, im, yn, nI lim, yt, yr, yo, gk, gb, po, yA, mn, cu, og, vl_, C, ou, sN, sS, sQ, sM, sk))) ∨
    (∃ (t L : Nat) (pr' ld' sd' yl' : Int32) (tp' ce' lN' lC' cd' ou' sN' sS' sQ' sM' sk' : Nat → Int32), t ≤ n ∧ L ≤ 32 ∧ cs_by tp' t ∧ (∀ post : SX → Prop, wX_performTrial_48 post mid 1 cp pr' ph gc gp oc ml (nI n) ol vl (tr + 1) ac ca pa bk ix cL cH im (nI lim) (nI t) 0 (nI L) ld' sd' gk gb ge po oa mn cu og vl_ tp' ce' lN' lC' sk' → wpX_performTrial post (cp, pr, ph, gc, gp, oc, ml, nI n, ol, vl, tr, ac, ca, pa, bk, ix, cL, cH, im, tl, tk, dr, cc, ld, sd, gk, gb, ge, po, oa, mn, cu, og, vl_, tp, ce, lN, lC, sk)) ∧ (∀ post : Int32 → SY → Prop, post 1 (pr', cp, ph, gc, gp, oc, ml, nI t, ol, nI L, tr + 1, ac + 1, ca, pa, bk, ix, cL, cH, im, yn, yl', nI t, 0, nI L, gk, gb, po, yA, mn, cs_cp tp' cu t, og, cs_cp ce' vl_ L, cd', ou', sN', sS', sQ', sM', sk') → wpY_trial post (pr, cp, ph, gc, gp, oc, ml, nI n, ol, vl, tr, ac, ca, pa, bk, ix, cL, cH, im, yn, nI lim, yt, yr, yo, gk, gb, po, yA, mn, cu, og, vl_, C, ou, sN, sS, sQ, sM, sk))) := by
  rcases cs_out (cp := cp) (pr := pr) (ph := ph) (gc := gc) (gp := gp) (oc := oc) (ml := ml) (cl := nI n) (ol := ol) (vl := vl) (tr := tr + 1) (ac := ac) (ca := ca) (pa := pa) (bk := bk) (ix := ix) (cL := cL) (cH := cH) (im := im) (tk := tk) (dr := 0) (cc := cc) (ld := ld) (sd := sd) (gk := gk) (gb := gb) (ge := ge) (po := po) (oa := oa) (mn := mn) (cu := cu) (og := og) (vl_ := vl_) (tp := T) (ce := ce) (lN := lN) (lC := lC) (sk := sk) (yn := yn) (yl := nI lim) (yt := yt) (yo := yo) (yA := yA) (cd := C) (ou := ou) (sN := sN) (sS := sS) (sQ := sQ) (sM := sM) (dx := dr) (lim := lim) hG hgp hP (fun w => absurd rfl w) hT with ⟨pr', tk', cc', ld', yl', yt', yo', tp', ce', lN', lC', cd', ou', sN', sS', sQ', sM', hX, hY⟩ | ⟨t, L, pr', ld', yl', sd', tp', ce', lN', lC', cd', ou', sN', sS', sQ', sM', sk', ht, hL, e1, e2, e3, hX, hY, hH⟩ | ⟨t, L, pr', ld', yl', sd', tp', ce', lN', lC', cd', ou', sN', sS', sQ', sM', sk', ht, hL, e1, e2, e3, hX, hY, hH⟩
  · refine Or.inl ⟨pr', tk', cc', ld', sd, yl', yt', yo', tp', ce', lN', lC', cd', ou', sN', sS', sQ', sM', sk, fun post hp => ⟨by decide, nm_r hmid (hput _ (nm_e (hX _ (br_f (by decide) hp))))⟩, fun post hp => ?_⟩
    unfold wpY_trial
    exact nm_e (hY _ (br_t rfl hp))
  · refine Or.inl ⟨pr', nI t, nI L, ld', sd', yl', nI t, nI L, tp', ce', lN', lC', cd', ou', sN', sS', sQ', sM', sk', fun post hp => ⟨by decide, nm_r hmid (hput _ (nm_e (hX _ (br_f (by decide) hp))))⟩, fun post hp => ?_⟩
    unfold wpY_trial
    exact nm_e (hY _ (br_f (by decide) (hH _ (br_f (by decide) hp))))
  · obtain ⟨b, hb, hS, hZ⟩ := cs_less (cp := cp) (pr := pr') (ph := ph) (gc := gc) (gp := gp) (oc := oc) (ml := ml) (ol := ol) (vl := vl) (tr := tr + 1) (ac := ac) (ca := ca) (pa := pa) (bk := bk) (ix := ix) (cL := cL) (cH := cH) (im := im) (tl := nI lim) (dr := 0) (cc := nI L) (ld := ld') (sd := sd') (gk := gk) (gb := gb) (ge := ge) (po := po) (oa := oa) (mn := mn) (cu := cu) (og := og) (vl_ := vl_) (tp := tp') (ce := ce') (lN := lN') (lC := lC') (sk := sk') (yn := yn) (yl := yl') (yr := 0) (yo := nI L) (yA := yA) (cd := cd') (ou := ou') (sN := sN') (sS := sS') (sQ := sQ') (sM := sM') (t := t) (n := n) ht hn e1
    rcases hb with rfl | ⟨rfl, htn⟩
    · refine Or.inl ⟨pr', nI t, nI L, ld', sd', yl', nI t, nI L, tp', ce', lN', lC', cd', ou', sN', sS', sQ', sM', sk', fun post hp => ⟨by decide, nm_r hmid (hput _ (nm_e (hX _ (br_t rfl (hS _ (br_t rfl hp))))))⟩, fun post hp => ?_⟩
      unfold wpY_trial
      exact nm_e (hY _ (br_f (by decide) (hH _ (br_t rfl (hZ _ (br_t rfl hp))))))
    · refine Or.inr ⟨t, L, pr', ld', sd', yl', tp', ce', lN', lC', cd', ou', sN', sS', sQ', sM', sk', htn, hL, e2, fun post hp => ⟨by decide, nm_r hmid (hput _ (nm_e (hX _ (br_t rfl (hS _ (br_f (by decide) hp))))))⟩, fun post hp => ?_⟩
      unfold wpY_trial
      refine nm_e (hY _ (br_f (by decide) (hH _ (br_t rfl (hZ _ (br_f (by decide) (cs_ytrial141 ht post ?_)))))))
      refine cs_ytrial183 hL post ?_
      rw [← cs_cpe (t := cu) e1, ← cs_cpe (t := vl_) e3]
      exact nm_e hp
end
end
section
section
variable {cp pr ph gc gp oc ml cl ol vl tr ac ca pa bk ix cL cH im tl tk dr cc ld sd yn yl yt yr yo : Int32} {gk gb ge po oa mn cu og vl_ tp ce lN lC sk yA cd ou sN sS sQ sM : Nat → Int32}
theorem cs_xputL {n i g : Nat} (hn : n ≤ 32) (hi : i + g ≤ n) (post : SX → Prop) (x1 : Int32) (hE : ∀ f : Nat, wX_putCandidateOnTape_29 post x1 (nI g) cp pr ph gc gp oc ml cl ol vl tr ac ca pa bk (nI i) cL cH im (nI (n - g)) tk dr cc ld sd (f + 1) (nI (n - g)) gk gb ge po oa mn cu og vl_ (cs_cp (cs_del cu i g) tp (n - g)) ce lN lC sk) : ∃ k : Nat, wX_putCandidateOnTape_29 post x1 (nI g) cp pr ph gc gp oc ml cl ol vl tr ac ca pa bk (nI i) cL cH im (nI (n - g)) tk dr cc ld sd k (nI 0) gk gb ge po oa mn cu og vl_ tp ce lN lC sk := by
  have loop : ∀ (d j fuel : Nat), j + d = n - g → d < fuel → wX_putCandidateOnTape_29 post x1 (nI g) cp pr ph gc gp oc ml cl ol vl tr ac ca pa bk (nI i) cL cH im (nI (n - g)) tk dr cc ld sd fuel (nI j) gk gb ge po oa mn cu og vl_ (cs_cp (cs_del cu i g) tp j) ce lN lC sk := by
    intro d
    induction d with
    | zero =>
      intro j fuel hj hf
      obtain ⟨f, rfl⟩ : ∃ f, fuel = f + 1 := ⟨fuel - 1, by omega⟩
      have z : j = n - g := by omega
      subst z
      exact hE f
    | succ d ih =>
      intro j fuel hj hf
      obtain ⟨f, rfl⟩ : ∃ f, fuel = f + 1 := ⟨fuel - 1, by omega⟩
      have ec : (nI j).toNatClampNeg = j := nI_clamp (by omega)
      have hv : vp_in (nI j) 32 := vp_in_nI (by omega) (by omega)
      have ik := ih (j + 1) f (by omega) (by omega)
      refine br_f (nI_ge (by omega) (by omega)) ?_
      by_cases h : i ≤ j
      · have e2 : nI j + nI g = nI (j + g) := nI_add j g
        have ec2 : (nI (j + g)).toNatClampNeg = j + g := nI_clamp (by omega)
        have e3 : cu (j + g) = cs_del cu i g j := (cs_del2 h).symm
        exact br_t (nI_le h (by omega)) ⟨by rw [e2]; exact vp_in_nI (by omega) (by omega), hv, nm_r (e' := cs_cp (cs_del cu i g) tp (j + 1)) (by rw [e2, ec, ec2, e3, cs_cps]) (nm_r (nI_1 j) ik)⟩
      · have e3 : cu j = cs_del cu i g j := (cs_del1 (by omega)).symm
        exact br_f (nI_ge (by omega) (by omega)) ⟨hv, hv, nm_r (e' := cs_cp (cs_del cu i g) tp (j + 1)) (by rw [ec]; rw [e3]; exact cs_cps _ _ _) (nm_r (nI_1 j) ik)⟩
  have h := loop (n - g) 0 (n - g + 1) (by omega) (by omega)
  rw [cs_cp0] at h
  exact ⟨n - g + 1, h⟩
theorem cs_xput1 {n i k : Nat} (hn : n ≤ 32) (hi : i + k ≤ n) (mid : Int32) (post : SX → Prop) (hp : post (cp, pr, ph, gc, gp, oc, ml, nI n, ol, vl, tr, ac, ca, nI 1, nI k, nI i, cL, cH, im, nI (n - k), tk, dr, cc, ld, sd, gk, gb, ge, po, oa, mn, cu, og, vl_, cs_cp (cs_del cu i k) tp (n - k), ce, lN, lC, sk)) : wpX_putCandidateOnTape post (cp, pr, ph, gc, gp, oc, ml, nI n, ol, vl, tr, ac, ca, nI 1, nI k, nI i, cL, cH, im, tl, tk, dr, cc, ld, sd, gk, gb, ge, po, oa, mn, cu, og, vl_, tp, ce, lN, lC, sk) mid :=
  br_t rfl (nm_r (pk_sub (by omega)) (cs_xputL hn hi post mid (fun f => br_t (nI_le (Nat.le_refl _) (by omega)) (br_f (by decide) (br_f (by decide) (br_f (by decide) hp))))))
theorem cs_sub0 (n : Nat) : nI n - 0 = nI (n - 0) := pk_sub (a := n) (b := 0) (by omega)
theorem cs_xput2L {i kk : Nat} (h : i + kk ≤ 32) (post : SX → Prop) (hp : post (cp, pr, ph, gc, gp, oc, ml, cl, ol, vl, tr, ac, ca, pa, nI kk, nI i, cL, cH, im, tl, tk, dr, cc, ld, sd, gk, gb, ge, po, oa, mn, cu, og, vl_, cs_zb tp i kk, ce, lN, lC, sk)) : ∃ k : Nat, wX_putCandidateOnTape_82 post cp pr ph gc gp oc ml cl ol vl tr ac ca pa (nI kk) (nI i) cL cH im tl tk dr cc ld sd k (nI i) gk gb ge po oa mn cu og vl_ tp ce lN lC sk := by
  have loop : ∀ (d m fuel : Nat), m + d = kk → d < fuel → wX_putCandidateOnTape_82 post cp pr ph gc gp oc ml cl ol vl tr ac ca pa (nI kk) (nI i) cL cH im tl tk dr cc ld sd fuel (nI (i + m)) gk gb ge po oa mn cu og vl_ (cs_zb tp i m) ce lN lC sk := by
    intro d
    induction d with
    | zero =>
      intro m fuel hm hf
      obtain ⟨f, rfl⟩ : ∃ f, fuel = f + 1 := ⟨fuel - 1, by omega⟩
      have z : m = kk := by omega
      subst z
      exact br_t (by rw [nI_add]; exact nI_le (Nat.le_refl _) (by omega)) hp
    | succ d ih =>
      intro m fuel hm hf
      obtain ⟨f, rfl⟩ : ∃ f, fuel = f + 1 := ⟨fuel - 1, by omega⟩
      have ec : (nI (i + m)).toNatClampNeg = i + m := nI_clamp (by omega)
      exact br_f (by rw [nI_add]; exact nI_ge (by omega) (by omega)) ⟨vp_in_nI (by omega) (by omega), nm_r (e' := cs_zb tp i (m + 1)) (by rw [ec, cs_zbs]) (nm_r (nI_1 (i + m)) (ih (m + 1) f (by omega) (by omega)))⟩
  have h := loop kk 0 (kk + 1) (by omega) (by omega)
  rw [cs_zb0] at h
  exact ⟨kk + 1, h⟩
theorem cs_xput2 {n i k : Nat} (hn : n ≤ 32) (hi : i + k ≤ n) (mid : Int32) (post : SX → Prop) (hp : post (cp, pr, ph, gc, gp, oc, ml, nI n, ol, vl, tr, ac, ca, nI 2, nI k, nI i, cL, cH, im, nI n, tk, dr, cc, ld, sd, gk, gb, ge, po, oa, mn, cu, og, vl_, cs_zb (cs_cp cu tp n) i k, ce, lN, lC, sk)) : wpX_putCandidateOnTape post (cp, pr, ph, gc, gp, oc, ml, nI n, ol, vl, tr, ac, ca, nI 2, nI k, nI i, cL, cH, im, tl, tk, dr, cc, ld, sd, gk, gb, ge, po, oa, mn, cu, og, vl_, tp, ce, lN, lC, sk) mid := by
  refine br_f (by decide) (nm_r (cs_sub0 n) (cs_xputL (g := 0) hn (by omega) post mid (fun f => ?_)))
  rw [cs_del0]
  exact br_t (nI_le (Nat.le_refl _) (by omega)) (br_t rfl (cs_xput2L (by omega) post hp))
theorem cs_xput3 {n i : Nat} (hn : n ≤ 32) (hi : i < n) (mid : Int32) (post : SX → Prop) (hp : post (cp, pr, ph, gc, gp, oc, ml, nI n, ol, vl, tr, ac, ca, nI 3, bk, nI i, cL, cH, im, nI n, tk, dr, cc, ld, sd, gk, gb, ge, po, oa, mn, cu, og, vl_, upd (cs_cp cu tp n) i mid, ce, lN, lC, sk)) : wpX_putCandidateOnTape post (cp, pr, ph, gc, gp, oc, ml, nI n, ol, vl, tr, ac, ca, nI 3, bk, nI i, cL, cH, im, tl, tk, dr, cc, ld, sd, gk, gb, ge, po, oa, mn, cu, og, vl_, tp, ce, lN, lC, sk) mid := by
  refine br_f (by decide) (nm_r (cs_sub0 n) (cs_xputL (g := 0) hn (by omega) post mid (fun f => ?_)))
  rw [cs_del0]
  exact br_t (nI_le (Nat.le_refl _) (by omega)) (br_f (by decide) (br_t rfl ⟨vp_in_nI (by omega) (by omega), nm_r (e' := upd (cs_cp cu tp n) i mid) (by rw [nI_clamp (by omega)]; rfl) hp⟩))
theorem cs_xput4 {n i : Nat} (hn : n ≤ 32) (hi : i + 1 < n) (mid : Int32) (post : SX → Prop) (hp : post (cp, pr, ph, gc, gp, oc, ml, nI n, ol, vl, tr, ac, ca, nI 4, bk, nI i, cL, cH, im, nI n, tk, dr, cc, ld, sd, gk, gb, ge, po, oa, mn, cu, og, vl_, upd (upd (cs_cp cu tp n) i (cu (i + 1))) (i + 1) (cu i), ce, lN, lC, sk)) : wpX_putCandidateOnTape post (cp, pr, ph, gc, gp, oc, ml, nI n, ol, vl, tr, ac, ca, nI 4, bk, nI i, cL, cH, im, tl, tk, dr, cc, ld, sd, gk, gb, ge, po, oa, mn, cu, og, vl_, tp, ce, lN, lC, sk) mid := by
  have e0 : (nI i).toNatClampNeg = i := nI_clamp (by omega)
  have e1 : (nI (i + 1)).toNatClampNeg = i + 1 := nI_clamp (by omega)
  have e2 : nI i + 1 = nI (i + 1) := nI_1 i
  have hv : vp_in (nI i) 32 := vp_in_nI (by omega) (by omega)
  have hv1 : vp_in (nI i + 1) 32 := by rw [e2]; exact vp_in_nI (by omega) (by omega)
  refine br_f (by decide) (nm_r (cs_sub0 n) (cs_xputL (g := 0) hn (by omega) post mid (fun f => ?_)))
  rw [cs_del0]
  exact br_t (nI_le (Nat.le_refl _) (by omega)) (br_f (by decide) (br_f (by decide) (br_t rfl ⟨hv1, hv, nm_r (e' := upd (cs_cp cu tp n) i (cu (i + 1))) (by rw [e2, e0, e1]; rfl) ⟨hv, hv1, nm_r (e' := upd (upd (cs_cp cu tp n) i (cu (i + 1))) (i + 1) (cu i)) (by rw [e2, e0, e1]) hp⟩⟩)))
theorem cs_ycand1 {n i k : Nat} (hn : n ≤ 32) (hi : i + k ≤ n) (C0 : Nat → Int32) : ∃ C : Nat → Int32, (∀ q, q < n - k → C q = cs_del cu i k q) ∧ ∀ post : SY → Prop, wY_trialAtCursor_72 post (nI (n - k)) pr cp ph gc gp oc ml (nI n) ol vl tr ac ca pa (nI k) (nI i) cL cH im yn yl yt yr yo gk gb po yA mn cu og vl_ C ou sN sS sQ sM sk → ∃ fuel : Nat, wY_trialAtCursor_16 post pr cp ph gc gp oc ml (nI n) ol vl tr ac ca pa (nI k) (nI i) cL cH im yn yl yt yr yo fuel (nI 0) (nI 0) gk gb po yA mn cu og vl_ C0 ou sN sS sQ sM sk := by
  have loop : ∀ (d j : Nat) (C : Nat → Int32), j + d = n → (∀ q, q < cs_dp i k j → C q = cs_del cu i k q) → ∃ C' : Nat → Int32, (∀ q, q < n - k → C' q = cs_del cu i k q) ∧ ∀ (post : SY → Prop) (fuel : Nat), d < fuel → wY_trialAtCursor_72 post (nI (n - k)) pr cp ph gc gp oc ml (nI n) ol vl tr ac ca pa (nI k) (nI i) cL cH im yn yl yt yr yo gk gb po yA mn cu og vl_ C' ou sN sS sQ sM sk → wY_trialAtCursor_16 post pr cp ph gc gp oc ml (nI n) ol vl tr ac ca pa (nI k) (nI i) cL cH im yn yl yt yr yo fuel (nI (cs_dp i k j)) (nI j) gk gb po yA mn cu og vl_ C ou sN sS sQ sM sk := by
    intro d
    induction d with
    | zero =>
      intro j C hj hC
      have z : j = n := by omega
      subst z
      rw [cs_dpn hi] at hC ⊢
      refine ⟨C, hC, fun post fuel hf hp => ?_⟩
      obtain ⟨f, rfl⟩ : ∃ f, fuel = f + 1 := ⟨fuel - 1, by omega⟩
      exact br_t (nI_le (Nat.le_refl _) (by omega)) hp
    | succ d ih =>
      intro j C hj hC
      have ec : (nI j).toNatClampNeg = j := nI_clamp (by omega)
      have hv : vp_in (nI j) 32 := vp_in_nI (by omega) (by omega)
      have g1 : ¬ nI n ≤ nI j := nI_ge (by omega) (by omega)
      have g2 : ¬ (32 : Int32) ≤ nI j := nI_ge (b := 32) (by omega) (by decide)
      have e2 : nI i + nI k = nI (i + k) := nI_add i k
      by_cases h1 : j < i
      · obtain ⟨p1, p2⟩ := cs_dp1 (k := k) h1
        have ep : (nI (cs_dp i k j)).toNatClampNeg = cs_dp i k j := nI_clamp (by omega)
        obtain ⟨C', a, b⟩ := ih (j + 1) (upd C (cs_dp i k j) (cu j)) (by omega) (fun q hq => by
          rw [p1] at hq
          by_cases z : q = cs_dp i k j
          · rw [z, pk_us, p2, cs_del1 h1]
          · rw [pk_un z]
            exact hC q (by omega))
        rw [p1] at b
        refine ⟨C', a, fun post fuel hf hp => ?_⟩
        obtain ⟨f, rfl⟩ : ∃ f, fuel = f + 1 := ⟨fuel - 1, by omega⟩
        exact br_f g1 (br_f g2 (br_t (nI_lt h1 (by omega)) ⟨hv, vp_in_nI (by omega) (by omega), nm_r (e' := upd C (cs_dp i k j) (cu j)) (by rw [ep, ec]) (nm_r (nI_1 _) (nm_r (nI_1 j) (b post f (by omega) hp)))⟩))
      · by_cases h2 : j < i + k
        · have p1 := cs_dp2 (i := i) (k := k) (j := j) (by omega) h2
          obtain ⟨C', a, b⟩ := ih (j + 1) C (by omega) (fun q hq => hC q (by omega))
          rw [p1] at b
          refine ⟨C', a, fun post fuel hf hp => ?_⟩
          obtain ⟨f, rfl⟩ : ∃ f, fuel = f + 1 := ⟨fuel - 1, by omega⟩
          exact br_f g1 (br_f g2 (br_f (nI_nlt (by omega) (by omega)) (br_t (by rw [e2]; exact nI_lt h2 (by omega)) (nm_r (nI_1 j) (b post f (by omega) hp)))))
        · obtain ⟨p1, p2⟩ := cs_dp3 (i := i) (k := k) (j := j) (by omega)
          have ep : (nI (cs_dp i k j)).toNatClampNeg = cs_dp i k j := nI_clamp (by omega)
          obtain ⟨C', a, b⟩ := ih (j + 1) (upd C (cs_dp i k j) (cu j)) (by omega) (fun q hq => by
            rw [p1] at hq
            by_cases z : q = cs_dp i k j
            · rw [z, pk_us, p2, cs_del2 (by omega)]
              exact congrArg cu (by omega)
            · rw [pk_un z]
              exact hC q (by omega))
          rw [p1] at b
          refine ⟨C', a, fun post fuel hf hp => ?_⟩
          obtain ⟨f, rfl⟩ : ∃ f, fuel = f + 1 := ⟨fuel - 1, by omega⟩
          exact br_f g1 (br_f g2 (br_f (nI_nlt (by omega) (by omega)) (br_f (by rw [e2]; exact nI_nlt (by omega) (by omega)) ⟨hv, vp_in_nI (by omega) (by omega), nm_r (e' := upd C (cs_dp i k j) (cu j)) (by rw [ep, ec]) (nm_r (nI_1 _) (nm_r (nI_1 j) (b post f (by omega) hp)))⟩)))
  have z : cs_dp i k 0 = 0 := if_pos (by omega)
  obtain ⟨C, a, b⟩ := loop n 0 C0 (by omega) (fun q hq => by
    rw [z] at hq
    omega)
  rw [z] at b
  exact ⟨C, a, fun post hp => ⟨n + 1, b post (n + 1) (by omega) hp⟩⟩
theorem cs_ycand2 {i kk : Nat} (h : i + kk ≤ 32) (post : SY → Prop) (hp : wY_trialAtCursor_154 post pr cp ph gc gp oc ml cl ol vl tr ac ca pa (nI kk) (nI i) cL cH im yn yl yt yr yo gk gb po yA mn cu og vl_ (cs_zb cd i kk) ou sN sS sQ sM sk) : ∃ k : Nat, wY_trialAtCursor_118 post pr cp ph gc gp oc ml cl ol vl tr ac ca pa (nI kk) (nI i) cL cH im yn yl yt yr yo k (nI i) gk gb po yA mn cu og vl_ cd ou sN sS sQ sM sk := by
  have loop : ∀ (d m fuel : Nat), m + d = kk → d < fuel → wY_trialAtCursor_118 post pr cp ph gc gp oc ml cl ol vl tr ac ca pa (nI kk) (nI i) cL cH im yn yl yt yr yo fuel (nI (i + m)) gk gb po yA mn cu og vl_ (cs_zb cd i m) ou sN sS sQ sM sk := by
    intro d
    induction d with
    | zero =>
      intro m fuel hm hf
      obtain ⟨f, rfl⟩ : ∃ f, fuel = f + 1 := ⟨fuel - 1, by omega⟩
      have z : m = kk := by omega
      subst z
      exact br_t (by rw [nI_add]; exact nI_le (Nat.le_refl _) (by omega)) hp
    | succ d ih =>
      intro m fuel hm hf
      obtain ⟨f, rfl⟩ : ∃ f, fuel = f + 1 := ⟨fuel - 1, by omega⟩
      have ec : (nI (i + m)).toNatClampNeg = i + m := nI_clamp (by omega)
      exact br_f (by rw [nI_add]; exact nI_ge (by omega) (by omega)) (br_f (nI_ge (b := 32) (by omega) (by decide)) (br_f (nI_pos (by omega)) ⟨vp_in_nI (by omega) (by omega), nm_r (e' := cs_zb cd i (m + 1)) (by rw [ec, cs_zbs]) (nm_r (nI_1 (i + m)) (ih (m + 1) f (by omega) (by omega)))⟩))
  have h := loop kk 0 (kk + 1) (by omega) (by omega)
  rw [cs_zb0] at h
  exact ⟨kk + 1, h⟩
end
end
section
def cs_md (pa bk ix lo hi yn : Int32) : Prop := ∃ k i : Nat, bk = nI k ∧ ix = nI i ∧ i ≤ 33 ∧
  (((pa = nI 1 ∨ pa = nI 2) ∧ (k = 1 ∨ k = 2 ∨ k = 4) ∧ lo = 0 ∧ hi = 0 ∧ yn = 0) ∨ (pa = nI 3 ∧ k = 1 ∧ yn = 1 ∧ ∃ l h : Nat, lo = nI l ∧ hi = nI h ∧ l ≤ 256 ∧ h ≤ 255) ∨ (pa = nI 4 ∧ k = 1 ∧ lo = 0 ∧ hi = 0 ∧ yn = 0))
def cs_Z (ph gp cl ol vl pa bk ix lo hi im yn : Int32) (cu : Nat → Int32) : Prop :=
  ph = 1 ∧ gp = 0 ∧ (im = 0 ∨ im = 1) ∧ ∃ n o v : Nat, n ≤ 32 ∧ o ≤ 32 ∧ v ≤ 32 ∧ cl = nI n ∧ ol = nI o ∧ vl = nI v ∧ cs_by cu n ∧ cs_md pa bk ix lo hi yn
def cs_W (u : SX) (v : SY) : Prop :=
  ∃ (cp pr ph gc gp oc ml cl ol vl tr ac ca pa bk ix cL cH im tl tk dr cc ld sd yn yl yt yr yo : Int32) (gk gb ge po oa mn cu og vl_ tp ce lN lC sk yA cd ou sN sS sQ sM : Nat → Int32), u = (cp, pr, ph, gc, gp, oc, ml, cl, ol, vl, tr, ac, ca, pa, bk, ix, cL, cH, im, tl, tk, dr, cc, ld, sd, gk, gb, ge, po, oa, mn, cu, og, vl_, tp, ce, lN, lC, sk) ∧ v = (pr, cp, ph, gc, gp, oc, ml, cl, ol, vl, tr, ac, ca, pa, bk, ix, cL, cH, im, yn, yl, yt, yr, yo, gk, gb, po, yA, mn, cu, og, vl_, cd, ou, sN, sS, sQ, sM, sk) ∧ cs_M cp ml mn ∧ cs_Gn gc gp gk gb ge ∧ cs_Pr oc po oa yA ∧ cs_Z ph gp cl ol vl pa bk ix cL cH im yn cu
theorem cs_Wmk {cp pr ph gc gp oc ml cl ol vl tr ac ca pa bk ix cL cH im tl tk dr cc ld sd yn yl yt yr yo : Int32} {gk gb ge po oa mn cu og vl_ tp ce lN lC sk yA cd ou sN sS sQ sM : Nat → Int32} (hM : cs_M cp ml mn) (hG : cs_Gn gc gp gk gb ge) (hP : cs_Pr oc po oa yA) (hF : cs_Z ph gp cl ol vl pa bk ix cL cH im yn cu) : cs_W (cp, pr, ph, gc, gp, oc, ml, cl, ol, vl, tr, ac, ca, pa, bk, ix, cL, cH, im, tl, tk, dr, cc, ld, sd, gk, gb, ge, po, oa, mn, cu, og, vl_, tp, ce, lN, lC, sk) (pr, cp, ph, gc, gp, oc, ml, cl, ol, vl, tr, ac, ca, pa, bk, ix, cL, cH, im, yn, yl, yt, yr, yo, gk, gb, po, yA, mn, cu, og, vl_, cd, ou, sN, sS, sQ, sM, sk) :=
  ⟨cp, pr, ph, gc, gp, oc, ml, cl, ol, vl, tr, ac, ca, pa, bk, ix, cL, cH, im, tl, tk, dr, cc, ld, sd, yn, yl, yt, yr, yo, gk, gb, ge, po, oa, mn, cu, og, vl_, tp, ce, lN, lC, sk, yA, cd, ou, sN, sS, sQ, sM, rfl, rfl, hM, hG, hP, hF⟩
theorem cs_Welim {u : SX} {v : SY} {P : SX → SY → Prop} (I : cs_W u v) (h : ∀ (cp pr ph gc gp oc ml cl ol vl tr ac ca pa bk ix cL cH im tl tk dr cc ld sd yn yl yt yr yo : Int32) (gk gb ge po oa mn cu og vl_ tp ce lN lC sk yA cd ou sN sS sQ sM : Nat → Int32), cs_M cp ml mn → cs_Gn gc gp gk gb ge → cs_Pr oc po oa yA → cs_Z ph gp cl ol vl pa bk ix cL cH im yn cu → P (cp, pr, ph, gc, gp, oc, ml, cl, ol, vl, tr, ac, ca, pa, bk, ix, cL, cH, im, tl, tk, dr, cc, ld, sd, gk, gb, ge, po, oa, mn, cu, og, vl_, tp, ce, lN, lC, sk) (pr, cp, ph, gc, gp, oc, ml, cl, ol, vl, tr, ac, ca, pa, bk, ix, cL, cH, im, yn, yl, yt, yr, yo, gk, gb, po, yA, mn, cu, og, vl_, cd, ou, sN, sS, sQ, sM, sk)) : P u v := by
  obtain ⟨cp, pr, ph, gc, gp, oc, ml, cl, ol, vl, tr, ac, ca, pa, bk, ix, cL, cH, im, tl, tk, dr, cc, ld, sd, yn, yl, yt, yr, yo, gk, gb, ge, po, oa, mn, cu, og, vl_, tp, ce, lN, lC, sk, yA, cd, ou, sN, sS, sQ, sM, rfl, rfl, hM, hG, hP, hF⟩ := I
  exact h cp pr ph gc gp oc ml cl ol vl tr ac ca pa bk ix cL cH im tl tk dr cc ld sd yn yl yt yr yo gk gb ge po oa mn cu og vl_ tp ce lN lC sk yA cd ou sN sS sQ sM hM hG hP hF
section
variable {cp pr ph gc gp oc ml cl ol vl tr ac ca pa bk ix cL cH im tl tk dr cc ld sd yn yl yt yr yo : Int32} {gk gb ge po oa mn cu og vl_ tp ce lN lC sk yA cd ou sN sS sQ sM : Nat → Int32}
theorem cs_x129 {i : Nat} (hpa : ¬ pa = 3) (post : SX → Prop) (hp : post (cp, pr, ph, gc, gp, oc, ml, cl, ol, vl, tr, ac, ca, pa, bk, nI (i + 1), 0, 0, im, tl, tk, dr, cc, ld, sd, gk, gb, ge, po, oa, mn, cu, og, vl_, tp, ce, lN, lC, sk)) : wX_performTrial_129 post cp pr ph gc gp oc ml cl ol vl tr ac ca pa bk (nI i) cL cH im tl tk dr cc ld sd gk gb ge po oa mn cu og vl_ tp ce lN lC sk := by
  unfold wX_performTrial_129
  rw [nI_1]
  exact br_f hpa hp
theorem cs_half (l h : Nat) (hl : l ≤ 255) (hh : h ≤ 255) : (nI l + nI h) / 2 = nI ((l + h) / 2) := by
  rw [nI_add]
  exact pk_div (d := 2) (by omega) (by decide) (by decide)
theorem cs_pt1 {n i k oo vv : Nat} (hn : n ≤ 32) (ho : oo ≤ 32) (hv : vv ≤ 32) (hM : cs_M cp ml mn) (hG : cs_Gn gc 0 gk gb ge) (hP : cs_Pr oc po oa yA) (hb : cs_by cu n) (him : im = 0 ∨ im = 1) (hk : k = 1 ∨ k = 2 ∨ k = 4) (hi : i + k ≤ n) :
    ∃ (u' : SX) (v' : SY), cs_W u' v' ∧ (∀ post : SX → Prop, post u' → wpX_performTrial post (cp, pr, 1, gc, 0, oc, ml, nI n, nI oo, nI vv, tr, ac, ca, nI 1, nI k, nI i, 0, 0, im, tl, tk, dr, cc, ld, sd, gk, gb, ge, po, oa, mn, cu, og, vl_, tp, ce, lN, lC, sk)) ∧ (∀ post : SY → Prop, post v' → wpY_trialAtCursor post (pr, cp, 1, gc, 0, oc, ml, nI n, nI oo, nI vv, tr, ac, ca, nI 1, nI k, nI i, 0, 0, im, 0, yl, yt, yr, yo, gk, gb, po, yA, mn, cu, og, vl_, cd, ou, sN, sS, sQ, sM, sk)) := by
  obtain ⟨C, hC, hYC⟩ := cs_ycand1 (cp := cp) (pr := pr) (ph := 1) (gc := gc) (gp := 0) (oc := oc) (ml := ml) (ol := nI oo) (vl := nI vv) (tr := tr) (ac := ac) (ca := ca) (pa := nI 1) (cL := 0) (cH := 0) (im := im) (gk := gk) (gb := gb) (po := po) (mn := mn) (cu := cu) (og := og) (vl_ := vl_) (sk := sk) (yn := 0) (yl := nI n) (yt := yt) (yr := yr) (yo := yo) (yA := yA) (ou := ou) (sN := sN) (sS := sS) (sQ := sQ) (sM := sM) (n := n) (i := i) (k := k) hn hi (cs_cp cu cd n)
  have hT : cs_T 0 (nI (n - k)) (n - k) 0 (cs_cp (cs_del cu i k) tp (n - k)) C :=
    ⟨by omega, by omega, Or.inl rfl, fun j hj => absurd hj (by omega), cs_by0 _, fun _ => ⟨rfl, fun j hj => by rw [cs_cpl hj, hC j hj], cs_byc (cs_delb hb hi) (fun j hj => cs_cpl hj)⟩⟩
  rcases cs_core (cp := cp) (pr := pr) (ph := 1) (gc := gc) (gp := 0) (oc := oc) (ml := ml) (ol := nI oo) (vl := nI vv) (tr := tr) (ac := ac) (ca := ca) (pa := nI 1) (bk := nI k) (ix := nI i) (cL := 0) (cH := 0) (im := im) (tl := tl) (tk := tk) (dr := dr) (cc := cc) (ld := ld) (sd := sd) (gk := gk) (gb := gb) (ge := ge) (po := po) (oa := oa) (mn := mn) (cu := cu) (og := og) (vl_ := vl_) (tp := tp) (ce := ce) (lN := lN) (lC := lC) (sk := sk) (yn := 0) (yt := yt) (yo := yo) (yA := yA) (ou := ou) (sN := sN) (sS := sS) (sQ := sQ) (sM := sM) (n := n) (lim := n - k) (mid := nI 0) (T := cs_cp (cs_del cu i k) tp (n - k)) (C := C) hn hG rfl hP (by decide) (fun post hp => cs_xput1 hn hi _ post hp) hT with ⟨pr', tk', cc', ld', sd', yl', yt', yo', tp', ce', lN', lC', cd', ou', sN', sS', sQ', sM', sk', hX, hY⟩ | ⟨t, L, pr', ld', sd', yl', tp', ce', lN', lC', cd', ou', sN', sS', sQ', sM', sk', htn, hL, hbt, hX, hY⟩
  · refine ⟨(cp, pr', 1, gc, 0, oc, ml, nI n, nI oo, nI vv, tr + 1, ac, ca, nI 1, nI k, nI (i + 1), 0, 0, im, nI (n - k), tk', 0, cc', ld', sd', gk, gb, ge, po, oa, mn, cu, og, vl_, tp', ce', lN', lC', sk'), (pr', cp, 1, gc, 0, oc, ml, nI n, nI oo, nI vv, tr + 1, ac, ca, nI 1, nI k, nI (i + 1), 0, 0, im, 0, yl', yt', 0, yo', gk, gb, po, yA, mn, cu, og, vl_, cd', ou', sN', sS', sQ', sM', sk'), cs_Wmk hM hG hP ⟨rfl, rfl, him, n, oo, vv, hn, ho, hv, rfl, rfl, rfl, hb, ⟨k, i + 1, rfl, rfl, by omega, Or.inl ⟨Or.inl rfl, hk, rfl, rfl, rfl⟩⟩⟩, fun post hp => hX post (br_t rfl (br_f (by decide) (br_t rfl (br_t rfl (cs_x129 (by decide) post hp))))), fun post hp => ?_⟩
    unfold wpY_trialAtCursor
    refine cs_ycopyS hn _ (br_t rfl (hYC post ?_))
    unfold wY_trialAtCursor_72
    exact hY _ (br_t rfl (nm_r (nI_1 i) hp))
  · refine ⟨(cp, pr', 1, gc, 0, oc, ml, nI t, nI oo, nI L, tr + 1, ac + 1, ca, nI 1, nI k, nI i, 0, 0, 1, nI (n - k), nI t, 0, nI L, ld', sd', gk, gb, ge, po, oa, mn, cs_cp tp' cu t, og, cs_cp ce' vl_ L, tp', ce', lN', lC', sk'), (pr', cp, 1, gc, 0, oc, ml, nI t, nI oo, nI L, tr + 1, ac + 1, ca, nI 1, nI k, nI i, 0, 0, 1, 0, yl', nI t, 0, nI L, gk, gb, po, yA, mn, cs_cp tp' cu t, og, cs_cp ce' vl_ L, cd', ou', sN', sS', sQ', sM', sk'), cs_Wmk hM hG hP ⟨rfl, rfl, Or.inr rfl, t, oo, L, by omega, ho, hL, rfl, rfl, rfl, cs_byc hbt (fun j hj => cs_cpl hj), ⟨k, i, rfl, rfl, by omega, Or.inl ⟨Or.inl rfl, hk, rfl, rfl, rfl⟩⟩⟩, fun post hp => hX post (br_f (by decide) (cs_xkeep (by omega) hL _ (nm_e (br_f (by decide) (br_t rfl (br_f (by decide) hp)))))), fun post hp => ?_⟩
    unfold wpY_trialAtCursor
    refine cs_ycopyS hn _ (br_t rfl (hYC post ?_))
    unfold wY_trialAtCursor_72
    exact hY _ (br_f (by decide) hp)
theorem cs_pt2 {n i k oo vv : Nat} (hn : n ≤ 32) (ho : oo ≤ 32) (hv : vv ≤ 32) (hM : cs_M cp ml mn) (hG : cs_Gn gc 0 gk gb ge) (hP : cs_Pr oc po oa yA) (hb : cs_by cu n) (him : im = 0 ∨ im = 1) (hk : k = 1 ∨ k = 2 ∨ k = 4) (hi : i + k ≤ n) :
    ∃ (u' : SX) (v' : SY), cs_W u' v' ∧ (∀ post : SX → Prop, post u' → wpX_performTrial post (cp, pr, 1, gc, 0, oc, ml, nI n, nI oo, nI vv, tr, ac, ca, nI 2, nI k, nI i, 0, 0, im, tl, tk, dr, cc, ld, sd, gk, gb, ge, po, oa, mn, cu, og, vl_, tp, ce, lN, lC, sk)) ∧ (∀ post : SY → Prop, post v' → wpY_trialAtCursor post (pr, cp, 1, gc, 0, oc, ml, nI n, nI oo, nI vv, tr, ac, ca, nI 2, nI k, nI i, 0, 0, im, 0, yl, yt, yr, yo, gk, gb, po, yA, mn, cu, og, vl_, cd, ou, sN, sS, sQ, sM, sk)) := by
  have hT : cs_T 0 (nI n) n 0 (cs_zb (cs_cp cu tp n) i k) (cs_zb (cs_cp cu cd n) i k) :=
    ⟨by omega, by omega, Or.inl rfl, fun j hj => absurd hj (by omega), cs_by0 _, fun _ => ⟨rfl, cs_zbe (fun j hj => by rw [cs_cpl hj, cs_cpl hj]), cs_zbb (cs_byc hb (fun j hj => cs_cpl hj))⟩⟩
  rcases cs_core (cp := cp) (pr := pr) (ph := 1) (gc := gc) (gp := 0) (oc := oc) (ml := ml) (ol := nI oo) (vl := nI vv) (tr := tr) (ac := ac) (ca := ca) (pa := nI 2) (bk := nI k) (ix := nI i) (cL := 0) (cH := 0) (im := im) (tl := tl) (tk := tk) (dr := dr) (cc := cc) (ld := ld) (sd := sd) (gk := gk) (gb := gb) (ge := ge) (po := po) (oa := oa) (mn := mn) (cu := cu) (og := og) (vl_ := vl_) (tp := tp) (ce := ce) (lN := lN) (lC := lC) (sk := sk) (yn := 0) (yt := yt) (yo := yo) (yA := yA) (ou := ou) (sN := sN) (sS := sS) (sQ := sQ) (sM := sM) (n := n) (lim := n) (mid := nI 0) (T := cs_zb (cs_cp cu tp n) i k) (C := cs_zb (cs_cp cu cd n) i k) hn hG rfl hP (by decide) (fun post hp => cs_xput2 hn hi _ post hp) hT with ⟨pr', tk', cc', ld', sd', yl', yt', yo', tp', ce', lN', lC', cd', ou', sN', sS', sQ', sM', sk', hX, hY⟩ | ⟨t, L, pr', ld', sd', yl', tp', ce', lN', lC', cd', ou', sN', sS', sQ', sM', sk', htn, hL, hbt, hX, hY⟩
  · refine ⟨(cp, pr', 1, gc, 0, oc, ml, nI n, nI oo, nI vv, tr + 1, ac, ca, nI 2, nI k, nI (i + 1), 0, 0, im, nI (n), tk', 0, cc', ld', sd', gk, gb, ge, po, oa, mn, cu, og, vl_, tp', ce', lN', lC', sk'), (pr', cp, 1, gc, 0, oc, ml, nI n, nI oo, nI vv, tr + 1, ac, ca, nI 2, nI k, nI (i + 1), 0, 0, im, 0, yl', yt', 0, yo', gk, gb, po, yA, mn, cu, og, vl_, cd', ou', sN', sS', sQ', sM', sk'), cs_Wmk hM hG hP ⟨rfl, rfl, him, n, oo, vv, hn, ho, hv, rfl, rfl, rfl, hb, ⟨k, i + 1, rfl, rfl, by omega, Or.inl ⟨Or.inr rfl, hk, rfl, rfl, rfl⟩⟩⟩, fun post hp => hX post (br_t rfl (br_f (by decide) (br_f (by decide) (cs_x129 (by decide) post hp)))), fun post hp => ?_⟩
    unfold wpY_trialAtCursor
    refine cs_ycopyS hn _ (br_f (by decide) (br_t rfl (cs_ycand2 (by omega) post ?_)))
    unfold wY_trialAtCursor_154
    exact hY _ (br_t rfl (nm_r (nI_1 i) hp))
  · refine ⟨(cp, pr', 1, gc, 0, oc, ml, nI t, nI oo, nI L, tr + 1, ac + 1, ca, nI 2, nI k, nI (i + 1), 0, 0, 1, nI (n), nI t, 0, nI L, ld', sd', gk, gb, ge, po, oa, mn, cs_cp tp' cu t, og, cs_cp ce' vl_ L, tp', ce', lN', lC', sk'), (pr', cp, 1, gc, 0, oc, ml, nI t, nI oo, nI L, tr + 1, ac + 1, ca, nI 2, nI k, nI (i + 1), 0, 0, 1, 0, yl', nI t, 0, nI L, gk, gb, po, yA, mn, cs_cp tp' cu t, og, cs_cp ce' vl_ L, cd', ou', sN', sS', sQ', sM', sk'), cs_Wmk hM hG hP ⟨rfl, rfl, Or.inr rfl, t, oo, L, by omega, ho, hL, rfl, rfl, rfl, cs_byc hbt (fun j hj => cs_cpl hj), ⟨k, i + 1, rfl, rfl, by omega, Or.inl ⟨Or.inr rfl, hk, rfl, rfl, rfl⟩⟩⟩, fun post hp => hX post (br_f (by decide) (cs_xkeep (by omega) hL _ (nm_e (br_f (by decide) (br_f (by decide) (cs_x129 (by decide) post hp)))))), fun post hp => ?_⟩
    unfold wpY_trialAtCursor
    refine cs_ycopyS hn _ (br_f (by decide) (br_t rfl (cs_ycand2 (by omega) post ?_)))
    unfold wY_trialAtCursor_154
    exact hY _ (br_f (by decide) (nm_r (nI_1 i) hp))
theorem cs_pt3 {n i l h oo vv : Nat} (hn : n ≤ 32) (ho : oo ≤ 32) (hv : vv ≤ 32) (hM : cs_M cp ml mn) (hG : cs_Gn gc 0 gk gb ge) (hP : cs_Pr oc po oa yA) (hb : cs_by cu n) (him : im = 0 ∨ im = 1) (hi : i < n) (hlh : l < h) (hh : h ≤ 255) :
    ∃ (u' : SX) (v' : SY), cs_W u' v' ∧ (∀ post : SX → Prop, post u' → wpX_performTrial post (cp, pr, 1, gc, 0, oc, ml, nI n, nI oo, nI vv, tr, ac, ca, nI 3, nI 1, nI i, nI l, nI h, im, tl, tk, dr, cc, ld, sd, gk, gb, ge, po, oa, mn, cu, og, vl_, tp, ce, lN, lC, sk)) ∧ (∀ post : SY → Prop, post v' → wpY_trialAtCursor post (pr, cp, 1, gc, 0, oc, ml, nI n, nI oo, nI vv, tr, ac, ca, nI 3, nI 1, nI i, nI l, nI h, im, 1, yl, yt, yr, yo, gk, gb, po, yA, mn, cu, og, vl_, cd, ou, sN, sS, sQ, sM, sk)) := by
  have hT : cs_T 0 (nI n) n 0 (upd (cs_cp cu tp n) i (nI ((l + h) / 2))) (upd (cs_cp cu cd n) i (nI ((l + h) / 2))) :=
    ⟨by omega, by omega, Or.inl rfl, fun j hj => absurd hj (by omega), cs_by0 _, fun _ => ⟨rfl, cs_ue (fun j hj => by rw [cs_cpl hj, cs_cpl hj]), cs_byu (cs_byc hb (fun j hj => cs_cpl hj)) (by omega)⟩⟩
  rcases cs_core (cp := cp) (pr := pr) (ph := 1) (gc := gc) (gp := 0) (oc := oc) (ml := ml) (ol := nI oo) (vl := nI vv) (tr := tr) (ac := ac) (ca := ca) (pa := nI 3) (bk := nI 1) (ix := nI i) (cL := nI l) (cH := nI h) (im := im) (tl := tl) (tk := tk) (dr := dr) (cc := cc) (ld := ld) (sd := sd) (gk := gk) (gb := gb) (ge := ge) (po := po) (oa := oa) (mn := mn) (cu := cu) (og := og) (vl_ := vl_) (tp := tp) (ce := ce) (lN := lN) (lC := lC) (sk := sk) (yn := 1) (yt := yt) (yo := yo) (yA := yA) (ou := ou) (sN := sN) (sS := sS) (sQ := sQ) (sM := sM) (n := n) (lim := n) (mid := nI ((l + h) / 2)) (T := upd (cs_cp cu tp n) i (nI ((l + h) / 2))) (C := upd (cs_cp cu cd n) i (nI ((l + h) / 2))) hn hG rfl hP (cs_half l h (by omega) hh) (fun post hp => cs_xput3 hn hi _ post hp) hT with ⟨pr', tk', cc', ld', sd', yl', yt', yo', tp', ce', lN', lC', cd', ou', sN', sS', sQ', sM', sk', hX, hY⟩ | ⟨t, L, pr', ld', sd', yl', tp', ce', lN', lC', cd', ou', sN', sS', sQ', sM', sk', htn, hL, hbt, hX, hY⟩
  · refine ⟨(cp, pr', 1, gc, 0, oc, ml, nI n, nI oo, nI vv, tr + 1, ac, ca, nI 3, nI 1, nI i, nI ((l + h) / 2 + 1), nI h, im, nI (n), tk', 0, cc', ld', sd', gk, gb, ge, po, oa, mn, cu, og, vl_, tp', ce', lN', lC', sk'), (pr', cp, 1, gc, 0, oc, ml, nI n, nI oo, nI vv, tr + 1, ac, ca, nI 3, nI 1, nI i, nI ((l + h) / 2 + 1), nI h, im, 1, yl', yt', 0, yo', gk, gb, po, yA, mn, cu, og, vl_, cd', ou', sN', sS', sQ', sM', sk'), cs_Wmk hM hG hP ⟨rfl, rfl, him, n, oo, vv, hn, ho, hv, rfl, rfl, rfl, hb, ⟨1, i, rfl, rfl, by omega, Or.inr (Or.inl ⟨rfl, rfl, rfl, (l + h) / 2 + 1, h, rfl, rfl, by omega, by omega⟩)⟩⟩, fun post hp => hX post ?_, fun post hp => ?_⟩
    · refine br_t rfl (br_t rfl (br_t rfl (br_t rfl ?_)))
      rw [nI_1]
      exact hp
    · unfold wpY_trialAtCursor
      refine cs_ycopyS hn _ (br_f (by decide) (br_f (by decide) (br_t rfl ⟨by decide, nm_r (cs_half l h (by omega) hh) (br_f (nI_pos (by omega)) (br_f (nI_ge (b := 32) (by omega) (by decide)) ⟨vp_in_nI (by omega) (by omega), nm_r (e' := upd (cs_cp cu cd n) i (nI ((l + h) / 2))) (by rw [nI_clamp (by omega)]) ?_⟩))⟩)))
      unfold wY_trialAtCursor_225
      exact hY _ (br_t rfl (nm_r (nI_1 _) hp))
  · refine ⟨(cp, pr', 1, gc, 0, oc, ml, nI t, nI oo, nI L, tr + 1, ac + 1, ca, nI 3, nI 1, nI i, nI l, nI ((l + h) / 2), 1, nI (n), nI t, 0, nI L, ld', sd', gk, gb, ge, po, oa, mn, cs_cp tp' cu t, og, cs_cp ce' vl_ L, tp', ce', lN', lC', sk'), (pr', cp, 1, gc, 0, oc, ml, nI t, nI oo, nI L, tr + 1, ac + 1, ca, nI 3, nI 1, nI i, nI l, nI ((l + h) / 2), 1, 1, yl', nI t, 0, nI L, gk, gb, po, yA, mn, cs_cp tp' cu t, og, cs_cp ce' vl_ L, cd', ou', sN', sS', sQ', sM', sk'), cs_Wmk hM hG hP ⟨rfl, rfl, Or.inr rfl, t, oo, L, by omega, ho, hL, rfl, rfl, rfl, cs_byc hbt (fun j hj => cs_cpl hj), ⟨1, i, rfl, rfl, by omega, Or.inr (Or.inl ⟨rfl, rfl, rfl, l, (l + h) / 2, rfl, rfl, by omega, by omega⟩)⟩⟩, fun post hp => hX post (br_f (by decide) (cs_xkeep (by omega) hL _ (nm_e (br_t rfl (br_f (by decide) (br_f (by decide) hp)))))), fun post hp => ?_⟩
    unfold wpY_trialAtCursor
    refine cs_ycopyS hn _ (br_f (by decide) (br_f (by decide) (br_t rfl ⟨by decide, nm_r (cs_half l h (by omega) hh) (br_f (nI_pos (by omega)) (br_f (nI_ge (b := 32) (by omega) (by decide)) ⟨vp_in_nI (by omega) (by omega), nm_r (e' := upd (cs_cp cu cd n) i (nI ((l + h) / 2))) (by rw [nI_clamp (by omega)]) ?_⟩))⟩)))
    unfold wY_trialAtCursor_225
    exact hY _ (br_f (by decide) hp)
theorem cs_pt4 {n i oo vv : Nat} (hn : n ≤ 32) (ho : oo ≤ 32) (hv : vv ≤ 32) (hM : cs_M cp ml mn) (hG : cs_Gn gc 0 gk gb ge) (hP : cs_Pr oc po oa yA) (hb : cs_by cu n) (him : im = 0 ∨ im = 1) (hi : i + 1 < n) :
    ∃ (u' : SX) (v' : SY), cs_W u' v' ∧ (∀ post : SX → Prop, post u' → wpX_performTrial post (cp, pr, 1, gc, 0, oc, ml, nI n, nI oo, nI vv, tr, ac, ca, nI 4, nI 1, nI i, 0, 0, im, tl, tk, dr, cc, ld, sd, gk, gb, ge, po, oa, mn, cu, og, vl_, tp, ce, lN, lC, sk)) ∧ (∀ post : SY → Prop, post v' → wpY_trialAtCursor post (pr, cp, 1, gc, 0, oc, ml, nI n, nI oo, nI vv, tr, ac, ca, nI 4, nI 1, nI i, 0, 0, im, 0, yl, yt, yr, yo, gk, gb, po, yA, mn, cu, og, vl_, cd, ou, sN, sS, sQ, sM, sk)) := by
  obtain ⟨b0, hb0, eb0⟩ := hb i (by omega)
  obtain ⟨b1, hb1, eb1⟩ := hb (i + 1) hi
  have hT : cs_T 0 (nI n) n 0 (upd (upd (cs_cp cu tp n) i (cu (i + 1))) (i + 1) (cu i)) (upd (upd (cs_cp cu cd n) i (cu (i + 1))) (i + 1) (cu i)) :=
    ⟨by omega, by omega, Or.inl rfl, fun j hj => absurd hj (by omega), cs_by0 _, fun _ => ⟨rfl, cs_ue (cs_ue (fun j hj => by rw [cs_cpl hj, cs_cpl hj])), by
      rw [eb0, eb1]
      exact cs_byu (cs_byu (cs_byc hb (fun j hj => cs_cpl hj)) hb1) hb0⟩⟩
  rcases cs_core (cp := cp) (pr := pr) (ph := 1) (gc := gc) (gp := 0) (oc := oc) (ml := ml) (ol := nI oo) (vl := nI vv) (tr := tr) (ac := ac) (ca := ca) (pa := nI 4) (bk := nI 1) (ix := nI i) (cL := 0) (cH := 0) (im := im) (tl := tl) (tk := tk) (dr := dr) (cc := cc) (ld := ld) (sd := sd) (gk := gk) (gb := gb) (ge := ge) (po := po) (oa := oa) (mn := mn) (cu := cu) (og := og) (vl_ := vl_) (tp := tp) (ce := ce) (lN := lN) (lC := lC) (sk := sk) (yn := 0) (yt := yt) (yo := yo) (yA := yA) (ou := ou) (sN := sN) (sS := sS) (sQ := sQ) (sM := sM) (n := n) (lim := n) (mid := nI 0) (T := upd (upd (cs_cp cu tp n) i (cu (i + 1))) (i + 1) (cu i)) (C := upd (upd (cs_cp cu cd n) i (cu (i + 1))) (i + 1) (cu i)) hn hG rfl hP (by decide) (fun post hp => cs_xput4 hn hi _ post hp) hT with ⟨pr', tk', cc', ld', sd', yl', yt', yo', tp', ce', lN', lC', cd', ou', sN', sS', sQ', sM', sk', hX, hY⟩ | ⟨t, L, pr', ld', sd', yl', tp', ce', lN', lC', cd', ou', sN', sS', sQ', sM', sk', htn, hL, hbt, hX, hY⟩
  · refine ⟨(cp, pr', 1, gc, 0, oc, ml, nI n, nI oo, nI vv, tr + 1, ac, ca, nI 4, nI 1, nI (i + 1), 0, 0, im, nI (n), tk', 0, cc', ld', sd', gk, gb, ge, po, oa, mn, cu, og, vl_, tp', ce', lN', lC', sk'), (pr', cp, 1, gc, 0, oc, ml, nI n, nI oo, nI vv, tr + 1, ac, ca, nI 4, nI 1, nI (i + 1), 0, 0, im, 0, yl', yt', 0, yo', gk, gb, po, yA, mn, cu, og, vl_, cd', ou', sN', sS', sQ', sM', sk'), cs_Wmk hM hG hP ⟨rfl, rfl, him, n, oo, vv, hn, ho, hv, rfl, rfl, rfl, hb, ⟨1, i + 1, rfl, rfl, by omega, Or.inr (Or.inr ⟨rfl, rfl, rfl, rfl, rfl⟩)⟩⟩, fun post hp => hX post (br_t rfl (br_f (by decide) (br_f (by decide) (cs_x129 (by decide) post hp)))), fun post hp => ?_⟩
    have e0 : (nI i).toNatClampNeg = i := nI_clamp (by omega)
    have e1 : (nI (i + 1)).toNatClampNeg = i + 1 := nI_clamp (by omega)
    have e2 : nI i + 1 = nI (i + 1) := nI_1 i
    have w0 : vp_in (nI i) 32 := vp_in_nI (by omega) (by omega)
    have w1 : vp_in (nI i + 1) 32 := by rw [e2]; exact vp_in_nI (by omega) (by omega)
    have c0 : cs_cp cu cd n i = cu i := cs_cpl (by omega)
    have c1 : cs_cp cu cd n (i + 1) = cu (i + 1) := cs_cpl hi
    unfold wpY_trialAtCursor
    refine cs_ycopyS hn _ (br_f (by decide) (br_f (by decide) (br_f (by decide) (br_f (nI_pos (by omega)) (br_f (by rw [e2]; exact nI_ge (b := 32) (by omega) (by decide)) ⟨w0, nm_r (e' := cu i) (by rw [e0, c0]) ⟨w1, w0, nm_r (e' := upd (cs_cp cu cd n) i (cu (i + 1))) (by rw [e2, e0, e1, c1]) ⟨w1, nm_r (e' := upd (upd (cs_cp cu cd n) i (cu (i + 1))) (i + 1) (cu i)) (by rw [e2, e1]) ?_⟩⟩⟩)))))
    unfold wY_trialAtCursor_315
    exact hY _ (br_t rfl (nm_r (nI_1 i) hp))
  · refine ⟨(cp, pr', 1, gc, 0, oc, ml, nI t, nI oo, nI L, tr + 1, ac + 1, ca, nI 4, nI 1, nI (i + 1), 0, 0, 1, nI (n), nI t, 0, nI L, ld', sd', gk, gb, ge, po, oa, mn, cs_cp tp' cu t, og, cs_cp ce' vl_ L, tp', ce', lN', lC', sk'), (pr', cp, 1, gc, 0, oc, ml, nI t, nI oo, nI L, tr + 1, ac + 1, ca, nI 4, nI 1, nI (i + 1), 0, 0, 1, 0, yl', nI t, 0, nI L, gk, gb, po, yA, mn, cs_cp tp' cu t, og, cs_cp ce' vl_ L, cd', ou', sN', sS', sQ', sM', sk'), cs_Wmk hM hG hP ⟨rfl, rfl, Or.inr rfl, t, oo, L, by omega, ho, hL, rfl, rfl, rfl, cs_byc hbt (fun j hj => cs_cpl hj), ⟨1, i + 1, rfl, rfl, by omega, Or.inr (Or.inr ⟨rfl, rfl, rfl, rfl, rfl⟩)⟩⟩, fun post hp => hX post (br_f (by decide) (cs_xkeep (by omega) hL _ (nm_e (br_f (by decide) (br_f (by decide) (cs_x129 (by decide) post hp)))))), fun post hp => ?_⟩
    have e0 : (nI i).toNatClampNeg = i := nI_clamp (by omega)
    have e1 : (nI (i + 1)).toNatClampNeg = i + 1 := nI_clamp (by omega)
    have e2 : nI i + 1 = nI (i + 1) := nI_1 i
    have w0 : vp_in (nI i) 32 := vp_in_nI (by omega) (by omega)
    have w1 : vp_in (nI i + 1) 32 := by rw [e2]; exact vp_in_nI (by omega) (by omega)
    have c0 : cs_cp cu cd n i = cu i := cs_cpl (by omega)
    have c1 : cs_cp cu cd n (i + 1) = cu (i + 1) := cs_cpl hi
    unfold wpY_trialAtCursor
    refine cs_ycopyS hn _ (br_f (by decide) (br_f (by decide) (br_f (by decide) (br_f (nI_pos (by omega)) (br_f (by rw [e2]; exact nI_ge (b := 32) (by omega) (by decide)) ⟨w0, nm_r (e' := cu i) (by rw [e0, c0]) ⟨w1, w0, nm_r (e' := upd (cs_cp cu cd n) i (cu (i + 1))) (by rw [e2, e0, e1, c1]) ⟨w1, nm_r (e' := upd (upd (cs_cp cu cd n) i (cu (i + 1))) (i + 1) (cu i)) (by rw [e2, e1]) ?_⟩⟩⟩)))))
    unfold wY_trialAtCursor_315
    exact hY _ (br_f (by decide) (nm_r (nI_1 i) hp))
end
end
section
section
variable {cp pr ph gc gp oc ml cl ol vl tr ac ca pa bk ix cL cH im tl tk dr cc ld sd yn yl yt yr yo : Int32} {gk gb ge po oa mn cu og vl_ tp ce lN lC sk yA cd ou sN sS sQ sM : Nat → Int32}
theorem cs_xsi3 {n j : Nat} (hn : n ≤ 32) (hj : j ≤ 40) (post : SX → Prop) (hp : post (cp, pr, ph, gc, gp, oc, ml, nI n, ol, vl, tr, ac, ca, nI 3, bk, nI j, 0, if j < n then cu j else 0, im, tl, tk, dr, cc, ld, sd, gk, gb, ge, po, oa, mn, cu, og, vl_, tp, ce, lN, lC, sk)) : wpX_startIndex post (cp, pr, ph, gc, gp, oc, ml, nI n, ol, vl, tr, ac, ca, nI 3, bk, ix, cL, cH, im, tl, tk, dr, cc, ld, sd, gk, gb, ge, po, oa, mn, cu, og, vl_, tp, ce, lN, lC, sk) (nI j) := by
  by_cases h : j < n
  · rw [if_pos h] at hp
    exact br_t rfl (br_f (nI_ge h (by omega)) ⟨vp_in_nI (by omega) (by omega), nm_r (e' := cu j) (by rw [nI_clamp (by omega)]) hp⟩)
  · rw [if_neg h] at hp
    exact br_t rfl (br_t (nI_le (by omega) (by omega)) hp)
theorem cs_xsiN {x : Int32} (hpa : ¬ pa = 3) (post : SX → Prop) (hp : post (cp, pr, ph, gc, gp, oc, ml, cl, ol, vl, tr, ac, ca, pa, bk, x, 0, 0, im, tl, tk, dr, cc, ld, sd, gk, gb, ge, po, oa, mn, cu, og, vl_, tp, ce, lN, lC, sk)) : wpX_startIndex post (cp, pr, ph, gc, gp, oc, ml, cl, ol, vl, tr, ac, ca, pa, bk, ix, cL, cH, im, tl, tk, dr, cc, ld, sd, gk, gb, ge, po, oa, mn, cu, og, vl_, tp, ce, lN, lC, sk) x := br_f hpa hp
theorem cs_insN {n i k : Nat} (hpa : ¬ pa = 4) (hn : n ≤ 32) (hi : i ≤ 40) (hk : k ≤ 4) (q : Int32 → Prop) (h1 : i + k ≤ n → q 1) (h0 : n < i + k → q 0) : wpX_insideSequence q (cp, pr, ph, gc, gp, oc, ml, nI n, ol, vl, tr, ac, ca, pa, nI k, nI i, cL, cH, im, tl, tk, dr, cc, ld, sd, gk, gb, ge, po, oa, mn, cu, og, vl_, tp, ce, lN, lC, sk) := by
  have e : nI i + nI k = nI (i + k) := nI_add i k
  by_cases h : i + k ≤ n
  · exact br_f hpa (br_f (by rw [e]; exact nI_nlt h (by omega)) (h1 h))
  · exact br_f hpa (br_t (by rw [e]; exact nI_lt (by omega) (by omega)) (h0 (by omega)))
theorem cs_ins4 {n i : Nat} (hn : n ≤ 32) (hi : i ≤ 40) (q : Int32 → Prop) (h1 : i + 1 < n → q 1) (h0 : n ≤ i + 1 → q 0) : wpX_insideSequence q (cp, pr, ph, gc, gp, oc, ml, nI n, ol, vl, tr, ac, ca, nI 4, bk, nI i, cL, cH, im, tl, tk, dr, cc, ld, sd, gk, gb, ge, po, oa, mn, cu, og, vl_, tp, ce, lN, lC, sk) := by
  have e : nI i + 2 = nI (i + 2) := nI_add i 2
  by_cases h : i + 1 < n
  · exact br_t rfl (br_f (by rw [e]; exact nI_nlt (by omega) (by omega)) (h1 h))
  · exact br_t rfl (br_t (by rw [e]; exact nI_lt (by omega) (by omega)) (h0 (by omega)))
theorem cs_bz {n i k : Nat} (hn : n ≤ 32) (h : i + k ≤ n) : ∃ z : Int32, (z = 0 ∨ z = 1) ∧ (∀ q : Int32 → Prop, q z → wpX_blockIsZero q (cp, pr, ph, gc, gp, oc, ml, cl, ol, vl, tr, ac, ca, pa, nI k, nI i, cL, cH, im, tl, tk, dr, cc, ld, sd, gk, gb, ge, po, oa, mn, cu, og, vl_, tp, ce, lN, lC, sk)) ∧ (∀ q : Int32 → Prop, q z → wpY_blockZero q (pr, cp, ph, gc, gp, oc, ml, nI n, ol, vl, tr, ac, ca, pa, nI k, nI i, cL, cH, im, yn, yl, yt, yr, yo, gk, gb, po, yA, mn, cu, og, vl_, cd, ou, sN, sS, sQ, sM, sk)) := by
  have e : nI i + nI k = nI (i + k) := nI_add i k
  have loop : ∀ (d j : Nat), j + d = i + k → ∃ z : Int32, (z = 0 ∨ z = 1) ∧ (∀ (q : Int32 → Prop) (fuel : Nat), d < fuel → q z → wX_blockIsZero_5 q cp pr ph gc gp oc ml cl ol vl tr ac ca pa (nI k) (nI i) cL cH im tl tk dr cc ld sd gk gb ge po oa mn cu og vl_ tp ce lN lC sk fuel (nI j)) ∧ (∀ (q : Int32 → Prop) (fuel : Nat), d < fuel → q z → wY_blockZero_5 q pr cp ph gc gp oc ml (nI n) ol vl tr ac ca pa (nI k) (nI i) cL cH im yn yl yt yr yo gk gb po yA mn cu og vl_ cd ou sN sS sQ sM sk fuel (nI j)) := by
    intro d
    induction d with
    | zero =>
      intro j hj
      have g : nI i + nI k ≤ nI j := by rw [e]; exact nI_le (by omega) (by omega)
      refine ⟨1, Or.inr rfl, fun q fuel hf hq => ?_, fun q fuel hf hq => ?_⟩
      · obtain ⟨f, rfl⟩ : ∃ f, fuel = f + 1 := ⟨fuel - 1, by omega⟩
        exact br_t g hq
      · obtain ⟨f, rfl⟩ : ∃ f, fuel = f + 1 := ⟨fuel - 1, by omega⟩
        exact br_t g hq
    | succ d ih =>
      intro j hj
      have g : ¬ nI i + nI k ≤ nI j := by rw [e]; exact nI_ge (by omega) (by omega)
      have g2 : ¬ nI n ≤ nI j := nI_ge (by omega) (by omega)
      have ec : (nI j).toNatClampNeg = j := nI_clamp (by omega)
      have hv : vp_in (nI j) 32 := vp_in_nI (by omega) (by omega)
      by_cases z0 : cu j = 0
      · obtain ⟨z, hz, hX, hY⟩ := ih (j + 1) (by omega)
        refine ⟨z, hz, fun q fuel hf hq => ?_, fun q fuel hf hq => ?_⟩
        · obtain ⟨f, rfl⟩ : ∃ f, fuel = f + 1 := ⟨fuel - 1, by omega⟩
          exact br_f g ⟨hv, br_t (by rw [ec]; exact z0) (nm_r (nI_1 j) (hX q f (by omega) hq))⟩
        · obtain ⟨f, rfl⟩ : ∃ f, fuel = f + 1 := ⟨fuel - 1, by omega⟩
          exact br_f g (br_f g2 ⟨hv, br_t (by rw [ec]; exact z0) (nm_r (nI_1 j) (hY q f (by omega) hq))⟩)
      · refine ⟨0, Or.inl rfl, fun q fuel hf hq => ?_, fun q fuel hf hq => ?_⟩
        · obtain ⟨f, rfl⟩ : ∃ f, fuel = f + 1 := ⟨fuel - 1, by omega⟩
          exact br_f g ⟨hv, br_f (by rw [ec]; exact z0) hq⟩
        · obtain ⟨f, rfl⟩ : ∃ f, fuel = f + 1 := ⟨fuel - 1, by omega⟩
          exact br_f g (br_f g2 ⟨hv, br_f (by rw [ec]; exact z0) hq⟩)
  obtain ⟨z, hz, hX, hY⟩ := loop k i (by omega)
  exact ⟨z, hz, fun q hq => ⟨k + 1, hX q (k + 1) (by omega) hq⟩, fun q hq => ⟨k + 1, hY q (k + 1) (by omega) hq⟩⟩
theorem cs_atO {n i k : Nat} (hpa : ¬ pa = 4) (hn : n ≤ 32) (hi : i ≤ 40) (hk : k ≤ 4) (h : n < i + k) (q : Int32 → Prop) (hq : q 0) : wpX_atTrial q (cp, pr, ph, gc, gp, oc, ml, nI n, ol, vl, tr, ac, ca, pa, nI k, nI i, cL, cH, im, tl, tk, dr, cc, ld, sd, gk, gb, ge, po, oa, mn, cu, og, vl_, tp, ce, lN, lC, sk) := by
  unfold wpX_atTrial
  exact cs_insN hpa hn hi hk _ (fun z => absurd z (by omega)) (fun _ => br_t rfl hq)
theorem cs_atO4 {n i : Nat} (hn : n ≤ 32) (hi : i ≤ 40) (h : n ≤ i + 1) (q : Int32 → Prop) (hq : q 0) : wpX_atTrial q (cp, pr, ph, gc, gp, oc, ml, nI n, ol, vl, tr, ac, ca, nI 4, bk, nI i, cL, cH, im, tl, tk, dr, cc, ld, sd, gk, gb, ge, po, oa, mn, cu, og, vl_, tp, ce, lN, lC, sk) := by
  unfold wpX_atTrial
  exact cs_ins4 hn hi _ (fun z => absurd z (by omega)) (fun _ => br_t rfl hq)
theorem cs_at1 {n i k : Nat} (hn : n ≤ 32) (hk : k ≤ 4) (h : i + k ≤ n) (q : Int32 → Prop) (hq : q 1) : wpX_atTrial q (cp, pr, ph, gc, gp, oc, ml, nI n, ol, vl, tr, ac, ca, nI 1, nI k, nI i, cL, cH, im, tl, tk, dr, cc, ld, sd, gk, gb, ge, po, oa, mn, cu, og, vl_, tp, ce, lN, lC, sk) := by
  unfold wpX_atTrial
  exact cs_insN (by decide) hn (by omega) hk _ (fun _ => br_f (by decide) (br_t (by decide) hq)) (fun z => absurd z (by omega))
theorem cs_at2 {n i k : Nat} {z : Int32} (hn : n ≤ 32) (hk : k ≤ 4) (h : i + k ≤ n) (hz : ∀ q : Int32 → Prop, q z → wpX_blockIsZero q (cp, pr, ph, gc, gp, oc, ml, nI n, ol, vl, tr, ac, ca, nI 2, nI k, nI i, cL, cH, im, tl, tk, dr, cc, ld, sd, gk, gb, ge, po, oa, mn, cu, og, vl_, tp, ce, lN, lC, sk)) (q : Int32 → Prop) (hq : (z = 0 → q 1) ∧ (¬ z = 0 → q 0)) : wpX_atTrial q (cp, pr, ph, gc, gp, oc, ml, nI n, ol, vl, tr, ac, ca, nI 2, nI k, nI i, cL, cH, im, tl, tk, dr, cc, ld, sd, gk, gb, ge, po, oa, mn, cu, og, vl_, tp, ce, lN, lC, sk) := by
  unfold wpX_atTrial
  exact cs_insN (by decide) hn (by omega) hk _ (fun _ => br_f (by decide) (br_f (by decide) (br_f (by decide) (br_t rfl (hz _ hq))))) (fun z => absurd z (by omega))
theorem cs_at3 {n i : Nat} (hn : n ≤ 32) (h : i < n) (q : Int32 → Prop) (hq : (cH ≤ cL → q 0) ∧ (¬ cH ≤ cL → q 1)) : wpX_atTrial q (cp, pr, ph, gc, gp, oc, ml, nI n, ol, vl, tr, ac, ca, nI 3, nI 1, nI i, cL, cH, im, tl, tk, dr, cc, ld, sd, gk, gb, ge, po, oa, mn, cu, og, vl_, tp, ce, lN, lC, sk) := by
  unfold wpX_atTrial
  exact cs_insN (by decide) hn (by omega) (by omega) _ (fun _ => br_f (by decide) (br_f (by decide) (br_f (by decide) (br_f (by decide) (br_t rfl hq))))) (fun z => absurd z (by omega))
theorem cs_at4 {n i : Nat} (hn : n ≤ 32) (h : i + 1 < n) (q : Int32 → Prop) (hq : (cu i ≤ cu (i + 1) → q 0) ∧ (¬ cu i ≤ cu (i + 1) → q 1)) : wpX_atTrial q (cp, pr, ph, gc, gp, oc, ml, nI n, ol, vl, tr, ac, ca, nI 4, bk, nI i, cL, cH, im, tl, tk, dr, cc, ld, sd, gk, gb, ge, po, oa, mn, cu, og, vl_, tp, ce, lN, lC, sk) := by
  have e0 : (nI i).toNatClampNeg = i := nI_clamp (by omega)
  have e1 : (nI i + 1).toNatClampNeg = i + 1 := by rw [nI_1, nI_clamp (by omega)]
  unfold wpX_atTrial
  refine cs_ins4 hn (by omega) _ (fun _ => br_f (by decide) (br_f (by decide) (br_f (by decide) (br_f (by decide) (br_f (by decide) (br_t rfl ⟨vp_in_nI (by omega) (by omega), by rw [nI_1]; exact vp_in_nI (by omega) (by omega), ?_⟩)))))) (fun z => absurd z (by omega))
  rw [e0, e1]
  exact hq
theorem cs_soI {n i k : Nat} (hpa : ¬ pa = 4) (hpa3 : ¬ pa = 3) (hn : n ≤ 32) (hk : k ≤ 4) (h : i + k ≤ n) (p : SX → Prop) (hp : p (cp, pr, ph, gc, gp, oc, ml, nI n, ol, vl, tr, ac, ca, pa, nI k, nI (i + 1), 0, 0, im, tl, tk, dr, cc, ld, sd, gk, gb, ge, po, oa, mn, cu, og, vl_, tp, ce, lN, lC, sk)) : wpX_stepOn p (cp, pr, ph, gc, gp, oc, ml, nI n, ol, vl, tr, ac, ca, pa, nI k, nI i, cL, cH, im, tl, tk, dr, cc, ld, sd, gk, gb, ge, po, oa, mn, cu, og, vl_, tp, ce, lN, lC, sk) := by
  unfold wpX_stepOn
  refine cs_insN hpa hn (by omega) hk _ (fun _ => br_f (by decide) ?_) (fun z => absurd z (by omega))
  rw [nI_1]
  exact cs_xsiN hpa3 _ hp
theorem cs_soI4 {n i : Nat} (hn : n ≤ 32) (h : i + 1 < n) (p : SX → Prop) (hp : p (cp, pr, ph, gc, gp, oc, ml, nI n, ol, vl, tr, ac, ca, nI 4, bk, nI (i + 1), 0, 0, im, tl, tk, dr, cc, ld, sd, gk, gb, ge, po, oa, mn, cu, og, vl_, tp, ce, lN, lC, sk)) : wpX_stepOn p (cp, pr, ph, gc, gp, oc, ml, nI n, ol, vl, tr, ac, ca, nI 4, bk, nI i, cL, cH, im, tl, tk, dr, cc, ld, sd, gk, gb, ge, po, oa, mn, cu, og, vl_, tp, ce, lN, lC, sk) := by
  unfold wpX_stepOn
  refine cs_ins4 hn (by omega) _ (fun _ => br_f (by decide) ?_) (fun z => absurd z (by omega))
  rw [nI_1]
  exact cs_xsiN (by decide) _ hp
theorem cs_soI3 {n i : Nat} (hn : n ≤ 32) (h : i < n) (p : SX → Prop) (hp : p (cp, pr, ph, gc, gp, oc, ml, nI n, ol, vl, tr, ac, ca, nI 3, nI 1, nI (i + 1), 0, if i + 1 < n then cu (i + 1) else 0, im, tl, tk, dr, cc, ld, sd, gk, gb, ge, po, oa, mn, cu, og, vl_, tp, ce, lN, lC, sk)) : wpX_stepOn p (cp, pr, ph, gc, gp, oc, ml, nI n, ol, vl, tr, ac, ca, nI 3, nI 1, nI i, cL, cH, im, tl, tk, dr, cc, ld, sd, gk, gb, ge, po, oa, mn, cu, og, vl_, tp, ce, lN, lC, sk) := by
  unfold wpX_stepOn
  refine cs_insN (by decide) hn (by omega) (by omega) _ (fun _ => br_f (by decide) ?_) (fun z => absurd z (by omega))
  rw [nI_1]
  exact cs_xsi3 hn (by omega) _ hp
theorem cs_soH {n i k : Nat} (hpa : ¬ pa = 4) (hpa3 : ¬ pa = 3) (hn : n ≤ 32) (hi : i ≤ 40) (hk : k ≤ 4) (hk1 : 1 < k) (h : n < i + k) (p : SX → Prop) (hp : p (cp, pr, ph, gc, gp, oc, ml, nI n, ol, vl, tr, ac, ca, pa, nI (k / 2), nI 0, 0, 0, im, tl, tk, dr, cc, ld, sd, gk, gb, ge, po, oa, mn, cu, og, vl_, tp, ce, lN, lC, sk)) : wpX_stepOn p (cp, pr, ph, gc, gp, oc, ml, nI n, ol, vl, tr, ac, ca, pa, nI k, nI i, cL, cH, im, tl, tk, dr, cc, ld, sd, gk, gb, ge, po, oa, mn, cu, og, vl_, tp, ce, lN, lC, sk) := by
  unfold wpX_stepOn
  refine cs_insN hpa hn hi hk _ (fun z => absurd z (by omega)) (fun _ => br_t rfl (br_f (nI_ge (b := k) (a := 1) hk1 (by omega)) ⟨by decide, nm_r (pk_div (d := 2) (by omega) (by decide) (by decide)) (cs_xsiN hpa3 _ hp)⟩))
theorem cs_soP1 {n i : Nat} (hn : n ≤ 32) (hi : i ≤ 40) (h : n < i + 1) (p : SX → Prop) (hp : p (cp, pr, ph, gc, gp, oc, ml, nI n, ol, vl, tr, ac, ca, nI 2, nI 4, nI 0, 0, 0, im, tl, tk, dr, cc, ld, sd, gk, gb, ge, po, oa, mn, cu, og, vl_, tp, ce, lN, lC, sk)) : wpX_stepOn p (cp, pr, ph, gc, gp, oc, ml, nI n, ol, vl, tr, ac, ca, nI 1, nI 1, nI i, cL, cH, im, tl, tk, dr, cc, ld, sd, gk, gb, ge, po, oa, mn, cu, og, vl_, tp, ce, lN, lC, sk) := by
  unfold wpX_stepOn
  exact cs_insN (by decide) hn hi (by omega) _ (fun z => absurd z (by omega)) (fun _ => br_t rfl (br_t (by decide) (br_f (by decide) (br_f (by decide) (br_t rfl (br_f (by decide) hp))))))
theorem cs_soP2 {n i : Nat} (hn : n ≤ 32) (hi : i ≤ 40) (h : n < i + 1) (p : SX → Prop) (hp : p (cp, pr, ph, gc, gp, oc, ml, nI n, ol, vl, tr, ac, ca, nI 3, nI 1, nI 0, 0, if 0 < n then cu 0 else 0, im, tl, tk, dr, cc, ld, sd, gk, gb, ge, po, oa, mn, cu, og, vl_, tp, ce, lN, lC, sk)) : wpX_stepOn p (cp, pr, ph, gc, gp, oc, ml, nI n, ol, vl, tr, ac, ca, nI 2, nI 1, nI i, cL, cH, im, tl, tk, dr, cc, ld, sd, gk, gb, ge, po, oa, mn, cu, og, vl_, tp, ce, lN, lC, sk) := by
  unfold wpX_stepOn
  refine cs_insN (by decide) hn hi (by omega) _ (fun z => absurd z (by omega)) (fun _ => br_t rfl (br_t (by decide) (br_f (by decide) (br_f (by decide) (br_f (by decide) ?_)))))
  exact cs_xsi3 (j := 0) hn (by omega) _ hp
theorem cs_soP3 {n i : Nat} (hn : n ≤ 32) (hi : i ≤ 40) (h : n < i + 1) (p : SX → Prop) (hp : p (cp, pr, ph, gc, gp, oc, ml, nI n, ol, vl, tr, ac, ca, nI 4, nI 1, nI 0, 0, 0, im, tl, tk, dr, cc, ld, sd, gk, gb, ge, po, oa, mn, cu, og, vl_, tp, ce, lN, lC, sk)) : wpX_stepOn p (cp, pr, ph, gc, gp, oc, ml, nI n, ol, vl, tr, ac, ca, nI 3, nI 1, nI i, cL, cH, im, tl, tk, dr, cc, ld, sd, gk, gb, ge, po, oa, mn, cu, og, vl_, tp, ce, lN, lC, sk) := by
  unfold wpX_stepOn
  exact cs_insN (by decide) hn hi (by omega) _ (fun z => absurd z (by omega)) (fun _ => br_t rfl (br_t (by decide) (br_f (by decide) (br_f (by decide) (br_f (by decide) (br_f (by decide) hp))))))
theorem cs_so4R {n i : Nat} (hn : n ≤ 32) (hi : i ≤ 40) (h : n ≤ i + 1) (p : SX → Prop) (hp : p (cp, pr, ph, gc, gp, oc, ml, nI n, ol, vl, tr, ac, ca, nI 1, nI 4, nI 0, 0, 0, 0, tl, tk, dr, cc, ld, sd, gk, gb, ge, po, oa, mn, cu, og, vl_, tp, ce, lN, lC, sk)) : wpX_stepOn p (cp, pr, ph, gc, gp, oc, ml, nI n, ol, vl, tr, ac, ca, nI 4, nI 1, nI i, cL, cH, 1, tl, tk, dr, cc, ld, sd, gk, gb, ge, po, oa, mn, cu, og, vl_, tp, ce, lN, lC, sk) := by
  unfold wpX_stepOn
  exact cs_ins4 hn hi _ (fun z => absurd z (by omega)) (fun _ => br_t rfl (br_t (by decide) (br_t rfl (br_t rfl (br_t rfl (br_f (by decide) hp))))))
theorem cs_so4D {n i : Nat} (hn : n ≤ 32) (hi : i ≤ 40) (h : n ≤ i + 1) (p : SX → Prop) (hp : p (cp, pr, 2, gc, gp, oc, ml, nI n, ol, vl, tr, ac, ca, 0, 0, 0, 0, 0, 0, tl, tk, dr, cc, ld, sd, gk, gb, ge, po, oa, mn, cu, og, vl_, tp, ce, lN, lC, sk)) : wpX_stepOn p (cp, pr, ph, gc, gp, oc, ml, nI n, ol, vl, tr, ac, ca, nI 4, nI 1, nI i, cL, cH, 0, tl, tk, dr, cc, ld, sd, gk, gb, ge, po, oa, mn, cu, og, vl_, tp, ce, lN, lC, sk) := by
  unfold wpX_stepOn
  exact cs_ins4 hn hi _ (fun z => absurd z (by omega)) (fun _ => br_t rfl (br_t (by decide) (br_t rfl (br_f (by decide) hp))))
variable {ph' pa' bk' ix' cL' cH' im' : Int32}
theorem cs_mstep {st fuel : Nat} (hst : st < 1000000) (hat : ∀ q : Int32 → Prop, q 0 → wpX_atTrial q (cp, pr, 1, gc, gp, oc, ml, cl, ol, vl, tr, ac, ca, pa, bk, ix, cL, cH, im, tl, tk, dr, cc, ld, sd, gk, gb, ge, po, oa, mn, cu, og, vl_, tp, ce, lN, lC, sk)) (hso : ∀ p : SX → Prop, p (cp, pr, ph', gc, gp, oc, ml, cl, ol, vl, tr, ac, ca, pa', bk', ix', cL', cH', im', tl, tk, dr, cc, ld, sd, gk, gb, ge, po, oa, mn, cu, og, vl_, tp, ce, lN, lC, sk) → wpX_stepOn p (cp, pr, 1, gc, gp, oc, ml, cl, ol, vl, tr, ac, ca, pa, bk, ix, cL, cH, im, tl, tk, dr, cc, ld, sd, gk, gb, ge, po, oa, mn, cu, og, vl_, tp, ce, lN, lC, sk)) (post : SX → Prop) (hp : wX_moveToTrial_2 post fuel (nI (st + 1)) cp pr ph' gc gp oc ml cl ol vl tr ac ca pa' bk' ix' cL' cH' im' tl tk dr cc ld sd gk gb ge po oa mn cu og vl_ tp ce lN lC sk) : wX_moveToTrial_2 post (fuel + 1) (nI st) cp pr 1 gc gp oc ml cl ol vl tr ac ca pa bk ix cL cH im tl tk dr cc ld sd gk gb ge po oa mn cu og vl_ tp ce lN lC sk :=
  br_f (nI_ge (b := 1000000) hst (by decide)) (br_t rfl (hat _ (br_t rfl (hso _ (nm_r (nI_1 st) hp)))))
theorem cs_mstop {st fuel : Nat} (hst : st < 1000000) (hat : ∀ q : Int32 → Prop, q 1 → wpX_atTrial q (cp, pr, 1, gc, gp, oc, ml, cl, ol, vl, tr, ac, ca, pa, bk, ix, cL, cH, im, tl, tk, dr, cc, ld, sd, gk, gb, ge, po, oa, mn, cu, og, vl_, tp, ce, lN, lC, sk)) (post : SX → Prop) (hp : post (cp, pr, 1, gc, gp, oc, ml, cl, ol, vl, tr, ac, ca, pa, bk, ix, cL, cH, im, tl, tk, dr, cc, ld, sd, gk, gb, ge, po, oa, mn, cu, og, vl_, tp, ce, lN, lC, sk)) : wX_moveToTrial_2 post (fuel + 1) (nI st) cp pr 1 gc gp oc ml cl ol vl tr ac ca pa bk ix cL cH im tl tk dr cc ld sd gk gb ge po oa mn cu og vl_ tp ce lN lC sk :=
  br_f (nI_ge (b := 1000000) hst (by decide)) (br_t rfl (hat _ (br_f (by decide) hp)))
theorem cs_mdone {st fuel : Nat} (post : SX → Prop) (hp : post (cp, pr, 2, gc, gp, oc, ml, cl, ol, vl, tr, ac, ca, pa, bk, ix, cL, cH, im, tl, tk, dr, cc, ld, sd, gk, gb, ge, po, oa, mn, cu, og, vl_, tp, ce, lN, lC, sk)) : wX_moveToTrial_2 post (fuel + 1) (nI st) cp pr 2 gc gp oc ml cl ol vl tr ac ca pa bk ix cL cH im tl tk dr cc ld sd gk gb ge po oa mn cu og vl_ tp ce lN lC sk :=
  br_c (fun _ => hp) (fun _ => br_f (by decide) hp)
end
end
section
section
variable {cp pr ph gc gp oc ml cl ol vl tr ac ca pa bk ix cL cH im tl tk dr cc ld sd yn yl yt yr yo : Int32} {gk gb ge po oa mn cu og vl_ tp ce lN lC sk yA cd ou sN sS sQ sM : Nat → Int32}
theorem cs_y1a {n i k it fuel : Nat} (hit : it < 4096) (hn : n ≤ 32) (hk : k ≤ 4) (h : i + k ≤ n) (post : SY → Prop) (hp : post (pr, cp, 1, gc, 0, oc, ml, nI n, ol, vl, tr, ac, ca, nI 1, nI k, nI i, cL, cH, im, yn, yl, yt, yr, yo, gk, gb, po, yA, mn, cu, og, vl_, cd, ou, sN, sS, sQ, sM, sk)) : wY_advance_2 post (fuel + 1) (nI it) pr cp 1 gc 0 oc ml (nI n) ol vl tr ac ca (nI 1) (nI k) (nI i) cL cH im yn yl yt yr yo gk gb po yA mn cu og vl_ cd ou sN sS sQ sM sk := by
  have e : nI i + nI k = nI (i + k) := nI_add i k
  exact br_f (nI_ge (b := 4096) hit (by decide)) (br_t rfl (br_t rfl (br_f (by rw [e]; exact nI_nlt h (by omega)) hp)))
theorem cs_y1b {n i k it fuel : Nat} (hit : it < 4096) (hn : n ≤ 32) (hi : i ≤ 40) (hk : k ≤ 4) (hk1 : 1 < k) (h : n < i + k) (post : SY → Prop) (hp : wY_advance_2 post fuel (nI (it + 1)) pr cp 1 gc 0 oc ml (nI n) ol vl tr ac ca (nI 1) (nI (k / 2)) (nI 0) cL cH im yn yl yt yr yo gk gb po yA mn cu og vl_ cd ou sN sS sQ sM sk) : wY_advance_2 post (fuel + 1) (nI it) pr cp 1 gc 0 oc ml (nI n) ol vl tr ac ca (nI 1) (nI k) (nI i) cL cH im yn yl yt yr yo gk gb po yA mn cu og vl_ cd ou sN sS sQ sM sk := by
  have e : nI i + nI k = nI (i + k) := nI_add i k
  exact br_f (nI_ge (b := 4096) hit (by decide)) (br_t rfl (br_t rfl (br_t (by rw [e]; exact nI_lt h (by omega)) (br_f (nI_ge (b := k) (a := 1) hk1 (by omega)) ⟨by decide, nm_r (pk_div (d := 2) (by omega) (by decide) (by decide)) (nm_r (nI_1 it) hp)⟩))))
theorem cs_y1c {n i it fuel : Nat} (hit : it < 4096) (hn : n ≤ 32) (hi : i ≤ 40) (h : n < i + 1) (post : SY → Prop) (hp : wY_advance_2 post fuel (nI (it + 1)) pr cp 1 gc 0 oc ml (nI n) ol vl tr ac ca (nI 2) (nI 4) (nI 0) cL cH im yn yl yt yr yo gk gb po yA mn cu og vl_ cd ou sN sS sQ sM sk) : wY_advance_2 post (fuel + 1) (nI it) pr cp 1 gc 0 oc ml (nI n) ol vl tr ac ca (nI 1) (nI 1) (nI i) cL cH im yn yl yt yr yo gk gb po yA mn cu og vl_ cd ou sN sS sQ sM sk := by
  have e : nI i + nI 1 = nI (i + 1) := nI_add i 1
  exact br_f (nI_ge (b := 4096) hit (by decide)) (br_t rfl (br_t rfl (br_t (by rw [e]; exact nI_lt h (by omega)) (br_t (by decide) (nm_r (nI_1 it) hp)))))
theorem cs_y2a {n i k it fuel : Nat} (hit : it < 4096) (hn : n ≤ 32) (hk : k ≤ 4) (h : i + k ≤ n) (hz : ∀ q : Int32 → Prop, q 0 → wpY_blockZero q (pr, cp, 1, gc, 0, oc, ml, nI n, ol, vl, tr, ac, ca, nI 2, nI k, nI i, cL, cH, im, yn, yl, yt, yr, yo, gk, gb, po, yA, mn, cu, og, vl_, cd, ou, sN, sS, sQ, sM, sk)) (post : SY → Prop) (hp : post (pr, cp, 1, gc, 0, oc, ml, nI n, ol, vl, tr, ac, ca, nI 2, nI k, nI i, cL, cH, im, yn, yl, yt, yr, yo, gk, gb, po, yA, mn, cu, og, vl_, cd, ou, sN, sS, sQ, sM, sk)) : wY_advance_2 post (fuel + 1) (nI it) pr cp 1 gc 0 oc ml (nI n) ol vl tr ac ca (nI 2) (nI k) (nI i) cL cH im yn yl yt yr yo gk gb po yA mn cu og vl_ cd ou sN sS sQ sM sk := by
  have e : nI i + nI k = nI (i + k) := nI_add i k
  exact br_f (nI_ge (b := 4096) hit (by decide)) (br_t rfl (br_f (by decide) (br_t rfl (br_t (by rw [e]; exact nI_le h (by omega)) (hz _ (br_t rfl hp))))))
theorem cs_y2b {n i k it fuel : Nat} (hit : it < 4096) (hn : n ≤ 32) (hk : k ≤ 4) (h : i + k ≤ n) (hz : ∀ q : Int32 → Prop, q 1 → wpY_blockZero q (pr, cp, 1, gc, 0, oc, ml, nI n, ol, vl, tr, ac, ca, nI 2, nI k, nI i, cL, cH, im, yn, yl, yt, yr, yo, gk, gb, po, yA, mn, cu, og, vl_, cd, ou, sN, sS, sQ, sM, sk)) (post : SY → Prop) (hp : wY_advance_2 post fuel (nI (it + 1)) pr cp 1 gc 0 oc ml (nI n) ol vl tr ac ca (nI 2) (nI k) (nI (i + 1)) cL cH im yn yl yt yr yo gk gb po yA mn cu og vl_ cd ou sN sS sQ sM sk) : wY_advance_2 post (fuel + 1) (nI it) pr cp 1 gc 0 oc ml (nI n) ol vl tr ac ca (nI 2) (nI k) (nI i) cL cH im yn yl yt yr yo gk gb po yA mn cu og vl_ cd ou sN sS sQ sM sk := by
  have e : nI i + nI k = nI (i + k) := nI_add i k
  exact br_f (nI_ge (b := 4096) hit (by decide)) (br_t rfl (br_f (by decide) (br_t rfl (br_t (by rw [e]; exact nI_le h (by omega)) (hz _ (br_f (by decide) (nm_r (nI_1 i) (nm_r (nI_1 it) hp))))))))
theorem cs_y2c {n i k it fuel : Nat} (hit : it < 4096) (hn : n ≤ 32) (hi : i ≤ 40) (hk : k ≤ 4) (hk1 : 1 < k) (h : n < i + k) (post : SY → Prop) (hp : wY_advance_2 post fuel (nI (it + 1)) pr cp 1 gc 0 oc ml (nI n) ol vl tr ac ca (nI 2) (nI (k / 2)) (nI 0) cL cH im yn yl yt yr yo gk gb po yA mn cu og vl_ cd ou sN sS sQ sM sk) : wY_advance_2 post (fuel + 1) (nI it) pr cp 1 gc 0 oc ml (nI n) ol vl tr ac ca (nI 2) (nI k) (nI i) cL cH im yn yl yt yr yo gk gb po yA mn cu og vl_ cd ou sN sS sQ sM sk := by
  have e : nI i + nI k = nI (i + k) := nI_add i k
  exact br_f (nI_ge (b := 4096) hit (by decide)) (br_t rfl (br_f (by decide) (br_t rfl (br_f (by rw [e]; exact nI_ge h (by omega)) (br_f (nI_ge (b := k) (a := 1) hk1 (by omega)) ⟨by decide, nm_r (pk_div (d := 2) (by omega) (by decide) (by decide)) (nm_r (nI_1 it) hp)⟩)))))
theorem cs_y2d {n i it fuel : Nat} (hit : it < 4096) (hn : n ≤ 32) (hi : i ≤ 40) (h : n < i + 1) (post : SY → Prop) (hp : wY_advance_2 post fuel (nI (it + 1)) pr cp 1 gc 0 oc ml (nI n) ol vl tr ac ca (nI 3) (nI 1) (nI 0) cL cH im 0 yl yt yr yo gk gb po yA mn cu og vl_ cd ou sN sS sQ sM sk) : wY_advance_2 post (fuel + 1) (nI it) pr cp 1 gc 0 oc ml (nI n) ol vl tr ac ca (nI 2) (nI 1) (nI i) cL cH im yn yl yt yr yo gk gb po yA mn cu og vl_ cd ou sN sS sQ sM sk := by
  have e : nI i + nI 1 = nI (i + 1) := nI_add i 1
  exact br_f (nI_ge (b := 4096) hit (by decide)) (br_t rfl (br_f (by decide) (br_t rfl (br_f (by rw [e]; exact nI_ge h (by omega)) (br_t (by decide) (nm_r (nI_1 it) hp))))))
theorem cs_y3z {n i it fuel : Nat} (hit : it < 4096) (hn : n ≤ 32) (h : i < n) (hz : cu i ≤ 0) (post : SY → Prop) (hp : wY_advance_2 post fuel (nI (it + 1)) pr cp 1 gc 0 oc ml (nI n) ol vl tr ac ca (nI 3) (nI 1) (nI (i + 1)) cL cH im 0 yl yt yr yo gk gb po yA mn cu og vl_ cd ou sN sS sQ sM sk) : wY_advance_2 post (fuel + 1) (nI it) pr cp 1 gc 0 oc ml (nI n) ol vl tr ac ca (nI 3) (nI 1) (nI i) cL cH im 0 yl yt yr yo gk gb po yA mn cu og vl_ cd ou sN sS sQ sM sk := by
  have ec : (nI i).toNatClampNeg = i := nI_clamp (by omega)
  exact br_f (nI_ge (b := 4096) hit (by decide)) (br_t rfl (br_f (by decide) (br_f (by decide) (br_t rfl (br_t rfl (br_t (nI_lt h (by omega)) (br_f (nI_pos (by omega)) ⟨vp_in_nI (by omega) (by omega), br_t (by rw [ec]; exact hz) (nm_r (nI_1 i) (nm_r (nI_1 it) hp))⟩)))))))
theorem cs_y3p {n i it fuel : Nat} (hit : it < 4096) (hn : n ≤ 32) (h : i < n) (hz : ¬ cu i ≤ 0) (post : SY → Prop) (hp : wY_advance_2 post fuel (nI (it + 1)) pr cp 1 gc 0 oc ml (nI n) ol vl tr ac ca (nI 3) (nI 1) (nI i) 0 (cu i) im 1 yl yt yr yo gk gb po yA mn cu og vl_ cd ou sN sS sQ sM sk) : wY_advance_2 post (fuel + 1) (nI it) pr cp 1 gc 0 oc ml (nI n) ol vl tr ac ca (nI 3) (nI 1) (nI i) cL cH im 0 yl yt yr yo gk gb po yA mn cu og vl_ cd ou sN sS sQ sM sk := by
  have ec : (nI i).toNatClampNeg = i := nI_clamp (by omega)
  exact br_f (nI_ge (b := 4096) hit (by decide)) (br_t rfl (br_f (by decide) (br_f (by decide) (br_t rfl (br_t rfl (br_t (nI_lt h (by omega)) (br_f (nI_pos (by omega)) ⟨vp_in_nI (by omega) (by omega), br_f (by rw [ec]; exact hz) ⟨vp_in_nI (by omega) (by omega), nm_r (e' := cu i) (by rw [ec]) (nm_r (nI_1 it) hp)⟩⟩)))))))
theorem cs_y3e {n i it fuel : Nat} (hit : it < 4096) (hn : n ≤ 32) (hi : i ≤ 40) (h : n ≤ i) (post : SY → Prop) (hp : wY_advance_2 post fuel (nI (it + 1)) pr cp 1 gc 0 oc ml (nI n) ol vl tr ac ca (nI 4) (nI 1) (nI 0) cL cH im 0 yl yt yr yo gk gb po yA mn cu og vl_ cd ou sN sS sQ sM sk) : wY_advance_2 post (fuel + 1) (nI it) pr cp 1 gc 0 oc ml (nI n) ol vl tr ac ca (nI 3) (nI 1) (nI i) cL cH im 0 yl yt yr yo gk gb po yA mn cu og vl_ cd ou sN sS sQ sM sk := by
  exact br_f (nI_ge (b := 4096) hit (by decide)) (br_t rfl (br_f (by decide) (br_f (by decide) (br_t rfl (br_t rfl (br_f (nI_nlt h (by omega)) (nm_r (nI_1 it) hp)))))))
theorem cs_y3s {n i it fuel : Nat} (hit : it < 4096) (hn : n ≤ 32) (h : i < n) (hz : ¬ cH ≤ cL) (post : SY → Prop) (hp : post (pr, cp, 1, gc, 0, oc, ml, nI n, ol, vl, tr, ac, ca, nI 3, nI 1, nI i, cL, cH, im, 1, yl, yt, yr, yo, gk, gb, po, yA, mn, cu, og, vl_, cd, ou, sN, sS, sQ, sM, sk)) : wY_advance_2 post (fuel + 1) (nI it) pr cp 1 gc 0 oc ml (nI n) ol vl tr ac ca (nI 3) (nI 1) (nI i) cL cH im 1 yl yt yr yo gk gb po yA mn cu og vl_ cd ou sN sS sQ sM sk := by
  exact br_f (nI_ge (b := 4096) hit (by decide)) (br_t rfl (br_f (by decide) (br_f (by decide) (br_t rfl (br_f (by decide) (br_f hz (br_f (nI_ge h (by omega)) hp)))))))
theorem cs_y3o {n i it fuel : Nat} (hit : it < 4096) (hn : n ≤ 32) (hi : i ≤ 40) (hz : cH ≤ cL ∨ n ≤ i) (post : SY → Prop) (hp : wY_advance_2 post fuel (nI (it + 1)) pr cp 1 gc 0 oc ml (nI n) ol vl tr ac ca (nI 3) (nI 1) (nI (i + 1)) 0 0 im 0 yl yt yr yo gk gb po yA mn cu og vl_ cd ou sN sS sQ sM sk) : wY_advance_2 post (fuel + 1) (nI it) pr cp 1 gc 0 oc ml (nI n) ol vl tr ac ca (nI 3) (nI 1) (nI i) cL cH im 1 yl yt yr yo gk gb po yA mn cu og vl_ cd ou sN sS sQ sM sk := by
  by_cases h : cH ≤ cL
  · exact br_f (nI_ge (b := 4096) hit (by decide)) (br_t rfl (br_f (by decide) (br_f (by decide) (br_t rfl (br_f (by decide) (br_t h (nm_r (nI_1 i) (nm_r (nI_1 it) hp))))))))
  · exact br_f (nI_ge (b := 4096) hit (by decide)) (br_t rfl (br_f (by decide) (br_f (by decide) (br_t rfl (br_f (by decide) (br_f h (br_t (nI_le (hz.resolve_left h) (by omega)) (nm_r (nI_1 i) (nm_r (nI_1 it) hp)))))))))
theorem cs_y4a {n i it fuel : Nat} (hit : it < 4096) (hn : n ≤ 32) (h : i + 1 < n) (hz : ¬ cu i ≤ cu (i + 1)) (post : SY → Prop) (hp : post (pr, cp, 1, gc, 0, oc, ml, nI n, ol, vl, tr, ac, ca, nI 4, nI 1, nI i, cL, cH, im, yn, yl, yt, yr, yo, gk, gb, po, yA, mn, cu, og, vl_, cd, ou, sN, sS, sQ, sM, sk)) : wY_advance_2 post (fuel + 1) (nI it) pr cp 1 gc 0 oc ml (nI n) ol vl tr ac ca (nI 4) (nI 1) (nI i) cL cH im yn yl yt yr yo gk gb po yA mn cu og vl_ cd ou sN sS sQ sM sk := by
  have e0 : (nI i).toNatClampNeg = i := nI_clamp (by omega)
  have e1 : (nI i + 1).toNatClampNeg = i + 1 := by rw [nI_1, nI_clamp (by omega)]
  have hv : vp_in (nI i) 32 := vp_in_nI (by omega) (by omega)
  have hv1 : vp_in (nI i + 1) 32 := by rw [nI_1]; exact vp_in_nI (by omega) (by omega)
  exact br_f (nI_ge (b := 4096) hit (by decide)) (br_t rfl (br_f (by decide) (br_f (by decide) (br_f (by decide) (br_f (by rw [nI_1]; exact nI_ge h (by omega)) (br_f (nI_pos (by omega)) ⟨hv, hv1, br_f (by rw [e0, e1]; exact hz) hp⟩))))))
theorem cs_y4b {n i it fuel : Nat} (hit : it < 4096) (hn : n ≤ 32) (h : i + 1 < n) (hz : cu i ≤ cu (i + 1)) (post : SY → Prop) (hp : wY_advance_2 post fuel (nI (it + 1)) pr cp 1 gc 0 oc ml (nI n) ol vl tr ac ca (nI 4) (nI 1) (nI (i + 1)) cL cH im yn yl yt yr yo gk gb po yA mn cu og vl_ cd ou sN sS sQ sM sk) : wY_advance_2 post (fuel + 1) (nI it) pr cp 1 gc 0 oc ml (nI n) ol vl tr ac ca (nI 4) (nI 1) (nI i) cL cH im yn yl yt yr yo gk gb po yA mn cu og vl_ cd ou sN sS sQ sM sk := by
  have e0 : (nI i).toNatClampNeg = i := nI_clamp (by omega)
  have e1 : (nI i + 1).toNatClampNeg = i + 1 := by rw [nI_1, nI_clamp (by omega)]
  have hv : vp_in (nI i) 32 := vp_in_nI (by omega) (by omega)
  have hv1 : vp_in (nI i + 1) 32 := by rw [nI_1]; exact vp_in_nI (by omega) (by omega)
  exact br_f (nI_ge (b := 4096) hit (by decide)) (br_t rfl (br_f (by decide) (br_f (by decide) (br_f (by decide) (br_f (by rw [nI_1]; exact nI_ge h (by omega)) (br_f (nI_pos (by omega)) ⟨hv, hv1, br_t (by rw [e0, e1]; exact hz) (nm_r (nI_1 i) (nm_r (nI_1 it) hp))⟩))))))
theorem cs_y4r {n i it fuel : Nat} (hit : it < 4096) (hn : n ≤ 32) (hi : i ≤ 40) (h : n ≤ i + 1) (post : SY → Prop) (hp : wY_advance_2 post fuel (nI (it + 1)) pr cp 1 gc 0 oc ml (nI n) ol vl tr ac ca (nI 1) (nI 4) (nI 0) 0 0 0 0 yl yt yr yo gk gb po yA mn cu og vl_ cd ou sN sS sQ sM sk) : wY_advance_2 post (fuel + 1) (nI it) pr cp 1 gc 0 oc ml (nI n) ol vl tr ac ca (nI 4) (nI 1) (nI i) cL cH 1 yn yl yt yr yo gk gb po yA mn cu og vl_ cd ou sN sS sQ sM sk := by
  exact br_f (nI_ge (b := 4096) hit (by decide)) (br_t rfl (br_f (by decide) (br_f (by decide) (br_f (by decide) (br_t (by rw [nI_1]; exact nI_le h (by omega)) (br_t rfl (nm_r (nI_1 it) hp)))))))
theorem cs_y4d {n i it fuel : Nat} (hit : it < 4096) (hn : n ≤ 32) (hi : i ≤ 40) (h : n ≤ i + 1) (post : SY → Prop) (hp : wY_advance_2 post fuel (nI (it + 1)) pr cp 2 gc 0 oc ml (nI n) ol vl tr ac ca 0 0 0 0 0 0 0 yl yt yr yo gk gb po yA mn cu og vl_ cd ou sN sS sQ sM sk) : wY_advance_2 post (fuel + 1) (nI it) pr cp 1 gc 0 oc ml (nI n) ol vl tr ac ca (nI 4) (nI 1) (nI i) cL cH 0 yn yl yt yr yo gk gb po yA mn cu og vl_ cd ou sN sS sQ sM sk := by
  exact br_f (nI_ge (b := 4096) hit (by decide)) (br_t rfl (br_f (by decide) (br_f (by decide) (br_f (by decide) (br_t (by rw [nI_1]; exact nI_le h (by omega)) (br_f (by decide) (nm_r (nI_1 it) hp)))))))
theorem cs_ydone {it fuel : Nat} (post : SY → Prop) (hp : post (pr, cp, 2, gc, gp, oc, ml, cl, ol, vl, tr, ac, ca, pa, bk, ix, cL, cH, im, yn, yl, yt, yr, yo, gk, gb, po, yA, mn, cu, og, vl_, cd, ou, sN, sS, sQ, sM, sk)) : wY_advance_2 post (fuel + 1) (nI it) pr cp 2 gc gp oc ml cl ol vl tr ac ca pa bk ix cL cH im yn yl yt yr yo gk gb po yA mn cu og vl_ cd ou sN sS sQ sM sk :=
  br_c (fun _ => hp) (fun _ => br_f (by decide) hp)
end
end
section
def cs_H (ph gp cl ol vl pa bk ix lo hi im yn : Int32) (cu : Nat → Int32) : Prop :=
  ∃ n o v : Nat, n ≤ 32 ∧ o ≤ 32 ∧ v ≤ 32 ∧ cl = nI n ∧ ol = nI o ∧ vl = nI v ∧ cs_by cu n ∧ (ph = 2 ∨ (ph = 1 ∧ gp = 0 ∧ cs_at pa bk ix lo hi im yn n))
theorem cs_HF {ph gp cl ol vl pa bk ix lo hi im yn : Int32} {cu : Nat → Int32} (h : cs_H ph gp cl ol vl pa bk ix lo hi im yn cu) : cs_F ph gp cl ol vl pa bk ix lo hi im yn cu := by
  obtain ⟨n, o, v, a1, a2, a3, a4, a5, a6, a7, a8⟩ := h
  refine ⟨n, o, v, a1, a2, a3, a4, a5, a6, a7, ?_⟩
  rcases a8 with a | ⟨a, b, c⟩
  · exact Or.inr (Or.inl a)
  · exact Or.inr (Or.inr ⟨a, b, Or.inr c⟩)
def cs_V (u : SX) (v : SY) : Prop :=
  ∃ (cp pr ph gc gp oc ml cl ol vl tr ac ca pa bk ix cL cH im tl tk dr cc ld sd yn yl yt yr yo : Int32) (gk gb ge po oa mn cu og vl_ tp ce lN lC sk yA cd ou sN sS sQ sM : Nat → Int32), u = (cp, pr, ph, gc, gp, oc, ml, cl, ol, vl, tr, ac, ca, pa, bk, ix, cL, cH, im, tl, tk, dr, cc, ld, sd, gk, gb, ge, po, oa, mn, cu, og, vl_, tp, ce, lN, lC, sk) ∧ v = (pr, cp, ph, gc, gp, oc, ml, cl, ol, vl, tr, ac, ca, pa, bk, ix, cL, cH, im, yn, yl, yt, yr, yo, gk, gb, po, yA, mn, cu, og, vl_, cd, ou, sN, sS, sQ, sM, sk) ∧ cs_M cp ml mn ∧ cs_Gn gc gp gk gb ge ∧ cs_Pr oc po oa yA ∧ cs_H ph gp cl ol vl pa bk ix cL cH im yn cu
theorem cs_Vmk {cp pr ph gc gp oc ml cl ol vl tr ac ca pa bk ix cL cH im tl tk dr cc ld sd yn yl yt yr yo : Int32} {gk gb ge po oa mn cu og vl_ tp ce lN lC sk yA cd ou sN sS sQ sM : Nat → Int32} (hM : cs_M cp ml mn) (hG : cs_Gn gc gp gk gb ge) (hP : cs_Pr oc po oa yA) (hF : cs_H ph gp cl ol vl pa bk ix cL cH im yn cu) : cs_V (cp, pr, ph, gc, gp, oc, ml, cl, ol, vl, tr, ac, ca, pa, bk, ix, cL, cH, im, tl, tk, dr, cc, ld, sd, gk, gb, ge, po, oa, mn, cu, og, vl_, tp, ce, lN, lC, sk) (pr, cp, ph, gc, gp, oc, ml, cl, ol, vl, tr, ac, ca, pa, bk, ix, cL, cH, im, yn, yl, yt, yr, yo, gk, gb, po, yA, mn, cu, og, vl_, cd, ou, sN, sS, sQ, sM, sk) :=
  ⟨cp, pr, ph, gc, gp, oc, ml, cl, ol, vl, tr, ac, ca, pa, bk, ix, cL, cH, im, tl, tk, dr, cc, ld, sd, yn, yl, yt, yr, yo, gk, gb, ge, po, oa, mn, cu, og, vl_, tp, ce, lN, lC, sk, yA, cd, ou, sN, sS, sQ, sM, rfl, rfl, hM, hG, hP, hF⟩
theorem cs_Velim {u : SX} {v : SY} {P : SX → SY → Prop} (I : cs_V u v) (h : ∀ (cp pr ph gc gp oc ml cl ol vl tr ac ca pa bk ix cL cH im tl tk dr cc ld sd yn yl yt yr yo : Int32) (gk gb ge po oa mn cu og vl_ tp ce lN lC sk yA cd ou sN sS sQ sM : Nat → Int32), cs_M cp ml mn → cs_Gn gc gp gk gb ge → cs_Pr oc po oa yA → cs_H ph gp cl ol vl pa bk ix cL cH im yn cu → P (cp, pr, ph, gc, gp, oc, ml, cl, ol, vl, tr, ac, ca, pa, bk, ix, cL, cH, im, tl, tk, dr, cc, ld, sd, gk, gb, ge, po, oa, mn, cu, og, vl_, tp, ce, lN, lC, sk) (pr, cp, ph, gc, gp, oc, ml, cl, ol, vl, tr, ac, ca, pa, bk, ix, cL, cH, im, yn, yl, yt, yr, yo, gk, gb, po, yA, mn, cu, og, vl_, cd, ou, sN, sS, sQ, sM, sk)) : P u v := by
  obtain ⟨cp, pr, ph, gc, gp, oc, ml, cl, ol, vl, tr, ac, ca, pa, bk, ix, cL, cH, im, tl, tk, dr, cc, ld, sd, yn, yl, yt, yr, yo, gk, gb, ge, po, oa, mn, cu, og, vl_, tp, ce, lN, lC, sk, yA, cd, ou, sN, sS, sQ, sM, rfl, rfl, hM, hG, hP, hF⟩ := I
  exact h cp pr ph gc gp oc ml cl ol vl tr ac ca pa bk ix cL cH im tl tk dr cc ld sd yn yl yt yr yo gk gb ge po oa mn cu og vl_ tp ce lN lC sk yA cd ou sN sS sQ sM hM hG hP hF
def cs_go (cp pr gc oc ml ol vl tr ac ca tl tk dr cc ld sd yl yt yr yo : Int32) (gk gb ge po oa mn cu og vl_ tp ce lN lC sk yA cd ou sN sS sQ sM : Nat → Int32) (k0 n M : Nat) (pa bk xi xl xh im ix lo hi yn : Int32) : Prop :=
  ∃ (u' : SX) (v' : SY), cs_V u' v' ∧
  (∀ (post : SX → Prop) (fuel st : Nat), M < fuel → st + M < 1000000 → post u' → wX_moveToTrial_2 post fuel (nI st) cp pr 1 gc 0 oc ml (nI n) ol vl tr ac ca pa bk xi xl xh im tl tk dr cc ld sd gk gb ge po oa mn cu og vl_ tp ce lN lC sk) ∧
  (∀ (post : SY → Prop) (fuel it : Nat), M < fuel → it + M < 4096 → post v' → wY_advance_2 post fuel (nI it) pr cp 1 gc 0 oc ml (nI n) ol vl tr ac ca pa bk ix lo hi im yn yl yt yr yo gk gb po yA mn cu og vl_ cd ou sN sS sQ sM sk)
def cs_mv (n : Nat) (cu : Nat → Int32) (pa bk xi xl xh im ix lo hi yn : Int32) (μ : Nat) : Prop :=
  ∃ k i w : Nat, bk = nI k ∧ ix = nI i ∧ ((im = 0 ∧ w = 0) ∨ (im = 1 ∧ w = 500)) ∧
  ((pa = nI 1 ∧ (k = 1 ∨ k = 2 ∨ k = 4) ∧ i ≤ 33 ∧ xi = nI i ∧ xl = 0 ∧ xh = 0 ∧ lo = 0 ∧ hi = 0 ∧ yn = 0 ∧ μ = w + 400 + k / 2) ∨
  (pa = nI 2 ∧ (k = 1 ∨ k = 2 ∨ k = 4) ∧ i ≤ 33 ∧ xi = nI i ∧ xl = 0 ∧ xh = 0 ∧ lo = 0 ∧ hi = 0 ∧ yn = 0 ∧ μ = w + 200 + 50 * (k / 2) + (40 - i)) ∨
  (pa = nI 3 ∧ k = 1 ∧ i ≤ 34 ∧ yn = 0 ∧ lo = 0 ∧ hi = 0 ∧ (∃ j : Nat, xi = nI j ∧ j ≤ 34 ∧ ((j = i ∧ xl = 0 ∧ xh = (if i < n then cu i else 0)) ∨ (n ≤ j ∧ n ≤ i))) ∧ μ = w + 50 + 3 * (40 - i) + 2) ∨
  (pa = nI 3 ∧ k = 1 ∧ i ≤ 33 ∧ yn = 1 ∧ xi = nI i ∧ (∃ l h : Nat, lo = nI l ∧ hi = nI h ∧ xl = nI l ∧ xh = nI h ∧ l ≤ 256 ∧ h ≤ 255) ∧ μ = w + 50 + 3 * (40 - i) + 1) ∨
  (pa = nI 4 ∧ k = 1 ∧ i ≤ 33 ∧ xi = nI i ∧ xl = 0 ∧ xh = 0 ∧ lo = 0 ∧ hi = 0 ∧ yn = 0 ∧ μ = w + (40 - i)))
section
variable {cp pr ph gc gp oc ml cl ol vl tr ac ca pa bk ix cL cH im tl tk dr cc ld sd yn yl yt yr yo : Int32} {gk gb ge po oa mn cu og vl_ tp ce lN lC sk yA cd ou sN sS sQ sM : Nat → Int32}
variable {k0 n M : Nat} {xi xl xh lo hi pa2 bk2 xi2 xl2 xh2 im2 ix2 lo2 hi2 yn2 : Int32}
theorem cs_goT (h : cs_go cp pr gc oc ml ol vl tr ac ca tl tk dr cc ld sd yl yt yr yo gk gb ge po oa mn cu og vl_ tp ce lN lC sk yA cd ou sN sS sQ sM k0 n M pa2 bk2 xi2 xl2 xh2 im2 ix2 lo2 hi2 yn2)
    (hx : ∀ (post : SX → Prop) (fuel st : Nat), st < 1000000 → wX_moveToTrial_2 post fuel (nI (st + 1)) cp pr 1 gc 0 oc ml (nI n) ol vl tr ac ca pa2 bk2 xi2 xl2 xh2 im2 tl tk dr cc ld sd gk gb ge po oa mn cu og vl_ tp ce lN lC sk → wX_moveToTrial_2 post (fuel + 1) (nI st) cp pr 1 gc 0 oc ml (nI n) ol vl tr ac ca pa bk xi xl xh im tl tk dr cc ld sd gk gb ge po oa mn cu og vl_ tp ce lN lC sk)
    (hy : ∀ (post : SY → Prop) (fuel it : Nat), it < 4096 → wY_advance_2 post fuel (nI (it + 1)) pr cp 1 gc 0 oc ml (nI n) ol vl tr ac ca pa2 bk2 ix2 lo2 hi2 im2 yn2 yl yt yr yo gk gb po yA mn cu og vl_ cd ou sN sS sQ sM sk → wY_advance_2 post (fuel + 1) (nI it) pr cp 1 gc 0 oc ml (nI n) ol vl tr ac ca pa bk ix lo hi im yn yl yt yr yo gk gb po yA mn cu og vl_ cd ou sN sS sQ sM sk) :
    cs_go cp pr gc oc ml ol vl tr ac ca tl tk dr cc ld sd yl yt yr yo gk gb ge po oa mn cu og vl_ tp ce lN lC sk yA cd ou sN sS sQ sM k0 n (M + 1) pa bk xi xl xh im ix lo hi yn := by
  obtain ⟨u', v', hR, HX, HY⟩ := h
  refine ⟨u', v', hR, fun post fuel st h1 h2 hp => ?_, fun post fuel it h1 h2 hp => ?_⟩
  · obtain ⟨f, rfl⟩ : ∃ f, fuel = f + 1 := ⟨fuel - 1, by omega⟩
    exact hx post f st (by omega) (HX post f (st + 1) (by omega) (by omega) hp)
  · obtain ⟨f, rfl⟩ : ∃ f, fuel = f + 1 := ⟨fuel - 1, by omega⟩
    exact hy post f it (by omega) (HY post f (it + 1) (by omega) (by omega) hp)
theorem cs_goS (h : cs_go cp pr gc oc ml ol vl tr ac ca tl tk dr cc ld sd yl yt yr yo gk gb ge po oa mn cu og vl_ tp ce lN lC sk yA cd ou sN sS sQ sM k0 n M pa bk xi xl xh im ix2 lo2 hi2 yn2)
    (hy : ∀ (post : SY → Prop) (fuel it : Nat), it < 4096 → wY_advance_2 post fuel (nI (it + 1)) pr cp 1 gc 0 oc ml (nI n) ol vl tr ac ca pa bk ix2 lo2 hi2 im yn2 yl yt yr yo gk gb po yA mn cu og vl_ cd ou sN sS sQ sM sk → wY_advance_2 post (fuel + 1) (nI it) pr cp 1 gc 0 oc ml (nI n) ol vl tr ac ca pa bk ix lo hi im yn yl yt yr yo gk gb po yA mn cu og vl_ cd ou sN sS sQ sM sk) :
    cs_go cp pr gc oc ml ol vl tr ac ca tl tk dr cc ld sd yl yt yr yo gk gb ge po oa mn cu og vl_ tp ce lN lC sk yA cd ou sN sS sQ sM k0 n (M + 1) pa bk xi xl xh im ix lo hi yn := by
  obtain ⟨u', v', hR, HX, HY⟩ := h
  refine ⟨u', v', hR, fun post fuel st h1 h2 hp => HX post fuel st (by omega) (by omega) hp, fun post fuel it h1 h2 hp => ?_⟩
  obtain ⟨f, rfl⟩ : ∃ f, fuel = f + 1 := ⟨fuel - 1, by omega⟩
  exact hy post f it (by omega) (HY post f (it + 1) (by omega) (by omega) hp)
theorem cs_goE (hR : cs_V (cp, pr, 1, gc, 0, oc, ml, nI n, ol, vl, tr, ac, ca, pa, bk, ix, cL, cH, im, tl, tk, dr, cc, ld, sd, gk, gb, ge, po, oa, mn, cu, og, vl_, tp, ce, lN, lC, sk) (pr, cp, 1, gc, 0, oc, ml, nI n, ol, vl, tr, ac, ca, pa, bk, ix, cL, cH, im, yn, yl, yt, yr, yo, gk, gb, po, yA, mn, cu, og, vl_, cd, ou, sN, sS, sQ, sM, sk))
    (hx : ∀ (post : SX → Prop) (fuel st : Nat), st < 1000000 → post (cp, pr, 1, gc, 0, oc, ml, nI n, ol, vl, tr, ac, ca, pa, bk, ix, cL, cH, im, tl, tk, dr, cc, ld, sd, gk, gb, ge, po, oa, mn, cu, og, vl_, tp, ce, lN, lC, sk) → wX_moveToTrial_2 post (fuel + 1) (nI st) cp pr 1 gc 0 oc ml (nI n) ol vl tr ac ca pa bk ix cL cH im tl tk dr cc ld sd gk gb ge po oa mn cu og vl_ tp ce lN lC sk)
    (hy : ∀ (post : SY → Prop) (fuel it : Nat), it < 4096 → post (pr, cp, 1, gc, 0, oc, ml, nI n, ol, vl, tr, ac, ca, pa, bk, ix, cL, cH, im, yn, yl, yt, yr, yo, gk, gb, po, yA, mn, cu, og, vl_, cd, ou, sN, sS, sQ, sM, sk) → wY_advance_2 post (fuel + 1) (nI it) pr cp 1 gc 0 oc ml (nI n) ol vl tr ac ca pa bk ix cL cH im yn yl yt yr yo gk gb po yA mn cu og vl_ cd ou sN sS sQ sM sk) :
    cs_go cp pr gc oc ml ol vl tr ac ca tl tk dr cc ld sd yl yt yr yo gk gb ge po oa mn cu og vl_ tp ce lN lC sk yA cd ou sN sS sQ sM k0 n (M + 1) pa bk ix cL cH im ix cL cH yn := by
  refine ⟨_, _, hR, fun post fuel st h1 h2 hp => ?_, fun post fuel it h1 h2 hp => ?_⟩
  · obtain ⟨f, rfl⟩ : ∃ f, fuel = f + 1 := ⟨fuel - 1, by omega⟩
    exact hx post f st (by omega) hp
  · obtain ⟨f, rfl⟩ : ∃ f, fuel = f + 1 := ⟨fuel - 1, by omega⟩
    exact hy post f it (by omega) hp
theorem cs_goR {oo vv : Nat} (hn : n ≤ 32) (ho : oo ≤ 32) (hv : vv ≤ 32) (hM : cs_M cp ml mn) (hG : cs_Gn gc 0 gk gb ge) (hP : cs_Pr oc po oa yA) (hb : cs_by cu n) (him : im = 0 ∨ im = 1) {p k i l h : Nat} (hat : ((p = 1 ∨ p = 2) ∧ (k = 1 ∨ k = 2 ∨ k = 4) ∧ i + k ≤ n ∧ l = 0 ∧ h = 0 ∧ yn = 0) ∨ (p = 3 ∧ k = 1 ∧ i < n ∧ l < h ∧ h ≤ 255 ∧ yn = 1) ∨ (p = 4 ∧ k = 1 ∧ i + 1 < n ∧ l = 0 ∧ h = 0 ∧ yn = 0)) : cs_V (cp, pr, 1, gc, 0, oc, ml, nI n, nI oo, nI vv, tr, ac, ca, nI p, nI k, nI i, nI l, nI h, im, tl, tk, dr, cc, ld, sd, gk, gb, ge, po, oa, mn, cu, og, vl_, tp, ce, lN, lC, sk) (pr, cp, 1, gc, 0, oc, ml, nI n, nI oo, nI vv, tr, ac, ca, nI p, nI k, nI i, nI l, nI h, im, yn, yl, yt, yr, yo, gk, gb, po, yA, mn, cu, og, vl_, cd, ou, sN, sS, sQ, sM, sk) :=
  cs_Vmk hM hG hP ⟨n, oo, vv, hn, ho, hv, rfl, rfl, rfl, hb, Or.inr ⟨rfl, rfl, p, k, i, l, h, rfl, rfl, rfl, rfl, rfl, him, hat⟩⟩
theorem cs_goAll {oo vv : Nat} (hn : n ≤ 32) (ho : oo ≤ 32) (hv : vv ≤ 32) (hM : cs_M cp ml mn) (hG : cs_Gn gc 0 gk gb ge) (hP : cs_Pr oc po oa yA) (hb : cs_by cu n) : ∀ (M : Nat) (pa bk xi xl xh im ix lo hi yn : Int32) (μ : Nat), cs_mv n cu pa bk xi xl xh im ix lo hi yn μ → μ < M → cs_go cp pr gc oc ml (nI oo) (nI vv) tr ac ca tl tk dr cc ld sd yl yt yr yo gk gb ge po oa mn cu og vl_ tp ce lN lC sk yA cd ou sN sS sQ sM k0 n M pa bk xi xl xh im ix lo hi yn := by
  intro M
  induction M with
  | zero => intro pa bk xi xl xh im ix lo hi yn μ _ h; omega
  | succ M ih =>
    intro pa bk xi xl xh im ix lo hi yn μ hmv hμ
    obtain ⟨k, i, w, rfl, rfl, hw, hC⟩ := hmv
    have him : im = 0 ∨ im = 1 := by
      rcases hw with a | a
      · exact Or.inl a.1
      · exact Or.inr a.1
    rcases hC with ⟨rfl, hk, hi', rfl, rfl, rfl, rfl, rfl, rfl, rfl⟩ | ⟨rfl, hk, hi', rfl, rfl, rfl, rfl, rfl, rfl, rfl⟩ | ⟨rfl, rfl, hi', rfl, rfl, rfl, ⟨j, rfl, hj, hjj⟩, rfl⟩ | ⟨rfl, rfl, hi', rfl, rfl, ⟨l, h, rfl, rfl, rfl, rfl, hl, hh⟩, rfl⟩ | ⟨rfl, rfl, hi', rfl, rfl, rfl, rfl, rfl, rfl, rfl⟩
    · skip
      by_cases h : i + k ≤ n
      · exact cs_goE (cs_goR (l := 0) (h := 0) hn ho hv hM hG hP hb him (Or.inl ⟨Or.inl rfl, hk, h, rfl, rfl, rfl⟩)) (fun post fuel st h1 hp => cs_mstop h1 (fun q hq => cs_at1 hn (by omega) h q hq) post hp) (fun post fuel it h1 hp => cs_y1a h1 hn (by omega) h post hp)
      · by_cases h1k : k = 1
        · subst h1k
          exact cs_goT (ih (nI 2) (nI 4) (nI 0) 0 0 im (nI 0) 0 0 0 _ ⟨4, 0, w, rfl, rfl, hw, Or.inr (Or.inl ⟨rfl, by omega, by omega, rfl, rfl, rfl, rfl, rfl, rfl, rfl⟩)⟩ (by omega)) (fun post fuel st h1 hp => cs_mstep h1 (fun q hq => cs_atO (by decide) hn (by omega) (by omega) (by omega) q hq) (fun p hp => cs_soP1 hn (by omega) (by omega) p hp) post hp) (fun post fuel it h1 hp => cs_y1c h1 hn (by omega) (by omega) post hp)
        · exact cs_goT (ih (nI 1) (nI (k / 2)) (nI 0) 0 0 im (nI 0) 0 0 0 _ ⟨k / 2, 0, w, rfl, rfl, hw, Or.inl ⟨rfl, by omega, by omega, rfl, rfl, rfl, rfl, rfl, rfl, rfl⟩⟩ (by omega)) (fun post fuel st h1 hp => cs_mstep h1 (fun q hq => cs_atO (by decide) hn (by omega) (by omega) (by omega) q hq) (fun p hp => cs_soH (by decide) (by decide) hn (by omega) (by omega) (by omega) (by omega) p hp) post hp) (fun post fuel it h1 hp => cs_y1b h1 hn (by omega) (by omega) (by omega) (by omega) post hp)
    · skip
      by_cases h : i + k ≤ n
      · obtain ⟨z, hz, hX, hY⟩ := cs_bz (cp := cp) (pr := pr) (ph := 1) (gc := gc) (gp := 0) (oc := oc) (ml := ml) (ol := nI oo) (vl := nI vv) (tr := tr) (ac := ac) (ca := ca) (pa := nI 2) (cL := 0) (cH := 0) (im := im) (tl := tl) (tk := tk) (dr := dr) (cc := cc) (ld := ld) (sd := sd) (gk := gk) (gb := gb) (ge := ge) (po := po) (oa := oa) (mn := mn) (cu := cu) (og := og) (vl_ := vl_) (tp := tp) (ce := ce) (lN := lN) (lC := lC) (sk := sk) (yn := 0) (yl := yl) (yt := yt) (yr := yr) (yo := yo) (yA := yA) (cd := cd) (ou := ou) (sN := sN) (sS := sS) (sQ := sQ) (sM := sM) (n := n) (i := i) (k := k) hn h
        rcases hz with rfl | rfl
        · exact cs_goE (cs_goR (l := 0) (h := 0) hn ho hv hM hG hP hb him (Or.inl ⟨Or.inr rfl, hk, h, rfl, rfl, rfl⟩)) (fun post fuel st h1 hp => cs_mstop h1 (fun q hq => cs_at2 hn (by omega) h hX q (br_t rfl hq)) post hp) (fun post fuel it h1 hp => cs_y2a h1 hn (by omega) h hY post hp)
        · exact cs_goT (ih (nI 2) (nI k) (nI (i + 1)) 0 0 im (nI (i + 1)) 0 0 0 _ ⟨k, i + 1, w, rfl, rfl, hw, Or.inr (Or.inl ⟨rfl, hk, by omega, rfl, rfl, rfl, rfl, rfl, rfl, rfl⟩)⟩ (by omega)) (fun post fuel st h1 hp => cs_mstep h1 (fun q hq => cs_at2 hn (by omega) h hX q (br_f (by decide) hq)) (fun p hp => cs_soI (by decide) (by decide) hn (by omega) h p hp) post hp) (fun post fuel it h1 hp => cs_y2b h1 hn (by omega) h hY post hp)
      · by_cases h1k : k = 1
        · subst h1k
          exact cs_goT (ih (nI 3) (nI 1) (nI 0) 0 (if 0 < n then cu 0 else 0) im (nI 0) 0 0 0 _ ⟨1, 0, w, rfl, rfl, hw, Or.inr (Or.inr (Or.inl ⟨rfl, rfl, by omega, rfl, rfl, rfl, ⟨0, rfl, by omega, Or.inl ⟨rfl, rfl, rfl⟩⟩, rfl⟩))⟩ (by omega)) (fun post fuel st h1 hp => cs_mstep h1 (fun q hq => cs_atO (by decide) hn (by omega) (by omega) (by omega) q hq) (fun p hp => cs_soP2 hn (by omega) (by omega) p hp) post hp) (fun post fuel it h1 hp => cs_y2d h1 hn (by omega) (by omega) post hp)
        · exact cs_goT (ih (nI 2) (nI (k / 2)) (nI 0) 0 0 im (nI 0) 0 0 0 _ ⟨k / 2, 0, w, rfl, rfl, hw, Or.inr (Or.inl ⟨rfl, by omega, by omega, rfl, rfl, rfl, rfl, rfl, rfl, rfl⟩)⟩ (by omega)) (fun post fuel st h1 hp => cs_mstep h1 (fun q hq => cs_atO (by decide) hn (by omega) (by omega) (by omega) q hq) (fun p hp => cs_soH (by decide) (by decide) hn (by omega) (by omega) (by omega) (by omega) p hp) post hp) (fun post fuel it h1 hp => cs_y2c h1 hn (by omega) (by omega) (by omega) (by omega) post hp)
    · skip
      by_cases h : i < n
      · have hj3 : j = i ∧ xl = 0 ∧ xh = (if i < n then cu i else 0) := hjj.resolve_right (fun z => absurd z.2 (by omega))
        obtain ⟨rfl, rfl, rfl⟩ := hj3
        rw [if_pos h]
        obtain ⟨b, hb2, eb⟩ := hb j h
        by_cases hz : cu j ≤ 0
        · have hc : cu j = 0 := by
            rw [eb] at hz ⊢
            have := (nI_leI (b := 0) (by omega) (by decide)).mp hz
            have z : b = 0 := by omega
            rw [z]
            rfl
          exact cs_goT (ih (nI 3) (nI 1) (nI (j + 1)) 0 (if j + 1 < n then cu (j + 1) else 0) im (nI (j + 1)) 0 0 0 _ ⟨1, j + 1, w, rfl, rfl, hw, Or.inr (Or.inr (Or.inl ⟨rfl, rfl, by omega, rfl, rfl, rfl, ⟨j + 1, rfl, by omega, Or.inl ⟨rfl, rfl, rfl⟩⟩, rfl⟩))⟩ (by omega)) (fun post fuel st h1 hp => cs_mstep h1 (fun q hq => cs_at3 hn h q (br_t hz hq)) (fun p hp => cs_soI3 hn h p hp) post hp) (fun post fuel it h1 hp => cs_y3z h1 hn h hz post hp)
        · refine cs_goS (ih (nI 3) (nI 1) (nI j) 0 (cu j) im (nI j) 0 (cu j) 1 _ ⟨1, j, w, rfl, rfl, hw, Or.inr (Or.inr (Or.inr (Or.inl ⟨rfl, rfl, by omega, rfl, rfl, ⟨0, b, rfl, eb, rfl, eb, by omega, by omega⟩, rfl⟩)))⟩ (by omega)) (fun post fuel it h1 hp => cs_y3p h1 hn h hz post hp)
      · have hjn : n ≤ j := by
          rcases hjj with z | z
          · omega
          · exact z.1
        exact cs_goT (ih (nI 4) (nI 1) (nI 0) 0 0 im (nI 0) 0 0 0 _ ⟨1, 0, w, rfl, rfl, hw, Or.inr (Or.inr (Or.inr (Or.inr ⟨rfl, rfl, by omega, rfl, rfl, rfl, rfl, rfl, rfl, rfl⟩)))⟩ (by omega)) (fun post fuel st h1 hp => cs_mstep h1 (fun q hq => cs_atO (by decide) hn (by omega) (by omega) (by omega) q hq) (fun p hp => cs_soP3 hn (by omega) (by omega) p hp) post hp) (fun post fuel it h1 hp => cs_y3e h1 hn (by omega) (by omega) post hp)
    · skip
      by_cases hin : i < n
      · by_cases hlh : l < h
        · have hz : ¬ nI h ≤ nI l := nI_ge hlh (by omega)
          exact cs_goE (cs_goR hn ho hv hM hG hP hb him (Or.inr (Or.inl ⟨rfl, rfl, hin, hlh, hh, rfl⟩))) (fun post fuel st h1 hp => cs_mstop h1 (fun q hq => cs_at3 hn hin q (br_f hz hq)) post hp) (fun post fuel it h1 hp => cs_y3s h1 hn hin hz post hp)
        · have hz : nI h ≤ nI l := nI_le (by omega) (by omega)
          exact cs_goT (ih (nI 3) (nI 1) (nI (i + 1)) 0 (if i + 1 < n then cu (i + 1) else 0) im (nI (i + 1)) 0 0 0 _ ⟨1, i + 1, w, rfl, rfl, hw, Or.inr (Or.inr (Or.inl ⟨rfl, rfl, by omega, rfl, rfl, rfl, ⟨i + 1, rfl, by omega, Or.inl ⟨rfl, rfl, rfl⟩⟩, rfl⟩))⟩ (by omega)) (fun post fuel st h1 hp => cs_mstep h1 (fun q hq => cs_at3 hn hin q (br_t hz hq)) (fun p hp => cs_soI3 hn hin p hp) post hp) (fun post fuel it h1 hp => cs_y3o h1 hn (by omega) (Or.inl hz) post hp)
      · exact cs_goS (ih (nI 3) (nI 1) (nI i) (nI l) (nI h) im (nI (i + 1)) 0 0 0 _ ⟨1, i + 1, w, rfl, rfl, hw, Or.inr (Or.inr (Or.inl ⟨rfl, rfl, by omega, rfl, rfl, rfl, ⟨i, rfl, by omega, Or.inr ⟨by omega, by omega⟩⟩, rfl⟩))⟩ (by omega)) (fun post fuel it h1 hp => cs_y3o h1 hn (by omega) (Or.inr (by omega)) post hp)
    · skip
      by_cases h : i + 1 < n
      · by_cases hz : cu i ≤ cu (i + 1)
        · exact cs_goT (ih (nI 4) (nI 1) (nI (i + 1)) 0 0 im (nI (i + 1)) 0 0 0 _ ⟨1, i + 1, w, rfl, rfl, hw, Or.inr (Or.inr (Or.inr (Or.inr ⟨rfl, rfl, by omega, rfl, rfl, rfl, rfl, rfl, rfl, rfl⟩)))⟩ (by omega)) (fun post fuel st h1 hp => cs_mstep h1 (fun q hq => cs_at4 hn h q (br_t hz hq)) (fun p hp => cs_soI4 hn h p hp) post hp) (fun post fuel it h1 hp => cs_y4b h1 hn h hz post hp)
        · exact cs_goE (cs_goR (l := 0) (h := 0) hn ho hv hM hG hP hb him (Or.inr (Or.inr ⟨rfl, rfl, h, rfl, rfl, rfl⟩))) (fun post fuel st h1 hp => cs_mstop h1 (fun q hq => cs_at4 hn h q (br_f hz hq)) post hp) (fun post fuel it h1 hp => cs_y4a h1 hn h hz post hp)
      · rcases hw with ⟨rfl, rfl⟩ | ⟨rfl, rfl⟩
        · refine ⟨(cp, pr, 2, gc, 0, oc, ml, nI n, nI oo, nI vv, tr, ac, ca, 0, 0, 0, 0, 0, 0, tl, tk, dr, cc, ld, sd, gk, gb, ge, po, oa, mn, cu, og, vl_, tp, ce, lN, lC, sk), (pr, cp, 2, gc, 0, oc, ml, nI n, nI oo, nI vv, tr, ac, ca, 0, 0, 0, 0, 0, 0, 0, yl, yt, yr, yo, gk, gb, po, yA, mn, cu, og, vl_, cd, ou, sN, sS, sQ, sM, sk), cs_Vmk hM hG hP ⟨n, oo, vv, hn, ho, hv, rfl, rfl, rfl, hb, Or.inl rfl⟩, fun post fuel st h1 h2 hp => ?_, fun post fuel it h1 h2 hp => ?_⟩
          · obtain ⟨f, rfl⟩ : ∃ f, fuel = f + 1 + 1 := ⟨fuel - 2, by omega⟩
            exact cs_mstep (by omega) (fun q hq => cs_atO4 hn (by omega) (by omega) q hq) (fun p hp => cs_so4D hn (by omega) (by omega) p hp) post (cs_mdone post hp)
          · obtain ⟨f, rfl⟩ : ∃ f, fuel = f + 1 + 1 := ⟨fuel - 2, by omega⟩
            exact cs_y4d (by omega) hn (by omega) (by omega) post (cs_ydone post hp)
        · exact cs_goT (ih (nI 1) (nI 4) (nI 0) 0 0 0 (nI 0) 0 0 0 _ ⟨4, 0, 0, rfl, rfl, Or.inl ⟨rfl, rfl⟩, Or.inl ⟨rfl, by omega, by omega, rfl, rfl, rfl, rfl, rfl, rfl, rfl⟩⟩ (by omega)) (fun post fuel st h1 hp => cs_mstep h1 (fun q hq => cs_atO4 hn (by omega) (by omega) q hq) (fun p hp => cs_so4R hn (by omega) (by omega) p hp) post hp) (fun post fuel it h1 hp => cs_y4r h1 hn (by omega) (by omega) post hp)
end
end
section
section
variable {cp pr ph gc gp oc ml cl ol vl tr ac ca pa bk ix cL cH im tl tk dr cc ld sd yn yl yt yr yo : Int32} {gk gb ge po oa mn cu og vl_ tp ce lN lC sk yA cd ou sN sS sQ sM : Nat → Int32}
theorem cs_pt {n oo vv : Nat} (hn : n ≤ 32) (ho : oo ≤ 32) (hv : vv ≤ 32) (hM : cs_M cp ml mn) (hG : cs_Gn gc 0 gk gb ge) (hP : cs_Pr oc po oa yA) (hb : cs_by cu n) (hat : cs_at pa bk ix cL cH im yn n) :
    ∃ (u' : SX) (v' : SY), cs_W u' v' ∧ (∀ post : SX → Prop, post u' → wpX_performTrial post (cp, pr, 1, gc, 0, oc, ml, nI n, nI oo, nI vv, tr, ac, ca, pa, bk, ix, cL, cH, im, tl, tk, dr, cc, ld, sd, gk, gb, ge, po, oa, mn, cu, og, vl_, tp, ce, lN, lC, sk)) ∧ (∀ post : SY → Prop, post v' → wpY_trialAtCursor post (pr, cp, 1, gc, 0, oc, ml, nI n, nI oo, nI vv, tr, ac, ca, pa, bk, ix, cL, cH, im, yn, yl, yt, yr, yo, gk, gb, po, yA, mn, cu, og, vl_, cd, ou, sN, sS, sQ, sM, sk)) := by
  obtain ⟨p, k, i, l, h, rfl, rfl, rfl, rfl, rfl, him, H⟩ := hat
  rcases H with ⟨rfl | rfl, hk, hi, rfl, rfl, rfl⟩ | ⟨rfl, rfl, hi, hlh, hh, rfl⟩ | ⟨rfl, rfl, hi, rfl, rfl, rfl⟩
  · exact cs_pt1 hn ho hv hM hG hP hb him hk hi
  · exact cs_pt2 hn ho hv hM hG hP hb him hk hi
  · exact cs_pt3 hn ho hv hM hG hP hb him hi hlh hh
  · exact cs_pt4 hn ho hv hM hG hP hb him hi
theorem cs_mvm (hM : cs_M cp ml mn) (hG : cs_Gn gc gp gk gb ge) (hP : cs_Pr oc po oa yA) (hZ : cs_Z ph gp cl ol vl pa bk ix cL cH im yn cu) :
    ∃ (u' : SX) (v' : SY), cs_V u' v' ∧ (∀ post : SX → Prop, post u' → wpX_moveToTrial post (cp, pr, ph, gc, gp, oc, ml, cl, ol, vl, tr, ac, ca, pa, bk, ix, cL, cH, im, tl, tk, dr, cc, ld, sd, gk, gb, ge, po, oa, mn, cu, og, vl_, tp, ce, lN, lC, sk)) ∧ (∀ post : SY → Prop, post v' → wpY_advance post (pr, cp, ph, gc, gp, oc, ml, cl, ol, vl, tr, ac, ca, pa, bk, ix, cL, cH, im, yn, yl, yt, yr, yo, gk, gb, po, yA, mn, cu, og, vl_, cd, ou, sN, sS, sQ, sM, sk)) := by
  obtain ⟨rfl, rfl, him, n, oo, vv, hn, ho, hv, rfl, rfl, rfl, hb, k, i, rfl, rfl, hi, H⟩ := hZ
  obtain ⟨w, hw, hw5⟩ : ∃ w : Nat, ((im = 0 ∧ w = 0) ∨ (im = 1 ∧ w = 500)) ∧ w ≤ 500 := by
    rcases him with rfl | rfl
    · exact ⟨0, Or.inl ⟨rfl, rfl⟩, by omega⟩
    · exact ⟨500, Or.inr ⟨rfl, rfl⟩, by omega⟩
  obtain ⟨μ, hmv, hμ⟩ : ∃ μ : Nat, cs_mv n cu pa (nI k) (nI i) cL cH im (nI i) cL cH yn μ ∧ μ < 1500 := by
    rcases H with ⟨rfl | rfl, hk, rfl, rfl, rfl⟩ | ⟨rfl, rfl, rfl, l, h, rfl, rfl, hl, hh⟩ | ⟨rfl, rfl, rfl, rfl, rfl⟩
    · exact ⟨_, ⟨k, i, w, rfl, rfl, hw, Or.inl ⟨rfl, hk, hi, rfl, rfl, rfl, rfl, rfl, rfl, rfl⟩⟩, by omega⟩
    · exact ⟨_, ⟨k, i, w, rfl, rfl, hw, Or.inr (Or.inl ⟨rfl, hk, hi, rfl, rfl, rfl, rfl, rfl, rfl, rfl⟩)⟩, by omega⟩
    · exact ⟨_, ⟨1, i, w, rfl, rfl, hw, Or.inr (Or.inr (Or.inr (Or.inl ⟨rfl, rfl, hi, rfl, rfl, ⟨l, h, rfl, rfl, rfl, rfl, hl, hh⟩, rfl⟩)))⟩, by omega⟩
    · exact ⟨_, ⟨1, i, w, rfl, rfl, hw, Or.inr (Or.inr (Or.inr (Or.inr ⟨rfl, rfl, hi, rfl, rfl, rfl, rfl, rfl, rfl, rfl⟩)))⟩, by omega⟩
  obtain ⟨u', v', hV, HX, HY⟩ := cs_goAll (k0 := 0) (n := n) (oo := oo) (vv := vv) (cp := cp) (pr := pr) (gc := gc) (oc := oc) (ml := ml) (tr := tr) (ac := ac) (ca := ca) (tl := tl) (tk := tk) (dr := dr) (cc := cc) (ld := ld) (sd := sd) (gk := gk) (gb := gb) (ge := ge) (po := po) (oa := oa) (mn := mn) (cu := cu) (og := og) (vl_ := vl_) (tp := tp) (ce := ce) (lN := lN) (lC := lC) (sk := sk) (yl := yl) (yt := yt) (yr := yr) (yo := yo) (yA := yA) (cd := cd) (ou := ou) (sN := sN) (sS := sS) (sQ := sQ) (sM := sM) hn ho hv hM hG hP hb 1500 pa (nI k) (nI i) cL cH im (nI i) cL cH yn μ hmv hμ
  exact ⟨u', v', hV, fun post hp => ⟨1501, HX post 1501 0 (by omega) (by omega) hp⟩, fun post hp => ⟨1501, HY post 1501 0 (by omega) (by omega) hp⟩⟩
end
theorem cs_shL {limit k0 : Nat} (hl : limit ≤ 64) : ∀ (c j : Nat) (cp pr ph gc gp oc ml cl ol vl tr ac ca pa bk ix cL cH im tl tk dr cc ld sd yn yl yt yr yo : Int32) (gk gb ge po oa mn cu og vl_ tp ce lN lC sk yA cd ou sN sS sQ sM : Nat → Int32), j + c = limit → cs_M cp ml mn → cs_Gn gc gp gk gb ge → cs_Pr oc po oa yA → cs_H ph gp cl ol vl pa bk ix cL cH im yn cu → ∃ (r : Int32) (u' : SX) (v' : SY), i_Rel k0 u' v' ∧ (∀ (post : Int32 → SX → Prop) (fuel : Nat), c < fuel → post r u' → wX_shrink_36 post (nI limit) fuel (nI j) cp pr ph gc gp oc ml cl ol vl tr ac ca pa bk ix cL cH im tl tk dr cc ld sd gk gb ge po oa mn cu og vl_ tp ce lN lC sk) ∧ (∀ (post : Int32 → SY → Prop) (fuel : Nat), c < fuel → post r v' → wY_shrink_55 post (nI limit) fuel (nI j) pr cp ph gc gp oc ml cl ol vl tr ac ca pa bk ix cL cH im yn yl yt yr yo gk gb po yA mn cu og vl_ cd ou sN sS sQ sM sk) := by
  intro c
  induction c with
  | zero =>
    intro j cp pr ph gc gp oc ml cl ol vl tr ac ca pa bk ix cL cH im tl tk dr cc ld sd yn yl yt yr yo gk gb ge po oa mn cu og vl_ tp ce lN lC sk yA cd ou sN sS sQ sM hj hM hG hP hH
    refine ⟨nI j, (cp, pr, ph, gc, gp, oc, ml, cl, ol, vl, tr, ac, ca, pa, bk, ix, cL, cH, im, tl, tk, dr, cc, ld, sd, gk, gb, ge, po, oa, mn, cu, og, vl_, tp, ce, lN, lC, sk), (pr, cp, ph, gc, gp, oc, ml, cl, ol, vl, tr, ac, ca, pa, bk, ix, cL, cH, im, yn, yl, yt, yr, yo, gk, gb, po, yA, mn, cu, og, vl_, cd, ou, sN, sS, sQ, sM, sk), cs_mk hM hG hP (cs_HF hH), fun post fuel hf hp => ?_, fun post fuel hf hp => ?_⟩
    · obtain ⟨f, rfl⟩ : ∃ f, fuel = f + 1 := ⟨fuel - 1, by omega⟩
      exact br_t (nI_le (by omega) (by omega)) hp
    · obtain ⟨f, rfl⟩ : ∃ f, fuel = f + 1 := ⟨fuel - 1, by omega⟩
      exact br_t (nI_le (by omega) (by omega)) hp
  | succ c ih =>
    intro j cp pr ph gc gp oc ml cl ol vl tr ac ca pa bk ix cL cH im tl tk dr cc ld sd yn yl yt yr yo gk gb ge po oa mn cu og vl_ tp ce lN lC sk yA cd ou sN sS sQ sM hj hM hG hP hH
    have hlt : ¬ nI limit ≤ nI j := nI_ge (by omega) (by omega)
    have hF := cs_HF hH
    obtain ⟨n, oo, vv, hn, ho, hv, rfl, rfl, rfl, hb, rfl | ⟨rfl, rfl, hat⟩⟩ := hH
    · refine ⟨nI j, (cp, pr, 2, gc, gp, oc, ml, nI n, nI oo, nI vv, tr, ac, ca, pa, bk, ix, cL, cH, im, tl, tk, dr, cc, ld, sd, gk, gb, ge, po, oa, mn, cu, og, vl_, tp, ce, lN, lC, sk), (pr, cp, 2, gc, gp, oc, ml, nI n, nI oo, nI vv, tr, ac, ca, pa, bk, ix, cL, cH, im, yn, yl, yt, yr, yo, gk, gb, po, yA, mn, cu, og, vl_, cd, ou, sN, sS, sQ, sM, sk), cs_mk hM hG hP hF, fun post fuel hf hp => ?_, fun post fuel hf hp => ?_⟩
      · obtain ⟨f, rfl⟩ : ∃ f, fuel = f + 1 := ⟨fuel - 1, by omega⟩
        exact br_f hlt (br_f (by decide) hp)
      · obtain ⟨f, rfl⟩ : ∃ f, fuel = f + 1 := ⟨fuel - 1, by omega⟩
        exact br_f hlt (br_f (by decide) hp)
    · obtain ⟨u1, v1, hW, HX1, HY1⟩ := cs_pt (cp := cp) (pr := pr) (gc := gc) (oc := oc) (ml := ml) (tr := tr) (ac := ac) (ca := ca) (pa := pa) (bk := bk) (ix := ix) (cL := cL) (cH := cH) (im := im) (tl := tl) (tk := tk) (dr := dr) (cc := cc) (ld := ld) (sd := sd) (gk := gk) (gb := gb) (ge := ge) (po := po) (oa := oa) (mn := mn) (cu := cu) (og := og) (vl_ := vl_) (tp := tp) (ce := ce) (lN := lN) (lC := lC) (sk := sk) (yn := yn) (yl := yl) (yt := yt) (yr := yr) (yo := yo) (yA := yA) (cd := cd) (ou := ou) (sN := sN) (sS := sS) (sQ := sQ) (sM := sM) (n := n) (oo := oo) (vv := vv) hn ho hv hM hG hP hb hat
      refine cs_Welim (P := fun u1 v1 => (∀ post : SX → Prop, post u1 → wpX_performTrial post (cp, pr, 1, gc, 0, oc, ml, nI n, nI oo, nI vv, tr, ac, ca, pa, bk, ix, cL, cH, im, tl, tk, dr, cc, ld, sd, gk, gb, ge, po, oa, mn, cu, og, vl_, tp, ce, lN, lC, sk)) → (∀ post : SY → Prop, post v1 → wpY_trialAtCursor post (pr, cp, 1, gc, 0, oc, ml, nI n, nI oo, nI vv, tr, ac, ca, pa, bk, ix, cL, cH, im, yn, yl, yt, yr, yo, gk, gb, po, yA, mn, cu, og, vl_, cd, ou, sN, sS, sQ, sM, sk)) → ∃ (r : Int32) (u' : SX) (v' : SY), i_Rel k0 u' v' ∧ (∀ (post : Int32 → SX → Prop) (fuel : Nat), c + 1 < fuel → post r u' → wX_shrink_36 post (nI limit) fuel (nI j) cp pr 1 gc 0 oc ml (nI n) (nI oo) (nI vv) tr ac ca pa bk ix cL cH im tl tk dr cc ld sd gk gb ge po oa mn cu og vl_ tp ce lN lC sk) ∧ (∀ (post : Int32 → SY → Prop) (fuel : Nat), c + 1 < fuel → post r v' → wY_shrink_55 post (nI limit) fuel (nI j) pr cp 1 gc 0 oc ml (nI n) (nI oo) (nI vv) tr ac ca pa bk ix cL cH im yn yl yt yr yo gk gb po yA mn cu og vl_ cd ou sN sS sQ sM sk)) hW ?_ HX1 HY1
      intro cp2 pr2 ph2 gc2 gp2 oc2 ml2 cl2 ol2 vl2 tr2 ac2 ca2 pa2 bk2 ix2 cL2 cH2 im2 tl2 tk2 dr2 cc2 ld2 sd2 yn2 yl2 yt2 yr2 yo2 gk2 gb2 ge2 po2 oa2 mn2 cu2 og2 vl_2 tp2 ce2 lN2 lC2 sk2 yA2 cd2 ou2 sN2 sS2 sQ2 sM2 hM hG hP hZ HX1 HY1
      obtain ⟨u2, v2, hV, HX2, HY2⟩ := cs_mvm (cp := cp2) (pr := pr2) (ph := ph2) (gc := gc2) (gp := gp2) (oc := oc2) (ml := ml2) (cl := cl2) (ol := ol2) (vl := vl2) (tr := tr2) (ac := ac2) (ca := ca2) (pa := pa2) (bk := bk2) (ix := ix2) (cL := cL2) (cH := cH2) (im := im2) (tl := tl2) (tk := tk2) (dr := dr2) (cc := cc2) (ld := ld2) (sd := sd2) (yn := yn2) (yl := yl2) (yt := yt2) (yr := yr2) (yo := yo2) (gk := gk2) (gb := gb2) (ge := ge2) (po := po2) (oa := oa2) (mn := mn2) (cu := cu2) (og := og2) (vl_ := vl_2) (tp := tp2) (ce := ce2) (lN := lN2) (lC := lC2) (sk := sk2) (yA := yA2) (cd := cd2) (ou := ou2) (sN := sN2) (sS := sS2) (sQ := sQ2) (sM := sM2) hM hG hP hZ
      refine cs_Velim (P := fun u2 v2 => (∀ post : SX → Prop, post u2 → wpX_moveToTrial post (cp2, pr2, ph2, gc2, gp2, oc2, ml2, cl2, ol2, vl2, tr2, ac2, ca2, pa2, bk2, ix2, cL2, cH2, im2, tl2, tk2, dr2, cc2, ld2, sd2, gk2, gb2, ge2, po2, oa2, mn2, cu2, og2, vl_2, tp2, ce2, lN2, lC2, sk2)) → (∀ post : SY → Prop, post v2 → wpY_advance post (pr2, cp2, ph2, gc2, gp2, oc2, ml2, cl2, ol2, vl2, tr2, ac2, ca2, pa2, bk2, ix2, cL2, cH2, im2, yn2, yl2, yt2, yr2, yo2, gk2, gb2, po2, yA2, mn2, cu2, og2, vl_2, cd2, ou2, sN2, sS2, sQ2, sM2, sk2)) → ∃ (r : Int32) (u' : SX) (v' : SY), i_Rel k0 u' v' ∧ (∀ (post : Int32 → SX → Prop) (fuel : Nat), c + 1 < fuel → post r u' → wX_shrink_36 post (nI limit) fuel (nI j) cp pr 1 gc 0 oc ml (nI n) (nI oo) (nI vv) tr ac ca pa bk ix cL cH im tl tk dr cc ld sd gk gb ge po oa mn cu og vl_ tp ce lN lC sk) ∧ (∀ (post : Int32 → SY → Prop) (fuel : Nat), c + 1 < fuel → post r v' → wY_shrink_55 post (nI limit) fuel (nI j) pr cp 1 gc 0 oc ml (nI n) (nI oo) (nI vv) tr ac ca pa bk ix cL cH im yn yl yt yr yo gk gb po yA mn cu og vl_ cd ou sN sS sQ sM sk)) hV ?_ HX2 HY2
      intro cp3 pr3 ph3 gc3 gp3 oc3 ml3 cl3 ol3 vl3 tr3 ac3 ca3 pa3 bk3 ix3 cL3 cH3 im3 tl3 tk3 dr3 cc3 ld3 sd3 yn3 yl3 yt3 yr3 yo3 gk3 gb3 ge3 po3 oa3 mn3 cu3 og3 vl_3 tp3 ce3 lN3 lC3 sk3 yA3 cd3 ou3 sN3 sS3 sQ3 sM3 hM hG hP hH HX2 HY2
      obtain ⟨r, u', v', hR, HX, HY⟩ := ih (j + 1) cp3 pr3 ph3 gc3 gp3 oc3 ml3 cl3 ol3 vl3 tr3 ac3 ca3 pa3 bk3 ix3 cL3 cH3 im3 tl3 tk3 dr3 cc3 ld3 sd3 yn3 yl3 yt3 yr3 yo3 gk3 gb3 ge3 po3 oa3 mn3 cu3 og3 vl_3 tp3 ce3 lN3 lC3 sk3 yA3 cd3 ou3 sN3 sS3 sQ3 sM3 (by omega) hM hG hP hH
      refine ⟨r, u', v', hR, fun post fuel hf hp => ?_, fun post fuel hf hp => ?_⟩
      · obtain ⟨f, rfl⟩ : ∃ f, fuel = f + 1 := ⟨fuel - 1, by omega⟩
        exact br_f hlt (br_t rfl (HX1 _ (HX2 _ (nm_r (nI_1 j) (HX post f (by omega) hp)))))
      · obtain ⟨f, rfl⟩ : ∃ f, fuel = f + 1 := ⟨fuel - 1, by omega⟩
        exact br_f hlt (br_t rfl (HY1 _ (nm_r (nI_1 j) (HY2 _ (HY post f (by omega) hp)))))
theorem i_vc_shrink {k : Nat} {u : SX} {v : SY} (I : i_Rel k u v) (hk : k + 3 ≤ 1538) (v1 : Int32) : wpX_shrink (fun r u' => wpY_shrink (fun r' v' => r' = r ∧ i_Rel (k + 3) u' v') v v1) u v1 := by
  refine cs_elim (P := fun u v => wpX_shrink (fun r u' => wpY_shrink (fun r' v' => r' = r ∧ i_Rel (k + 3) u' v') v v1) u v1) I ?_
  intro cp pr ph gc gp oc ml cl ol vl tr ac ca pa bk ix cL cH im tl tk dr cc ld sd yn yl yt yr yo gk gb ge po oa mn cu og vl_ tp ce lN lC sk yA cd ou sN sS sQ sM hM hG hP hF
  have J : i_Rel (k + 3) (cp, pr, ph, gc, gp, oc, ml, cl, ol, vl, tr, ac, ca, pa, bk, ix, cL, cH, im, tl, tk, dr, cc, ld, sd, gk, gb, ge, po, oa, mn, cu, og, vl_, tp, ce, lN, lC, sk) (pr, cp, ph, gc, gp, oc, ml, cl, ol, vl, tr, ac, ca, pa, bk, ix, cL, cH, im, yn, yl, yt, yr, yo, gk, gb, po, yA, mn, cu, og, vl_, cd, ou, sN, sS, sQ, sM, sk) := cs_mk hM hG hP hF
  by_cases h : ph = 1
  · subst h
    obtain ⟨n, oo, vv, hn, ho, hv, rfl, rfl, rfl, hb, h0 | h0 | ⟨_, rfl, hcur⟩⟩ := hF
    · exact absurd h0 (by decide)
    · exact absurd h0 (by decide)
    · obtain ⟨limit, l1, l64, hC, hC'⟩ := cs_clamp (x := v1) 1 64 (by omega) (by omega)
      have hYc : ∀ post : Int32 → SY → Prop, wY_shrink_28 post (nI limit) pr cp 1 gc 0 oc ml (nI n) (nI oo) (nI vv) tr ac ca pa bk ix cL cH im yn yl yt yr yo gk gb po yA mn cu og vl_ cd ou sN sS sQ sM sk → wpY_shrink post (pr, cp, 1, gc, 0, oc, ml, nI n, nI oo, nI vv, tr, ac, ca, pa, bk, ix, cL, cH, im, yn, yl, yt, yr, yo, gk, gb, po, yA, mn, cu, og, vl_, cd, ou, sN, sS, sQ, sM, sk) v1 := fun post hp => by
        rcases hC' with ⟨a, b, rfl⟩ | ⟨a, rfl⟩ | ⟨a, b, rfl⟩
        · exact br_t rfl (br_t a (br_t b hp))
        · exact br_t rfl (br_f a (br_t (by decide) hp))
        · exact br_t rfl (br_t a (br_f b hp))
      rcases hcur with ⟨rfl, rfl, rfl, rfl, rfl, rfl, rfl⟩ | hat
      · obtain ⟨u2, v2, hV, HX2, HY2⟩ := cs_mvm (cp := cp) (pr := pr) (ph := 1) (gc := gc) (gp := 0) (oc := oc) (ml := ml) (cl := nI n) (ol := nI oo) (vl := nI vv) (tr := tr) (ac := ac) (ca := ca) (pa := 1) (bk := 4) (ix := 0) (cL := 0) (cH := 0) (im := 0) (tl := tl) (tk := tk) (dr := dr) (cc := cc) (ld := ld) (sd := sd) (gk := gk) (gb := gb) (ge := ge) (po := po) (oa := oa) (mn := mn) (cu := cu) (og := og) (vl_ := vl_) (tp := tp) (ce := ce) (lN := lN) (lC := lC) (sk := sk) (yn := 0) (yl := yl) (yt := yt) (yr := yr) (yo := yo) (yA := yA) (cd := cd) (ou := ou) (sN := sN) (sS := sS) (sQ := sQ) (sM := sM) hM hG hP ⟨rfl, rfl, Or.inl rfl, n, oo, vv, hn, ho, hv, rfl, rfl, rfl, hb, 4, 0, rfl, rfl, by omega, Or.inl ⟨Or.inl rfl, by omega, rfl, rfl, rfl⟩⟩
        refine cs_Velim (P := fun u2 v2 => (∀ post : SX → Prop, post u2 → wpX_moveToTrial post (cp, pr, 1, gc, 0, oc, ml, nI n, nI oo, nI vv, tr, ac, ca, 1, 4, 0, 0, 0, 0, tl, tk, dr, cc, ld, sd, gk, gb, ge, po, oa, mn, cu, og, vl_, tp, ce, lN, lC, sk)) → (∀ post : SY → Prop, post v2 → wpY_advance post (pr, cp, 1, gc, 0, oc, ml, nI n, nI oo, nI vv, tr, ac, ca, 1, 4, 0, 0, 0, 0, 0, yl, yt, yr, yo, gk, gb, po, yA, mn, cu, og, vl_, cd, ou, sN, sS, sQ, sM, sk)) → wpX_shrink (fun r u' => wpY_shrink (fun r' v' => r' = r ∧ i_Rel (k + 3) u' v') (pr, cp, 1, gc, 0, oc, ml, nI n, nI oo, nI vv, tr, ac, ca, 0, 0, 0, 0, 0, 0, 0, yl, yt, yr, yo, gk, gb, po, yA, mn, cu, og, vl_, cd, ou, sN, sS, sQ, sM, sk) v1) (cp, pr, 1, gc, 0, oc, ml, nI n, nI oo, nI vv, tr, ac, ca, 0, 0, 0, 0, 0, 0, tl, tk, dr, cc, ld, sd, gk, gb, ge, po, oa, mn, cu, og, vl_, tp, ce, lN, lC, sk) v1) hV ?_ HX2 HY2
        intro cp2 pr2 ph2 gc2 gp2 oc2 ml2 cl2 ol2 vl2 tr2 ac2 ca2 pa2 bk2 ix2 cL2 cH2 im2 tl2 tk2 dr2 cc2 ld2 sd2 yn2 yl2 yt2 yr2 yo2 gk2 gb2 ge2 po2 oa2 mn2 cu2 og2 vl_2 tp2 ce2 lN2 lC2 sk2 yA2 cd2 ou2 sN2 sS2 sQ2 sM2 hM hG hP hH HX2 HY2
        obtain ⟨r, u', v', hR, HX, HY⟩ := cs_shL (limit := limit) (k0 := k + 3) l64 limit 0 cp2 pr2 ph2 gc2 gp2 oc2 ml2 cl2 ol2 vl2 tr2 ac2 ca2 pa2 bk2 ix2 cL2 cH2 im2 tl2 tk2 dr2 cc2 ld2 sd2 yn2 yl2 yt2 yr2 yo2 gk2 gb2 ge2 po2 oa2 mn2 cu2 og2 vl_2 tp2 ce2 lN2 lC2 sk2 yA2 cd2 ou2 sN2 sS2 sQ2 sM2 (by omega) hM hG hP hH
        refine br_t rfl (hC _ (br_t rfl (br_t rfl (br_f (by decide) (HX2 _ ⟨limit + 1, HX _ (limit + 1) (by omega) (hYc _ ?_)⟩)))))
        exact br_t rfl (HY2 _ ⟨limit + 1, HY _ (limit + 1) (by omega) ⟨rfl, hR⟩⟩)
      · have hpa : ¬ pa = 0 := by
          obtain ⟨p, _, _, _, _, rfl, _, _, _, _, _, H⟩ := hat
          exact nI_ne0 (by omega) (by omega)
        obtain ⟨r, u', v', hR, HX, HY⟩ := cs_shL (limit := limit) (k0 := k + 3) l64 limit 0 cp pr 1 gc 0 oc ml (nI n) (nI oo) (nI vv) tr ac ca pa bk ix cL cH im tl tk dr cc ld sd yn yl yt yr yo gk gb ge po oa mn cu og vl_ tp ce lN lC sk yA cd ou sN sS sQ sM (by omega) hM hG hP ⟨n, oo, vv, hn, ho, hv, rfl, rfl, rfl, hb, Or.inr ⟨rfl, rfl, hat⟩⟩
        refine br_t rfl (hC _ (br_f hpa ⟨limit + 1, HX _ (limit + 1) (by omega) (hYc _ ?_)⟩))
        exact br_f hpa ⟨limit + 1, HY _ (limit + 1) (by omega) ⟨rfl, hR⟩⟩
  · exact br_f h (br_f h ⟨rfl, J⟩)
end
