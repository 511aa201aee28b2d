def cs_fr (g sN sS sQ sM : Nat → Int32) : List cs_Fr → Prop
  | [] => True
  | f :: t => sN t.length = nI f.1 ∧ sS t.length = nI f.2.1 ∧ (g f.1 = 2 → f.2.1 ≠ 0 → sQ t.length = nI f.2.2.1 ∧ sM t.length = nI f.2.2.2) ∧ cs_fr g sN sS sQ sM t
theorem cs_frc {g sN sS sQ sM sN' sS' sQ' sM' : Nat → Int32} : ∀ t : List cs_Fr, cs_fr g sN sS sQ sM t → (∀ j, j < t.length → sN' j = sN j ∧ sS' j = sS j ∧ sQ' j = sQ j ∧ sM' j = sM j) → cs_fr g sN' sS' sQ' sM' t
  | [], _, _ => trivial
  | f :: t, h, e => by
    obtain ⟨a, b, c, d⟩ := h
    obtain ⟨e1, e2, e3, e4⟩ := e t.length (by rw [List.length_cons]; omega)
    exact ⟨e1.trans a, e2.trans b, fun x y => ⟨e3.trans (c x y).1, e4.trans (c x y).2⟩, cs_frc t d (fun j hj => e j (by rw [List.length_cons]; omega))⟩
def cs_xl (lN lC : Nat → Int32) : List (Nat × Nat) → Prop
  | [] => True
  | f :: t => lN t.length = nI f.1 ∧ lC t.length = nI f.2 ∧ cs_xl lN lC t
theorem cs_xlc {lN lC lN' lC' : Nat → Int32} : ∀ t : List (Nat × Nat), cs_xl lN lC t → (∀ j, j < t.length → lN' j = lN j ∧ lC' j = lC j) → cs_xl lN' lC' t
  | [], _, _ => trivial
  | f :: t, h, e => by
    obtain ⟨a, b, d⟩ := h
    obtain ⟨e1, e2⟩ := e t.length (by rw [List.length_cons]; omega)
    exact ⟨e1.trans a, e2.trans b, cs_xlc t d (fun j hj => e j (by rw [List.length_cons]; omega))⟩
def cs_q (g cells : Nat → Int32) : List cs_Fr → Nat → Prop
  | [], _ => True
  | f :: t, b => if g f.1 = 2 ∧ f.2.1 ≠ 0 then f.2.2.1 < b ∧ cells f.2.2.1 = nI (f.2.2.2 + (f.2.1 - 1)) ∧ f.2.2.2 + (f.2.1 - 1) ≤ 8 ∧ cs_q g cells t f.2.2.1 else cs_q g cells t b
theorem cs_qm {g cells : Nat → Int32} : ∀ (t : List cs_Fr) (b b' : Nat), b ≤ b' → cs_q g cells t b → cs_q g cells t b'
  | [], _, _, _, _ => trivial
  | f :: t, b, b', l, h => by
    rw [cs_q] at h ⊢
    split
    · rename_i c
      rw [if_pos c] at h
      exact ⟨by omega, h.2⟩
    · rename_i c
      rw [if_neg c] at h
      exact cs_qm t b b' l h
theorem cs_qu {g cells : Nat → Int32} {i : Nat} {x : Int32} : ∀ (t : List cs_Fr) (b : Nat), b ≤ i → cs_q g cells t b → cs_q g (upd cells i x) t b
  | [], _, _, _ => trivial
  | f :: t, b, l, h => by
    rw [cs_q] at h ⊢
    split
    · rename_i c
      rw [if_pos c] at h
      obtain ⟨h1, h2, h3, h4⟩ := h
      exact ⟨h1, (pk_un (by omega)).trans h2, h3, cs_qu t _ (by omega) h4⟩
    · rename_i c
      rw [if_neg c] at h
      exact cs_qu t b l h
theorem cs_ql {g cells : Nat → Int32} : ∀ (t : List cs_Fr) (b : Nat), cs_q g cells t b → ∀ p, p ∈ cs_L g t → p.2 < b
  | [], _, _, p, hp => by simp [cs_L] at hp
  | f :: t, b, h, p, hp => by
    rw [cs_q] at h
    rw [cs_L] at hp
    by_cases c : g f.1 = 2 ∧ f.2.1 ≠ 0
    · rw [if_pos c] at h hp
      rcases List.mem_cons.mp hp with e | e
      · rw [e]
        exact h.1
      · have := cs_ql t _ h.2.2.2 p e
        omega
    · rw [if_neg c] at h hp
      exact cs_ql t b h p hp
def cs_top (g : Nat → Int32) (en : Nat → Nat) (n : Nat) : List cs_Fr → Prop
  | [] => True
  | f :: t => cs_K g en n t f.1 ∧ (f.2.1 = 0 ∨ ((g f.1 = 3 ∨ g f.1 = 2) ∧ (f.2.1 = 1 ∨ f.2.1 = 2)))
theorem cs_Kt {g : Nat → Int32} {en : Nat → Nat} {n : Nat} (t : List cs_Fr) (c : Nat) (h : cs_K g en n t c) : cs_top g en n t := by
  cases t with
  | nil => trivial
  | cons f t =>
    obtain ⟨a, b, d⟩ := h
    rcases d with ⟨k, s, e⟩ | ⟨k, s, e⟩ | ⟨k, s, e⟩
    · exact ⟨b, Or.inr ⟨Or.inl k, Or.inl s⟩⟩
    · exact ⟨b, Or.inr ⟨Or.inl k, Or.inr s⟩⟩
    · exact ⟨b, Or.inr ⟨Or.inr k, Or.inr s⟩⟩
def cs_S (g : Nat → Int32) (en : Nat → Nat) (n : Nat) (F : List cs_Fr) (L : Nat) (cells out sN sS sQ sM lN lC : Nat → Int32) : Prop :=
  cs_top g en n F ∧ cs_fr g sN sS sQ sM F ∧ cs_xl lN lC (cs_L g F) ∧ cs_q g cells F L ∧ ∀ j, j < L → (∀ p, p ∈ cs_L g F → p.2 ≠ j) → cells j = out j
theorem cs_L0 (g : Nat → Int32) (nd q m : Nat) (t : List cs_Fr) : cs_L g ((nd, 0, q, m) :: t) = cs_L g t := by simp [cs_L]
theorem cs_L3 {g : Nat → Int32} {nd : Nat} (k : g nd = 3) (s q m : Nat) (t : List cs_Fr) : cs_L g ((nd, s, q, m) :: t) = cs_L g t := by
  have n2 : ¬ g nd = 2 := fun w => cs_23 w k
  simp [cs_L, n2]
theorem cs_L2 {g : Nat → Int32} {nd : Nat} (k : g nd = 2) (s q m : Nat) (t : List cs_Fr) : cs_L g ((nd, s + 1, q, m) :: t) = (nd, q) :: cs_L g t := by simp [cs_L, k]
theorem cs_q0 (g cells : Nat → Int32) (nd q m b : Nat) (t : List cs_Fr) : cs_q g cells ((nd, 0, q, m) :: t) b = cs_q g cells t b := by simp [cs_q]
theorem cs_q3 {g : Nat → Int32} (cells : Nat → Int32) {nd : Nat} (k : g nd = 3) (s q m b : Nat) (t : List cs_Fr) : cs_q g cells ((nd, s, q, m) :: t) b = cs_q g cells t b := by
  have n2 : ¬ g nd = 2 := fun w => cs_23 w k
  simp [cs_q, n2]
theorem cs_q2 {g : Nat → Int32} (cells : Nat → Int32) {nd : Nat} (k : g nd = 2) (s q m b : Nat) (t : List cs_Fr) : cs_q g cells ((nd, s + 1, q, m) :: t) b = (q < b ∧ cells q = nI (m + s) ∧ m + s ≤ 8 ∧ cs_q g cells t q) := by simp [cs_q, k]
theorem cs_p0 (g : Nat → Int32) (en : Nat → Nat) (n nd q m : Nat) (t : List cs_Fr) : cs_pos g en n ((nd, 0, q, m) :: t) = nd := by simp [cs_pos]
theorem cs_p31 {g : Nat → Int32} (en : Nat → Nat) (n : Nat) {nd : Nat} (k : g nd = 3) (q m : Nat) (t : List cs_Fr) : cs_pos g en n ((nd, 1, q, m) :: t) = en (nd + 1) := by simp [cs_pos, k]
theorem cs_p32 (g : Nat → Int32) (en : Nat → Nat) (n nd q m : Nat) (t : List cs_Fr) : cs_pos g en n ((nd, 2, q, m) :: t) = en nd := by simp [cs_pos]
theorem cs_p21 {g : Nat → Int32} (en : Nat → Nat) (n : Nat) {nd : Nat} (k : g nd = 2) (q m : Nat) (t : List cs_Fr) : cs_pos g en n ((nd, 1, q, m) :: t) = en nd := by simp [cs_pos, cs_23 k]
theorem cs_h0 (g : Nat → Int32) (nd q m : Nat) (t : List cs_Fr) : cs_ph g ((nd, 0, q, m) :: t) = cs_ph g t := by simp [cs_ph]
theorem cs_h3 {g : Nat → Int32} {nd : Nat} (k : g nd = 3) (s q m : Nat) (t : List cs_Fr) : cs_ph g ((nd, s + 1, q, m) :: t) = (2 - s) + cs_ph g t := by
  simp [cs_ph, k]
theorem cs_h2 {g : Nat → Int32} {nd : Nat} (k : g nd = 2) (s q m : Nat) (t : List cs_Fr) : cs_ph g ((nd, s + 1, q, m) :: t) = (s + 1) + cs_ph g t := by
  simp [cs_ph, cs_23 k]
section
variable {g cells out sN sS sQ sM lN lC : Nat → Int32} {en : Nat → Nat} {n nd q m L : Nat} {t : List cs_Fr}
theorem cs_t1 (G : cs_G g en n) (k : g nd = 1) (h : cs_S g en n ((nd, 0, q, m) :: t) L cells out sN sS sQ sM lN lC) (x : Int32) (lim i : Nat) (hi : i < lim) :
    cs_S g en n t (L + 1) (upd cells L x) (upd out L x) sN sS sQ sM lN lC ∧ cs_mu g en n lim (i + 1) t < cs_mu g en n lim i ((nd, 0, q, m) :: t) ∧ cs_pos g en n t = nd + 1 := by
  obtain ⟨⟨hK, _⟩, hF, hX, hQ, hA⟩ := h
  rw [cs_L0] at hX hA
  rw [cs_q0] at hQ
  have hn : nd < n := (cs_Kc G t nd hK).1
  have e1 : cs_pos g en n t = nd + 1 := by rw [cs_pop G t nd hK, cs_int G hn k]
  refine ⟨⟨cs_Kt t nd hK, hF.2.2.2, hX, cs_qm t L (L + 1) (by omega) (cs_qu t L (Nat.le_refl L) hQ), fun j hj hp => ?_⟩, ?_, e1⟩
  · by_cases e : j = L
    · rw [e, pk_us, pk_us]
    · rw [pk_un e, pk_un e]
      exact hA j (by omega) hp
  · unfold cs_mu
    rw [e1, cs_p0, cs_h0]
    omega
theorem cs_t2 (G : cs_G g en n) (k : g nd = 3) (h : cs_S g en n ((nd, 0, q, m) :: t) L cells out sN sS sQ sM lN lC) (lim i : Nat) :
    cs_S g en n ((nd + 1, 0, 0, 0) :: (nd, 1, q, m) :: t) L cells out (upd sN (t.length + 1) (nI (nd + 1))) (upd (upd sS t.length (nI 1)) (t.length + 1) (nI 0)) sQ sM lN lC ∧ cs_mu g en n lim i ((nd + 1, 0, 0, 0) :: (nd, 1, q, m) :: t) < cs_mu g en n lim i ((nd, 0, q, m) :: t) ∧ nd + 1 < n := by
  obtain ⟨⟨hK, _⟩, hF, hX, hQ, hA⟩ := h
  rw [cs_L0] at hX hA
  rw [cs_q0] at hQ
  have hn : nd < n := (cs_Kc G t nd hK).1
  have hp := cs_par G hn k
  have n16 := G.2.1
  have n2 : ¬ g nd = 2 := fun w => cs_23 w k
  obtain ⟨f1, f2, f3, f4⟩ := hF
  refine ⟨⟨⟨⟨hn, hK, Or.inl ⟨k, rfl, rfl⟩⟩, Or.inl rfl⟩, ⟨pk_us, pk_us, fun _ z => absurd rfl z, ?_⟩, ?_, ?_, ?_⟩, ?_, hp.1⟩
  · refine ⟨(pk_un (by omega)).trans f1, (pk_un (by omega)).trans pk_us, fun w => absurd w n2, ?_⟩
    exact cs_frc t f4 (fun j hj => ⟨pk_un (by omega), (pk_un (by omega)).trans (pk_un (by omega)), rfl, rfl⟩)
  · rw [cs_L0, cs_L3 k]
    exact hX
  · rw [cs_q0, cs_q3 cells k]
    exact hQ
  · rw [cs_L0, cs_L3 k]
    exact hA
  · unfold cs_mu
    rw [cs_p0, cs_p0, cs_h0, cs_h0, cs_h3 (s := 0) k]
    omega
theorem cs_t3 (G : cs_G g en n) (k : g nd = 3) (h : cs_S g en n ((nd, 1, q, m) :: t) L cells out sN sS sQ sM lN lC) (lim i : Nat) :
    cs_S g en n ((en (nd + 1), 0, 0, 0) :: (nd, 2, q, m) :: t) L cells out (upd sN (t.length + 1) (nI (en (nd + 1)))) (upd (upd sS t.length (nI 2)) (t.length + 1) (nI 0)) sQ sM lN lC ∧ cs_mu g en n lim i ((en (nd + 1), 0, 0, 0) :: (nd, 2, q, m) :: t) < cs_mu g en n lim i ((nd, 1, q, m) :: t) ∧ en (nd + 1) < n ∧ cs_pos g en n ((en (nd + 1), 0, 0, 0) :: (nd, 2, q, m) :: t) = cs_pos g en n ((nd, 1, q, m) :: t) := by
  obtain ⟨⟨hK, _⟩, hF, hX, hQ, hA⟩ := h
  rw [cs_L3 k] at hX hA
  rw [cs_q3 cells k] at hQ
  have hn : nd < n := (cs_Kc G t nd hK).1
  have hp := cs_par G hn k
  have n2 : ¬ g nd = 2 := fun w => cs_23 w k
  obtain ⟨f1, f2, f3, f4⟩ := hF
  refine ⟨⟨⟨⟨hn, hK, Or.inr (Or.inl ⟨k, rfl, rfl⟩)⟩, Or.inl rfl⟩, ⟨pk_us, pk_us, fun _ z => absurd rfl z, ?_⟩, ?_, ?_, ?_⟩, ?_, hp.2.2.1, ?_⟩
  · refine ⟨(pk_un (by omega)).trans f1, (pk_un (by omega)).trans pk_us, fun w => absurd w n2, ?_⟩
    exact cs_frc t f4 (fun j hj => ⟨pk_un (by omega), (pk_un (by omega)).trans (pk_un (by omega)), rfl, rfl⟩)
  · rw [cs_L0, cs_L3 k]
    exact hX
  · rw [cs_q0, cs_q3 cells k]
    exact hQ
  · rw [cs_L0, cs_L3 k]
    exact hA
  · unfold cs_mu
    rw [cs_p0, cs_p31 en n k, cs_h0, cs_h3 (s := 0) k, cs_h3 (s := 1) k]
    omega
  · rw [cs_p0, cs_p31 en n k]
theorem cs_t4 (G : cs_G g en n) (k : g nd = 3) (h : cs_S g en n ((nd, 2, q, m) :: t) L cells out sN sS sQ sM lN lC) (lim i : Nat) :
    cs_S g en n t L cells out sN sS sQ sM lN lC ∧ cs_mu g en n lim i t < cs_mu g en n lim i ((nd, 2, q, m) :: t) ∧ cs_pos g en n t = cs_pos g en n ((nd, 2, q, m) :: t) := by
  obtain ⟨⟨hK, _⟩, hF, hX, hQ, hA⟩ := h
  rw [cs_L3 k] at hX hA
  rw [cs_q3 cells k] at hQ
  have e1 : cs_pos g en n t = en nd := cs_pop G t nd hK
  refine ⟨⟨cs_Kt t nd hK, hF.2.2.2, hX, hQ, hA⟩, ?_, ?_⟩
  · unfold cs_mu
    rw [e1, cs_p32, cs_h3 (s := 1) k]
    omega
  · rw [e1, cs_p32]
theorem cs_t5 (G : cs_G g en n) (k : g nd = 2) (h : cs_S g en n ((nd, 0, q, m) :: t) L cells out sN sS sQ sM lN lC) (lim i : Nat) :
    cs_S g en n ((nd, 1, L, 0) :: t) (L + 1) (upd cells L (nI 0)) (upd out L (nI 0)) sN (upd sS t.length (nI 1)) (upd sQ t.length (nI L)) (upd sM t.length (nI 0)) (upd lN (cs_L g t).length (nI nd)) (upd lC (cs_L g t).length (nI L)) ∧ cs_mu g en n lim i ((nd, 1, L, 0) :: t) < cs_mu g en n lim i ((nd, 0, q, m) :: t) := by
  obtain ⟨⟨hK, _⟩, hF, hX, hQ, hA⟩ := h
  rw [cs_L0] at hX hA
  rw [cs_q0] at hQ
  have hn : nd < n := (cs_Kc G t nd hK).1
  have hl := cs_le G hn
  have n16 := G.2.1
  obtain ⟨f1, f2, f3, f4⟩ := hF
  refine ⟨⟨⟨hK, Or.inr ⟨Or.inr k, Or.inl rfl⟩⟩, ⟨f1, pk_us, fun _ _ => ⟨pk_us, pk_us⟩, ?_⟩, ?_, ?_, ?_⟩, ?_⟩
  · exact cs_frc t f4 (fun j hj => ⟨rfl, pk_un (by omega), pk_un (by omega), pk_un (by omega)⟩)
  · rw [cs_L2 (s := 0) k]
    exact ⟨pk_us, pk_us, cs_xlc _ hX (fun j hj => ⟨pk_un (by omega), pk_un (by omega)⟩)⟩
  · rw [cs_q2 (s := 0) _ k]
    exact ⟨by omega, pk_us, by omega, cs_qu t L (Nat.le_refl L) hQ⟩
  · rw [cs_L2 (s := 0) k]
    intro j hj hp
    have e : j ≠ L := fun z => hp (nd, L) (List.mem_cons_self ..) z.symm
    rw [pk_un e, pk_un e]
    exact hA j (by omega) (fun p hm => hp p (List.mem_cons_of_mem _ hm))
  · unfold cs_mu
    rw [cs_p21 en n k, cs_p0, cs_h0, cs_h2 (s := 0) k]
    omega
theorem cs_t6 (G : cs_G g en n) (k : g nd = 2) (h : cs_S g en n ((nd, 2, q, m) :: t) L cells out sN sS sQ sM lN lC) (lim i : Nat) :
    cs_S g en n ((nd, 1, q, m + 1) :: t) L cells out sN (upd sS t.length (nI 1)) sQ (upd sM t.length (nI (m + 1))) lN lC ∧ cs_mu g en n lim i ((nd, 1, q, m + 1) :: t) < cs_mu g en n lim i ((nd, 2, q, m) :: t) ∧ cs_pos g en n ((nd, 1, q, m + 1) :: t) = cs_pos g en n ((nd, 2, q, m) :: t) := by
  obtain ⟨⟨hK, _⟩, hF, hX, hQ, hA⟩ := h
  rw [cs_L2 (s := 1) k] at hX hA
  rw [cs_q2 (s := 1) cells k] at hQ
  obtain ⟨f1, f2, f3, f4⟩ := hF
  have f5 := f3 k (show (2 : Nat) ≠ 0 by decide)
  refine ⟨⟨⟨hK, Or.inr ⟨Or.inr k, Or.inl rfl⟩⟩, ⟨f1, pk_us, fun _ _ => ⟨f5.1, pk_us⟩, ?_⟩, ?_, ?_, ?_⟩, ?_, ?_⟩
  · exact cs_frc t f4 (fun j hj => ⟨rfl, pk_un (by omega), rfl, pk_un (by omega)⟩)
  · rw [cs_L2 (s := 0) k]
    exact hX
  · rw [cs_q2 (s := 0) cells k]
    exact hQ
  · rw [cs_L2 (s := 0) k]
    exact hA
  · unfold cs_mu
    rw [cs_p21 en n k, cs_p32, cs_h2 (s := 0) k, cs_h2 (s := 1) k]
    omega
  · rw [cs_p21 en n k, cs_p32]
theorem cs_t7 (G : cs_G g en n) (k : g nd = 2) (h : cs_S g en n ((nd, 1, q, m) :: t) L cells out sN sS sQ sM lN lC) (lim i i' : Nat) (hi : i ≤ i') :
    cs_S g en n t L cells (upd out q (nI m)) sN sS sQ sM lN lC ∧ cs_mu g en n lim i' t < cs_mu g en n lim i ((nd, 1, q, m) :: t) ∧ cs_pos g en n t = en nd := by
  obtain ⟨⟨hK, _⟩, hF, hX, hQ, hA⟩ := h
  rw [cs_L2 (s := 0) k] at hX hA
  rw [cs_q2 (s := 0) cells k] at hQ
  obtain ⟨q1, q2, q3, q4⟩ := hQ
  have e1 : cs_pos g en n t = en nd := cs_pop G t nd hK
  refine ⟨⟨cs_Kt t nd hK, hF.2.2.2, hX.2.2, cs_qm t q L (by omega) q4, fun j hj hp => ?_⟩, ?_, e1⟩
  · by_cases e : j = q
    · rw [e, pk_us]
      exact q2
    · rw [pk_un e]
      refine hA j hj (fun p hm => ?_)
      rcases List.mem_cons.mp hm with z | z
      · rw [z]
        exact fun w => e w.symm
      · exact hp p z
  · unfold cs_mu
    rw [e1, cs_p21 en n k, cs_h2 (s := 0) k]
    omega
theorem cs_t8 (G : cs_G g en n) (k : g nd = 2) (h : cs_S g en n ((nd, 1, q, m) :: t) L cells out sN sS sQ sM lN lC) (hm : m ≠ 8) (lim i : Nat) (hi : i < lim) :
    cs_S g en n ((nd + 1, 0, 0, 0) :: (nd, 2, q, m) :: t) L (upd cells q (nI (m + 1))) out (upd sN (t.length + 1) (nI (nd + 1))) (upd (upd sS t.length (nI 2)) (t.length + 1) (nI 0)) sQ sM lN lC ∧ cs_mu g en n lim (i + 1) ((nd + 1, 0, 0, 0) :: (nd, 2, q, m) :: t) < cs_mu g en n lim i ((nd, 1, q, m) :: t) ∧ nd + 1 < n := by
  obtain ⟨⟨hK, _⟩, hF, hX, hQ, hA⟩ := h
  rw [cs_L2 (s := 0) k] at hX hA
  rw [cs_q2 (s := 0) cells k] at hQ
  obtain ⟨q1, q2, q3, q4⟩ := hQ
  have hn : nd < n := (cs_Kc G t nd hK).1
  have hp := cs_lst G hn k
  have hl := cs_le G hn
  have n16 := G.2.1
  obtain ⟨f1, f2, f3, f4⟩ := hF
  have f5 := f3 k (show (1 : Nat) ≠ 0 by decide)
  refine ⟨⟨⟨⟨hn, hK, Or.inr (Or.inr ⟨k, rfl, rfl⟩)⟩, Or.inl rfl⟩, ⟨pk_us, pk_us, fun _ z => absurd rfl z, ?_⟩, ?_, ?_, ?_⟩, ?_, hp.1⟩
  · refine ⟨(pk_un (by omega)).trans f1, (pk_un (by omega)).trans pk_us, fun _ _ => f5, ?_⟩
    exact cs_frc t f4 (fun j hj => ⟨pk_un (by omega), (pk_un (by omega)).trans (pk_un (by omega)), rfl, rfl⟩)
  · rw [cs_L0, cs_L2 (s := 1) k]
    exact hX
  · rw [cs_q0, cs_q2 (s := 1) _ k]
    exact ⟨q1, pk_us, by omega, cs_qu t q (Nat.le_refl q) q4⟩
  · rw [cs_L0, cs_L2 (s := 1) k]
    intro j hj hq
    have e : j ≠ q := fun z => hq (nd, q) (List.mem_cons_self ..) z.symm
    rw [pk_un e]
    exact hA j hj hq
  · unfold cs_mu
    rw [cs_p0, cs_p21 en n k, cs_h0, cs_h2 (s := 1) k, cs_h2 (s := 0) k]
    omega
end
section
variable {g cells out sN sS sQ sM lN lC : Nat → Int32} {en : Nat → Nat} {n nd q m L : Nat} {t : List cs_Fr}
theorem cs_nz (G : cs_G g en n) (h : cs_S g en n ((nd, 0, q, m) :: t) L cells out sN sS sQ sM lN lC) : nd < n ∧ t.length ≤ nd ∧ (cs_L g t).length ≤ nd ∧ ((cs_L g t).length = 0 ∨ ∃ d p, (cs_L g t).length = d + 1 ∧ d < 16 ∧ lN d = nI p ∧ p < n ∧ nd ≠ en p ∧ en p ≤ n) := by
  obtain ⟨⟨hK, _⟩, hF, hX, hQ, hA⟩ := h
  rw [cs_L0] at hX
  have hn := cs_Kc G t nd hK
  have hl := cs_Ll g t
  have n16 := G.2.1
  refine ⟨hn.1, hn.2, by omega, ?_⟩
  cases e : cs_L g t with
  | nil => exact Or.inl rfl
  | cons f r =>
    obtain ⟨p, q'⟩ := f
    rw [e] at hX hl
    have hi := cs_in G t nd p q' r hK e
    have hp := cs_le G hi.2.2
    rw [List.length_cons] at hl
    exact Or.inr ⟨r.length, p, List.length_cons, by omega, hX.1, hi.2.2, by omega, hp.2⟩
theorem cs_lz (G : cs_G g en n) (k : g nd = 2) (h : cs_S g en n ((nd, 1, q, m) :: t) L cells out sN sS sQ sM lN lC) : nd < n ∧ t.length ≤ nd ∧ (cs_L g t).length ≤ nd ∧ (cs_L g ((nd, 1, q, m) :: t)).length = (cs_L g t).length + 1 ∧ lN (cs_L g t).length = nI nd ∧ lC (cs_L g t).length = nI q ∧ q < L ∧ cells q = nI m ∧ m ≤ 8 ∧ sQ t.length = nI q ∧ sM t.length = nI m := by
  obtain ⟨⟨hK, _⟩, hF, hX, hQ, hA⟩ := h
  rw [cs_L2 (s := 0) k] at hX
  rw [cs_q2 (s := 0) cells k] at hQ
  have hn := cs_Kc G t nd hK
  have hl := cs_Ll g t
  obtain ⟨f1, f2, f3, f4⟩ := hF
  have f5 := f3 k (show (1 : Nat) ≠ 0 by decide)
  refine ⟨hn.1, hn.2, by omega, ?_, hX.1, hX.2.1, hQ.1, hQ.2.1, hQ.2.2.1, f5.1, f5.2⟩
  rw [cs_L2 (s := 0) k, List.length_cons]
theorem cs_tf {s : Nat} (G : cs_G g en n) (h : cs_S g en n ((nd, s, q, m) :: t) L cells out sN sS sQ sM lN lC) : nd < n ∧ t.length ≤ nd ∧ sN t.length = nI nd ∧ sS t.length = nI s ∧ (s = 0 ∨ ((g nd = 3 ∨ g nd = 2) ∧ (s = 1 ∨ s = 2))) := by
  obtain ⟨⟨hK, hs⟩, hF, hX, hQ, hA⟩ := h
  have hn := cs_Kc G t nd hK
  exact ⟨hn.1, hn.2, hF.1, hF.2.1, hs⟩
end
theorem cs_S0 {g ce ou sN sS sQ sM lN lC : Nat → Int32} {en : Nat → Nat} {n : Nat} (G : cs_G g en n) : cs_S g en n [(0, 0, 0, 0)] 0 ce ou (upd sN 0 0) (upd sS 0 0) sQ sM lN lC :=
  ⟨⟨rfl, Or.inl rfl⟩, ⟨pk_us, pk_us, fun _ z => absurd rfl z, trivial⟩, by rw [cs_L0]; trivial, by rw [cs_q0]; trivial, fun j hj => absurd hj (by omega)⟩
