def cs_ch (x : Int32) : Nat := if x = 3 then 2 else if x = 2 then 1 else 0
def cs_D (g : Nat → Int32) : Nat → Nat
  | 0 => 1
  | k + 1 => cs_D g k - 1 + cs_ch (g k)
def cs_E (g : Nat → Int32) (j e : Nat) : Prop := j < e ∧ cs_D g e + 1 = cs_D g j ∧ ∀ k, j < k → k < e → cs_D g j ≤ cs_D g k
theorem cs_Ds (g : Nat → Int32) (k : Nat) : cs_D g (k + 1) = cs_D g k - 1 + cs_ch (g k) := rfl
theorem cs_ch1 {x : Int32} (h : x = 1) : cs_ch x = 0 := by subst h; decide
theorem cs_ch2 {x : Int32} (h : x = 2) : cs_ch x = 1 := by subst h; decide
theorem cs_ch3 {x : Int32} (h : x = 3) : cs_ch x = 2 := by subst h; decide
theorem cs_Dc {g g' : Nat → Int32} : ∀ k, (∀ j, j < k → g' j = g j) → cs_D g' k = cs_D g k
  | 0, _ => rfl
  | k + 1, h => by
    rw [cs_Ds, cs_Ds, cs_Dc k (fun j hj => h j (by omega)), h k (by omega)]
theorem cs_Eu {g : Nat → Int32} {j e e' : Nat} (h : cs_E g j e) (h' : cs_E g j e') : e = e' := by
  obtain ⟨a, b, c⟩ := h
  obtain ⟨a', b', c'⟩ := h'
  rcases Nat.lt_trichotomy e e' with l | l | l
  · have := c' e a l
    omega
  · exact l
  · have := c e' a' l
    omega
theorem cs_Ei {g : Nat → Int32} {j : Nat} (h : cs_ch (g j) = 0) (d : 1 ≤ cs_D g j) : cs_E g j (j + 1) := by
  refine ⟨by omega, ?_, fun k a b => by omega⟩
  rw [cs_Ds, h]
  omega
theorem cs_El {g : Nat → Int32} {j e : Nat} (h : cs_ch (g j) = 1) (d : 1 ≤ cs_D g j) (H : cs_E g j e) : cs_E g (j + 1) e := by
  obtain ⟨a, b, c⟩ := H
  have hd : cs_D g (j + 1) = cs_D g j := by
    rw [cs_Ds, h]
    omega
  have ne : e ≠ j + 1 := by
    intro z
    rw [z, hd] at b
    omega
  exact ⟨by omega, by rw [hd]; exact b, fun k x y => by rw [hd]; exact c k (by omega) y⟩
theorem cs_Ep {g : Nat → Int32} {j e c : Nat} (h : cs_ch (g j) = 2) (d : 1 ≤ cs_D g j) (H : cs_E g j e) (H1 : cs_E g (j + 1) c) : cs_E g c e := by
  obtain ⟨a, b, f⟩ := H
  obtain ⟨a1, b1, f1⟩ := H1
  have hd : cs_D g (j + 1) = cs_D g j + 1 := by
    rw [cs_Ds, h]
    omega
  rw [hd] at b1 f1
  have ne : e ≠ j + 1 := by
    intro z
    rw [z, hd] at b
    omega
  have nc : c ≠ e := by
    intro z
    rw [z] at b1
    omega
  have lt : c < e := by
    rcases Nat.lt_or_ge c e with l | l
    · exact l
    · have := f1 e (by omega) (by omega)
      omega
  refine ⟨lt, by omega, fun k x y => ?_⟩
  have := f k (by omega) y
  omega
def cs_G (g : Nat → Int32) (en : Nat → Nat) (n : Nat) : Prop :=
  0 < n ∧ n ≤ 16 ∧ cs_D g n = 0 ∧ ∀ j, j < n → 1 ≤ cs_D g j ∧ cs_E g j (en j) ∧ (g j = 1 ∨ g j = 2 ∨ g j = 3)
theorem cs_le {g : Nat → Int32} {en : Nat → Nat} {n j : Nat} (G : cs_G g en n) (h : j < n) : j < en j ∧ en j ≤ n := by
  obtain ⟨_, _, d, H⟩ := G
  obtain ⟨p, ⟨a, b, c⟩, _⟩ := H j h
  refine ⟨a, ?_⟩
  rcases Nat.lt_or_ge n (en j) with l | l
  · have := c n h l
    omega
  · exact l
theorem cs_root {g : Nat → Int32} {en : Nat → Nat} {n : Nat} (G : cs_G g en n) : en 0 = n := by
  obtain ⟨h1, h2⟩ := cs_le G G.1
  obtain ⟨h0, _, d, H⟩ := G
  obtain ⟨p, ⟨a, b, c⟩, _⟩ := H 0 h0
  have e : cs_D g 0 = 1 := rfl
  rcases Nat.lt_or_ge (en 0) n with l | l
  · have := (H (en 0) l).1
    omega
  · omega
theorem cs_int {g : Nat → Int32} {en : Nat → Nat} {n j : Nat} (G : cs_G g en n) (h : j < n) (k : g j = 1) : en j = j + 1 := by
  obtain ⟨_, _, _, H⟩ := G
  obtain ⟨p, e, _⟩ := H j h
  exact cs_Eu e (cs_Ei (cs_ch1 k) p)
theorem cs_lst {g : Nat → Int32} {en : Nat → Nat} {n j : Nat} (G : cs_G g en n) (h : j < n) (k : g j = 2) : j + 1 < n ∧ en (j + 1) = en j := by
  have le := cs_le G h
  obtain ⟨_, _, d, H⟩ := G
  obtain ⟨p, e, _⟩ := H j h
  have e1 := cs_El (cs_ch2 k) p e
  have l : j + 1 < n := by have := e1.1; omega
  exact ⟨l, cs_Eu (H (j + 1) l).2.1 e1⟩
theorem cs_par {g : Nat → Int32} {en : Nat → Nat} {n j : Nat} (G : cs_G g en n) (h : j < n) (k : g j = 3) : j + 1 < n ∧ en (j + 1) < en j ∧ en (j + 1) < n ∧ en (en (j + 1)) = en j := by
  have le := cs_le G h
  obtain ⟨_, _, d, H⟩ := G
  obtain ⟨p, e, _⟩ := H j h
  have hd : cs_D g (j + 1) = cs_D g j + 1 := by
    rw [cs_Ds, cs_ch3 k]
    omega
  have l : j + 1 < n := by
    rcases Nat.lt_or_ge (j + 1) n with l | l
    · exact l
    · have z : j + 1 = n := by omega
      rw [z] at hd
      omega
  have e1 := cs_Ep (cs_ch3 k) p e (H (j + 1) l).2.1
  have l1 : en (j + 1) < en j := e1.1
  have l2 : en (j + 1) < n := by omega
  exact ⟨l, l1, l2, cs_Eu (H _ l2).2.1 e1⟩
abbrev cs_Fr : Type := Nat × Nat × Nat × Nat
def cs_K (g : Nat → Int32) (en : Nat → Nat) (n : Nat) : List cs_Fr → Nat → Prop
  | [], c => c = 0
  | f :: t, c => f.1 < n ∧ cs_K g en n t f.1 ∧ ((g f.1 = 3 ∧ f.2.1 = 1 ∧ c = f.1 + 1) ∨ (g f.1 = 3 ∧ f.2.1 = 2 ∧ c = en (f.1 + 1)) ∨ (g f.1 = 2 ∧ f.2.1 = 2 ∧ c = f.1 + 1))
def cs_pos (g : Nat → Int32) (en : Nat → Nat) (n : Nat) : List cs_Fr → Nat
  | [] => n
  | f :: _ => if f.2.1 = 0 then f.1 else if g f.1 = 3 ∧ f.2.1 = 1 then en (f.1 + 1) else en f.1
theorem cs_23 {x : Int32} (h : x = 2) : ¬ x = 3 := by subst h; decide
theorem cs_Kc {g : Nat → Int32} {en : Nat → Nat} {n : Nat} (G : cs_G g en n) : ∀ (t : List cs_Fr) (c : Nat), cs_K g en n t c → c < n ∧ t.length ≤ c
  | [], c, h => by
    have := G.1
    have z : c = 0 := h
    exact ⟨by omega, by simp⟩
  | f :: t, c, h => by
    obtain ⟨a, b, d⟩ := h
    obtain ⟨x, y⟩ := cs_Kc G t f.1 b
    rw [List.length_cons]
    rcases d with ⟨k, s, e⟩ | ⟨k, s, e⟩ | ⟨k, s, e⟩
    · have := cs_par G a k
      omega
    · have h1 := cs_par G a k
      have h2 := cs_le G h1.1
      omega
    · have := cs_lst G a k
      omega
theorem cs_pop {g : Nat → Int32} {en : Nat → Nat} {n : Nat} (G : cs_G g en n) (t : List cs_Fr) (c : Nat) (h : cs_K g en n t c) : cs_pos g en n t = en c := by
  cases t with
  | nil =>
    have z : c = 0 := h
    rw [z, cs_root G]
    rfl
  | cons f t =>
    obtain ⟨a, b, d⟩ := h
    rcases d with ⟨k, s, e⟩ | ⟨k, s, e⟩ | ⟨k, s, e⟩
    · simp [cs_pos, k, s, e]
    · simp [cs_pos, k, s, e, (cs_par G a k).2.2.2]
    · simp [cs_pos, cs_23 k, s, e, (cs_lst G a k).2]
def cs_L (g : Nat → Int32) : List cs_Fr → List (Nat × Nat)
  | [] => []
  | f :: t => if g f.1 = 2 ∧ f.2.1 ≠ 0 then (f.1, f.2.2.1) :: cs_L g t else cs_L g t
theorem cs_Ll (g : Nat → Int32) : ∀ t : List cs_Fr, (cs_L g t).length ≤ t.length
  | [] => by simp [cs_L]
  | f :: t => by
    have := cs_Ll g t
    rw [cs_L]
    split
    · rw [List.length_cons, List.length_cons]
      omega
    · rw [List.length_cons]
      omega
theorem cs_in {g : Nat → Int32} {en : Nat → Nat} {n : Nat} (G : cs_G g en n) : ∀ (t : List cs_Fr) (c p q : Nat) (r : List (Nat × Nat)), cs_K g en n t c → cs_L g t = (p, q) :: r → c < en p ∧ en c ≤ en p ∧ p < n
  | [], c, p, q, r, h, e => by simp [cs_L] at e
  | f :: t, c, p, q, r, h, e => by
    obtain ⟨a, b, d⟩ := h
    rcases d with ⟨k, s, z⟩ | ⟨k, s, z⟩ | ⟨k, s, z⟩
    · have n2 : ¬ g f.1 = 2 := fun w => cs_23 w k
      rw [cs_L, if_neg (fun w => n2 w.1)] at e
      have ih := cs_in G t f.1 p q r b e
      have h1 := cs_par G a k
      have h2 := cs_le G h1.1
      rw [z]
      exact ⟨by omega, by omega, ih.2.2⟩
    · have n2 : ¬ g f.1 = 2 := fun w => cs_23 w k
      rw [cs_L, if_neg (fun w => n2 w.1)] at e
      have ih := cs_in G t f.1 p q r b e
      have h1 := cs_par G a k
      rw [z, h1.2.2.2]
      exact ⟨by omega, by omega, ih.2.2⟩
    · rw [cs_L, if_pos ⟨k, by omega⟩] at e
      have e1 : (f.1, f.2.2.1) = (p, q) := (List.cons.inj e).1
      have e2 : f.1 = p := congrArg Prod.fst e1
      have h1 := cs_lst G a k
      have h2 := cs_le G h1.1
      rw [z, h1.2, ← e2]
      exact ⟨by omega, by omega, a⟩
def cs_ph (g : Nat → Int32) : List cs_Fr → Nat
  | [] => 0
  | f :: t => (if f.2.1 = 0 then 0 else if g f.1 = 3 then 3 - f.2.1 else f.2.1) + cs_ph g t
def cs_mu (g : Nat → Int32) (en : Nat → Nat) (n lim t : Nat) (F : List cs_Fr) : Nat := 50 * (lim - t) + 3 * (16 - cs_pos g en n F) + cs_ph g F
theorem cs_Dn (g : Nat → Int32) (k : Nat) : cs_D g k ≤ cs_D g (k + 1) + 1 := by
  rw [cs_Ds]
  omega
theorem cs_Eex {g : Nat → Int32} {n j : Nat} (hj : j < n) (hD : ∀ k, k < n → 1 ≤ cs_D g k) (h0 : cs_D g n = 0) : ∃ e, e ≤ n ∧ cs_E g j e := by
  have hd := hD j hj
  obtain ⟨e, he, he3⟩ := pk_least (fun e => j < e ∧ cs_D g e < cs_D g j) ⟨n, hj, by omega⟩
  obtain ⟨he1, he2⟩ : j < e ∧ cs_D g e < cs_D g j := he
  have hl : ∀ k, j < k → k < e → cs_D g j ≤ cs_D g k := fun k a b => by
    rcases Nat.lt_or_ge (cs_D g k) (cs_D g j) with l | l
    · exact (he3 k b ⟨a, l⟩).elim
    · exact l
  have hn : e ≤ n := by
    rcases Nat.lt_or_ge n e with l | l
    · have := hl n hj l
      omega
    · exact l
  refine ⟨e, hn, he1, ?_, hl⟩
  obtain ⟨e', rfl⟩ : ∃ e', e = e' + 1 := ⟨e - 1, by omega⟩
  have s : cs_D g e' ≤ cs_D g (e' + 1) + 1 := cs_Dn g e'
  by_cases q : j < e'
  · have := hl e' q (by omega)
    omega
  · have z : e' = j := by omega
    rw [z] at s he2 ⊢
    omega
theorem cs_mkG {g ge : Nat → Int32} {n : Nat} (hn : n ≤ 16) (h1 : 0 < n) (h0 : cs_D g n = 0) (hD : ∀ j, j < n → 1 ≤ cs_D g j ∧ (g j = 1 ∨ g j = 2 ∨ g j = 3)) (he : ∀ j, j < n → ∃ e, e ≤ n ∧ cs_E g j e ∧ ge j = nI e) :
    ∃ en : Nat → Nat, cs_G g en n ∧ ∀ j, j < n → ge j = nI (en j) := by
  refine ⟨fun j => (ge j).toNatClampNeg, ⟨h1, hn, h0, fun j hj => ?_⟩, fun j hj => ?_⟩
  · obtain ⟨e, a, b, c⟩ := he j hj
    have z : (ge j).toNatClampNeg = e := by
      rw [c]
      exact nI_clamp (by omega)
    refine ⟨(hD j hj).1, ?_, (hD j hj).2⟩
    show cs_E g j ((ge j).toNatClampNeg)
    rw [z]
    exact b
  · obtain ⟨e, a, b, c⟩ := he j hj
    show ge j = nI ((ge j).toNatClampNeg)
    rw [c, nI_clamp (by omega)]
theorem cs_need {g : Nat → Int32} {j e k need : Nat} (d : 1 ≤ cs_D g j) (h : cs_E g j e) (a : j ≤ k) (b : k < e) (c : need + cs_D g j = cs_D g k + 1) : 1 ≤ need ∧ (need - 1 + cs_ch (g k)) + cs_D g j = cs_D g (k + 1) + 1 := by
  obtain ⟨x, y, z⟩ := h
  have w : cs_D g j ≤ cs_D g k := by
    by_cases q : j < k
    · exact z k q b
    · have : k = j := by omega
      rw [this]
      exact Nat.le_refl _
  rw [cs_Ds]
  omega
theorem cs_need0 {g : Nat → Int32} {j e need : Nat} (h : cs_E g j e) (c : need + cs_D g j = cs_D g e + 1) : need = 0 := by
  have := h.2.1
  omega
