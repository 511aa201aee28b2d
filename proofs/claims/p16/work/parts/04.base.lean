theorem cs_nm1 {n : Nat} (h : n < 2 ^ 31) : ¬ nI n = -1 := by
  intro e
  have e1 := congrArg Int32.toInt e
  rw [nI_toInt h, show (-1 : Int32).toInt = -1 from by decide] at e1
  omega
theorem cs_ix0 {x : Int32} {n : Nat} (hn : n < 2 ^ 31) (h : nI n ≤ x) : ¬ x < 0 := Int32.not_lt.mpr (Int32.le_trans (nI_pos' hn) h)
theorem cs_clamp {x : Int32} (a b : Nat) (hab : a ≤ b) (hb : b < 2 ^ 31) : ∃ n : Nat, a ≤ n ∧ n ≤ b ∧ (∀ post : Int32 → Prop, post (nI n) → wpX_clamp post () x (nI a) (nI b)) ∧ ((nI a ≤ x ∧ x ≤ nI b ∧ x = nI n) ∨ (¬ nI a ≤ x ∧ n = a) ∨ (nI a ≤ x ∧ ¬ x ≤ nI b ∧ n = b)) := by
  by_cases h : nI a ≤ x
  · by_cases h2 : x ≤ nI b
    · obtain ⟨j, hj, rfl⟩ := nI_of (cs_ix0 (by omega) h)
      have h3 := (nI_leI (by omega) hj).mp h
      have h4 := (nI_leI hj hb).mp h2
      exact ⟨j, h3, h4, fun post hp => br_t h (br_t h2 hp), Or.inl ⟨h, h2, rfl⟩⟩
    · exact ⟨b, hab, Nat.le_refl b, fun post hp => br_t h (br_f h2 hp), Or.inr (Or.inr ⟨h, h2, rfl⟩)⟩
  · exact ⟨a, Nat.le_refl a, hab, fun post hp => br_f h hp, Or.inr (Or.inl ⟨h, rfl⟩)⟩
