section
variable {cp pr ph gc gp oc ml cl ol vl tr ac ca pa bk ix cL cH im tl tk dr cc ld sd : Int32} {gk gb ge po oa mn cu og vl_ tp ce lN lC sk ou : Nat → Int32}
theorem ks_copy {f t : Nat → Int32} {n : Nat} (hn : n ≤ 32) (post : St3 → Prop) (hp : post (f, cs_cp f t n)) : wpX_copy post (f, t) (nI n) := by
  have loop : ∀ (d i fuel : Nat), i + d = n → d < fuel → wX_copy_2 post (nI n) fuel (nI i) f (cs_cp f t i) := by
    intro d
    induction d with
    | zero =>
      intro i fuel hi hf
      obtain ⟨g, rfl⟩ : ∃ g, fuel = g + 1 := ⟨fuel - 1, by omega⟩
      have z : i = n := by omega
      subst z
      exact br_t (nI_le (Nat.le_refl _) (by omega)) hp
    | succ d ih =>
      intro i fuel hi hf
      obtain ⟨g, rfl⟩ : ∃ g, fuel = g + 1 := ⟨fuel - 1, by omega⟩
      have ec : (nI i).toNatClampNeg = i := nI_clamp (by omega)
      have hv : vp_in (nI i) 32 := vp_in_nI (by omega) (by omega)
      exact br_f (nI_ge (by omega) (by omega)) ⟨hv, hv, nm_r (e' := cs_cp f t (i + 1)) (by rw [ec, cs_cps]) (nm_r (nI_1 i) (ih (i + 1) g (by omega) (by omega)))⟩
  have h := loop n 0 (n + 1) (by omega) (by omega)
  rw [cs_cp0] at h
  exact ⟨n + 1, h⟩
theorem cs_xkeep {t L : Nat} (ht : t ≤ 32) (hL : L ≤ 32) (post : St2 → Prop) (hp : post (cp, pr, ph, gc, gp, oc, ml, nI t, ol, nI L, tr, ac, ca, pa, bk, ix, cL, cH, im, tl, nI t, dr, nI L, ld, sd, gk, gb, ge, po, oa, mn, cs_cp tp cu t, og, cs_cp ce vl_ L, tp, ce, lN, lC, sk)) : wpX_keepTape post (cp, pr, ph, gc, gp, oc, ml, cl, ol, vl, tr, ac, ca, pa, bk, ix, cL, cH, im, tl, nI t, dr, nI L, ld, sd, gk, gb, ge, po, oa, mn, cu, og, vl_, tp, ce, lN, lC, sk) := by
  unfold wpX_keepTape
  refine ks_copy ht _ ?_
  refine ks_copy hL _ ?_
  exact hp
theorem cs_xfind {t L : Nat} (ht : t ≤ 32) (hL : L ≤ 32) (post : St2 → Prop) (hp : post (cp, pr, 1, gc, gp, oc, ml, nI t, nI t, nI L, 0, 0, ca, 0, 0, 0, 0, 0, 0, tl, nI t, dr, nI L, ld, sd, gk, gb, ge, po, oa, mn, cs_cp tp cu t, cs_cp tp og t, cs_cp ce vl_ L, tp, ce, lN, lC, sk)) : wpX_keepFinding post (cp, pr, ph, gc, gp, oc, ml, cl, ol, vl, tr, ac, ca, pa, bk, ix, cL, cH, im, tl, nI t, dr, nI L, ld, sd, gk, gb, ge, po, oa, mn, cu, og, vl_, tp, ce, lN, lC, sk) := by
  unfold wpX_keepFinding
  refine cs_xkeep ht hL _ ?_
  refine ks_copy ht _ ?_
  exact hp
def ls_lt (T S : Nat → Int32) (t n : Nat) : Prop := t < n ∨ (t = n ∧ ∃ d, d < t ∧ (∀ j, j < d → T j = S j) ∧ ¬ S d ≤ T d)
theorem ls_x {T S : Nat → Int32} {t n : Nat} (ht : t ≤ 32) (hn : n ≤ 32) : ∃ b : Int32, ((b = 0 ∧ ¬ ls_lt T S t n) ∨ (b = 1 ∧ t ≤ n ∧ ls_lt T S t n)) ∧ ∀ (cp pr ph gc gp oc ml ol vl tr ac ca pa bk ix cL cH im tl dr cc ld sd : Int32) (gk gb ge po oa mn og vl_ tp cu ce lN lC sk : Nat → Int32) (q : Int32 → Prop), (∀ j, j < t → tp j = T j) → (∀ j, j < n → cu j = S j) → q b → wpX_tapeIsSmaller q (cp, pr, ph, gc, gp, oc, ml, nI n, ol, vl, tr, ac, ca, pa, bk, ix, cL, cH, im, tl, nI t, dr, cc, ld, sd, gk, gb, ge, po, oa, mn, cu, og, vl_, tp, ce, lN, lC, sk) := by
  rcases Nat.lt_trichotomy t n with l | l | l
  · have h1 : ¬ nI t = nI n := fun z => absurd ((nI_eq (by omega) (by omega)).mp z) (by omega)
    have h2 : ¬ nI n ≤ nI t := nI_ge l (by omega)
    exact ⟨1, Or.inr ⟨rfl, by omega, Or.inl l⟩, fun cp pr ph gc gp oc ml ol vl tr ac ca pa bk ix cL cH im tl dr cc ld sd gk gb ge po oa mn og vl_ tp cu ce lN lC sk q e1 e2 hq => br_f h1 (br_f h2 hq)⟩
  · subst l
    obtain ⟨d, hd, h1, h2⟩ := cs_fd T S t
    have ec : (nI d).toNatClampNeg = d := nI_clamp (by omega)
    have hle : nI t ≤ nI t := nI_le (Nat.le_refl t) (by omega)
    by_cases hdt : d = t
    · subst hdt
      refine ⟨0, Or.inl ⟨rfl, fun z => ?_⟩, fun cp pr ph gc gp oc ml ol vl tr ac ca pa bk ix cL cH im tl dr cc ld sd gk gb ge po oa mn og vl_ tp cu ce lN lC sk q e1 e2 hq => br_t rfl ⟨d + 1, cs_xls ht hd (fun j hj => ((e1 j hj).trans (h1 j hj)).trans (e2 j hj).symm) q (fun f => br_t hle hq) d 0 (d + 1) (by omega) (by omega)⟩⟩
      rcases z with z | ⟨_, e, he, _, z⟩
      · omega
      · exact z (by rw [h1 e he]; exact Int32.le_refl _)
    · have hl : ¬ nI t ≤ nI d := nI_ge (by omega) (by omega)
      have hv : vp_in (nI d) 32 := vp_in_nI (by omega) (by omega)
      have hne : ¬ T d = S d := h2 (by omega)
      by_cases z : S d ≤ T d
      · refine ⟨0, Or.inl ⟨rfl, fun w => ?_⟩, fun cp pr ph gc gp oc ml ol vl tr ac ca pa bk ix cL cH im tl dr cc ld sd gk gb ge po oa mn og vl_ tp cu ce lN lC sk q e1 e2 hq => br_t rfl ⟨d + 1, cs_xls ht hd (fun j hj => ((e1 j (by omega)).trans (h1 j hj)).trans (e2 j (by omega)).symm) q (fun f => br_f hl ⟨hv, hv, br_f (by rw [ec, e1 d (by omega), e2 d (by omega)]; exact hne) ⟨hv, hv, br_t (by rw [ec, e1 d (by omega), e2 d (by omega)]; exact z) hq⟩⟩) d 0 (d + 1) (by omega) (by omega)⟩⟩
        rcases w with w | ⟨_, e, he, hb, w⟩
        · omega
        · rcases Nat.lt_trichotomy e d with l | l | l
          · exact w (by rw [h1 e l]; exact Int32.le_refl _)
          · rw [l] at w
            exact w z
          · exact hne (hb d l)
      · exact ⟨1, Or.inr ⟨rfl, Nat.le_refl t, Or.inr ⟨rfl, d, by omega, h1, z⟩⟩, fun cp pr ph gc gp oc ml ol vl tr ac ca pa bk ix cL cH im tl dr cc ld sd gk gb ge po oa mn og vl_ tp cu ce lN lC sk q e1 e2 hq => br_t rfl ⟨d + 1, cs_xls ht hd (fun j hj => ((e1 j (by omega)).trans (h1 j hj)).trans (e2 j (by omega)).symm) q (fun f => br_f hl ⟨hv, hv, br_f (by rw [ec, e1 d (by omega), e2 d (by omega)]; exact hne) ⟨hv, hv, br_f (by rw [ec, e1 d (by omega), e2 d (by omega)]; exact z) hq⟩⟩) d 0 (d + 1) (by omega) (by omega)⟩⟩
  · have h1 : ¬ nI t = nI n := fun z => absurd ((nI_eq (by omega) (by omega)).mp z) (by omega)
    have h2 : nI n ≤ nI t := nI_le (by omega) (by omega)
    refine ⟨0, Or.inl ⟨rfl, fun z => ?_⟩, fun cp pr ph gc gp oc ml ol vl tr ac ca pa bk ix cL cH im tl dr cc ld sd gk gb ge po oa mn og vl_ tp cu ce lN lC sk q e1 e2 hq => br_f h1 (br_t h2 hq)⟩
    rcases z with z | z
    · omega
    · have := z.1
      omega
end
