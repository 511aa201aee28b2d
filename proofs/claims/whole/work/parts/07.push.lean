theorem i_vc_pushChoice {k : Nat} {u : SX} {v : SY} (I : i_Rel k u v) (hk : k + 3 ≤ 1538) (v1 : Int32) : wpX_pushChoice (fun r u' => wpY_pushChoice (fun r' v' => r' = r ∧ i_Rel (k + 3) u' v') v v1) u v1 := by
  refine cs_elim (P := fun u v => wpX_pushChoice (fun r u' => wpY_pushChoice (fun r' v' => r' = r ∧ i_Rel (k + 3) u' v') v v1) u v1) I ?_
  intro cp pr ph gc gp oc ml cl ol vl tr ac ca pa bk ix cL cH im tl tk dr cc ld sd yn yl yt yr yo gk gb ge po oa mn cu og vl_ tp ce lN lC sk yA cd ou sN sS sQ sM hM hG hP hF
  have J : i_Rel (k + 3) (cp, pr, ph, gc, gp, oc, ml, cl, ol, vl, tr, ac, ca, pa, bk, ix, cL, cH, im, tl, tk, dr, cc, ld, sd, gk, gb, ge, po, oa, mn, cu, og, vl_, tp, ce, lN, lC, sk) (pr, cp, ph, gc, gp, oc, ml, cl, ol, vl, tr, ac, ca, pa, bk, ix, cL, cH, im, yn, yl, yt, yr, yo, gk, gb, po, yA, mn, cu, og, vl_, cd, ou, sN, sS, sQ, sM, sk) := cs_mk hM hG hP hF
  obtain ⟨c, m, c4, c32, mc, rfl, rfl, hb⟩ := hM
  refine br_c (fun h => br_t h ⟨rfl, J⟩) fun h => br_c (fun h2 => br_f h (br_t h2 ⟨rfl, J⟩)) fun h2 => ?_
  obtain ⟨b, hb2, rfl⟩ : ∃ b : Nat, b ≤ 255 ∧ v1 = nI b := nI_of2 (M := 255) (n := 255) (by decide) h (Int32.not_lt.mp h2)
  by_cases hc : m < c
  · have hl : nI m < nI c := nI_lt hc (by omega)
    have hi : vp_in (nI m) 32 := vp_in_nI (by omega) (by omega)
    have e1 : (nI m).toNatClampNeg = m := nI_clamp (by omega)
    have K : i_Rel (k + 3) (nI c, pr, ph, gc, gp, oc, nI (m + 1), cl, ol, vl, tr, ac, ca, pa, bk, ix, cL, cH, im, tl, tk, dr, cc, ld, sd, gk, gb, ge, po, oa, upd mn m (nI b), cu, og, vl_, tp, ce, lN, lC, sk) (pr, nI c, ph, gc, gp, oc, nI (m + 1), cl, ol, vl, tr, ac, ca, pa, bk, ix, cL, cH, im, yn, yl, yt, yr, yo, gk, gb, po, yA, upd mn m (nI b), cu, og, vl_, cd, ou, sN, sS, sQ, sM, sk) :=
      cs_mk ⟨c, m + 1, c4, c32, hc, rfl, rfl, cs_bys (cs_byc hb (fun j hj => pk_un (by omega))) (by omega) pk_us⟩ hG hP hF
    exact br_t hl ⟨hi, nm_r (e' := upd mn m (nI b)) (by rw [e1]) (nm_r (nI_1 m) (br_f h (br_f h2 (br_t hl ⟨hi, nm_r (e' := upd mn m (nI b)) (by rw [e1]) (nm_r (nI_1 m) ⟨rfl, K⟩)⟩))))⟩
  · have hl : ¬ nI m < nI c := nI_nlt (by omega) (by omega)
    exact br_f hl (br_f h (br_f h2 (br_f hl ⟨rfl, J⟩)))
theorem cs_Prs {oc : Int32} {po oa yA yA' : Nat → Int32} {m o : Nat} {a : Int32} (hm : m < 32) (ho : o ≤ 14) (H : ∀ j, j < m → ∃ o : Nat, o ≤ 14 ∧ po j = nI o ∧ ((o = 0 ∨ o = 13 ∨ o = 14) → oa j = yA j) ∧ ((o = 13 ∨ o = 14) → ∃ a : Nat, a ≤ 32 ∧ yA j = nI a))
    (h1 : ∀ j, j < m → yA' j = yA j) (h2 : (o = 0 ∨ o = 13 ∨ o = 14) → yA' m = a) (h3 : (o = 13 ∨ o = 14) → ∃ b : Nat, b ≤ 32 ∧ a = nI b) : cs_Pr (nI (m + 1)) (upd po m (nI o)) (upd oa m a) yA' := by
  refine ⟨m + 1, by omega, rfl, fun j hj => ?_⟩
  by_cases z : j = m
  · subst z
    refine ⟨o, ho, pk_us, fun w => ?_, fun w => ?_⟩
    · rw [pk_us, h2 w]
    · obtain ⟨b, hb, e⟩ := h3 w
      exact ⟨b, hb, by rw [h2 (Or.inr w), e]⟩
  · have hjm : j < m := by omega
    obtain ⟨o', a1, a2, a3, a4⟩ := H j hjm
    refine ⟨o', a1, (pk_un z).trans a2, fun w => ?_, fun w => ?_⟩
    · rw [pk_un z, h1 j hjm]
      exact a3 w
    · rw [h1 j hjm]
      exact a4 w
section
variable {cp pr ph gc gp oc ml cl ol vl tr ac ca pa bk ix cL cH im tl tk dr cc ld sd yn yl yt yr yo : Int32} {gk gb ge po oa mn cu og vl_ tp ce lN lC sk yA cd ou sN sS sQ sM : Nat → Int32}
theorem cs_xop {m o : Nat} {a : Int32} (hm : m < 32) (ho : o ≤ 14) (h3 : (o = 13 ∨ o = 14) → ¬ a < 0 ∧ a ≤ 32) (post : Int32 → SX → Prop) (hp : post (nI m) (cp, pr, 0, gc, gp, nI (m + 1), ml, cl, ol, vl, tr, ac, ca, pa, bk, ix, cL, cH, im, tl, tk, dr, cc, ld, sd, gk, gb, ge, upd po m (nI o), upd oa m a, mn, cu, og, vl_, tp, ce, lN, lC, sk)) : wpX_addOp post (cp, pr, 0, gc, gp, nI m, ml, cl, ol, vl, tr, ac, ca, pa, bk, ix, cL, cH, im, tl, tk, dr, cc, ld, sd, gk, gb, ge, po, oa, mn, cu, og, vl_, tp, ce, lN, lC, sk) (nI o) a := by
  have e1 : (nI m).toNatClampNeg = m := nI_clamp (by omega)
  have hi : vp_in (nI m) 32 := vp_in_nI (by omega) (by omega)
  have hl : nI m < 32 := nI_lt (b := 32) hm (by decide)
  have e2 : nI (m + 1) - 1 = nI m := nI_pred m
  refine br_t rfl (br_f (nI_pos (by omega)) (br_t (nI_le (b := 14) ho (by decide)) ?_))
  by_cases h13 : nI o = 13
  · obtain ⟨a0, a1⟩ := h3 (Or.inl ((nI_eq (b := 13) (by omega) (by decide)).mp h13))
    refine br_t h13 (br_f a0 (br_t a1 (br_t hl ⟨hi, nm_r (e' := upd po m (nI o)) (by rw [e1]) ⟨hi, nm_r (e' := upd oa m a) (by rw [e1]) (nm_r (nI_1 m) ?_)⟩⟩)))
    rw [e2]
    exact hp
  · by_cases h14 : nI o = 14
    · obtain ⟨a0, a1⟩ := h3 (Or.inr ((nI_eq (b := 14) (by omega) (by decide)).mp h14))
      refine br_f h13 (br_t h14 (br_f a0 (br_t a1 (br_t hl ⟨hi, nm_r (e' := upd po m (nI o)) (by rw [e1]) ⟨hi, nm_r (e' := upd oa m a) (by rw [e1]) (nm_r (nI_1 m) ?_)⟩⟩))))
      rw [e2]
      exact hp
    · refine br_f h13 (br_f h14 (br_t hl ⟨hi, nm_r (e' := upd po m (nI o)) (by rw [e1]) ⟨hi, nm_r (e' := upd oa m a) (by rw [e1]) (nm_r (nI_1 m) ?_)⟩⟩))
      rw [e2]
      exact hp
theorem cs_yop {m o : Nat} {a : Int32} (hm : m < 32) (ho : o ≤ 14) (h3 : (o = 13 ∨ o = 14) → ¬ a < 0 ∧ a ≤ 32) (post : Int32 → SY → Prop) (hp : post (nI m) (pr, cp, 0, gc, gp, nI (m + 1), ml, cl, ol, vl, tr, ac, ca, pa, bk, ix, cL, cH, im, yn, yl, yt, yr, yo, gk, gb, upd po m (nI o), if o = 0 ∨ o = 13 ∨ o = 14 then upd yA m a else upd yA m 0, mn, cu, og, vl_, cd, ou, sN, sS, sQ, sM, sk)) : wpY_addOp post (pr, cp, 0, gc, gp, nI m, ml, cl, ol, vl, tr, ac, ca, pa, bk, ix, cL, cH, im, yn, yl, yt, yr, yo, gk, gb, po, yA, mn, cu, og, vl_, cd, ou, sN, sS, sQ, sM, sk) (nI o) a := by
  have e1 : (nI m).toNatClampNeg = m := nI_clamp (by omega)
  have hi : vp_in (nI m) 32 := vp_in_nI (by omega) (by omega)
  have hl : nI m < 32 := nI_lt (b := 32) hm (by decide)
  have e2 : nI (m + 1) - 1 = nI m := nI_pred m
  have e3 : upd (upd yA m 0) m a = upd yA m a := cs_uu yA m 0 a
  refine br_t rfl (br_f (nI_pos (by omega)) (br_t (nI_le (b := 14) ho (by decide)) ?_))
  by_cases h13 : nI o = 13
  · have z := (nI_eq (b := 13) (by omega) (by decide)).mp h13
    obtain ⟨a0, a1⟩ := h3 (Or.inl z)
    rw [if_pos (Or.inr (Or.inl z))] at hp
    have h0 : ¬ nI o = 0 := nI_ne0 (by omega) (by omega)
    refine br_t h13 (br_f a0 (br_t a1 (br_t hl ⟨hi, nm_r (e' := upd po m (nI o)) (by rw [e1]) ⟨hi, nm_r (e' := upd yA m 0) (by rw [e1]) (br_f h0 (br_t h13 ⟨hi, nm_r (e' := upd yA m a) (by rw [e1, e3]) (nm_r (nI_1 m) ?_)⟩))⟩⟩)))
    rw [e2]
    exact hp
  · by_cases h14 : nI o = 14
    · have z := (nI_eq (b := 14) (by omega) (by decide)).mp h14
      obtain ⟨a0, a1⟩ := h3 (Or.inr z)
      rw [if_pos (Or.inr (Or.inr z))] at hp
      have h0 : ¬ nI o = 0 := nI_ne0 (by omega) (by omega)
      refine br_f h13 (br_t h14 (br_f a0 (br_t a1 (br_t hl ⟨hi, nm_r (e' := upd po m (nI o)) (by rw [e1]) ⟨hi, nm_r (e' := upd yA m 0) (by rw [e1]) (br_f h0 (br_f h13 (br_t h14 ⟨hi, nm_r (e' := upd yA m a) (by rw [e1, e3]) (nm_r (nI_1 m) ?_)⟩)))⟩⟩))))
      rw [e2]
      exact hp
    · by_cases h0 : nI o = 0
      · have z := (nI_eq (b := 0) (by omega) (by decide)).mp h0
        rw [if_pos (Or.inl z)] at hp
        refine br_f h13 (br_f h14 (br_t hl ⟨hi, nm_r (e' := upd po m (nI o)) (by rw [e1]) ⟨hi, nm_r (e' := upd yA m 0) (by rw [e1]) (br_t h0 ⟨hi, nm_r (e' := upd yA m a) (by rw [e1, e3]) (nm_r (nI_1 m) ?_)⟩)⟩⟩))
        rw [e2]
        exact hp
      · rw [if_neg (fun w => by
          rcases w with w | w | w
          · exact h0 (congrArg nI w)
          · exact h13 (congrArg nI w)
          · exact h14 (congrArg nI w))] at hp
        refine br_f h13 (br_f h14 (br_t hl ⟨hi, nm_r (e' := upd po m (nI o)) (by rw [e1]) ⟨hi, nm_r (e' := upd yA m 0) (by rw [e1]) (br_f h0 (br_f h13 (br_f h14 (nm_r (nI_1 m) ?_))))⟩⟩))
        rw [e2]
        exact hp
theorem cs_xopR {m o : Nat} {a : Int32} (hm : m ≤ 32) (ho : o ≤ 14) (h : 32 ≤ m ∨ ((o = 13 ∨ o = 14) ∧ (a < 0 ∨ ¬ a ≤ 32))) (post : Int32 → SX → Prop) (hp : post (-1) (cp, pr, 0, gc, gp, nI m, ml, cl, ol, vl, tr, ac, ca, pa, bk, ix, cL, cH, im, tl, tk, dr, cc, ld, sd, gk, gb, ge, po, oa, mn, cu, og, vl_, tp, ce, lN, lC, sk)) : wpX_addOp post (cp, pr, 0, gc, gp, nI m, ml, cl, ol, vl, tr, ac, ca, pa, bk, ix, cL, cH, im, tl, tk, dr, cc, ld, sd, gk, gb, ge, po, oa, mn, cu, og, vl_, tp, ce, lN, lC, sk) (nI o) a := by
  refine br_t rfl (br_f (nI_pos (by omega)) (br_t (nI_le (b := 14) ho (by decide)) ?_))
  have hl : ¬ (a < 0 ∨ ¬ a ≤ 32) ∨ ¬ (o = 13 ∨ o = 14) → ¬ nI m < 32 := fun w => nI_nlt (b := 32) (by
    rcases h with h | h
    · exact h
    · exact absurd h (by
        rcases w with w | w
        · exact fun z => w z.2
        · exact fun z => w z.1)) (by omega)
  by_cases h13 : nI o = 13
  · by_cases a0 : a < 0
    · exact br_t h13 (br_t a0 hp)
    · by_cases a1 : a ≤ 32
      · exact br_t h13 (br_f a0 (br_t a1 (br_f (hl (Or.inl (fun z => z.elim a0 (fun y => y a1)))) hp)))
      · exact br_t h13 (br_f a0 (br_f a1 hp))
  · by_cases h14 : nI o = 14
    · by_cases a0 : a < 0
      · exact br_f h13 (br_t h14 (br_t a0 hp))
      · by_cases a1 : a ≤ 32
        · exact br_f h13 (br_t h14 (br_f a0 (br_t a1 (br_f (hl (Or.inl (fun z => z.elim a0 (fun y => y a1)))) hp))))
        · exact br_f h13 (br_t h14 (br_f a0 (br_f a1 hp)))
    · exact br_f h13 (br_f h14 (br_f (hl (Or.inr (fun z => z.elim (fun y => h13 (congrArg nI y)) (fun y => h14 (congrArg nI y))))) hp))
theorem cs_yopR {m o : Nat} {a : Int32} (hm : m ≤ 32) (ho : o ≤ 14) (h : 32 ≤ m ∨ ((o = 13 ∨ o = 14) ∧ (a < 0 ∨ ¬ a ≤ 32))) (post : Int32 → SY → Prop) (hp : post (-1) (pr, cp, 0, gc, gp, nI m, ml, cl, ol, vl, tr, ac, ca, pa, bk, ix, cL, cH, im, yn, yl, yt, yr, yo, gk, gb, po, yA, mn, cu, og, vl_, cd, ou, sN, sS, sQ, sM, sk)) : wpY_addOp post (pr, cp, 0, gc, gp, nI m, ml, cl, ol, vl, tr, ac, ca, pa, bk, ix, cL, cH, im, yn, yl, yt, yr, yo, gk, gb, po, yA, mn, cu, og, vl_, cd, ou, sN, sS, sQ, sM, sk) (nI o) a := by
  refine br_t rfl (br_f (nI_pos (by omega)) (br_t (nI_le (b := 14) ho (by decide)) ?_))
  have hl : ¬ (a < 0 ∨ ¬ a ≤ 32) ∨ ¬ (o = 13 ∨ o = 14) → ¬ nI m < 32 := fun w => nI_nlt (b := 32) (by
    rcases h with h | h
    · exact h
    · exact absurd h (by
        rcases w with w | w
        · exact fun z => w z.2
        · exact fun z => w z.1)) (by omega)
  by_cases h13 : nI o = 13
  · by_cases a0 : a < 0
    · exact br_t h13 (br_t a0 hp)
    · by_cases a1 : a ≤ 32
      · exact br_t h13 (br_f a0 (br_t a1 (br_f (hl (Or.inl (fun z => z.elim a0 (fun y => y a1)))) hp)))
      · exact br_t h13 (br_f a0 (br_f a1 hp))
  · by_cases h14 : nI o = 14
    · by_cases a0 : a < 0
      · exact br_f h13 (br_t h14 (br_t a0 hp))
      · by_cases a1 : a ≤ 32
        · exact br_f h13 (br_t h14 (br_f a0 (br_t a1 (br_f (hl (Or.inl (fun z => z.elim a0 (fun y => y a1)))) hp))))
        · exact br_f h13 (br_t h14 (br_f a0 (br_f a1 hp)))
    · exact br_f h13 (br_f h14 (br_f (hl (Or.inr (fun z => z.elim (fun y => h13 (congrArg nI y)) (fun y => h14 (congrArg nI y))))) hp))
end
theorem i_vc_addOp {k : Nat} {u : SX} {v : SY} (I : i_Rel k u v) (hk : k + 3 ≤ 1538) (v1 : Int32) (v2 : Int32) : wpX_addOp (fun r u' => wpY_addOp (fun r' v' => r' = r ∧ i_Rel (k + 3) u' v') v v1 v2) u v1 v2 := by
  refine cs_elim (P := fun u v => wpX_addOp (fun r u' => wpY_addOp (fun r' v' => r' = r ∧ i_Rel (k + 3) u' v') v v1 v2) u v1 v2) I ?_
  intro cp pr ph gc gp oc ml cl ol vl tr ac ca pa bk ix cL cH im tl tk dr cc ld sd yn yl yt yr yo gk gb ge po oa mn cu og vl_ tp ce lN lC sk yA cd ou sN sS sQ sM hM hG hP hF
  have J : i_Rel (k + 3) (cp, pr, ph, gc, gp, oc, ml, cl, ol, vl, tr, ac, ca, pa, bk, ix, cL, cH, im, tl, tk, dr, cc, ld, sd, gk, gb, ge, po, oa, mn, cu, og, vl_, tp, ce, lN, lC, sk) (pr, cp, ph, gc, gp, oc, ml, cl, ol, vl, tr, ac, ca, pa, bk, ix, cL, cH, im, yn, yl, yt, yr, yo, gk, gb, po, yA, mn, cu, og, vl_, cd, ou, sN, sS, sQ, sM, sk) := cs_mk hM hG hP hF
  obtain ⟨m, hm, rfl, H⟩ := hP
  by_cases hp : ph = 0
  · subst hp
    by_cases h : v1 < 0
    · exact br_t rfl (br_t h (br_t rfl (br_t h ⟨rfl, J⟩)))
    · by_cases h2 : v1 ≤ 14
      · obtain ⟨o, ho, rfl⟩ : ∃ o : Nat, o ≤ 14 ∧ v1 = nI o := nI_of2 (M := 14) (n := 14) (by decide) h h2
        by_cases h3 : (o = 13 ∨ o = 14) → ¬ v2 < 0 ∧ v2 ≤ 32
        · by_cases h4 : m < 32
          · refine cs_xop h4 ho h3 _ (cs_yop h4 ho h3 _ ⟨rfl, ?_⟩)
            refine cs_mk hM hG (cs_Prs (oc := nI m) h4 ho H (fun j hj => ?_) (fun w => ?_) (fun w => ?_)) hF
            · split <;> exact pk_un (by omega)
            · rw [if_pos w]
              exact pk_us
            · obtain ⟨a0, a1⟩ := h3 w
              exact nI_of2 (M := 32) (n := 32) (by decide) a0 a1
          · exact cs_xopR hm ho (Or.inl (by omega)) _ (cs_yopR hm ho (Or.inl (by omega)) _ ⟨rfl, J⟩)
        · have w : (o = 13 ∨ o = 14) ∧ (v2 < 0 ∨ ¬ v2 ≤ 32) := by
            by_cases w1 : o = 13 ∨ o = 14
            · refine ⟨w1, ?_⟩
              by_cases w2 : v2 < 0
              · exact Or.inl w2
              · by_cases w3 : v2 ≤ 32
                · exact absurd (fun _ => ⟨w2, w3⟩) h3
                · exact Or.inr w3
            · exact absurd (fun z => absurd z w1) h3
          exact cs_xopR hm ho (Or.inr w) _ (cs_yopR hm ho (Or.inr w) _ ⟨rfl, J⟩)
      · exact br_t rfl (br_f h (br_f h2 (br_t rfl (br_f h (br_f h2 ⟨rfl, J⟩)))))
  · exact br_f hp (br_f hp ⟨rfl, J⟩)
