section
variable {cp pr ph gc gp oc ml cl ol vl tr ac ca pa bk ix cL cH im tl tk dr cc ld sd : Int32} {gk gb ge po oa mn cu og vl_ tp ce lN lC sk ou : Nat → Int32}
theorem cs_xsi3 {n j : Nat} (hn : n ≤ 32) (hj : j ≤ 40) (post : St2 → Prop) (hp : post (cp, pr, ph, gc, gp, oc, ml, nI n, ol, vl, tr, ac, ca, nI 3, bk, nI j, 0, if j < n then cu j else 0, im, tl, tk, dr, cc, ld, sd, gk, gb, ge, po, oa, mn, cu, og, vl_, tp, ce, lN, lC, sk)) : wpX_startIndex post (cp, pr, ph, gc, gp, oc, ml, nI n, ol, vl, tr, ac, ca, nI 3, bk, ix, cL, cH, im, tl, tk, dr, cc, ld, sd, gk, gb, ge, po, oa, mn, cu, og, vl_, tp, ce, lN, lC, sk) (nI j) := by
  by_cases h : j < n
  · rw [if_pos h] at hp
    exact br_t rfl (br_f (nI_ge h (by omega)) ⟨vp_in_nI (by omega) (by omega), nm_r (e' := cu j) (by rw [nI_clamp (by omega)]) hp⟩)
  · rw [if_neg h] at hp
    exact br_t rfl (br_t (nI_le (by omega) (by omega)) hp)
theorem cs_xsiN {x : Int32} (hpa : ¬ pa = 3) (post : St2 → Prop) (hp : post (cp, pr, ph, gc, gp, oc, ml, cl, ol, vl, tr, ac, ca, pa, bk, x, 0, 0, im, tl, tk, dr, cc, ld, sd, gk, gb, ge, po, oa, mn, cu, og, vl_, tp, ce, lN, lC, sk)) : wpX_startIndex post (cp, pr, ph, gc, gp, oc, ml, cl, ol, vl, tr, ac, ca, pa, bk, ix, cL, cH, im, tl, tk, dr, cc, ld, sd, gk, gb, ge, po, oa, mn, cu, og, vl_, tp, ce, lN, lC, sk) x := br_f hpa hp
theorem cs_insN {n i k : Nat} (hpa : ¬ pa = 4) (hn : n ≤ 32) (hi : i ≤ 40) (hk : k ≤ 4) (q : Int32 → Prop) (h1 : i + k ≤ n → q 1) (h0 : n < i + k → q 0) : wpX_insideSequence q (cp, pr, ph, gc, gp, oc, ml, nI n, ol, vl, tr, ac, ca, pa, nI k, nI i, cL, cH, im, tl, tk, dr, cc, ld, sd, gk, gb, ge, po, oa, mn, cu, og, vl_, tp, ce, lN, lC, sk) := by
  have e : nI i + nI k = nI (i + k) := nI_add i k
  by_cases h : i + k ≤ n
  · exact br_f hpa (br_f (by rw [e]; exact nI_nlt h (by omega)) (h1 h))
  · exact br_f hpa (br_t (by rw [e]; exact nI_lt (by omega) (by omega)) (h0 (by omega)))
theorem cs_ins4 {n i : Nat} (hn : n ≤ 32) (hi : i ≤ 40) (q : Int32 → Prop) (h1 : i + 1 < n → q 1) (h0 : n ≤ i + 1 → q 0) : wpX_insideSequence q (cp, pr, ph, gc, gp, oc, ml, nI n, ol, vl, tr, ac, ca, nI 4, bk, nI i, cL, cH, im, tl, tk, dr, cc, ld, sd, gk, gb, ge, po, oa, mn, cu, og, vl_, tp, ce, lN, lC, sk) := by
  have e : nI i + 2 = nI (i + 2) := nI_add i 2
  by_cases h : i + 1 < n
  · exact br_t rfl (br_f (by rw [e]; exact nI_nlt (by omega) (by omega)) (h1 h))
  · exact br_t rfl (br_t (by rw [e]; exact nI_lt (by omega) (by omega)) (h0 (by omega)))
theorem cs_atO {n i k : Nat} (hpa : ¬ pa = 4) (hn : n ≤ 32) (hi : i ≤ 40) (hk : k ≤ 4) (h : n < i + k) (q : Int32 → Prop) (hq : q 0) : wpX_atTrial q (cp, pr, ph, gc, gp, oc, ml, nI n, ol, vl, tr, ac, ca, pa, nI k, nI i, cL, cH, im, tl, tk, dr, cc, ld, sd, gk, gb, ge, po, oa, mn, cu, og, vl_, tp, ce, lN, lC, sk) := by
  unfold wpX_atTrial
  exact cs_insN hpa hn hi hk _ (fun z => absurd z (by omega)) (fun _ => br_t rfl hq)
theorem cs_atO4 {n i : Nat} (hn : n ≤ 32) (hi : i ≤ 40) (h : n ≤ i + 1) (q : Int32 → Prop) (hq : q 0) : wpX_atTrial q (cp, pr, ph, gc, gp, oc, ml, nI n, ol, vl, tr, ac, ca, nI 4, bk, nI i, cL, cH, im, tl, tk, dr, cc, ld, sd, gk, gb, ge, po, oa, mn, cu, og, vl_, tp, ce, lN, lC, sk) := by
  unfold wpX_atTrial
  exact cs_ins4 hn hi _ (fun z => absurd z (by omega)) (fun _ => br_t rfl hq)
theorem cs_at1 {n i k : Nat} (hn : n ≤ 32) (hk : k ≤ 4) (h : i + k ≤ n) (q : Int32 → Prop) (hq : q 1) : wpX_atTrial q (cp, pr, ph, gc, gp, oc, ml, nI n, ol, vl, tr, ac, ca, nI 1, nI k, nI i, cL, cH, im, tl, tk, dr, cc, ld, sd, gk, gb, ge, po, oa, mn, cu, og, vl_, tp, ce, lN, lC, sk) := by
  unfold wpX_atTrial
  exact cs_insN (by decide) hn (by omega) hk _ (fun _ => br_f (by decide) (br_t (by decide) hq)) (fun z => absurd z (by omega))
theorem cs_at2 {n i k : Nat} {z : Int32} (hn : n ≤ 32) (hk : k ≤ 4) (h : i + k ≤ n) (hz : ∀ q : Int32 → Prop, q z → wpX_blockIsZero q (cp, pr, ph, gc, gp, oc, ml, nI n, ol, vl, tr, ac, ca, nI 2, nI k, nI i, cL, cH, im, tl, tk, dr, cc, ld, sd, gk, gb, ge, po, oa, mn, cu, og, vl_, tp, ce, lN, lC, sk)) (q : Int32 → Prop) (hq : (z = 0 → q 1) ∧ (¬ z = 0 → q 0)) : wpX_atTrial q (cp, pr, ph, gc, gp, oc, ml, nI n, ol, vl, tr, ac, ca, nI 2, nI k, nI i, cL, cH, im, tl, tk, dr, cc, ld, sd, gk, gb, ge, po, oa, mn, cu, og, vl_, tp, ce, lN, lC, sk) := by
  unfold wpX_atTrial
  exact cs_insN (by decide) hn (by omega) hk _ (fun _ => br_f (by decide) (br_f (by decide) (br_f (by decide) (br_t rfl (hz _ hq))))) (fun z => absurd z (by omega))
theorem cs_at3 {n i : Nat} (hn : n ≤ 32) (h : i < n) (q : Int32 → Prop) (hq : (cH ≤ cL → q 0) ∧ (¬ cH ≤ cL → q 1)) : wpX_atTrial q (cp, pr, ph, gc, gp, oc, ml, nI n, ol, vl, tr, ac, ca, nI 3, nI 1, nI i, cL, cH, im, tl, tk, dr, cc, ld, sd, gk, gb, ge, po, oa, mn, cu, og, vl_, tp, ce, lN, lC, sk) := by
  unfold wpX_atTrial
  exact cs_insN (by decide) hn (by omega) (by omega) _ (fun _ => br_f (by decide) (br_f (by decide) (br_f (by decide) (br_f (by decide) (br_t rfl hq))))) (fun z => absurd z (by omega))
theorem cs_at4 {n i : Nat} (hn : n ≤ 32) (h : i + 1 < n) (q : Int32 → Prop) (hq : (cu i ≤ cu (i + 1) → q 0) ∧ (¬ cu i ≤ cu (i + 1) → q 1)) : wpX_atTrial q (cp, pr, ph, gc, gp, oc, ml, nI n, ol, vl, tr, ac, ca, nI 4, bk, nI i, cL, cH, im, tl, tk, dr, cc, ld, sd, gk, gb, ge, po, oa, mn, cu, og, vl_, tp, ce, lN, lC, sk) := by
  have e0 : (nI i).toNatClampNeg = i := nI_clamp (by omega)
  have e1 : (nI i + 1).toNatClampNeg = i + 1 := by rw [nI_1, nI_clamp (by omega)]
  unfold wpX_atTrial
  refine cs_ins4 hn (by omega) _ (fun _ => br_f (by decide) (br_f (by decide) (br_f (by decide) (br_f (by decide) (br_f (by decide) (br_t rfl ⟨vp_in_nI (by omega) (by omega), by rw [nI_1]; exact vp_in_nI (by omega) (by omega), ?_⟩)))))) (fun z => absurd z (by omega))
  rw [e0, e1]
  exact hq
theorem cs_soI {n i k : Nat} (hpa : ¬ pa = 4) (hpa3 : ¬ pa = 3) (hn : n ≤ 32) (hk : k ≤ 4) (h : i + k ≤ n) (p : St2 → Prop) (hp : p (cp, pr, ph, gc, gp, oc, ml, nI n, ol, vl, tr, ac, ca, pa, nI k, nI (i + 1), 0, 0, im, tl, tk, dr, cc, ld, sd, gk, gb, ge, po, oa, mn, cu, og, vl_, tp, ce, lN, lC, sk)) : wpX_stepOn p (cp, pr, ph, gc, gp, oc, ml, nI n, ol, vl, tr, ac, ca, pa, nI k, nI i, cL, cH, im, tl, tk, dr, cc, ld, sd, gk, gb, ge, po, oa, mn, cu, og, vl_, tp, ce, lN, lC, sk) := by
  unfold wpX_stepOn
  refine cs_insN hpa hn (by omega) hk _ (fun _ => br_f (by decide) ?_) (fun z => absurd z (by omega))
  rw [nI_1]
  exact cs_xsiN hpa3 _ hp
theorem cs_soI4 {n i : Nat} (hn : n ≤ 32) (h : i + 1 < n) (p : St2 → Prop) (hp : p (cp, pr, ph, gc, gp, oc, ml, nI n, ol, vl, tr, ac, ca, nI 4, bk, nI (i + 1), 0, 0, im, tl, tk, dr, cc, ld, sd, gk, gb, ge, po, oa, mn, cu, og, vl_, tp, ce, lN, lC, sk)) : wpX_stepOn p (cp, pr, ph, gc, gp, oc, ml, nI n, ol, vl, tr, ac, ca, nI 4, bk, nI i, cL, cH, im, tl, tk, dr, cc, ld, sd, gk, gb, ge, po, oa, mn, cu, og, vl_, tp, ce, lN, lC, sk) := by
  unfold wpX_stepOn
  refine cs_ins4 hn (by omega) _ (fun _ => br_f (by decide) ?_) (fun z => absurd z (by omega))
  rw [nI_1]
  exact cs_xsiN (by decide) _ hp
theorem cs_soI3 {n i : Nat} (hn : n ≤ 32) (h : i < n) (p : St2 → Prop) (hp : p (cp, pr, ph, gc, gp, oc, ml, nI n, ol, vl, tr, ac, ca, nI 3, nI 1, nI (i + 1), 0, if i + 1 < n then cu (i + 1) else 0, im, tl, tk, dr, cc, ld, sd, gk, gb, ge, po, oa, mn, cu, og, vl_, tp, ce, lN, lC, sk)) : wpX_stepOn p (cp, pr, ph, gc, gp, oc, ml, nI n, ol, vl, tr, ac, ca, nI 3, nI 1, nI i, cL, cH, im, tl, tk, dr, cc, ld, sd, gk, gb, ge, po, oa, mn, cu, og, vl_, tp, ce, lN, lC, sk) := by
  unfold wpX_stepOn
  refine cs_insN (by decide) hn (by omega) (by omega) _ (fun _ => br_f (by decide) ?_) (fun z => absurd z (by omega))
  rw [nI_1]
  exact cs_xsi3 hn (by omega) _ hp
theorem cs_soH {n i k : Nat} (hpa : ¬ pa = 4) (hpa3 : ¬ pa = 3) (hn : n ≤ 32) (hi : i ≤ 40) (hk : k ≤ 4) (hk1 : 1 < k) (h : n < i + k) (p : St2 → Prop) (hp : p (cp, pr, ph, gc, gp, oc, ml, nI n, ol, vl, tr, ac, ca, pa, nI (k / 2), nI 0, 0, 0, im, tl, tk, dr, cc, ld, sd, gk, gb, ge, po, oa, mn, cu, og, vl_, tp, ce, lN, lC, sk)) : wpX_stepOn p (cp, pr, ph, gc, gp, oc, ml, nI n, ol, vl, tr, ac, ca, pa, nI k, nI i, cL, cH, im, tl, tk, dr, cc, ld, sd, gk, gb, ge, po, oa, mn, cu, og, vl_, tp, ce, lN, lC, sk) := by
  unfold wpX_stepOn
  refine cs_insN hpa hn hi hk _ (fun z => absurd z (by omega)) (fun _ => br_t rfl (br_f (nI_ge (b := k) (a := 1) hk1 (by omega)) ⟨by decide, nm_r (pk_div (d := 2) (by omega) (by decide) (by decide)) (cs_xsiN hpa3 _ hp)⟩))
theorem cs_soP1 {n i : Nat} (hn : n ≤ 32) (hi : i ≤ 40) (h : n < i + 1) (p : St2 → Prop) (hp : p (cp, pr, ph, gc, gp, oc, ml, nI n, ol, vl, tr, ac, ca, nI 2, nI 4, nI 0, 0, 0, im, tl, tk, dr, cc, ld, sd, gk, gb, ge, po, oa, mn, cu, og, vl_, tp, ce, lN, lC, sk)) : wpX_stepOn p (cp, pr, ph, gc, gp, oc, ml, nI n, ol, vl, tr, ac, ca, nI 1, nI 1, nI i, cL, cH, im, tl, tk, dr, cc, ld, sd, gk, gb, ge, po, oa, mn, cu, og, vl_, tp, ce, lN, lC, sk) := by
  unfold wpX_stepOn
  exact cs_insN (by decide) hn hi (by omega) _ (fun z => absurd z (by omega)) (fun _ => br_t rfl (br_t (by decide) (br_f (by decide) (br_f (by decide) (br_t rfl (br_f (by decide) hp))))))
theorem cs_soP2 {n i : Nat} (hn : n ≤ 32) (hi : i ≤ 40) (h : n < i + 1) (p : St2 → Prop) (hp : p (cp, pr, ph, gc, gp, oc, ml, nI n, ol, vl, tr, ac, ca, nI 3, nI 1, nI 0, 0, if 0 < n then cu 0 else 0, im, tl, tk, dr, cc, ld, sd, gk, gb, ge, po, oa, mn, cu, og, vl_, tp, ce, lN, lC, sk)) : wpX_stepOn p (cp, pr, ph, gc, gp, oc, ml, nI n, ol, vl, tr, ac, ca, nI 2, nI 1, nI i, cL, cH, im, tl, tk, dr, cc, ld, sd, gk, gb, ge, po, oa, mn, cu, og, vl_, tp, ce, lN, lC, sk) := by
  unfold wpX_stepOn
  refine cs_insN (by decide) hn hi (by omega) _ (fun z => absurd z (by omega)) (fun _ => br_t rfl (br_t (by decide) (br_f (by decide) (br_f (by decide) (br_f (by decide) ?_)))))
  exact cs_xsi3 (j := 0) hn (by omega) _ hp
theorem cs_soP3 {n i : Nat} (hn : n ≤ 32) (hi : i ≤ 40) (h : n < i + 1) (p : St2 → Prop) (hp : p (cp, pr, ph, gc, gp, oc, ml, nI n, ol, vl, tr, ac, ca, nI 4, nI 1, nI 0, 0, 0, im, tl, tk, dr, cc, ld, sd, gk, gb, ge, po, oa, mn, cu, og, vl_, tp, ce, lN, lC, sk)) : wpX_stepOn p (cp, pr, ph, gc, gp, oc, ml, nI n, ol, vl, tr, ac, ca, nI 3, nI 1, nI i, cL, cH, im, tl, tk, dr, cc, ld, sd, gk, gb, ge, po, oa, mn, cu, og, vl_, tp, ce, lN, lC, sk) := by
  unfold wpX_stepOn
  exact cs_insN (by decide) hn hi (by omega) _ (fun z => absurd z (by omega)) (fun _ => br_t rfl (br_t (by decide) (br_f (by decide) (br_f (by decide) (br_f (by decide) (br_f (by decide) hp))))))
theorem cs_so4R {n i : Nat} (hn : n ≤ 32) (hi : i ≤ 40) (h : n ≤ i + 1) (p : St2 → Prop) (hp : p (cp, pr, ph, gc, gp, oc, ml, nI n, ol, vl, tr, ac, ca, nI 1, nI 4, nI 0, 0, 0, 0, tl, tk, dr, cc, ld, sd, gk, gb, ge, po, oa, mn, cu, og, vl_, tp, ce, lN, lC, sk)) : wpX_stepOn p (cp, pr, ph, gc, gp, oc, ml, nI n, ol, vl, tr, ac, ca, nI 4, nI 1, nI i, cL, cH, 1, tl, tk, dr, cc, ld, sd, gk, gb, ge, po, oa, mn, cu, og, vl_, tp, ce, lN, lC, sk) := by
  unfold wpX_stepOn
  exact cs_ins4 hn hi _ (fun z => absurd z (by omega)) (fun _ => br_t rfl (br_t (by decide) (br_t rfl (br_t rfl (br_t rfl (br_f (by decide) hp))))))
theorem cs_so4D {n i : Nat} (hn : n ≤ 32) (hi : i ≤ 40) (h : n ≤ i + 1) (p : St2 → Prop) (hp : p (cp, pr, 2, gc, gp, oc, ml, nI n, ol, vl, tr, ac, ca, 0, 0, 0, 0, 0, 0, tl, tk, dr, cc, ld, sd, gk, gb, ge, po, oa, mn, cu, og, vl_, tp, ce, lN, lC, sk)) : wpX_stepOn p (cp, pr, ph, gc, gp, oc, ml, nI n, ol, vl, tr, ac, ca, nI 4, nI 1, nI i, cL, cH, 0, tl, tk, dr, cc, ld, sd, gk, gb, ge, po, oa, mn, cu, og, vl_, tp, ce, lN, lC, sk) := by
  unfold wpX_stepOn
  exact cs_ins4 hn hi _ (fun z => absurd z (by omega)) (fun _ => br_t rfl (br_t (by decide) (br_t rfl (br_f (by decide) hp))))
variable {ph' pa' bk' ix' cL' cH' im' : Int32}
theorem cs_mstep {st fuel : Nat} (hst : st < 1000000) (hat : ∀ q : Int32 → Prop, q 0 → wpX_atTrial q (cp, pr, 1, gc, gp, oc, ml, cl, ol, vl, tr, ac, ca, pa, bk, ix, cL, cH, im, tl, tk, dr, cc, ld, sd, gk, gb, ge, po, oa, mn, cu, og, vl_, tp, ce, lN, lC, sk)) (hso : ∀ p : St2 → Prop, p (cp, pr, ph', gc, gp, oc, ml, cl, ol, vl, tr, ac, ca, pa', bk', ix', cL', cH', im', tl, tk, dr, cc, ld, sd, gk, gb, ge, po, oa, mn, cu, og, vl_, tp, ce, lN, lC, sk) → wpX_stepOn p (cp, pr, 1, gc, gp, oc, ml, cl, ol, vl, tr, ac, ca, pa, bk, ix, cL, cH, im, tl, tk, dr, cc, ld, sd, gk, gb, ge, po, oa, mn, cu, og, vl_, tp, ce, lN, lC, sk)) (post : St2 → Prop) (hp : wX_moveToTrial_2 post fuel (nI (st + 1)) cp pr ph' gc gp oc ml cl ol vl tr ac ca pa' bk' ix' cL' cH' im' tl tk dr cc ld sd gk gb ge po oa mn cu og vl_ tp ce lN lC sk) : wX_moveToTrial_2 post (fuel + 1) (nI st) cp pr 1 gc gp oc ml cl ol vl tr ac ca pa bk ix cL cH im tl tk dr cc ld sd gk gb ge po oa mn cu og vl_ tp ce lN lC sk :=
  br_f (nI_ge (b := 1000000) hst (by decide)) (br_t rfl (hat _ (br_t rfl (hso _ (nm_r (nI_1 st) hp)))))
theorem cs_mstop {st fuel : Nat} (hst : st < 1000000) (hat : ∀ q : Int32 → Prop, q 1 → wpX_atTrial q (cp, pr, 1, gc, gp, oc, ml, cl, ol, vl, tr, ac, ca, pa, bk, ix, cL, cH, im, tl, tk, dr, cc, ld, sd, gk, gb, ge, po, oa, mn, cu, og, vl_, tp, ce, lN, lC, sk)) (post : St2 → Prop) (hp : post (cp, pr, 1, gc, gp, oc, ml, cl, ol, vl, tr, ac, ca, pa, bk, ix, cL, cH, im, tl, tk, dr, cc, ld, sd, gk, gb, ge, po, oa, mn, cu, og, vl_, tp, ce, lN, lC, sk)) : wX_moveToTrial_2 post (fuel + 1) (nI st) cp pr 1 gc gp oc ml cl ol vl tr ac ca pa bk ix cL cH im tl tk dr cc ld sd gk gb ge po oa mn cu og vl_ tp ce lN lC sk :=
  br_f (nI_ge (b := 1000000) hst (by decide)) (br_t rfl (hat _ (br_f (by decide) hp)))
theorem cs_mdone {st fuel : Nat} (post : St2 → Prop) (hp : post (cp, pr, 2, gc, gp, oc, ml, cl, ol, vl, tr, ac, ca, pa, bk, ix, cL, cH, im, tl, tk, dr, cc, ld, sd, gk, gb, ge, po, oa, mn, cu, og, vl_, tp, ce, lN, lC, sk)) : wX_moveToTrial_2 post (fuel + 1) (nI st) cp pr 2 gc gp oc ml cl ol vl tr ac ca pa bk ix cL cH im tl tk dr cc ld sd gk gb ge po oa mn cu og vl_ tp ce lN lC sk :=
  br_c (fun _ => hp) (fun _ => br_f (by decide) hp)
end
