theorem i_vc_discard {k : Nat} {u : SX} {v : SY} (I : i_Rel k u v) (hk : k + 3 ≤ 1538) : wpX_discard (fun u' => wpY_discard (fun v' => i_Rel (k + 3) u' v') v) u := by
  refine cs_elim (P := fun u v => wpX_discard (fun u' => wpY_discard (fun v' => i_Rel (k + 3) u' v') v) u) I ?_
  intro cp pr ph gc gp oc ml cl ol vl tr ac ca pa bk ix cL cH im tl tk dr cc ld sd yn yl yt yr yo gk gb ge po oa mn cu og vl_ tp ce lN lC sk yA cd ou sN sS sQ sM hM hG hP hF
  have J : i_Rel (k + 3) (cp, pr, ph, gc, gp, oc, ml, cl, ol, vl, tr, ac, ca, pa, bk, ix, cL, cH, im, tl, tk, dr, cc, ld, sd, gk, gb, ge, po, oa, mn, cu, og, vl_, tp, ce, lN, lC, sk) (pr, cp, ph, gc, gp, oc, ml, cl, ol, vl, tr, ac, ca, pa, bk, ix, cL, cH, im, yn, yl, yt, yr, yo, gk, gb, po, yA, mn, cu, og, vl_, cd, ou, sN, sS, sQ, sM, sk) := cs_mk hM hG hP hF
  have J : i_Rel (k + 3) (cp, pr, 0, gc, gp, oc, 0, 0, 0, 0, 0, 0, ca, 0, 0, 0, 0, 0, 0, tl, tk, dr, cc, ld, sd, gk, gb, ge, po, oa, mn, cu, og, vl_, tp, ce, lN, lC, sk) (pr, cp, 0, gc, gp, oc, 0, 0, 0, 0, 0, 0, ca, 0, 0, 0, 0, 0, 0, 0, yl, yt, yr, yo, gk, gb, po, yA, mn, cu, og, vl_, cd, ou, sN, sS, sQ, sM, sk) :=
    cs_mk (cs_M0 hM) hG hP (cs_F0 gp cu)
  exact J
theorem i_vc_phase {k : Nat} {u : SX} {v : SY} (I : i_Rel k u v) (hk : k + 3 ≤ 1538) : wpX_phase (fun r => wpY_phase (fun r' => r' = r ∧ i_Rel (k + 3) u v) v) u := by
  refine cs_elim (P := fun u v => wpX_phase (fun r => wpY_phase (fun r' => r' = r ∧ i_Rel (k + 3) u v) v) u) I ?_
  intro cp pr ph gc gp oc ml cl ol vl tr ac ca pa bk ix cL cH im tl tk dr cc ld sd yn yl yt yr yo gk gb ge po oa mn cu og vl_ tp ce lN lC sk yA cd ou sN sS sQ sM hM hG hP hF
  have J : i_Rel (k + 3) (cp, pr, ph, gc, gp, oc, ml, cl, ol, vl, tr, ac, ca, pa, bk, ix, cL, cH, im, tl, tk, dr, cc, ld, sd, gk, gb, ge, po, oa, mn, cu, og, vl_, tp, ce, lN, lC, sk) (pr, cp, ph, gc, gp, oc, ml, cl, ol, vl, tr, ac, ca, pa, bk, ix, cL, cH, im, yn, yl, yt, yr, yo, gk, gb, po, yA, mn, cu, og, vl_, cd, ou, sN, sS, sQ, sM, sk) := cs_mk hM hG hP hF
  exact ⟨rfl, J⟩
theorem i_vc_seqLength {k : Nat} {u : SX} {v : SY} (I : i_Rel k u v) (hk : k + 3 ≤ 1538) : wpX_seqLength (fun r => wpY_seqLength (fun r' => r' = r ∧ i_Rel (k + 3) u v) v) u := by
  refine cs_elim (P := fun u v => wpX_seqLength (fun r => wpY_seqLength (fun r' => r' = r ∧ i_Rel (k + 3) u v) v) u) I ?_
  intro cp pr ph gc gp oc ml cl ol vl tr ac ca pa bk ix cL cH im tl tk dr cc ld sd yn yl yt yr yo gk gb ge po oa mn cu og vl_ tp ce lN lC sk yA cd ou sN sS sQ sM hM hG hP hF
  have J : i_Rel (k + 3) (cp, pr, ph, gc, gp, oc, ml, cl, ol, vl, tr, ac, ca, pa, bk, ix, cL, cH, im, tl, tk, dr, cc, ld, sd, gk, gb, ge, po, oa, mn, cu, og, vl_, tp, ce, lN, lC, sk) (pr, cp, ph, gc, gp, oc, ml, cl, ol, vl, tr, ac, ca, pa, bk, ix, cL, cH, im, yn, yl, yt, yr, yo, gk, gb, po, yA, mn, cu, og, vl_, cd, ou, sN, sS, sQ, sM, sk) := cs_mk hM hG hP hF
  exact ⟨rfl, J⟩
theorem i_vc_origLength {k : Nat} {u : SX} {v : SY} (I : i_Rel k u v) (hk : k + 3 ≤ 1538) : wpX_origLength (fun r => wpY_origLength (fun r' => r' = r ∧ i_Rel (k + 3) u v) v) u := by
  refine cs_elim (P := fun u v => wpX_origLength (fun r => wpY_origLength (fun r' => r' = r ∧ i_Rel (k + 3) u v) v) u) I ?_
  intro cp pr ph gc gp oc ml cl ol vl tr ac ca pa bk ix cL cH im tl tk dr cc ld sd yn yl yt yr yo gk gb ge po oa mn cu og vl_ tp ce lN lC sk yA cd ou sN sS sQ sM hM hG hP hF
  have J : i_Rel (k + 3) (cp, pr, ph, gc, gp, oc, ml, cl, ol, vl, tr, ac, ca, pa, bk, ix, cL, cH, im, tl, tk, dr, cc, ld, sd, gk, gb, ge, po, oa, mn, cu, og, vl_, tp, ce, lN, lC, sk) (pr, cp, ph, gc, gp, oc, ml, cl, ol, vl, tr, ac, ca, pa, bk, ix, cL, cH, im, yn, yl, yt, yr, yo, gk, gb, po, yA, mn, cu, og, vl_, cd, ou, sN, sS, sQ, sM, sk) := cs_mk hM hG hP hF
  exact ⟨rfl, J⟩
theorem i_vc_valueLength {k : Nat} {u : SX} {v : SY} (I : i_Rel k u v) (hk : k + 3 ≤ 1538) : wpX_valueLength (fun r => wpY_valueLength (fun r' => r' = r ∧ i_Rel (k + 3) u v) v) u := by
  refine cs_elim (P := fun u v => wpX_valueLength (fun r => wpY_valueLength (fun r' => r' = r ∧ i_Rel (k + 3) u v) v) u) I ?_
  intro cp pr ph gc gp oc ml cl ol vl tr ac ca pa bk ix cL cH im tl tk dr cc ld sd yn yl yt yr yo gk gb ge po oa mn cu og vl_ tp ce lN lC sk yA cd ou sN sS sQ sM hM hG hP hF
  have J : i_Rel (k + 3) (cp, pr, ph, gc, gp, oc, ml, cl, ol, vl, tr, ac, ca, pa, bk, ix, cL, cH, im, tl, tk, dr, cc, ld, sd, gk, gb, ge, po, oa, mn, cu, og, vl_, tp, ce, lN, lC, sk) (pr, cp, ph, gc, gp, oc, ml, cl, ol, vl, tr, ac, ca, pa, bk, ix, cL, cH, im, yn, yl, yt, yr, yo, gk, gb, po, yA, mn, cu, og, vl_, cd, ou, sN, sS, sQ, sM, sk) := cs_mk hM hG hP hF
  exact ⟨rfl, J⟩
theorem cs_ix0 {x : Int32} {n : Nat} (hn : n < 2 ^ 31) (h : nI n ≤ x) : ¬ x < 0 := Int32.not_lt.mpr (Int32.le_trans (nI_pos' hn) h)
theorem i_vc_choiceAt {k : Nat} {u : SX} {v : SY} (I : i_Rel k u v) (hk : k + 3 ≤ 1538) (v1 : Int32) : wpX_choiceAt (fun r => wpY_choiceAt (fun r' => r' = r ∧ i_Rel (k + 3) u v) v v1) u v1 := by
  refine cs_elim (P := fun u v => wpX_choiceAt (fun r => wpY_choiceAt (fun r' => r' = r ∧ i_Rel (k + 3) u v) v v1) u v1) I ?_
  intro cp pr ph gc gp oc ml cl ol vl tr ac ca pa bk ix cL cH im tl tk dr cc ld sd yn yl yt yr yo gk gb ge po oa mn cu og vl_ tp ce lN lC sk yA cd ou sN sS sQ sM hM hG hP hF
  have J : i_Rel (k + 3) (cp, pr, ph, gc, gp, oc, ml, cl, ol, vl, tr, ac, ca, pa, bk, ix, cL, cH, im, tl, tk, dr, cc, ld, sd, gk, gb, ge, po, oa, mn, cu, og, vl_, tp, ce, lN, lC, sk) (pr, cp, ph, gc, gp, oc, ml, cl, ol, vl, tr, ac, ca, pa, bk, ix, cL, cH, im, yn, yl, yt, yr, yo, gk, gb, po, yA, mn, cu, og, vl_, cd, ou, sN, sS, sQ, sM, sk) := cs_mk hM hG hP hF
  obtain ⟨n, o, q, hn, ho, hv, rfl, rfl, rfl, hb, hph⟩ := hF
  rcases pk_ix v1 (n := n) (by omega) with h | h | ⟨j, hj, rfl⟩
  · exact br_t h (br_t h ⟨rfl, J⟩)
  · have h0 : ¬ v1 < 0 := cs_ix0 (by omega) h
    exact br_f h0 (br_t h (br_f h0 (br_f (Int32.not_lt.mpr h) ⟨rfl, J⟩)))
  · exact br_f (nI_pos (by omega)) (br_f (nI_ge hj (by omega)) ⟨vp_in_nI (by omega) (by omega), br_f (nI_pos (by omega)) (br_t (nI_lt hj (by omega)) ⟨vp_in_nI (by omega) (by omega), rfl, J⟩)⟩)
theorem i_vc_origChoiceAt {k : Nat} {u : SX} {v : SY} (I : i_Rel k u v) (hk : k + 3 ≤ 1538) (v1 : Int32) : wpX_origChoiceAt (fun r => wpY_origChoiceAt (fun r' => r' = r ∧ i_Rel (k + 3) u v) v v1) u v1 := by
  refine cs_elim (P := fun u v => wpX_origChoiceAt (fun r => wpY_origChoiceAt (fun r' => r' = r ∧ i_Rel (k + 3) u v) v v1) u v1) I ?_
  intro cp pr ph gc gp oc ml cl ol vl tr ac ca pa bk ix cL cH im tl tk dr cc ld sd yn yl yt yr yo gk gb ge po oa mn cu og vl_ tp ce lN lC sk yA cd ou sN sS sQ sM hM hG hP hF
  have J : i_Rel (k + 3) (cp, pr, ph, gc, gp, oc, ml, cl, ol, vl, tr, ac, ca, pa, bk, ix, cL, cH, im, tl, tk, dr, cc, ld, sd, gk, gb, ge, po, oa, mn, cu, og, vl_, tp, ce, lN, lC, sk) (pr, cp, ph, gc, gp, oc, ml, cl, ol, vl, tr, ac, ca, pa, bk, ix, cL, cH, im, yn, yl, yt, yr, yo, gk, gb, po, yA, mn, cu, og, vl_, cd, ou, sN, sS, sQ, sM, sk) := cs_mk hM hG hP hF
  obtain ⟨n, o, q, hn, ho, hv, rfl, rfl, rfl, hb, hph⟩ := hF
  rcases pk_ix v1 (n := o) (by omega) with h | h | ⟨j, hj, rfl⟩
  · exact br_t h (br_t h ⟨rfl, J⟩)
  · have h0 : ¬ v1 < 0 := cs_ix0 (by omega) h
    exact br_f h0 (br_t h (br_f h0 (br_f (Int32.not_lt.mpr h) ⟨rfl, J⟩)))
  · exact br_f (nI_pos (by omega)) (br_f (nI_ge hj (by omega)) ⟨vp_in_nI (by omega) (by omega), br_f (nI_pos (by omega)) (br_t (nI_lt hj (by omega)) ⟨vp_in_nI (by omega) (by omega), rfl, J⟩)⟩)
theorem i_vc_valueAt {k : Nat} {u : SX} {v : SY} (I : i_Rel k u v) (hk : k + 3 ≤ 1538) (v1 : Int32) : wpX_valueAt (fun r => wpY_valueAt (fun r' => r' = r ∧ i_Rel (k + 3) u v) v v1) u v1 := by
  refine cs_elim (P := fun u v => wpX_valueAt (fun r => wpY_valueAt (fun r' => r' = r ∧ i_Rel (k + 3) u v) v v1) u v1) I ?_
  intro cp pr ph gc gp oc ml cl ol vl tr ac ca pa bk ix cL cH im tl tk dr cc ld sd yn yl yt yr yo gk gb ge po oa mn cu og vl_ tp ce lN lC sk yA cd ou sN sS sQ sM hM hG hP hF
  have J : i_Rel (k + 3) (cp, pr, ph, gc, gp, oc, ml, cl, ol, vl, tr, ac, ca, pa, bk, ix, cL, cH, im, tl, tk, dr, cc, ld, sd, gk, gb, ge, po, oa, mn, cu, og, vl_, tp, ce, lN, lC, sk) (pr, cp, ph, gc, gp, oc, ml, cl, ol, vl, tr, ac, ca, pa, bk, ix, cL, cH, im, yn, yl, yt, yr, yo, gk, gb, po, yA, mn, cu, og, vl_, cd, ou, sN, sS, sQ, sM, sk) := cs_mk hM hG hP hF
  obtain ⟨n, o, q, hn, ho, hv, rfl, rfl, rfl, hb, hph⟩ := hF
  rcases pk_ix v1 (n := q) (by omega) with h | h | ⟨j, hj, rfl⟩
  · exact br_t h (br_t h ⟨rfl, J⟩)
  · have h0 : ¬ v1 < 0 := cs_ix0 (by omega) h
    exact br_f h0 (br_t h (br_f h0 (br_f (Int32.not_lt.mpr h) ⟨rfl, J⟩)))
  · exact br_f (nI_pos (by omega)) (br_f (nI_ge hj (by omega)) ⟨vp_in_nI (by omega) (by omega), br_f (nI_pos (by omega)) (br_t (nI_lt hj (by omega)) ⟨vp_in_nI (by omega) (by omega), rfl, J⟩)⟩)
theorem i_vc_cursor {k : Nat} {u : SX} {v : SY} (I : i_Rel k u v) (hk : k + 3 ≤ 1538) (v1 : Int32) : wpX_cursor (fun r => wpY_cursor (fun r' => r' = r ∧ i_Rel (k + 3) u v) v v1) u v1 := by
  refine cs_elim (P := fun u v => wpX_cursor (fun r => wpY_cursor (fun r' => r' = r ∧ i_Rel (k + 3) u v) v v1) u v1) I ?_
  intro cp pr ph gc gp oc ml cl ol vl tr ac ca pa bk ix cL cH im tl tk dr cc ld sd yn yl yt yr yo gk gb ge po oa mn cu og vl_ tp ce lN lC sk yA cd ou sN sS sQ sM hM hG hP hF
  have J : i_Rel (k + 3) (cp, pr, ph, gc, gp, oc, ml, cl, ol, vl, tr, ac, ca, pa, bk, ix, cL, cH, im, tl, tk, dr, cc, ld, sd, gk, gb, ge, po, oa, mn, cu, og, vl_, tp, ce, lN, lC, sk) (pr, cp, ph, gc, gp, oc, ml, cl, ol, vl, tr, ac, ca, pa, bk, ix, cL, cH, im, yn, yl, yt, yr, yo, gk, gb, po, yA, mn, cu, og, vl_, cd, ou, sN, sS, sQ, sM, sk) := cs_mk hM hG hP hF
  obtain ⟨n, hn, rfl, rfl, hg, hgb, he⟩ := hG
  by_cases h : v1 < 0
  · have z : ∀ x : Int32, ¬ x < 0 → ¬ v1 = x := fun x hx e => hx (e ▸ h)
    exact br_t h (br_f (z 0 (by decide)) (br_f (z 1 (by decide)) (br_f (z 2 (by decide)) (br_f (z 3 (by decide)) (br_f (z 4 (by decide)) (br_f (z 5 (by decide)) (⟨rfl, J⟩)))))))
  · by_cases h2 : 5 < v1
    · have z : ∀ x : Int32, ¬ 5 < x → ¬ v1 = x := fun x hx e => hx (e ▸ h2)
      exact br_f h (br_t h2 (br_f (z 0 (by decide)) (br_f (z 1 (by decide)) (br_f (z 2 (by decide)) (br_f (z 3 (by decide)) (br_f (z 4 (by decide)) (br_f (z 5 (by decide)) (⟨rfl, J⟩))))))))
    · obtain ⟨j, hj, rfl⟩ : ∃ j : Nat, j ≤ 5 ∧ v1 = nI j := nI_of2 (M := 5) (n := 5) (by decide) h (Int32.not_lt.mp h2)
      obtain rfl | rfl | rfl | rfl | rfl | rfl : j = 0 ∨ j = 1 ∨ j = 2 ∨ j = 3 ∨ j = 4 ∨ j = 5 := by omega
      · exact br_f h (br_f h2 (br_t rfl (br_t rfl ⟨rfl, J⟩)))
      · exact br_f h (br_f h2 (br_f (by decide) (br_t rfl (br_f (by decide) (br_t rfl ⟨rfl, J⟩)))))
      · exact br_f h (br_f h2 (br_f (by decide) (br_f (by decide) (br_t rfl (br_f (by decide) (br_f (by decide) (br_t rfl ⟨rfl, J⟩)))))))
      · exact br_f h (br_f h2 (br_f (by decide) (br_f (by decide) (br_f (by decide) (br_t rfl (br_f (by decide) (br_f (by decide) (br_f (by decide) (br_t rfl ⟨rfl, J⟩)))))))))
      · exact br_f h (br_f h2 (br_f (by decide) (br_f (by decide) (br_f (by decide) (br_f (by decide) (br_t rfl (br_f (by decide) (br_f (by decide) (br_f (by decide) (br_f (by decide) (br_t rfl ⟨rfl, J⟩)))))))))))
      · exact br_f h (br_f h2 (br_f (by decide) (br_f (by decide) (br_f (by decide) (br_f (by decide) (br_f (by decide) (br_t rfl (br_f (by decide) (br_f (by decide) (br_f (by decide) (br_f (by decide) (br_f (by decide) (br_t rfl ⟨rfl, J⟩)))))))))))))
theorem i_vc_stat {k : Nat} {u : SX} {v : SY} (I : i_Rel k u v) (hk : k + 3 ≤ 1538) (v1 : Int32) : wpX_stat (fun r => wpY_stat (fun r' => r' = r ∧ i_Rel (k + 3) u v) v v1) u v1 := by
  refine cs_elim (P := fun u v => wpX_stat (fun r => wpY_stat (fun r' => r' = r ∧ i_Rel (k + 3) u v) v v1) u v1) I ?_
  intro cp pr ph gc gp oc ml cl ol vl tr ac ca pa bk ix cL cH im tl tk dr cc ld sd yn yl yt yr yo gk gb ge po oa mn cu og vl_ tp ce lN lC sk yA cd ou sN sS sQ sM hM hG hP hF
  have J : i_Rel (k + 3) (cp, pr, ph, gc, gp, oc, ml, cl, ol, vl, tr, ac, ca, pa, bk, ix, cL, cH, im, tl, tk, dr, cc, ld, sd, gk, gb, ge, po, oa, mn, cu, og, vl_, tp, ce, lN, lC, sk) (pr, cp, ph, gc, gp, oc, ml, cl, ol, vl, tr, ac, ca, pa, bk, ix, cL, cH, im, yn, yl, yt, yr, yo, gk, gb, po, yA, mn, cu, og, vl_, cd, ou, sN, sS, sQ, sM, sk) := cs_mk hM hG hP hF
  obtain ⟨n, hn, rfl, rfl, hg, hgb, he⟩ := hG
  by_cases h : v1 < 0
  · have z : ∀ x : Int32, ¬ x < 0 → ¬ v1 = x := fun x hx e => hx (e ▸ h)
    exact br_t h (br_f (z 0 (by decide)) (br_f (z 1 (by decide)) (br_f (z 2 (by decide)) (br_f (z 3 (by decide)) (br_f (z 4 (by decide)) (br_f (z 5 (by decide)) (br_f (z 6 (by decide)) (br_f (z 7 (by decide)) (⟨rfl, J⟩)))))))))
  · by_cases h2 : 7 < v1
    · have z : ∀ x : Int32, ¬ 7 < x → ¬ v1 = x := fun x hx e => hx (e ▸ h2)
      exact br_f h (br_t h2 (br_f (z 0 (by decide)) (br_f (z 1 (by decide)) (br_f (z 2 (by decide)) (br_f (z 3 (by decide)) (br_f (z 4 (by decide)) (br_f (z 5 (by decide)) (br_f (z 6 (by decide)) (br_f (z 7 (by decide)) (⟨rfl, J⟩))))))))))
    · obtain ⟨j, hj, rfl⟩ : ∃ j : Nat, j ≤ 7 ∧ v1 = nI j := nI_of2 (M := 7) (n := 7) (by decide) h (Int32.not_lt.mp h2)
      obtain rfl | rfl | rfl | rfl | rfl | rfl | rfl | rfl : j = 0 ∨ j = 1 ∨ j = 2 ∨ j = 3 ∨ j = 4 ∨ j = 5 ∨ j = 6 ∨ j = 7 := by omega
      · exact br_f h (br_f h2 (br_t rfl (br_t rfl ⟨rfl, J⟩)))
      · exact br_f h (br_f h2 (br_f (by decide) (br_t rfl (br_f (by decide) (br_t rfl ⟨rfl, J⟩)))))
      · exact br_f h (br_f h2 (br_f (by decide) (br_f (by decide) (br_t rfl (br_f (by decide) (br_f (by decide) (br_t rfl ⟨rfl, J⟩)))))))
      · exact br_f h (br_f h2 (br_f (by decide) (br_f (by decide) (br_f (by decide) (br_t rfl (br_f (by decide) (br_f (by decide) (br_f (by decide) (br_t rfl ⟨rfl, J⟩)))))))))
      · exact br_f h (br_f h2 (br_f (by decide) (br_f (by decide) (br_f (by decide) (br_f (by decide) (br_t rfl (br_f (by decide) (br_f (by decide) (br_f (by decide) (br_f (by decide) (br_t rfl ⟨rfl, J⟩)))))))))))
      · exact br_f h (br_f h2 (br_f (by decide) (br_f (by decide) (br_f (by decide) (br_f (by decide) (br_f (by decide) (br_t rfl (br_f (by decide) (br_f (by decide) (br_f (by decide) (br_f (by decide) (br_f (by decide) (br_t rfl ⟨rfl, J⟩)))))))))))))
      · rcases Nat.eq_zero_or_pos (cs_D gk n) with d | d
        · have n1 : ¬ nI n < 1 := nI_nlt (a := n) (b := 1) (by
            rcases Nat.eq_zero_or_pos n with w | w
            · rw [w] at d
              exact absurd d (show ¬ (1 : Nat) = 0 by decide)
            · exact w) (by omega)
          have e : nI (cs_D gk n) = 0 := by rw [d]; rfl
          exact br_f h (br_f h2 (br_f (by decide) (br_f (by decide) (br_f (by decide) (br_f (by decide) (br_f (by decide) (br_f (by decide) (br_t rfl (br_t e (br_f (by decide) (br_f (by decide) (br_f (by decide) (br_f (by decide) (br_f (by decide) (br_f (by decide) (br_t rfl (br_f n1 (br_t e (br_f (by decide) ⟨rfl, J⟩)))))))))))))))))))
        · have dl := cs_Dle gk n
          have e : ¬ nI (cs_D gk n) = 0 := nI_ne0 d (by omega)
          exact br_f h (br_f h2 (br_f (by decide) (br_f (by decide) (br_f (by decide) (br_f (by decide) (br_f (by decide) (br_f (by decide) (br_t rfl (br_f e (br_f (by decide) (br_f (by decide) (br_f (by decide) (br_f (by decide) (br_f (by decide) (br_f (by decide) (br_t rfl (br_c (fun _ => br_t rfl ⟨rfl, J⟩) (fun _ => br_f e (br_t rfl ⟨rfl, J⟩)))))))))))))))))))
      · exact br_f h (br_f h2 (br_f (by decide) (br_f (by decide) (br_f (by decide) (br_f (by decide) (br_f (by decide) (br_f (by decide) (br_f (by decide) (br_t rfl (br_f (by decide) (br_f (by decide) (br_f (by decide) (br_f (by decide) (br_f (by decide) (br_f (by decide) (br_f (by decide) (br_t rfl ⟨rfl, J⟩)))))))))))))))))
theorem cs_clamp {x : Int32} (a b : Nat) (hab : a ≤ b) (hb : b < 2 ^ 31) : ∃ n : Nat, a ≤ n ∧ n ≤ b ∧ (∀ post : Int32 → Prop, post (nI n) → wpX_clamp post x (nI a) (nI b)) ∧ ((nI a ≤ x ∧ x ≤ nI b ∧ x = nI n) ∨ (¬ nI a ≤ x ∧ n = a) ∨ (nI a ≤ x ∧ ¬ x ≤ nI b ∧ n = b)) := by
  by_cases h : nI a ≤ x
  · by_cases h2 : x ≤ nI b
    · obtain ⟨j, hj, rfl⟩ := nI_of (cs_ix0 (by omega) h)
      have h3 := (nI_leI (by omega) hj).mp h
      have h4 := (nI_leI hj hb).mp h2
      exact ⟨j, h3, h4, fun post hp => br_t h (br_t h2 hp), Or.inl ⟨h, h2, rfl⟩⟩
    · exact ⟨b, hab, Nat.le_refl b, fun post hp => br_t h (br_f h2 hp), Or.inr (Or.inr ⟨h, h2, rfl⟩)⟩
  · exact ⟨a, Nat.le_refl a, hab, fun post hp => br_f h hp, Or.inr (Or.inl ⟨h, rfl⟩)⟩
theorem i_vc0 (k0 : Int32) (k1 : Int32) : wpX_init (fun u => wpY_init (fun v => i_Rel 2 u v) k0 k1) k0 k1 := by
  obtain ⟨s, s0, s1, hs, hs'⟩ := cs_clamp (x := k0) 0 65535 (by omega) (by omega)
  obtain ⟨c, c0, c1, hc, hc'⟩ := cs_clamp (x := k1) 4 32 (by omega) (by omega)
  have J : i_Rel 2 (nI c, nI s, 0, 0, 1, 0, 0, 0, 0, 0, 0, 0, 0, 0, 0, 0, 0, 0, 0, 0, 0, 0, 0, 0, 0, (fun _ => 0), (fun _ => 0), (fun _ => 0), (fun _ => 0), (fun _ => 0), (fun _ => 0), (fun _ => 0), (fun _ => 0), (fun _ => 0), (fun _ => 0), (fun _ => 0), (fun _ => 0), (fun _ => 0), (fun _ => 0)) (nI s, nI c, 0, 0, 1, 0, 0, 0, 0, 0, 0, 0, 0, 0, 0, 0, 0, 0, 0, 0, 0, 0, 0, 0, (fun _ => 0), (fun _ => 0), (fun _ => 0), (fun _ => 0), (fun _ => 0), (fun _ => 0), (fun _ => 0), (fun _ => 0), (fun _ => 0), (fun _ => 0), (fun _ => 0), (fun _ => 0), (fun _ => 0), (fun _ => 0), (fun _ => 0)) :=
    cs_mk ⟨c, 0, c0, c1, by omega, rfl, rfl, cs_by0 _⟩ cs_Gn0 cs_Pr0 (cs_F0 1 _)
  refine hs _ (hc _ ?_)
  rcases hs' with ⟨a, b, rfl⟩ | ⟨a, rfl⟩ | ⟨a, b, rfl⟩
  · rcases hc' with ⟨a', b', rfl⟩ | ⟨a', rfl⟩ | ⟨a', b', rfl⟩
    · exact br_t a (br_t b (br_t a' (br_t b' J)))
    · exact br_t a (br_t b (br_f a' (br_t (by decide) J)))
    · exact br_t a (br_t b (br_t a' (br_f b' J)))
  · rcases hc' with ⟨a', b', rfl⟩ | ⟨a', rfl⟩ | ⟨a', b', rfl⟩
    · exact br_f a (br_t (by decide) (br_t a' (br_t b' J)))
    · exact br_f a (br_t (by decide) (br_f a' (br_t (by decide) J)))
    · exact br_f a (br_t (by decide) (br_t a' (br_f b' J)))
  · rcases hc' with ⟨a', b', rfl⟩ | ⟨a', rfl⟩ | ⟨a', b', rfl⟩
    · exact br_t a (br_f b (br_t a' (br_t b' J)))
    · exact br_t a (br_f b (br_f a' (br_t (by decide) J)))
    · exact br_t a (br_f b (br_t a' (br_f b' J)))
