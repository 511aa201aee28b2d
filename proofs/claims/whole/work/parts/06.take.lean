def cs_rn (pr : Int32) : Nat := ((pr.toUInt32 >>> ((16 : Int32).toUInt32 &&& Int32.toUInt32 31)).toInt32).toBitVec.toNat % 256
theorem cs_rn1 (pr : Int32) : ((pr.toUInt32 >>> ((16 : Int32).toUInt32 &&& Int32.toUInt32 31)).toInt32) &&& 255 = nI (cs_rn pr) := pk_and _ 8 (by decide)
theorem cs_rn2 (pr : Int32) : cs_rn pr < 256 := Nat.mod_lt _ (by decide)
section
variable {cp pr ph gc gp oc ml cl ol vl tr ac ca pa bk ix cL cH im tl tk dr cc ld sd yn yl yt yr yo : Int32} {gk gb ge po oa mn cu og vl_ tp ce lN lC sk yA cd ou sN sS sQ sM : Nat → Int32}
theorem cs_xt0 {t lim : Nat} (ht : lim ≤ t) (hl : t ≤ 32) (w : Int32) (post : Int32 → SX → Prop) (hp : post (-1) (cp, pr, ph, gc, gp, oc, ml, cl, ol, vl, tr, ac, ca, pa, bk, ix, cL, cH, im, nI lim, nI t, dr, cc, ld, sd, gk, gb, ge, po, oa, mn, cu, og, vl_, tp, ce, lN, lC, sk)) : wpX_take post (cp, pr, ph, gc, gp, oc, ml, cl, ol, vl, tr, ac, ca, pa, bk, ix, cL, cH, im, nI lim, nI t, dr, cc, ld, sd, gk, gb, ge, po, oa, mn, cu, og, vl_, tp, ce, lN, lC, sk) w :=
  br_f (nI_nlt ht (by omega)) hp
theorem cs_xtr {t lim : Nat} (ht : t < lim) (hl : lim ≤ 32) (w : Int32) (post : Int32 → SX → Prop) (hp : post (tp t) (cp, pr, ph, gc, gp, oc, ml, cl, ol, vl, tr, ac, ca, pa, bk, ix, cL, cH, im, nI lim, nI (t + 1), 0, cc, ld, sd, gk, gb, ge, po, oa, mn, cu, og, vl_, tp, ce, lN, lC, sk)) : wpX_take post (cp, pr, ph, gc, gp, oc, ml, cl, ol, vl, tr, ac, ca, pa, bk, ix, cL, cH, im, nI lim, nI t, 0, cc, ld, sd, gk, gb, ge, po, oa, mn, cu, og, vl_, tp, ce, lN, lC, sk) w := by
  refine br_t (nI_lt ht (by omega)) (br_t rfl (nm_r (nI_1 t) ⟨?_, ?_⟩))
  · rw [nI_pred]
    exact vp_in_nI (by omega) (by omega)
  · rw [nI_pred, nI_clamp (by omega)]
    exact hp
theorem cs_xtd {t lim w : Nat} (ht : t < lim) (hl : lim ≤ 32) (hw : 0 < w) (hw2 : w ≤ 256) (post : Int32 → SX → Prop) (hp : post (nI (cs_rn (pr * 1103515245 + 12345) % w)) (cp, pr * 1103515245 + 12345, ph, gc, gp, oc, ml, cl, ol, vl, tr, ac, ca, pa, bk, ix, cL, cH, im, nI lim, nI (t + 1), 1, cc, ld, sd, gk, gb, ge, po, oa, mn, cu, og, vl_, upd tp t (nI (cs_rn (pr * 1103515245 + 12345) % w)), ce, lN, lC, sk)) : wpX_take post (cp, pr, ph, gc, gp, oc, ml, cl, ol, vl, tr, ac, ca, pa, bk, ix, cL, cH, im, nI lim, nI t, 1, cc, ld, sd, gk, gb, ge, po, oa, mn, cu, og, vl_, tp, ce, lN, lC, sk) (nI w) := by
  have e : ((pr * 1103515245 + 12345).toUInt32 >>> ((16 : Int32).toUInt32 &&& Int32.toUInt32 31)).toInt32 &&& 255 = nI (cs_rn (pr * 1103515245 + 12345)) := cs_rn1 _
  have l := cs_rn2 (pr * 1103515245 + 12345)
  refine br_t (nI_lt ht (by omega)) (br_f (by decide) (nm_e ⟨nI_ne0 hw (by omega), vp_in_nI (by omega) (by omega), nm_r (e' := upd tp t (nI (cs_rn (pr * 1103515245 + 12345) % w))) ?_ (nm_r (nI_1 t) ⟨?_, ?_⟩)⟩))
  · rw [nI_clamp (by omega), e, pk_rem (by omega) hw (by omega)]
  · rw [nI_pred]
    exact vp_in_nI (by omega) (by omega)
  · rw [nI_pred, nI_clamp (by omega), pk_us]
    exact hp
theorem cs_yt0 {t : Nat} (b : Int32) (hl : t ≤ 32) (hr : yr = 0 → ∃ l : Nat, yl = nI l ∧ l ≤ t) (hr1 : yr ≠ 0 → ∃ l : Nat, cp = nI l ∧ l ≤ t) (post : Int32 → SY → Prop) (hp : post (-1) (pr, cp, ph, gc, gp, oc, ml, cl, ol, vl, tr, ac, ca, pa, bk, ix, cL, cH, im, yn, yl, nI t, yr, yo, gk, gb, po, yA, mn, cu, og, vl_, cd, ou, sN, sS, sQ, sM, sk)) : wpY_take post (pr, cp, ph, gc, gp, oc, ml, cl, ol, vl, tr, ac, ca, pa, bk, ix, cL, cH, im, yn, yl, nI t, yr, yo, gk, gb, po, yA, mn, cu, og, vl_, cd, ou, sN, sS, sQ, sM, sk) b := by
  by_cases h : yr = 0
  · obtain ⟨l, rfl, hl'⟩ := hr h
    exact br_t h (br_t (nI_le hl' (by omega)) hp)
  · obtain ⟨l, rfl, hl'⟩ := hr1 h
    exact br_f h (br_t (nI_le hl' (by omega)) hp)
theorem cs_ytr {t lim : Nat} (ht : t < lim) (hl : lim ≤ 32) (b : Int32) (post : Int32 → SY → Prop) (hp : post (cd t) (pr, cp, ph, gc, gp, oc, ml, cl, ol, vl, tr, ac, ca, pa, bk, ix, cL, cH, im, yn, nI lim, nI (t + 1), 0, yo, gk, gb, po, yA, mn, cu, og, vl_, cd, ou, sN, sS, sQ, sM, sk)) : wpY_take post (pr, cp, ph, gc, gp, oc, ml, cl, ol, vl, tr, ac, ca, pa, bk, ix, cL, cH, im, yn, nI lim, nI t, 0, yo, gk, gb, po, yA, mn, cu, og, vl_, cd, ou, sN, sS, sQ, sM, sk) b := by
  refine br_t rfl (br_f (nI_ge ht (by omega)) (br_t (nI_lt (b := 32) (by omega) (by decide)) ⟨vp_in_nI (by omega) (by omega), nm_r (e' := cd t) ?_ (nm_r (nI_1 t) hp)⟩))
  rw [nI_clamp (by omega)]
theorem cs_ytd {t lim w : Nat} {b : Int32} (ht : t < lim) (hl : lim ≤ 32) (hw : 0 < w) (hw2 : w ≤ 256) (hb : b = nI (w - 1) ∨ (b = -1 ∧ w = 4)) (post : Int32 → SY → Prop) (hp : post (nI (cs_rn (pr * 1103515245 + 12345) % w)) (pr * 1103515245 + 12345, nI lim, ph, gc, gp, oc, ml, cl, ol, vl, tr, ac, ca, pa, bk, ix, cL, cH, im, yn, nI (t + 1), nI (t + 1), 1, yo, gk, gb, po, yA, mn, cu, og, vl_, upd cd t (nI (cs_rn (pr * 1103515245 + 12345) % w)), ou, sN, sS, sQ, sM, sk)) : wpY_take post (pr, nI lim, ph, gc, gp, oc, ml, cl, ol, vl, tr, ac, ca, pa, bk, ix, cL, cH, im, yn, yl, nI t, 1, yo, gk, gb, po, yA, mn, cu, og, vl_, cd, ou, sN, sS, sQ, sM, sk) b := by
  have e : ((pr * 1103515245 + 12345).toUInt32 >>> ((16 : Int32).toUInt32 &&& Int32.toUInt32 31)).toInt32 &&& 255 = nI (cs_rn (pr * 1103515245 + 12345)) := cs_rn1 _
  have l := cs_rn2 (pr * 1103515245 + 12345)
  refine br_f (by decide) (br_f (nI_ge ht (by omega)) (br_t (nI_lt (b := 32) (by omega) (by decide)) (nm_e (nm_r e ⟨by decide, nm_r (pk_rem (d := 4) (by omega) (by decide) (by decide)) ?_⟩))))
  rcases hb with rfl | ⟨rfl, rfl⟩
  · refine br_f (nI_pos (by omega)) ?_
    have e1 : nI (w - 1) + 1 = nI w := (nI_1 (w - 1)).trans (congrArg nI (by omega))
    rw [e1]
    exact ⟨nI_ne0 hw (by omega), nm_r (pk_rem (by omega) hw (by omega)) ⟨vp_in_nI (by omega) (by omega), nm_r (by rw [nI_clamp (by omega)]) (nm_r (nI_1 t) hp)⟩⟩
  · exact br_t (by decide) ⟨vp_in_nI (by omega) (by omega), nm_r (by rw [nI_clamp (by omega)]) (nm_r (nI_1 t) hp)⟩
theorem cs_take {w lim t : Nat} {b : Int32} (hw : 0 < w) (hw2 : w ≤ 256) (hb : b = nI (w - 1) ∨ (b = -1 ∧ w = 4)) (hc : dr ≠ 0 → cp = nI lim) (hT : cs_T dr yl lim t tp cd) :
    (t = lim ∧ (∀ post : Int32 → SX → Prop, post (-1) (cp, pr, ph, gc, gp, oc, ml, cl, ol, vl, tr, ac, ca, pa, bk, ix, cL, cH, im, nI lim, nI t, dr, cc, ld, sd, gk, gb, ge, po, oa, mn, cu, og, vl_, tp, ce, lN, lC, sk) → wpX_take post (cp, pr, ph, gc, gp, oc, ml, cl, ol, vl, tr, ac, ca, pa, bk, ix, cL, cH, im, nI lim, nI t, dr, cc, ld, sd, gk, gb, ge, po, oa, mn, cu, og, vl_, tp, ce, lN, lC, sk) (nI w)) ∧ (∀ post : Int32 → SY → Prop, post (-1) (pr, cp, ph, gc, gp, oc, ml, cl, ol, vl, tr, ac, ca, pa, bk, ix, cL, cH, im, yn, yl, nI t, dr, yo, gk, gb, po, yA, mn, cu, og, vl_, cd, ou, sN, sS, sQ, sM, sk) → wpY_take post (pr, cp, ph, gc, gp, oc, ml, cl, ol, vl, tr, ac, ca, pa, bk, ix, cL, cH, im, yn, yl, nI t, dr, yo, gk, gb, po, yA, mn, cu, og, vl_, cd, ou, sN, sS, sQ, sM, sk) b)) ∨
    (t < lim ∧ ∃ (c : Nat) (pr' yl' : Int32) (tp' cd' : Nat → Int32), c < 256 ∧ cs_T dr yl' lim (t + 1) tp' cd' ∧ (∀ post : Int32 → SX → Prop, post (nI c) (cp, pr', ph, gc, gp, oc, ml, cl, ol, vl, tr, ac, ca, pa, bk, ix, cL, cH, im, nI lim, nI (t + 1), dr, cc, ld, sd, gk, gb, ge, po, oa, mn, cu, og, vl_, tp', ce, lN, lC, sk) → wpX_take post (cp, pr, ph, gc, gp, oc, ml, cl, ol, vl, tr, ac, ca, pa, bk, ix, cL, cH, im, nI lim, nI t, dr, cc, ld, sd, gk, gb, ge, po, oa, mn, cu, og, vl_, tp, ce, lN, lC, sk) (nI w)) ∧ (∀ post : Int32 → SY → Prop, post (nI c) (pr', cp, ph, gc, gp, oc, ml, cl, ol, vl, tr, ac, ca, pa, bk, ix, cL, cH, im, yn, yl', nI (t + 1), dr, yo, gk, gb, po, yA, mn, cu, og, vl_, cd', ou, sN, sS, sQ, sM, sk) → wpY_take post (pr, cp, ph, gc, gp, oc, ml, cl, ol, vl, tr, ac, ca, pa, bk, ix, cL, cH, im, yn, yl, nI t, dr, yo, gk, gb, po, yA, mn, cu, og, vl_, cd, ou, sN, sS, sQ, sM, sk) b)) := by
  obtain ⟨h1, h2, h3, h4, h5, h6⟩ := hT
  by_cases e : t = lim
  · refine Or.inl ⟨e, fun post hp => cs_xt0 (by omega) (by omega) _ post hp, fun post hp => cs_yt0 b (by omega) (fun z => ⟨lim, (h6 z).1, by omega⟩) (fun z => ⟨lim, hc z, by omega⟩) post hp⟩
  · refine Or.inr ⟨by omega, ?_⟩
    have ht : t < lim := by omega
    rcases h3 with rfl | rfl
    · obtain ⟨rfl, g2, g3⟩ := h6 rfl
      obtain ⟨c, hc1, hc2⟩ := g3 t ht
      refine ⟨c, pr, nI lim, tp, cd, hc1, ⟨by omega, h2, Or.inl rfl, fun j hj => g2 j (by omega), cs_bym g3 (by omega), fun _ => ⟨rfl, g2, g3⟩⟩, fun post hp => cs_xtr ht h2 _ post ?_, fun post hp => cs_ytr ht h2 b post ?_⟩
      · rw [hc2]
        exact hp
      · rw [← g2 t ht, hc2]
        exact hp
    · have ec := hc (by decide)
      subst ec
      have l : cs_rn (pr * 1103515245 + 12345) % w < w := Nat.mod_lt _ hw
      refine ⟨cs_rn (pr * 1103515245 + 12345) % w, pr * 1103515245 + 12345, nI (t + 1), upd tp t (nI (cs_rn (pr * 1103515245 + 12345) % w)), upd cd t (nI (cs_rn (pr * 1103515245 + 12345) % w)), by omega, ⟨by omega, h2, Or.inr rfl, fun j hj => ?_, ?_, fun z => absurd z (by decide)⟩, fun post hp => cs_xtd ht h2 hw hw2 post hp, fun post hp => cs_ytd ht h2 hw hw2 hb post hp⟩
      · by_cases z : j = t
        · rw [z, pk_us, pk_us]
        · rw [pk_un z, pk_un z]
          exact h4 j (by omega)
      · exact cs_bys (cs_byc h5 (fun j hj => pk_un (by omega))) (by omega) pk_us
theorem cs_xe0 (x : Int32) (post : Int32 → SX → Prop) (hp : post 0 (cp, pr, ph, gc, gp, oc, ml, cl, ol, vl, tr, ac, ca, pa, bk, ix, cL, cH, im, tl, tk, dr, nI 32, ld, sd, gk, gb, ge, po, oa, mn, cu, og, vl_, tp, ce, lN, lC, sk)) : wpX_emit post (cp, pr, ph, gc, gp, oc, ml, cl, ol, vl, tr, ac, ca, pa, bk, ix, cL, cH, im, tl, tk, dr, nI 32, ld, sd, gk, gb, ge, po, oa, mn, cu, og, vl_, tp, ce, lN, lC, sk) x :=
  br_f (by decide) hp
theorem cs_xe1 {L : Nat} (hL : L < 32) (x : Int32) (post : Int32 → SX → Prop) (hp : post 1 (cp, pr, ph, gc, gp, oc, ml, cl, ol, vl, tr, ac, ca, pa, bk, ix, cL, cH, im, tl, tk, dr, nI (L + 1), ld, sd, gk, gb, ge, po, oa, mn, cu, og, vl_, tp, upd ce L x, lN, lC, sk)) : wpX_emit post (cp, pr, ph, gc, gp, oc, ml, cl, ol, vl, tr, ac, ca, pa, bk, ix, cL, cH, im, tl, tk, dr, nI L, ld, sd, gk, gb, ge, po, oa, mn, cu, og, vl_, tp, ce, lN, lC, sk) x := by
  refine br_t (nI_lt (b := 32) hL (by decide)) ⟨vp_in_nI hL (by decide), nm_r (e' := upd ce L x) ?_ (nm_r (nI_1 L) hp)⟩
  rw [nI_clamp (by omega)]
end
