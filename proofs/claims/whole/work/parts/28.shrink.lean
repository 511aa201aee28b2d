section
variable {cp pr ph gc gp oc ml cl ol vl tr ac ca pa bk ix cL cH im tl tk dr cc ld sd yn yl yt yr yo : Int32} {gk gb ge po oa mn cu og vl_ tp ce lN lC sk yA cd ou sN sS sQ sM : Nat → Int32}
theorem cs_pt {n oo vv : Nat} (hn : n ≤ 32) (ho : oo ≤ 32) (hv : vv ≤ 32) (hM : cs_M cp ml mn) (hG : cs_Gn gc 0 gk gb ge) (hP : cs_Pr oc po oa yA) (hb : cs_by cu n) (hat : cs_at pa bk ix cL cH im yn n) :
    ∃ (u' : SX) (v' : SY), cs_W u' v' ∧ (∀ post : SX → Prop, post u' → wpX_performTrial post (cp, pr, 1, gc, 0, oc, ml, nI n, nI oo, nI vv, tr, ac, ca, pa, bk, ix, cL, cH, im, tl, tk, dr, cc, ld, sd, gk, gb, ge, po, oa, mn, cu, og, vl_, tp, ce, lN, lC, sk)) ∧ (∀ post : SY → Prop, post v' → wpY_trialAtCursor post (pr, cp, 1, gc, 0, oc, ml, nI n, nI oo, nI vv, tr, ac, ca, pa, bk, ix, cL, cH, im, yn, yl, yt, yr, yo, gk, gb, po, yA, mn, cu, og, vl_, cd, ou, sN, sS, sQ, sM, sk)) := by
  obtain ⟨p, k, i, l, h, rfl, rfl, rfl, rfl, rfl, him, H⟩ := hat
  rcases H with ⟨rfl | rfl, hk, hi, rfl, rfl, rfl⟩ | ⟨rfl, rfl, hi, hlh, hh, rfl⟩ | ⟨rfl, rfl, hi, rfl, rfl, rfl⟩
  · exact cs_pt1 hn ho hv hM hG hP hb him hk hi
  · exact cs_pt2 hn ho hv hM hG hP hb him hk hi
  · exact cs_pt3 hn ho hv hM hG hP hb him hi hlh hh
  · exact cs_pt4 hn ho hv hM hG hP hb him hi
theorem cs_mvm (hM : cs_M cp ml mn) (hG : cs_Gn gc gp gk gb ge) (hP : cs_Pr oc po oa yA) (hZ : cs_Z ph gp cl ol vl pa bk ix cL cH im yn cu) :
    ∃ (u' : SX) (v' : SY), cs_V u' v' ∧ (∀ post : SX → Prop, post u' → wpX_moveToTrial post (cp, pr, ph, gc, gp, oc, ml, cl, ol, vl, tr, ac, ca, pa, bk, ix, cL, cH, im, tl, tk, dr, cc, ld, sd, gk, gb, ge, po, oa, mn, cu, og, vl_, tp, ce, lN, lC, sk)) ∧ (∀ post : SY → Prop, post v' → wpY_advance post (pr, cp, ph, gc, gp, oc, ml, cl, ol, vl, tr, ac, ca, pa, bk, ix, cL, cH, im, yn, yl, yt, yr, yo, gk, gb, po, yA, mn, cu, og, vl_, cd, ou, sN, sS, sQ, sM, sk)) := by
  obtain ⟨rfl, rfl, him, n, oo, vv, hn, ho, hv, rfl, rfl, rfl, hb, k, i, rfl, rfl, hi, H⟩ := hZ
  obtain ⟨w, hw, hw5⟩ : ∃ w : Nat, ((im = 0 ∧ w = 0) ∨ (im = 1 ∧ w = 500)) ∧ w ≤ 500 := by
    rcases him with rfl | rfl
    · exact ⟨0, Or.inl ⟨rfl, rfl⟩, by omega⟩
    · exact ⟨500, Or.inr ⟨rfl, rfl⟩, by omega⟩
  obtain ⟨μ, hmv, hμ⟩ : ∃ μ : Nat, cs_mv n cu pa (nI k) (nI i) cL cH im (nI i) cL cH yn μ ∧ μ < 1500 := by
    rcases H with ⟨rfl | rfl, hk, rfl, rfl, rfl⟩ | ⟨rfl, rfl, rfl, l, h, rfl, rfl, hl, hh⟩ | ⟨rfl, rfl, rfl, rfl, rfl⟩
    · exact ⟨_, ⟨k, i, w, rfl, rfl, hw, Or.inl ⟨rfl, hk, hi, rfl, rfl, rfl, rfl, rfl, rfl, rfl⟩⟩, by omega⟩
    · exact ⟨_, ⟨k, i, w, rfl, rfl, hw, Or.inr (Or.inl ⟨rfl, hk, hi, rfl, rfl, rfl, rfl, rfl, rfl, rfl⟩)⟩, by omega⟩
    · exact ⟨_, ⟨1, i, w, rfl, rfl, hw, Or.inr (Or.inr (Or.inr (Or.inl ⟨rfl, rfl, hi, rfl, rfl, ⟨l, h, rfl, rfl, rfl, rfl, hl, hh⟩, rfl⟩)))⟩, by omega⟩
    · exact ⟨_, ⟨1, i, w, rfl, rfl, hw, Or.inr (Or.inr (Or.inr (Or.inr ⟨rfl, rfl, hi, rfl, rfl, rfl, rfl, rfl, rfl, rfl⟩)))⟩, by omega⟩
  obtain ⟨u', v', hV, HX, HY⟩ := cs_goAll (k0 := 0) (n := n) (oo := oo) (vv := vv) (cp := cp) (pr := pr) (gc := gc) (oc := oc) (ml := ml) (tr := tr) (ac := ac) (ca := ca) (tl := tl) (tk := tk) (dr := dr) (cc := cc) (ld := ld) (sd := sd) (gk := gk) (gb := gb) (ge := ge) (po := po) (oa := oa) (mn := mn) (cu := cu) (og := og) (vl_ := vl_) (tp := tp) (ce := ce) (lN := lN) (lC := lC) (sk := sk) (yl := yl) (yt := yt) (yr := yr) (yo := yo) (yA := yA) (cd := cd) (ou := ou) (sN := sN) (sS := sS) (sQ := sQ) (sM := sM) hn ho hv hM hG hP hb 1500 pa (nI k) (nI i) cL cH im (nI i) cL cH yn μ hmv hμ
  exact ⟨u', v', hV, fun post hp => ⟨1501, HX post 1501 0 (by omega) (by omega) hp⟩, fun post hp => ⟨1501, HY post 1501 0 (by omega) (by omega) hp⟩⟩
end
theorem cs_shL {limit k0 : Nat} (hl : limit ≤ 64) : ∀ (c j : Nat) (cp pr ph gc gp oc ml cl ol vl tr ac ca pa bk ix cL cH im tl tk dr cc ld sd yn yl yt yr yo : Int32) (gk gb ge po oa mn cu og vl_ tp ce lN lC sk yA cd ou sN sS sQ sM : Nat → Int32), j + c = limit → cs_M cp ml mn → cs_Gn gc gp gk gb ge → cs_Pr oc po oa yA → cs_H ph gp cl ol vl pa bk ix cL cH im yn cu → ∃ (r : Int32) (u' : SX) (v' : SY), i_Rel k0 u' v' ∧ (∀ (post : Int32 → SX → Prop) (fuel : Nat), c < fuel → post r u' → wX_shrink_36 post (nI limit) fuel (nI j) cp pr ph gc gp oc ml cl ol vl tr ac ca pa bk ix cL cH im tl tk dr cc ld sd gk gb ge po oa mn cu og vl_ tp ce lN lC sk) ∧ (∀ (post : Int32 → SY → Prop) (fuel : Nat), c < fuel → post r v' → wY_shrink_55 post (nI limit) fuel (nI j) pr cp ph gc gp oc ml cl ol vl tr ac ca pa bk ix cL cH im yn yl yt yr yo gk gb po yA mn cu og vl_ cd ou sN sS sQ sM sk) := by
  intro c
  induction c with
  | zero =>
    intro j cp pr ph gc gp oc ml cl ol vl tr ac ca pa bk ix cL cH im tl tk dr cc ld sd yn yl yt yr yo gk gb ge po oa mn cu og vl_ tp ce lN lC sk yA cd ou sN sS sQ sM hj hM hG hP hH
    refine ⟨nI j, (cp, pr, ph, gc, gp, oc, ml, cl, ol, vl, tr, ac, ca, pa, bk, ix, cL, cH, im, tl, tk, dr, cc, ld, sd, gk, gb, ge, po, oa, mn, cu, og, vl_, tp, ce, lN, lC, sk), (pr, cp, ph, gc, gp, oc, ml, cl, ol, vl, tr, ac, ca, pa, bk, ix, cL, cH, im, yn, yl, yt, yr, yo, gk, gb, po, yA, mn, cu, og, vl_, cd, ou, sN, sS, sQ, sM, sk), cs_mk hM hG hP (cs_HF hH), fun post fuel hf hp => ?_, fun post fuel hf hp => ?_⟩
    · obtain ⟨f, rfl⟩ : ∃ f, fuel = f + 1 := ⟨fuel - 1, by omega⟩
      exact br_t (nI_le (by omega) (by omega)) hp
    · obtain ⟨f, rfl⟩ : ∃ f, fuel = f + 1 := ⟨fuel - 1, by omega⟩
      exact br_t (nI_le (by omega) (by omega)) hp
  | succ c ih =>
    intro j cp pr ph gc gp oc ml cl ol vl tr ac ca pa bk ix cL cH im tl tk dr cc ld sd yn yl yt yr yo gk gb ge po oa mn cu og vl_ tp ce lN lC sk yA cd ou sN sS sQ sM hj hM hG hP hH
    have hlt : ¬ nI limit ≤ nI j := nI_ge (by omega) (by omega)
    have hF := cs_HF hH
    obtain ⟨n, oo, vv, hn, ho, hv, rfl, rfl, rfl, hb, rfl | ⟨rfl, rfl, hat⟩⟩ := hH
    · refine ⟨nI j, (cp, pr, 2, gc, gp, oc, ml, nI n, nI oo, nI vv, tr, ac, ca, pa, bk, ix, cL, cH, im, tl, tk, dr, cc, ld, sd, gk, gb, ge, po, oa, mn, cu, og, vl_, tp, ce, lN, lC, sk), (pr, cp, 2, gc, gp, oc, ml, nI n, nI oo, nI vv, tr, ac, ca, pa, bk, ix, cL, cH, im, yn, yl, yt, yr, yo, gk, gb, po, yA, mn, cu, og, vl_, cd, ou, sN, sS, sQ, sM, sk), cs_mk hM hG hP hF, fun post fuel hf hp => ?_, fun post fuel hf hp => ?_⟩
      · obtain ⟨f, rfl⟩ : ∃ f, fuel = f + 1 := ⟨fuel - 1, by omega⟩
        exact br_f hlt (br_f (by decide) hp)
      · obtain ⟨f, rfl⟩ : ∃ f, fuel = f + 1 := ⟨fuel - 1, by omega⟩
        exact br_f hlt (br_f (by decide) hp)
    · obtain ⟨u1, v1, hW, HX1, HY1⟩ := cs_pt (cp := cp) (pr := pr) (gc := gc) (oc := oc) (ml := ml) (tr := tr) (ac := ac) (ca := ca) (pa := pa) (bk := bk) (ix := ix) (cL := cL) (cH := cH) (im := im) (tl := tl) (tk := tk) (dr := dr) (cc := cc) (ld := ld) (sd := sd) (gk := gk) (gb := gb) (ge := ge) (po := po) (oa := oa) (mn := mn) (cu := cu) (og := og) (vl_ := vl_) (tp := tp) (ce := ce) (lN := lN) (lC := lC) (sk := sk) (yn := yn) (yl := yl) (yt := yt) (yr := yr) (yo := yo) (yA := yA) (cd := cd) (ou := ou) (sN := sN) (sS := sS) (sQ := sQ) (sM := sM) (n := n) (oo := oo) (vv := vv) hn ho hv hM hG hP hb hat
      refine cs_Welim (P := fun u1 v1 => (∀ post : SX → Prop, post u1 → wpX_performTrial post (cp, pr, 1, gc, 0, oc, ml, nI n, nI oo, nI vv, tr, ac, ca, pa, bk, ix, cL, cH, im, tl, tk, dr, cc, ld, sd, gk, gb, ge, po, oa, mn, cu, og, vl_, tp, ce, lN, lC, sk)) → (∀ post : SY → Prop, post v1 → wpY_trialAtCursor post (pr, cp, 1, gc, 0, oc, ml, nI n, nI oo, nI vv, tr, ac, ca, pa, bk, ix, cL, cH, im, yn, yl, yt, yr, yo, gk, gb, po, yA, mn, cu, og, vl_, cd, ou, sN, sS, sQ, sM, sk)) → ∃ (r : Int32) (u' : SX) (v' : SY), i_Rel k0 u' v' ∧ (∀ (post : Int32 → SX → Prop) (fuel : Nat), c + 1 < fuel → post r u' → wX_shrink_36 post (nI limit) fuel (nI j) cp pr 1 gc 0 oc ml (nI n) (nI oo) (nI vv) tr ac ca pa bk ix cL cH im tl tk dr cc ld sd gk gb ge po oa mn cu og vl_ tp ce lN lC sk) ∧ (∀ (post : Int32 → SY → Prop) (fuel : Nat), c + 1 < fuel → post r v' → wY_shrink_55 post (nI limit) fuel (nI j) pr cp 1 gc 0 oc ml (nI n) (nI oo) (nI vv) tr ac ca pa bk ix cL cH im yn yl yt yr yo gk gb po yA mn cu og vl_ cd ou sN sS sQ sM sk)) hW ?_ HX1 HY1
      intro cp2 pr2 ph2 gc2 gp2 oc2 ml2 cl2 ol2 vl2 tr2 ac2 ca2 pa2 bk2 ix2 cL2 cH2 im2 tl2 tk2 dr2 cc2 ld2 sd2 yn2 yl2 yt2 yr2 yo2 gk2 gb2 ge2 po2 oa2 mn2 cu2 og2 vl_2 tp2 ce2 lN2 lC2 sk2 yA2 cd2 ou2 sN2 sS2 sQ2 sM2 hM hG hP hZ HX1 HY1
      obtain ⟨u2, v2, hV, HX2, HY2⟩ := cs_mvm (cp := cp2) (pr := pr2) (ph := ph2) (gc := gc2) (gp := gp2) (oc := oc2) (ml := ml2) (cl := cl2) (ol := ol2) (vl := vl2) (tr := tr2) (ac := ac2) (ca := ca2) (pa := pa2) (bk := bk2) (ix := ix2) (cL := cL2) (cH := cH2) (im := im2) (tl := tl2) (tk := tk2) (dr := dr2) (cc := cc2) (ld := ld2) (sd := sd2) (yn := yn2) (yl := yl2) (yt := yt2) (yr := yr2) (yo := yo2) (gk := gk2) (gb := gb2) (ge := ge2) (po := po2) (oa := oa2) (mn := mn2) (cu := cu2) (og := og2) (vl_ := vl_2) (tp := tp2) (ce := ce2) (lN := lN2) (lC := lC2) (sk := sk2) (yA := yA2) (cd := cd2) (ou := ou2) (sN := sN2) (sS := sS2) (sQ := sQ2) (sM := sM2) hM hG hP hZ
      refine cs_Velim (P := fun u2 v2 => (∀ post : SX → Prop, post u2 → wpX_moveToTrial post (cp2, pr2, ph2, gc2, gp2, oc2, ml2, cl2, ol2, vl2, tr2, ac2, ca2, pa2, bk2, ix2, cL2, cH2, im2, tl2, tk2, dr2, cc2, ld2, sd2, gk2, gb2, ge2, po2, oa2, mn2, cu2, og2, vl_2, tp2, ce2, lN2, lC2, sk2)) → (∀ post : SY → Prop, post v2 → wpY_advance post (pr2, cp2, ph2, gc2, gp2, oc2, ml2, cl2, ol2, vl2, tr2, ac2, ca2, pa2, bk2, ix2, cL2, cH2, im2, yn2, yl2, yt2, yr2, yo2, gk2, gb2, po2, yA2, mn2, cu2, og2, vl_2, cd2, ou2, sN2, sS2, sQ2, sM2, sk2)) → ∃ (r : Int32) (u' : SX) (v' : SY), i_Rel k0 u' v' ∧ (∀ (post : Int32 → SX → Prop) (fuel : Nat), c + 1 < fuel → post r u' → wX_shrink_36 post (nI limit) fuel (nI j) cp pr 1 gc 0 oc ml (nI n) (nI oo) (nI vv) tr ac ca pa bk ix cL cH im tl tk dr cc ld sd gk gb ge po oa mn cu og vl_ tp ce lN lC sk) ∧ (∀ (post : Int32 → SY → Prop) (fuel : Nat), c + 1 < fuel → post r v' → wY_shrink_55 post (nI limit) fuel (nI j) pr cp 1 gc 0 oc ml (nI n) (nI oo) (nI vv) tr ac ca pa bk ix cL cH im yn yl yt yr yo gk gb po yA mn cu og vl_ cd ou sN sS sQ sM sk)) hV ?_ HX2 HY2
      intro cp3 pr3 ph3 gc3 gp3 oc3 ml3 cl3 ol3 vl3 tr3 ac3 ca3 pa3 bk3 ix3 cL3 cH3 im3 tl3 tk3 dr3 cc3 ld3 sd3 yn3 yl3 yt3 yr3 yo3 gk3 gb3 ge3 po3 oa3 mn3 cu3 og3 vl_3 tp3 ce3 lN3 lC3 sk3 yA3 cd3 ou3 sN3 sS3 sQ3 sM3 hM hG hP hH HX2 HY2
      obtain ⟨r, u', v', hR, HX, HY⟩ := ih (j + 1) cp3 pr3 ph3 gc3 gp3 oc3 ml3 cl3 ol3 vl3 tr3 ac3 ca3 pa3 bk3 ix3 cL3 cH3 im3 tl3 tk3 dr3 cc3 ld3 sd3 yn3 yl3 yt3 yr3 yo3 gk3 gb3 ge3 po3 oa3 mn3 cu3 og3 vl_3 tp3 ce3 lN3 lC3 sk3 yA3 cd3 ou3 sN3 sS3 sQ3 sM3 (by omega) hM hG hP hH
      refine ⟨r, u', v', hR, fun post fuel hf hp => ?_, fun post fuel hf hp => ?_⟩
      · obtain ⟨f, rfl⟩ : ∃ f, fuel = f + 1 := ⟨fuel - 1, by omega⟩
        exact br_f hlt (br_t rfl (HX1 _ (HX2 _ (nm_r (nI_1 j) (HX post f (by omega) hp)))))
      · obtain ⟨f, rfl⟩ : ∃ f, fuel = f + 1 := ⟨fuel - 1, by omega⟩
        exact br_f hlt (br_t rfl (HY1 _ (nm_r (nI_1 j) (HY2 _ (HY post f (by omega) hp)))))
theorem i_vc_shrink {k : Nat} {u : SX} {v : SY} (I : i_Rel k u v) (hk : k + 3 ≤ 1538) (v1 : Int32) : wpX_shrink (fun r u' => wpY_shrink (fun r' v' => r' = r ∧ i_Rel (k + 3) u' v') v v1) u v1 := by
  refine cs_elim (P := fun u v => wpX_shrink (fun r u' => wpY_shrink (fun r' v' => r' = r ∧ i_Rel (k + 3) u' v') v v1) u v1) I ?_
  intro cp pr ph gc gp oc ml cl ol vl tr ac ca pa bk ix cL cH im tl tk dr cc ld sd yn yl yt yr yo gk gb ge po oa mn cu og vl_ tp ce lN lC sk yA cd ou sN sS sQ sM hM hG hP hF
  have J : i_Rel (k + 3) (cp, pr, ph, gc, gp, oc, ml, cl, ol, vl, tr, ac, ca, pa, bk, ix, cL, cH, im, tl, tk, dr, cc, ld, sd, gk, gb, ge, po, oa, mn, cu, og, vl_, tp, ce, lN, lC, sk) (pr, cp, ph, gc, gp, oc, ml, cl, ol, vl, tr, ac, ca, pa, bk, ix, cL, cH, im, yn, yl, yt, yr, yo, gk, gb, po, yA, mn, cu, og, vl_, cd, ou, sN, sS, sQ, sM, sk) := cs_mk hM hG hP hF
  by_cases h : ph = 1
  · subst h
    obtain ⟨n, oo, vv, hn, ho, hv, rfl, rfl, rfl, hb, h0 | h0 | ⟨_, rfl, hcur⟩⟩ := hF
    · exact absurd h0 (by decide)
    · exact absurd h0 (by decide)
    · obtain ⟨limit, l1, l64, hC, hC'⟩ := cs_clamp (x := v1) 1 64 (by omega) (by omega)
      have hYc : ∀ post : Int32 → SY → Prop, wY_shrink_28 post (nI limit) pr cp 1 gc 0 oc ml (nI n) (nI oo) (nI vv) tr ac ca pa bk ix cL cH im yn yl yt yr yo gk gb po yA mn cu og vl_ cd ou sN sS sQ sM sk → wpY_shrink post (pr, cp, 1, gc, 0, oc, ml, nI n, nI oo, nI vv, tr, ac, ca, pa, bk, ix, cL, cH, im, yn, yl, yt, yr, yo, gk, gb, po, yA, mn, cu, og, vl_, cd, ou, sN, sS, sQ, sM, sk) v1 := fun post hp => by
        rcases hC' with ⟨a, b, rfl⟩ | ⟨a, rfl⟩ | ⟨a, b, rfl⟩
        · exact br_t rfl (br_t a (br_t b hp))
        · exact br_t rfl (br_f a (br_t (by decide) hp))
        · exact br_t rfl (br_t a (br_f b hp))
      rcases hcur with ⟨rfl, rfl, rfl, rfl, rfl, rfl, rfl⟩ | hat
      · obtain ⟨u2, v2, hV, HX2, HY2⟩ := cs_mvm (cp := cp) (pr := pr) (ph := 1) (gc := gc) (gp := 0) (oc := oc) (ml := ml) (cl := nI n) (ol := nI oo) (vl := nI vv) (tr := tr) (ac := ac) (ca := ca) (pa := 1) (bk := 4) (ix := 0) (cL := 0) (cH := 0) (im := 0) (tl := tl) (tk := tk) (dr := dr) (cc := cc) (ld := ld) (sd := sd) (gk := gk) (gb := gb) (ge := ge) (po := po) (oa := oa) (mn := mn) (cu := cu) (og := og) (vl_ := vl_) (tp := tp) (ce := ce) (lN := lN) (lC := lC) (sk := sk) (yn := 0) (yl := yl) (yt := yt) (yr := yr) (yo := yo) (yA := yA) (cd := cd) (ou := ou) (sN := sN) (sS := sS) (sQ := sQ) (sM := sM) hM hG hP ⟨rfl, rfl, Or.inl rfl, n, oo, vv, hn, ho, hv, rfl, rfl, rfl, hb, 4, 0, rfl, rfl, by omega, Or.inl ⟨Or.inl rfl, by omega, rfl, rfl, rfl⟩⟩
        refine cs_Velim (P := fun u2 v2 => (∀ post : SX → Prop, post u2 → wpX_moveToTrial post (cp, pr, 1, gc, 0, oc, ml, nI n, nI oo, nI vv, tr, ac, ca, 1, 4, 0, 0, 0, 0, tl, tk, dr, cc, ld, sd, gk, gb, ge, po, oa, mn, cu, og, vl_, tp, ce, lN, lC, sk)) → (∀ post : SY → Prop, post v2 → wpY_advance post (pr, cp, 1, gc, 0, oc, ml, nI n, nI oo, nI vv, tr, ac, ca, 1, 4, 0, 0, 0, 0, 0, yl, yt, yr, yo, gk, gb, po, yA, mn, cu, og, vl_, cd, ou, sN, sS, sQ, sM, sk)) → wpX_shrink (fun r u' => wpY_shrink (fun r' v' => r' = r ∧ i_Rel (k + 3) u' v') (pr, cp, 1, gc, 0, oc, ml, nI n, nI oo, nI vv, tr, ac, ca, 0, 0, 0, 0, 0, 0, 0, yl, yt, yr, yo, gk, gb, po, yA, mn, cu, og, vl_, cd, ou, sN, sS, sQ, sM, sk) v1) (cp, pr, 1, gc, 0, oc, ml, nI n, nI oo, nI vv, tr, ac, ca, 0, 0, 0, 0, 0, 0, tl, tk, dr, cc, ld, sd, gk, gb, ge, po, oa, mn, cu, og, vl_, tp, ce, lN, lC, sk) v1) hV ?_ HX2 HY2
        intro cp2 pr2 ph2 gc2 gp2 oc2 ml2 cl2 ol2 vl2 tr2 ac2 ca2 pa2 bk2 ix2 cL2 cH2 im2 tl2 tk2 dr2 cc2 ld2 sd2 yn2 yl2 yt2 yr2 yo2 gk2 gb2 ge2 po2 oa2 mn2 cu2 og2 vl_2 tp2 ce2 lN2 lC2 sk2 yA2 cd2 ou2 sN2 sS2 sQ2 sM2 hM hG hP hH HX2 HY2
        obtain ⟨r, u', v', hR, HX, HY⟩ := cs_shL (limit := limit) (k0 := k + 3) l64 limit 0 cp2 pr2 ph2 gc2 gp2 oc2 ml2 cl2 ol2 vl2 tr2 ac2 ca2 pa2 bk2 ix2 cL2 cH2 im2 tl2 tk2 dr2 cc2 ld2 sd2 yn2 yl2 yt2 yr2 yo2 gk2 gb2 ge2 po2 oa2 mn2 cu2 og2 vl_2 tp2 ce2 lN2 lC2 sk2 yA2 cd2 ou2 sN2 sS2 sQ2 sM2 (by omega) hM hG hP hH
        refine br_t rfl (hC _ (br_t rfl (br_t rfl (br_f (by decide) (HX2 _ ⟨limit + 1, HX _ (limit + 1) (by omega) (hYc _ ?_)⟩)))))
        exact br_t rfl (HY2 _ ⟨limit + 1, HY _ (limit + 1) (by omega) ⟨rfl, hR⟩⟩)
      · have hpa : ¬ pa = 0 := by
          obtain ⟨p, _, _, _, _, rfl, _, _, _, _, _, H⟩ := hat
          exact nI_ne0 (by omega) (by omega)
        obtain ⟨r, u', v', hR, HX, HY⟩ := cs_shL (limit := limit) (k0 := k + 3) l64 limit 0 cp pr 1 gc 0 oc ml (nI n) (nI oo) (nI vv) tr ac ca pa bk ix cL cH im tl tk dr cc ld sd yn yl yt yr yo gk gb ge po oa mn cu og vl_ tp ce lN lC sk yA cd ou sN sS sQ sM (by omega) hM hG hP ⟨n, oo, vv, hn, ho, hv, rfl, rfl, rfl, hb, Or.inr ⟨rfl, rfl, hat⟩⟩
        refine br_t rfl (hC _ (br_f hpa ⟨limit + 1, HX _ (limit + 1) (by omega) (hYc _ ?_)⟩))
        exact br_f hpa ⟨limit + 1, HY _ (limit + 1) (by omega) ⟨rfl, hR⟩⟩
  · exact br_f h (br_f h ⟨rfl, J⟩)
