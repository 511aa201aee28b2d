section
variable {cp pr ph gc gp oc ml cl ol vl tr ac ca pa bk ix cL cH im tl tk dr cc ld sd yn yl yt yr yo : Int32} {gk gb ge po oa mn cu og vl_ tp ce lN lC sk yA cd ou sN sS sQ sM : Nat → Int32}
theorem cs_gen {lim : Nat} (hG : cs_Gn gc gp gk gb ge) (hgp : gp = 0) (hc : dr ≠ 0 → cp = nI lim) (hT : cs_T dr yl lim 0 tp cd) :
    ∃ (r pr' tk' cc' ld' yl' yt' yo' : Int32) (tp' ce' lN' lC' cd' ou' sN' sS' sQ' sM' : Nat → Int32), cs_fin r tk' cc' yt' yo' tp' ce' cd' ou' ∧
    (∀ post : Int32 → SX → Prop, post r (cp, pr', ph, gc, gp, oc, ml, cl, ol, vl, tr, ac, ca, pa, bk, ix, cL, cH, im, nI lim, tk', dr, cc', ld', sd, gk, gb, ge, po, oa, mn, cu, og, vl_, tp', ce', lN', lC', sk) → wpX_generate post (cp, pr, ph, gc, gp, oc, ml, cl, ol, vl, tr, ac, ca, pa, bk, ix, cL, cH, im, nI lim, tk, dr, cc, ld, sd, gk, gb, ge, po, oa, mn, cu, og, vl_, tp, ce, lN, lC, sk)) ∧
    (∀ post : Int32 → SY → Prop, post r (pr', cp, ph, gc, gp, oc, ml, cl, ol, vl, tr, ac, ca, pa, bk, ix, cL, cH, im, yn, yl', yt', dr, yo', gk, gb, po, yA, mn, cu, og, vl_, cd', ou', sN', sS', sQ', sM', sk) → wpY_generate post (pr, cp, ph, gc, gp, oc, ml, cl, ol, vl, tr, ac, ca, pa, bk, ix, cL, cH, im, yn, yl, yt, dr, yo, gk, gb, po, yA, mn, cu, og, vl_, cd, ou, sN, sS, sQ, sM, sk)) := by
  obtain ⟨n, hn, rfl, rfl, H, hgb, hE⟩ := hG
  have dl := cs_Dle gk n
  have d0 : cs_D gk n = 0 := (nI_eq (b := 0) (by omega) (by decide)).mp hgp
  obtain ⟨en, G, hge⟩ := hE d0
  have n0 := G.1
  have hl := hT.2.1
  have e0 : cs_pos gk en n [(0, 0, 0, 0)] = 0 := cs_p0 gk en n 0 0 0 []
  have e1 : cs_L gk [(0, 0, 0, 0)] = [] := cs_L0 gk 0 0 0 []
  have e2 : cs_ph gk [(0, 0, 0, 0)] = 0 := cs_h0 gk 0 0 0 []
  have hmu : cs_mu gk en n lim 0 [(0, 0, 0, 0)] < 1700 := by
    unfold cs_mu
    rw [e0, e2]
    omega
  by_cases hd : dr = 0
  · obtain ⟨r, pr', tk', cc', ld', yl', yt', yo', tp', ce', lN', lC', cd', ou', sN', sS', sQ', sM', hf, HX, HY⟩ := cs_gen0 (cp := cp) (ph := ph) (gp := nI (cs_D gk n)) (oc := oc) (ml := ml) (cl := cl) (ol := ol) (vl := vl) (tr := tr) (ac := ac) (ca := ca) (pa := pa) (bk := bk) (ix := ix) (cL := cL) (cH := cH) (im := im) (sd := sd) (yn := yn) (po := po) (oa := oa) (mn := mn) (cu := cu) (og := og) (vl_ := vl_) (sk := sk) (yA := yA) G hge hgb hc 1700 [(0, 0, 0, 0)] 0 0 pr yl tp ce lN lC cd ou (upd sN 0 0) (upd sS 0 0) sQ sM hmu (cs_S0 G) (by omega) hT
    refine ⟨r, pr', tk', cc', ld', yl', yt', yo', tp', ce', lN', lC', cd', ou', sN', sS', sQ', sM', hf, fun post hp => ?_, fun post hp => ?_⟩
    · have h := HX post 1701 0 (by omega) (by omega) hp
      rw [e0, e1] at h
      exact ⟨1701, h⟩
    · have h := HY post 1701 0 (by omega) (by omega) hp
      exact br_t hd (br_t (nI_le (a := 1) n0 (by omega)) (nm_e (nm_e ⟨1701, h⟩)))
  · obtain ⟨h1, h2, h3, h4, h5, h6⟩ := hT
    obtain ⟨r, pr', tk', cc', ld', yl', yt', yo', tp', ce', lN', lC', cd', ou', sN', sS', sQ', sM', hf, HX, HY⟩ := cs_gen0 (cp := cp) (ph := ph) (gp := nI (cs_D gk n)) (oc := oc) (ml := ml) (cl := cl) (ol := ol) (vl := vl) (tr := tr) (ac := ac) (ca := ca) (pa := pa) (bk := bk) (ix := ix) (cL := cL) (cH := cH) (im := im) (sd := sd) (yn := yn) (po := po) (oa := oa) (mn := mn) (cu := cu) (og := og) (vl_ := vl_) (sk := sk) (yA := yA) G hge hgb hc 1700 [(0, 0, 0, 0)] 0 0 pr 0 tp ce lN lC cd ou (upd sN 0 0) (upd sS 0 0) sQ sM hmu (cs_S0 G) (by omega) ⟨h1, h2, h3, h4, h5, fun z => absurd z hd⟩
    refine ⟨r, pr', tk', cc', ld', yl', yt', yo', tp', ce', lN', lC', cd', ou', sN', sS', sQ', sM', hf, fun post hp => ?_, fun post hp => ?_⟩
    · have h := HX post 1701 0 (by omega) (by omega) hp
      rw [e0, e1] at h
      exact ⟨1701, h⟩
    · have h := HY post 1701 0 (by omega) (by omega) hp
      exact br_f hd (br_t (nI_le (a := 1) n0 (by omega)) (nm_e (nm_e ⟨1701, h⟩)))
end
