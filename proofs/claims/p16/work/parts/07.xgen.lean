section
variable {cp pr ph gc gp oc ml cl ol vl tr ac ca pa bk ix cL cH im tl tk dr cc ld sd : Int32} {gk gb ge po oa mn cu og vl_ tp ce lN lC sk ou : Nat → Int32}
variable {pr' tk' cc' ld' : Int32} {tp' ce' lN' lC' : Nat → Int32}
theorem cs_xgi0 {nd b : Nat} (hn : nd < 16) (hb : gb nd = nI b) (post : Int32 → St2 → Prop) (hX : ∀ p : Int32 → St2 → Prop, p (-1) (cp, pr', ph, gc, gp, oc, ml, cl, ol, vl, tr, ac, ca, pa, bk, ix, cL, cH, im, tl, tk', dr, cc, ld, sd, gk, gb, ge, po, oa, mn, cu, og, vl_, tp', ce, lN, lC, sk) → wpX_take p (cp, pr, ph, gc, gp, oc, ml, cl, ol, vl, tr, ac, ca, pa, bk, ix, cL, cH, im, tl, tk, dr, cc, ld, sd, gk, gb, ge, po, oa, mn, cu, og, vl_, tp, ce, lN, lC, sk) (nI (b + 1))) (hp : post (-1) (cp, pr', ph, gc, gp, oc, ml, cl, ol, vl, tr, ac, ca, pa, bk, ix, cL, cH, im, tl, tk', dr, cc, ld, sd, gk, gb, ge, po, oa, mn, cu, og, vl_, tp', ce, lN, lC, sk)) : wpX_generateInt post (cp, pr, ph, gc, gp, oc, ml, cl, ol, vl, tr, ac, ca, pa, bk, ix, cL, cH, im, tl, tk, dr, cc, ld, sd, gk, gb, ge, po, oa, mn, cu, og, vl_, tp, ce, lN, lC, sk) (nI nd) := by
  have ec : (nI nd).toNatClampNeg = nd := nI_clamp (by omega)
  exact ⟨vp_in_nI hn (by omega), nm_r (e' := nI (b + 1)) (by rw [ec, hb, nI_1]) (hX _ (br_t rfl hp))⟩
theorem cs_xgi1 {nd b c : Nat} (hn : nd < 16) (hb : gb nd = nI b) (hb2 : b < 256) (hc : c < 256) (post : Int32 → St2 → Prop) (hX : ∀ p : Int32 → St2 → Prop, p (nI c) (cp, pr', ph, gc, gp, oc, ml, cl, ol, vl, tr, ac, ca, pa, bk, ix, cL, cH, im, tl, tk', dr, nI 32, ld, sd, gk, gb, ge, po, oa, mn, cu, og, vl_, tp', ce, lN, lC, sk) → wpX_take p (cp, pr, ph, gc, gp, oc, ml, cl, ol, vl, tr, ac, ca, pa, bk, ix, cL, cH, im, tl, tk, dr, nI 32, ld, sd, gk, gb, ge, po, oa, mn, cu, og, vl_, tp, ce, lN, lC, sk) (nI (b + 1))) (hp : post (-1) (cp, pr', ph, gc, gp, oc, ml, cl, ol, vl, tr, ac, ca, pa, bk, ix, cL, cH, im, tl, tk', dr, nI 32, ld, sd, gk, gb, ge, po, oa, mn, cu, og, vl_, tp', ce, lN, lC, sk)) : wpX_generateInt post (cp, pr, ph, gc, gp, oc, ml, cl, ol, vl, tr, ac, ca, pa, bk, ix, cL, cH, im, tl, tk, dr, nI 32, ld, sd, gk, gb, ge, po, oa, mn, cu, og, vl_, tp, ce, lN, lC, sk) (nI nd) := by
  have ec : (nI nd).toNatClampNeg = nd := nI_clamp (by omega)
  exact ⟨vp_in_nI hn (by omega), nm_r (e' := nI (b + 1)) (by rw [ec, hb, nI_1]) (hX _ (br_f (cs_nm1 (by omega)) ⟨nI_ne0 (by omega) (by omega), cs_xe0 _ _ (br_t rfl hp)⟩))⟩
theorem cs_xgi2 {nd b c L : Nat} (hn : nd < 16) (hb : gb nd = nI b) (hb2 : b < 256) (hc : c < 256) (hL : L < 32) (post : Int32 → St2 → Prop) (hX : ∀ p : Int32 → St2 → Prop, p (nI c) (cp, pr', ph, gc, gp, oc, ml, cl, ol, vl, tr, ac, ca, pa, bk, ix, cL, cH, im, tl, tk', dr, nI L, ld, sd, gk, gb, ge, po, oa, mn, cu, og, vl_, tp', ce, lN, lC, sk) → wpX_take p (cp, pr, ph, gc, gp, oc, ml, cl, ol, vl, tr, ac, ca, pa, bk, ix, cL, cH, im, tl, tk, dr, nI L, ld, sd, gk, gb, ge, po, oa, mn, cu, og, vl_, tp, ce, lN, lC, sk) (nI (b + 1))) (hp : post (nI (nd + 1)) (cp, pr', ph, gc, gp, oc, ml, cl, ol, vl, tr, ac, ca, pa, bk, ix, cL, cH, im, tl, tk', dr, nI (L + 1), ld, sd, gk, gb, ge, po, oa, mn, cu, og, vl_, tp', upd ce L (nI (c % (b + 1))), lN, lC, sk)) : wpX_generateInt post (cp, pr, ph, gc, gp, oc, ml, cl, ol, vl, tr, ac, ca, pa, bk, ix, cL, cH, im, tl, tk, dr, nI L, ld, sd, gk, gb, ge, po, oa, mn, cu, og, vl_, tp, ce, lN, lC, sk) (nI nd) := by
  have ec : (nI nd).toNatClampNeg = nd := nI_clamp (by omega)
  have er : nI c - nI c / nI (b + 1) * nI (b + 1) = nI (c % (b + 1)) := pk_rem (by omega) (by omega) (by omega)
  refine ⟨vp_in_nI hn (by omega), nm_r (e' := nI (b + 1)) (by rw [ec, hb, nI_1]) (hX _ (br_f (cs_nm1 (by omega)) ⟨nI_ne0 (by omega) (by omega), ?_⟩))⟩
  rw [er]
  refine cs_xe1 hL _ _ (br_f (by decide) ?_)
  rw [nI_1]
  exact hp
theorem cs_xol0 {nd : Nat} (post : Int32 → St2 → Prop) (hp : post (-1) (cp, pr, ph, gc, gp, oc, ml, cl, ol, vl, tr, ac, ca, pa, bk, ix, cL, cH, im, tl, tk, dr, nI 32, ld, sd, gk, gb, ge, po, oa, mn, cu, og, vl_, tp, ce, lN, lC, sk)) : wpX_openList post (cp, pr, ph, gc, gp, oc, ml, cl, ol, vl, tr, ac, ca, pa, bk, ix, cL, cH, im, tl, tk, dr, nI 32, ld, sd, gk, gb, ge, po, oa, mn, cu, og, vl_, tp, ce, lN, lC, sk) (nI nd) := by
  unfold wpX_openList
  exact cs_xe0 _ _ (br_t rfl hp)
theorem cs_xol1 {nd L d e : Nat} (hn : nd < 16) (hL : L < 32) (hd : d < 16) (he : ge nd = nI e) (post : Int32 → St2 → Prop) (hp : post (nI e) (cp, pr, ph, gc, gp, oc, ml, cl, ol, vl, tr, ac, ca, pa, bk, ix, cL, cH, im, tl, tk, dr, nI (L + 1), nI (d + 1), sd, gk, gb, ge, po, oa, mn, cu, og, vl_, tp, upd ce L (nI 0), upd lN d (nI nd), upd lC d (nI L), sk)) : wpX_openList post (cp, pr, ph, gc, gp, oc, ml, cl, ol, vl, tr, ac, ca, pa, bk, ix, cL, cH, im, tl, tk, dr, nI L, nI d, sd, gk, gb, ge, po, oa, mn, cu, og, vl_, tp, ce, lN, lC, sk) (nI nd) := by
  have ec : (nI nd).toNatClampNeg = nd := nI_clamp (by omega)
  have ed : (nI d).toNatClampNeg = d := nI_clamp (by omega)
  have hv : vp_in (nI d) 16 := vp_in_nI hd (by omega)
  unfold wpX_openList
  refine cs_xe1 hL _ _ (br_f (by decide) ⟨hv, nm_r (e' := upd lN d (nI nd)) (by rw [ed]) ⟨hv, nm_r (e' := upd lC d (nI L)) (by rw [ed, nI_pred]) (nm_r (nI_1 d) ⟨vp_in_nI hn (by omega), ?_⟩)⟩⟩)
  rw [ec, he]
  exact hp
theorem cs_xcl8 {nd d q e : Nat} (hn : nd < 16) (hd : d < 16) (hq : q < 32) (h1 : lN d = nI nd) (h2 : lC d = nI q) (h3 : ce q = nI 8) (he : ge nd = nI e) (post : Int32 → St2 → Prop) (hp : post (nI e) (cp, pr, ph, gc, gp, oc, ml, cl, ol, vl, tr, ac, ca, pa, bk, ix, cL, cH, im, tl, tk, dr, cc, nI d, sd, gk, gb, ge, po, oa, mn, cu, og, vl_, tp, ce, lN, lC, sk)) : wpX_continueList post (cp, pr, ph, gc, gp, oc, ml, cl, ol, vl, tr, ac, ca, pa, bk, ix, cL, cH, im, tl, tk, dr, cc, nI (d + 1), sd, gk, gb, ge, po, oa, mn, cu, og, vl_, tp, ce, lN, lC, sk) := by
  have ec : (nI nd).toNatClampNeg = nd := nI_clamp (by omega)
  have ed : (nI d).toNatClampNeg = d := nI_clamp (by omega)
  have eq : (nI q).toNatClampNeg = q := nI_clamp (by omega)
  have hv : vp_in (nI d) 16 := vp_in_nI hd (by omega)
  refine nm_r (nI_pred d) ⟨hv, nm_r (e' := nI nd) (by rw [ed, h1]) ⟨hv, nm_r (e' := nI q) (by rw [ed, h2]) ⟨vp_in_nI hq (by omega), br_t (by rw [eq, h3]; rfl) (br_f (by decide) (br_t rfl ⟨vp_in_nI hn (by omega), ?_⟩))⟩⟩⟩
  rw [ec, he]
  exact hp
theorem cs_xclt {nd d q m : Nat} (hd : d < 16) (hq : q < 32) (h1 : lN d = nI nd) (h2 : lC d = nI q) (h3 : ce q = nI m) (hm : m < 8) (post : Int32 → St2 → Prop) {r : Int32} (hX : ∀ p : Int32 → St2 → Prop, p r (cp, pr', ph, gc, gp, oc, ml, cl, ol, vl, tr, ac, ca, pa, bk, ix, cL, cH, im, tl, tk', dr, cc, nI (d + 1), sd, gk, gb, ge, po, oa, mn, cu, og, vl_, tp', ce, lN, lC, sk) → wpX_take p (cp, pr, ph, gc, gp, oc, ml, cl, ol, vl, tr, ac, ca, pa, bk, ix, cL, cH, im, tl, tk, dr, cc, nI (d + 1), sd, gk, gb, ge, po, oa, mn, cu, og, vl_, tp, ce, lN, lC, sk) (nI 4)) (hp : wX_continueList_41 post (nI d) (nI nd) (nI q) r cp pr' ph gc gp oc ml cl ol vl tr ac ca pa bk ix cL cH im tl tk' dr cc (nI (d + 1)) sd gk gb ge po oa mn cu og vl_ tp' ce lN lC sk) : wpX_continueList post (cp, pr, ph, gc, gp, oc, ml, cl, ol, vl, tr, ac, ca, pa, bk, ix, cL, cH, im, tl, tk, dr, cc, nI (d + 1), sd, gk, gb, ge, po, oa, mn, cu, og, vl_, tp, ce, lN, lC, sk) := by
  have ed : (nI d).toNatClampNeg = d := nI_clamp (by omega)
  have eq : (nI q).toNatClampNeg = q := nI_clamp (by omega)
  have hv : vp_in (nI d) 16 := vp_in_nI hd (by omega)
  have h8 : ¬ nI m = 8 := fun z => absurd ((nI_eq (b := 8) (by omega) (by decide)).mp z) (by omega)
  exact nm_r (nI_pred d) ⟨hv, nm_r (e' := nI nd) (by rw [ed, h1]) ⟨hv, nm_r (e' := nI q) (by rw [ed, h2]) ⟨vp_in_nI hq (by omega), br_f (by rw [eq, h3]; exact h8) (hX _ hp)⟩⟩⟩
theorem cs_xc0 {nd d q : Nat} (post : Int32 → St2 → Prop) (hp : post (-1) (cp, pr, ph, gc, gp, oc, ml, cl, ol, vl, tr, ac, ca, pa, bk, ix, cL, cH, im, tl, tk, dr, cc, nI (d + 1), sd, gk, gb, ge, po, oa, mn, cu, og, vl_, tp, ce, lN, lC, sk)) : wX_continueList_41 post (nI d) (nI nd) (nI q) (-1) cp pr ph gc gp oc ml cl ol vl tr ac ca pa bk ix cL cH im tl tk dr cc (nI (d + 1)) sd gk gb ge po oa mn cu og vl_ tp ce lN lC sk := br_t rfl hp
theorem cs_xc1 {nd d q e : Nat} (hn : nd < 16) (he : ge nd = nI e) (post : Int32 → St2 → Prop) (hp : post (nI e) (cp, pr, ph, gc, gp, oc, ml, cl, ol, vl, tr, ac, ca, pa, bk, ix, cL, cH, im, tl, tk, dr, cc, nI d, sd, gk, gb, ge, po, oa, mn, cu, og, vl_, tp, ce, lN, lC, sk)) : wX_continueList_41 post (nI d) (nI nd) (nI q) (nI 0) cp pr ph gc gp oc ml cl ol vl tr ac ca pa bk ix cL cH im tl tk dr cc (nI (d + 1)) sd gk gb ge po oa mn cu og vl_ tp ce lN lC sk := by
  have ec : (nI nd).toNatClampNeg = nd := nI_clamp (by omega)
  refine br_f (by decide) (br_t rfl ⟨vp_in_nI hn (by omega), ?_⟩)
  rw [ec, he]
  exact hp
theorem cs_xc2 {nd d q c m : Nat} (hq : q < 32) (hc : c < 256) (hc0 : c ≠ 0) (h3 : ce q = nI m) (post : Int32 → St2 → Prop) (hp : post (nI (nd + 1)) (cp, pr, ph, gc, gp, oc, ml, cl, ol, vl, tr, ac, ca, pa, bk, ix, cL, cH, im, tl, tk, dr, cc, nI (d + 1), sd, gk, gb, ge, po, oa, mn, cu, og, vl_, tp, upd ce q (nI (m + 1)), lN, lC, sk)) : wX_continueList_41 post (nI d) (nI nd) (nI q) (nI c) cp pr ph gc gp oc ml cl ol vl tr ac ca pa bk ix cL cH im tl tk dr cc (nI (d + 1)) sd gk gb ge po oa mn cu og vl_ tp ce lN lC sk := by
  have eq : (nI q).toNatClampNeg = q := nI_clamp (by omega)
  have hv : vp_in (nI q) 32 := vp_in_nI hq (by omega)
  refine br_f (cs_nm1 (by omega)) (br_f (nI_ne0 (by omega) (by omega)) ⟨hv, hv, nm_r (e' := upd ce q (nI (m + 1))) (by rw [eq, h3, nI_1]) ?_⟩)
  rw [nI_1]
  exact hp
theorem cs_gxE {n st fuel : Nat} (hn : n ≤ 16) (hs : st < 1000000) (post : Int32 → St2 → Prop) (hp : post 1 (cp, pr, ph, nI n, gp, oc, ml, cl, ol, vl, tr, ac, ca, pa, bk, ix, cL, cH, im, tl, tk, dr, cc, nI 0, sd, gk, gb, ge, po, oa, mn, cu, og, vl_, tp, ce, lN, lC, sk)) : wX_generate_19 post (fuel + 1) (nI n) (nI st) cp pr ph (nI n) gp oc ml cl ol vl tr ac ca pa bk ix cL cH im tl tk dr cc (nI 0) sd gk gb ge po oa mn cu og vl_ tp ce lN lC sk :=
  br_f (nI_ge (b := 1000000) hs (by decide)) (br_f (cs_nm1 (by omega)) (br_t (by decide) (br_f (nI_nlt (Nat.le_refl n) (by omega)) hp)))
theorem cs_gxF {st fuel : Nat} (hs : st < 1000000) (post : Int32 → St2 → Prop) (hp : post 0 (cp, pr, ph, gc, gp, oc, ml, cl, ol, vl, tr, ac, ca, pa, bk, ix, cL, cH, im, tl, tk, dr, cc, ld, sd, gk, gb, ge, po, oa, mn, cu, og, vl_, tp, ce, lN, lC, sk)) : wX_generate_19 post (fuel + 1) (-1) (nI st) cp pr ph gc gp oc ml cl ol vl tr ac ca pa bk ix cL cH im tl tk dr cc ld sd gk gb ge po oa mn cu og vl_ tp ce lN lC sk :=
  br_f (nI_ge (b := 1000000) hs (by decide)) (br_t rfl hp)
theorem cs_gxJ {nd n d st fuel : Nat} {en : Nat → Nat} (hs : st < 1000000) (hn : nd < n) (hn16 : n ≤ 16) (hge : ∀ j, j < n → ge j = nI (en j)) (hz : d = 0 ∨ ∃ d' p, d = d' + 1 ∧ d' < 16 ∧ lN d' = nI p ∧ p < n ∧ nd ≠ en p ∧ en p ≤ n) (post : Int32 → St2 → Prop) (hJ : wX_generate_65 post (wX_generate_19 post fuel) (nI nd) (nI st) cp pr ph gc gp oc ml cl ol vl tr ac ca pa bk ix cL cH im tl tk dr cc (nI d) sd gk gb ge po oa mn cu og vl_ tp ce lN lC sk) : wX_generate_19 post (fuel + 1) (nI nd) (nI st) cp pr ph gc gp oc ml cl ol vl tr ac ca pa bk ix cL cH im tl tk dr cc (nI d) sd gk gb ge po oa mn cu og vl_ tp ce lN lC sk := by
  refine br_f (nI_ge (b := 1000000) hs (by decide)) (br_f (cs_nm1 (by omega)) ?_)
  rcases hz with rfl | ⟨d', p, rfl, h1, h2, h3, h4, h5⟩
  · exact br_t (by decide) hJ
  · have ed : (nI (d' + 1) - 1).toNatClampNeg = d' := by rw [nI_pred, nI_clamp (by omega)]
    have ep : (nI p).toNatClampNeg = p := nI_clamp (by omega)
    refine br_f (nI_nle (by omega) (by omega)) ⟨by rw [nI_pred]; exact vp_in_nI h1 (by omega), by rw [ed, h2]; exact vp_in_nI (by omega) (by omega), br_f ?_ hJ⟩
    rw [ed, h2, ep, hge p h3, nI_eq (by omega) (by omega)]
    exact h4
theorem cs_gxL {nd n d st fuel : Nat} {en : Nat → Nat} {r : Int32} (hs : st < 1000000) (hn : nd < n) (hn16 : n ≤ 16) (hen : en nd ≤ n) (hge : ∀ j, j < n → ge j = nI (en j)) (hd : d < 16) (h1 : lN d = nI nd) (post : Int32 → St2 → Prop) (hG : ∀ p : Int32 → St2 → Prop, p r (cp, pr', ph, gc, gp, oc, ml, cl, ol, vl, tr, ac, ca, pa, bk, ix, cL, cH, im, tl, tk', dr, cc', ld', sd, gk, gb, ge, po, oa, mn, cu, og, vl_, tp', ce', lN', lC', sk) → wpX_continueList p (cp, pr, ph, gc, gp, oc, ml, cl, ol, vl, tr, ac, ca, pa, bk, ix, cL, cH, im, tl, tk, dr, cc, nI (d + 1), sd, gk, gb, ge, po, oa, mn, cu, og, vl_, tp, ce, lN, lC, sk)) (hp : wX_generate_19 post fuel r (nI (st + 1)) cp pr' ph gc gp oc ml cl ol vl tr ac ca pa bk ix cL cH im tl tk' dr cc' ld' sd gk gb ge po oa mn cu og vl_ tp' ce' lN' lC' sk) : wX_generate_19 post (fuel + 1) (nI (en nd)) (nI st) cp pr ph gc gp oc ml cl ol vl tr ac ca pa bk ix cL cH im tl tk dr cc (nI (d + 1)) sd gk gb ge po oa mn cu og vl_ tp ce lN lC sk := by
  have ed : (nI (d + 1) - 1).toNatClampNeg = d := by rw [nI_pred, nI_clamp (by omega)]
  have ep : (nI nd).toNatClampNeg = nd := nI_clamp (by omega)
  refine br_f (nI_ge (b := 1000000) hs (by decide)) (br_f (cs_nm1 (by omega)) (br_f (nI_nle (by omega) (by omega)) ⟨by rw [nI_pred]; exact vp_in_nI hd (by omega), by rw [ed, h1]; exact vp_in_nI (by omega) (by omega), br_t ?_ (hG _ (nm_r (nI_1 st) hp))⟩))
  rw [ed, h1, ep, hge nd hn]
theorem cs_gxI {nd n st fuel : Nat} {r : Int32} (hn : nd < n) (hn16 : n ≤ 16) (hk : gk nd = 1) (post : Int32 → St2 → Prop) (hG : ∀ p : Int32 → St2 → Prop, p r (cp, pr', ph, nI n, gp, oc, ml, cl, ol, vl, tr, ac, ca, pa, bk, ix, cL, cH, im, tl, tk', dr, cc', ld', sd, gk, gb, ge, po, oa, mn, cu, og, vl_, tp', ce', lN', lC', sk) → wpX_generateInt p (cp, pr, ph, nI n, gp, oc, ml, cl, ol, vl, tr, ac, ca, pa, bk, ix, cL, cH, im, tl, tk, dr, cc, ld, sd, gk, gb, ge, po, oa, mn, cu, og, vl_, tp, ce, lN, lC, sk) (nI nd)) (hp : wX_generate_19 post fuel r (nI (st + 1)) cp pr' ph (nI n) gp oc ml cl ol vl tr ac ca pa bk ix cL cH im tl tk' dr cc' ld' sd gk gb ge po oa mn cu og vl_ tp' ce' lN' lC' sk) : wX_generate_65 post (wX_generate_19 post fuel) (nI nd) (nI st) cp pr ph (nI n) gp oc ml cl ol vl tr ac ca pa bk ix cL cH im tl tk dr cc ld sd gk gb ge po oa mn cu og vl_ tp ce lN lC sk := by
  have ec : (nI nd).toNatClampNeg = nd := nI_clamp (by omega)
  exact br_t (nI_lt hn (by omega)) ⟨vp_in_nI (by omega) (by omega), br_t (by rw [ec, hk]) (hG _ (nm_r (nI_1 st) hp))⟩
theorem cs_gxO {nd n st fuel : Nat} {r : Int32} (hn : nd < n) (hn16 : n ≤ 16) (hk : gk nd = 2) (post : Int32 → St2 → Prop) (hG : ∀ p : Int32 → St2 → Prop, p r (cp, pr', ph, nI n, gp, oc, ml, cl, ol, vl, tr, ac, ca, pa, bk, ix, cL, cH, im, tl, tk', dr, cc', ld', sd, gk, gb, ge, po, oa, mn, cu, og, vl_, tp', ce', lN', lC', sk) → wpX_openList p (cp, pr, ph, nI n, gp, oc, ml, cl, ol, vl, tr, ac, ca, pa, bk, ix, cL, cH, im, tl, tk, dr, cc, ld, sd, gk, gb, ge, po, oa, mn, cu, og, vl_, tp, ce, lN, lC, sk) (nI nd)) (hp : wX_generate_19 post fuel r (nI (st + 1)) cp pr' ph (nI n) gp oc ml cl ol vl tr ac ca pa bk ix cL cH im tl tk' dr cc' ld' sd gk gb ge po oa mn cu og vl_ tp' ce' lN' lC' sk) : wX_generate_65 post (wX_generate_19 post fuel) (nI nd) (nI st) cp pr ph (nI n) gp oc ml cl ol vl tr ac ca pa bk ix cL cH im tl tk dr cc ld sd gk gb ge po oa mn cu og vl_ tp ce lN lC sk := by
  have ec : (nI nd).toNatClampNeg = nd := nI_clamp (by omega)
  have hv : vp_in (nI nd) 16 := vp_in_nI (by omega) (by omega)
  exact br_t (nI_lt hn (by omega)) ⟨hv, br_f (by rw [ec, hk]; decide) ⟨hv, br_t (by rw [ec, hk]) (hG _ (nm_r (nI_1 st) hp))⟩⟩
theorem cs_gxP {nd n st fuel : Nat} (hn : nd < n) (hn16 : n ≤ 16) (hk : gk nd = 3) (post : Int32 → St2 → Prop) (hp : wX_generate_19 post fuel (nI (nd + 1)) (nI (st + 1)) cp pr ph (nI n) gp oc ml cl ol vl tr ac ca pa bk ix cL cH im tl tk dr cc ld sd gk gb ge po oa mn cu og vl_ tp ce lN lC sk) : wX_generate_65 post (wX_generate_19 post fuel) (nI nd) (nI st) cp pr ph (nI n) gp oc ml cl ol vl tr ac ca pa bk ix cL cH im tl tk dr cc ld sd gk gb ge po oa mn cu og vl_ tp ce lN lC sk := by
  have ec : (nI nd).toNatClampNeg = nd := nI_clamp (by omega)
  have hv : vp_in (nI nd) 16 := vp_in_nI (by omega) (by omega)
  exact br_t (nI_lt hn (by omega)) ⟨hv, br_f (by rw [ec, hk]; decide) ⟨hv, br_f (by rw [ec, hk]; decide) (nm_r (nI_1 nd) (nm_r (nI_1 st) hp))⟩⟩
end
