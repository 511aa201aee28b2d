section
variable {cp pr ph gc gp oc ml cl ol vl tr ac ca pa bk ix cL cH im tl tk dr cc ld sd yn yl yt yr yo : Int32} {gk gb ge po oa mn cu og vl_ tp ce lN lC sk yA cd ou sN sS sQ sM : Nat → Int32}
variable {pr' ld' yl' sd' : Int32} {tp' ce' lN' lC' cd' ou' sN' sS' sQ' sM' sk' : Nat → Int32}
theorem cs_Ffind {t L : Nat} {gp : Int32} {tp cu : Nat → Int32} (ht : t ≤ 32) (hL : L ≤ 32) (hgp : gp = 0) (hb : cs_by tp t) : cs_F 1 gp (nI t) (nI t) (nI L) 0 0 0 0 0 0 0 (cs_cp tp cu t) :=
  ⟨t, t, L, ht, ht, hL, rfl, rfl, rfl, cs_byc hb (fun j hj => cs_cpl hj), Or.inr (Or.inr ⟨rfl, hgp, Or.inl ⟨rfl, rfl, rfl, rfl, rfl, rfl, rfl⟩⟩)⟩
theorem cs_Tman {m : Nat} {tp cd : Nat → Int32} (hm : m ≤ 32) (hb : cs_by mn m) : cs_T 0 (nI m) m 0 (cs_cp mn tp m) (cs_cp mn cd m) :=
  ⟨by omega, hm, Or.inl rfl, fun j hj => absurd hj (by omega), cs_by0 _, fun _ => ⟨rfl, fun j hj => by rw [cs_cpl hj, cs_cpl hj], cs_byc hb (fun j hj => cs_cpl hj)⟩⟩
theorem cs_yrdy {n m : Nat} (hn : n ≤ 16) (hm : m ≤ 32) (h : ph ≠ 0 ∨ cs_D gk n ≠ 0 ∨ m = 0) (post : Int32 → SY → Prop) (hp : post (-1) (pr, cp, ph, nI n, nI (cs_D gk n), nI m, ml, cl, ol, vl, tr, ac, ca, pa, bk, ix, cL, cH, im, yn, yl, yt, yr, yo, gk, gb, po, yA, mn, cu, og, vl_, cd, ou, sN, sS, sQ, sM, sk)) : wpY_replay post (pr, cp, ph, nI n, nI (cs_D gk n), nI m, ml, cl, ol, vl, tr, ac, ca, pa, bk, ix, cL, cH, im, yn, yl, yt, yr, yo, gk, gb, po, yA, mn, cu, og, vl_, cd, ou, sN, sS, sQ, sM, sk) := by
  by_cases h1 : ph = 0
  · refine br_t h1 (cs_ycp hn _ (fun d => ?_) (fun d => br_t rfl hp))
    have z := (h.resolve_left (fun w => w h1)).resolve_left (fun w => w d)
    subst z
    exact br_f (by decide) (br_t rfl hp)
  · exact br_f h1 hp
theorem cs_yrdyR {n m : Nat} (x : Int32) (hn : n ≤ 16) (hm : m ≤ 32) (h : ph ≠ 0 ∨ cs_D gk n ≠ 0 ∨ m = 0) (post : Int32 → SY → Prop) (hp : post (-1) (pr, cp, ph, nI n, nI (cs_D gk n), nI m, ml, cl, ol, vl, tr, ac, ca, pa, bk, ix, cL, cH, im, yn, yl, yt, yr, yo, gk, gb, po, yA, mn, cu, og, vl_, cd, ou, sN, sS, sQ, sM, sk)) : wpY_run post (pr, cp, ph, nI n, nI (cs_D gk n), nI m, ml, cl, ol, vl, tr, ac, ca, pa, bk, ix, cL, cH, im, yn, yl, yt, yr, yo, gk, gb, po, yA, mn, cu, og, vl_, cd, ou, sN, sS, sQ, sM, sk) x := by
  by_cases h1 : ph = 0
  · refine br_t h1 (cs_ycp hn _ (fun d => ?_) (fun d => br_t rfl hp))
    have z := (h.resolve_left (fun w => w h1)).resolve_left (fun w => w d)
    subst z
    exact br_f (by decide) (br_t rfl hp)
  · exact br_f h1 hp
end
theorem i_vc_replay {k : Nat} {u : SX} {v : SY} (I : i_Rel k u v) (hk : k + 3 ≤ 1538) : wpX_replay (fun r u' => wpY_replay (fun r' v' => r' = r ∧ i_Rel (k + 3) u' v') v) u := by
  refine cs_elim (P := fun u v => wpX_replay (fun r u' => wpY_replay (fun r' v' => r' = r ∧ i_Rel (k + 3) u' v') v) u) I ?_
  intro cp pr ph gc gp oc ml cl ol vl tr ac ca pa bk ix cL cH im tl tk dr cc ld sd yn yl yt yr yo gk gb ge po oa mn cu og vl_ tp ce lN lC sk yA cd ou sN sS sQ sM hM hG hP hF
  have J : i_Rel (k + 3) (cp, pr, ph, gc, gp, oc, ml, cl, ol, vl, tr, ac, ca, pa, bk, ix, cL, cH, im, tl, tk, dr, cc, ld, sd, gk, gb, ge, po, oa, mn, cu, og, vl_, tp, ce, lN, lC, sk) (pr, cp, ph, gc, gp, oc, ml, cl, ol, vl, tr, ac, ca, pa, bk, ix, cL, cH, im, yn, yl, yt, yr, yo, gk, gb, po, yA, mn, cu, og, vl_, cd, ou, sN, sS, sQ, sM, sk) := cs_mk hM hG hP hF
  have hG' := hG
  have hP' := hP
  obtain ⟨n, hn, rfl, rfl, H, hgb, hE⟩ := hG
  obtain ⟨m, hm, rfl, hops⟩ := hP
  have dl := cs_Dle gk n
  by_cases h : ph ≠ 0 ∨ cs_D gk n ≠ 0 ∨ m = 0
  · have h' : ph ≠ 0 ∨ nI (cs_D gk n) ≠ 0 ∨ m = 0 := by
      rcases h with h | h | h
      · exact Or.inl h
      · exact Or.inr (Or.inl (nI_ne0 (by omega) (by omega)))
      · exact Or.inr (Or.inr h)
    unfold wpX_replay
    exact cs_xrdy0 h' _ (br_t rfl (cs_yrdy hn hm h _ ⟨rfl, J⟩))
  · have h1 : ph = 0 := Classical.byContradiction fun w => h (Or.inl w)
    have h2 : cs_D gk n = 0 := Classical.byContradiction fun w => h (Or.inr (Or.inl w))
    have h3 : m ≠ 0 := fun w => h (Or.inr (Or.inr w))
    have hgp : nI (cs_D gk n) = 0 := by rw [h2]; rfl
    subst h1
    obtain ⟨c, ml', c4, c32, mc, rfl, rfl, hb⟩ := hM
    have hM : cs_M (nI c) (nI ml') mn := ⟨c, ml', c4, c32, mc, rfl, rfl, hb⟩
    have Yp : ∀ post : Int32 → SY → Prop, wY_replay_57 post pr (nI c) 0 (nI n) (nI (cs_D gk n)) (nI m) (nI ml') cl ol vl tr ac ca pa bk ix cL cH im yn yl yt yr yo gk gb po yA mn cu og vl_ (cs_cp mn cd ml') ou sN sS sQ sM sk → wpY_replay post (pr, nI c, 0, nI n, nI (cs_D gk n), nI m, nI ml', cl, ol, vl, tr, ac, ca, pa, bk, ix, cL, cH, im, yn, yl, yt, yr, yo, gk, gb, po, yA, mn, cu, og, vl_, cd, ou, sN, sS, sQ, sM, sk) := fun post hp =>
      br_t rfl (cs_ycp hn _ (fun _ => br_f (by decide) (br_f (nI_ne0 (by omega) (by omega)) (cs_yreplay25 (by omega) post hp))) (fun d => absurd h2 d))
    unfold wpX_replay
    refine cs_xrdy1 (by omega) hm hgp _ (br_f (by decide) ?_)
    refine cs_xc_manual_tape (by omega) _ ?_
    rcases cs_out (cp := nI c) (pr := pr) (ph := 0) (gc := nI n) (gp := nI (cs_D gk n)) (oc := nI m) (ml := nI ml') (cl := cl) (ol := ol) (vl := vl) (tr := tr) (ac := ac) (ca := ca) (pa := pa) (bk := bk) (ix := ix) (cL := cL) (cH := cH) (im := im) (tk := tk) (dr := 0) (cc := cc) (ld := ld) (sd := sd) (gk := gk) (gb := gb) (ge := ge) (po := po) (oa := oa) (mn := mn) (cu := cu) (og := og) (vl_ := vl_) (tp := cs_cp mn tp ml') (ce := ce) (lN := lN) (lC := lC) (sk := sk) (yn := yn) (yl := nI ml') (yt := yt) (yo := yo) (yA := yA) (cd := cs_cp mn cd ml') (ou := ou) (sN := sN) (sS := sS) (sQ := sQ) (sM := sM) (dx := dr) (lim := ml') hG' hgp hP' (fun w => absurd rfl w) (cs_Tman (by omega) hb) with ⟨pr', tk', cc', ld', yl', yt', yo', tp', ce', lN', lC', cd', ou', sN', sS', sQ', sM', hX, hY⟩ | ⟨t, L, pr', ld', yl', sd', tp', ce', lN', lC', cd', ou', sN', sS', sQ', sM', sk', ht, hL, e1, e2, e3, hX, hY, hH⟩ | ⟨t, L, pr', ld', yl', sd', tp', ce', lN', lC', cd', ou', sN', sS', sQ', sM', sk', ht, hL, e1, e2, e3, hX, hY, hH⟩
    · refine hX _ (br_f (by decide) (Yp _ ?_))
      unfold wY_replay_57
      exact hY _ (br_t rfl ⟨rfl, cs_mk hM hG' hP' hF⟩)
    · refine hX _ (br_f (by decide) (Yp _ ?_))
      unfold wY_replay_57
      exact hY _ (br_f (by decide) (hH _ (br_f (by decide) ⟨rfl, cs_mk hM hG' hP' hF⟩)))
    · refine hX _ (br_t rfl (cs_xfind ht hL _ (Yp _ ?_)))
      unfold wY_replay_57
      refine hY _ (br_f (by decide) (hH _ (br_t rfl (cs_yfind ht hL _ ?_))))
      rw [← cs_cpe (t := cu) e1, ← cs_cpe (t := og) e1, ← cs_cpe (t := vl_) e3]
      exact ⟨rfl, cs_mk hM hG' hP' (cs_Ffind ht hL hgp e2)⟩
