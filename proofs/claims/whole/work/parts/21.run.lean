section
variable {cp pr ph gc gp oc ml cl ol vl tr ac ca pa bk ix cL cH im tl tk dr cc ld sd yn yl yt yr yo : Int32} {gk gb ge po oa mn cu og vl_ tp ce lN lC sk yA cd ou sN sS sQ sM : Nat → Int32}
theorem cs_runL {k c0 last : Nat} (hM : cs_M (nI c0) ml mn) (h32 : c0 ≤ 32) (hG : cs_Gn gc gp gk gb ge) (hgp : gp = 0) (hP : cs_Pr oc po oa yA) (hF : cs_F 0 gp cl ol vl pa bk ix cL cH im yn cu) (hl : last ≤ 16) :
    ∀ (c j : Nat) (pr ca tl tk dr cc ld sd yl yt yr yo : Int32) (tp ce lN lC cd ou sN sS sQ sM sk : Nat → Int32), j + c = last + 1 → ∃ (r : Int32) (u' : SX) (v' : SY), i_Rel k u' v' ∧
    (∀ (post : Int32 → SX → Prop) (fuel : Nat), c < fuel → post r u' → wX_run_19 post (nI last) fuel (nI j) (nI c0) pr 0 gc gp oc ml cl ol vl tr ac ca pa bk ix cL cH im tl tk dr cc ld sd gk gb ge po oa mn cu og vl_ tp ce lN lC sk) ∧
    (∀ (post : Int32 → SY → Prop) (fuel : Nat), c < fuel → post r v' → wY_run_43 post (nI last) fuel (nI j) pr (nI c0) 0 gc gp oc ml cl ol vl tr ac ca pa bk ix cL cH im yn yl yt yr yo gk gb po yA mn cu og vl_ cd ou sN sS sQ sM sk) := by
  intro c
  induction c with
  | zero =>
    intro j pr ca tl tk dr cc ld sd yl yt yr yo tp ce lN lC cd ou sN sS sQ sM sk hj
    refine ⟨0, (nI c0, pr, 0, gc, gp, oc, ml, cl, ol, vl, tr, ac, ca, pa, bk, ix, cL, cH, im, tl, tk, dr, cc, ld, sd, gk, gb, ge, po, oa, mn, cu, og, vl_, tp, ce, lN, lC, sk), (pr, nI c0, 0, gc, gp, oc, ml, cl, ol, vl, tr, ac, ca, pa, bk, ix, cL, cH, im, yn, yl, yt, yr, yo, gk, gb, po, yA, mn, cu, og, vl_, cd, ou, sN, sS, sQ, sM, sk), cs_mk hM hG hP hF, fun post fuel hf hp => ?_, fun post fuel hf hp => ?_⟩
    · obtain ⟨f, rfl⟩ : ∃ f, fuel = f + 1 := ⟨fuel - 1, by omega⟩
      exact br_t (nI_lt (by omega) (by omega)) hp
    · obtain ⟨f, rfl⟩ : ∃ f, fuel = f + 1 := ⟨fuel - 1, by omega⟩
      exact br_t (nI_lt (by omega) (by omega)) hp
  | succ c ih =>
    intro j pr ca tl tk dr cc ld sd yl yt yr yo tp ce lN lC cd ou sN sS sQ sM sk hj
    have hlt : ¬ nI last < nI j := nI_nlt (by omega) (by omega)
    rcases cs_out (cp := nI c0) (pr := pr) (ph := 0) (gc := gc) (gp := gp) (oc := oc) (ml := ml) (cl := cl) (ol := ol) (vl := vl) (tr := tr) (ac := ac) (ca := ca + 1) (pa := pa) (bk := bk) (ix := ix) (cL := cL) (cH := cH) (im := im) (tk := tk) (dr := 1) (cc := cc) (ld := ld) (sd := sd) (gk := gk) (gb := gb) (ge := ge) (po := po) (oa := oa) (mn := mn) (cu := cu) (og := og) (vl_ := vl_) (tp := tp) (ce := ce) (lN := lN) (lC := lC) (sk := sk) (yn := yn) (yl := yl) (yt := yt) (yo := yo) (yA := yA) (cd := cd) (ou := ou) (sN := sN) (sS := sS) (sQ := sQ) (sM := sM) (dx := dr) (lim := c0) hG hgp hP (fun _ => rfl) ⟨by omega, h32, Or.inr rfl, fun j hj => absurd hj (by omega), cs_by0 _, fun z => absurd z (by decide)⟩ with ⟨pr', tk', cc', ld', yl', yt', yo', tp', ce', lN', lC', cd', ou', sN', sS', sQ', sM', hX, hY⟩ | ⟨t, L, pr', ld', yl', sd', tp', ce', lN', lC', cd', ou', sN', sS', sQ', sM', sk', ht, hL, e1, e2, e3, hX, hY, hH⟩ | ⟨t, L, pr', ld', yl', sd', tp', ce', lN', lC', cd', ou', sN', sS', sQ', sM', sk', ht, hL, e1, e2, e3, hX, hY, hH⟩
    · obtain ⟨r, u', v', hR, HX, HY⟩ := ih (j + 1) pr' (ca + 1) (nI c0) tk' 1 cc' ld' sd yl' yt' 0 yo' tp' ce' lN' lC' cd' ou' sN' sS' sQ' sM' sk (by omega)
      refine ⟨r, u', v', hR, fun post fuel hf hp => ?_, fun post fuel hf hp => ?_⟩
      · obtain ⟨f, rfl⟩ : ∃ f, fuel = f + 1 := ⟨fuel - 1, by omega⟩
        exact br_f hlt (nm_e (hX _ (br_f (by decide) (nm_r (nI_1 j) (HX post f (by omega) hp)))))
      · obtain ⟨f, rfl⟩ : ∃ f, fuel = f + 1 := ⟨fuel - 1, by omega⟩
        exact br_f hlt (nm_e (hY _ (br_t rfl (nm_r (nI_1 j) (HY post f (by omega) hp)))))
    · obtain ⟨r, u', v', hR, HX, HY⟩ := ih (j + 1) pr' (ca + 1) (nI c0) (nI t) 1 (nI L) ld' sd' yl' (nI t) 0 (nI L) tp' ce' lN' lC' cd' ou' sN' sS' sQ' sM' sk' (by omega)
      refine ⟨r, u', v', hR, fun post fuel hf hp => ?_, fun post fuel hf hp => ?_⟩
      · obtain ⟨f, rfl⟩ : ∃ f, fuel = f + 1 := ⟨fuel - 1, by omega⟩
        exact br_f hlt (nm_e (hX _ (br_f (by decide) (nm_r (nI_1 j) (HX post f (by omega) hp)))))
      · obtain ⟨f, rfl⟩ : ∃ f, fuel = f + 1 := ⟨fuel - 1, by omega⟩
        exact br_f hlt (nm_e (hY _ (br_f (by decide) (hH _ (br_f (by decide) (nm_r (nI_1 j) (HY post f (by omega) hp)))))))
    · refine ⟨nI j, (nI c0, pr', 1, gc, gp, oc, ml, nI t, nI t, nI L, 0, 0, ca + 1, 0, 0, 0, 0, 0, 0, nI c0, nI t, 1, nI L, ld', sd', gk, gb, ge, po, oa, mn, cs_cp tp' cu t, cs_cp tp' og t, cs_cp ce' vl_ L, tp', ce', lN', lC', sk'), (pr', nI c0, 1, gc, gp, oc, ml, nI t, nI t, nI L, 0, 0, ca + 1, 0, 0, 0, 0, 0, 0, 0, yl', nI t, 0, nI L, gk, gb, po, yA, mn, cs_cp tp' cu t, cs_cp tp' og t, cs_cp ce' vl_ L, cd', ou', sN', sS', sQ', sM', sk'), cs_mk hM hG hP (cs_Ffind ht hL hgp e2), fun post fuel hf hp => ?_, fun post fuel hf hp => ?_⟩
      · obtain ⟨f, rfl⟩ : ∃ f, fuel = f + 1 := ⟨fuel - 1, by omega⟩
        exact br_f hlt (nm_e (hX _ (br_t rfl (cs_xfind ht hL _ hp))))
      · obtain ⟨f, rfl⟩ : ∃ f, fuel = f + 1 := ⟨fuel - 1, by omega⟩
        refine br_f hlt (nm_e (hY _ (br_f (by decide) (hH _ (br_t rfl (cs_yfind ht hL _ ?_))))))
        rw [← cs_cpe (t := cu) e1, ← cs_cpe (t := og) e1, ← cs_cpe (t := vl_) e3]
        exact hp
end
theorem i_vc_run {k : Nat} {u : SX} {v : SY} (I : i_Rel k u v) (hk : k + 3 ≤ 1538) (v1 : Int32) : wpX_run (fun r u' => wpY_run (fun r' v' => r' = r ∧ i_Rel (k + 3) u' v') v v1) u v1 := by
  refine cs_elim (P := fun u v => wpX_run (fun r u' => wpY_run (fun r' v' => r' = r ∧ i_Rel (k + 3) u' v') v v1) u v1) I ?_
  intro cp pr ph gc gp oc ml cl ol vl tr ac ca pa bk ix cL cH im tl tk dr cc ld sd yn yl yt yr yo gk gb ge po oa mn cu og vl_ tp ce lN lC sk yA cd ou sN sS sQ sM hM hG hP hF
  have J : i_Rel (k + 3) (cp, pr, ph, gc, gp, oc, ml, cl, ol, vl, tr, ac, ca, pa, bk, ix, cL, cH, im, tl, tk, dr, cc, ld, sd, gk, gb, ge, po, oa, mn, cu, og, vl_, tp, ce, lN, lC, sk) (pr, cp, ph, gc, gp, oc, ml, cl, ol, vl, tr, ac, ca, pa, bk, ix, cL, cH, im, yn, yl, yt, yr, yo, gk, gb, po, yA, mn, cu, og, vl_, cd, ou, sN, sS, sQ, sM, sk) := cs_mk hM hG hP hF
  have hG' := hG
  have hP' := hP
  obtain ⟨n, hn, rfl, rfl, H, hgb, hE⟩ := hG
  obtain ⟨m, hm, rfl, hops⟩ := hP
  have dl := cs_Dle gk n
  by_cases h : ph ≠ 0 ∨ cs_D gk n ≠ 0 ∨ m = 0
  · have h' : ph ≠ 0 ∨ nI (cs_D gk n) ≠ 0 ∨ m = 0 := by
      rcases h with h | h | h
      · exact Or.inl h
      · exact Or.inr (Or.inl (nI_ne0 (by omega) (by omega)))
      · exact Or.inr (Or.inr h)
    unfold wpX_run
    exact cs_xrdy0 h' _ (br_t rfl (cs_yrdyR v1 hn hm h _ ⟨rfl, J⟩))
  · have h1 : ph = 0 := Classical.byContradiction fun w => h (Or.inl w)
    have h2 : cs_D gk n = 0 := Classical.byContradiction fun w => h (Or.inr (Or.inl w))
    have h3 : m ≠ 0 := fun w => h (Or.inr (Or.inr w))
    have hgp : nI (cs_D gk n) = 0 := by rw [h2]; rfl
    subst h1
    obtain ⟨c, ml', c4, c32, mc, rfl, rfl, hb⟩ := hM
    have hM : cs_M (nI c) (nI ml') mn := ⟨c, ml', c4, c32, mc, rfl, rfl, hb⟩
    obtain ⟨last, l1, l16, hC, hC'⟩ := cs_clamp (x := v1) 1 16 (by omega) (by omega)
    obtain ⟨r, u', v', hR, HX, HY⟩ := cs_runL (k := k + 3) (c0 := c) (last := last) hM c32 hG' hgp hP' hF l16 last 1 pr ca tl tk dr cc ld sd yl yt yr yo tp ce lN lC cd ou sN sS sQ sM sk (by omega)
    unfold wpX_run
    refine cs_xrdy1 (by omega) hm hgp _ (br_f (by decide) ?_)
    refine hC _ ⟨last + 1, HX _ (last + 1) (by omega) ?_⟩
    refine br_t rfl (cs_ycp hn _ (fun _ => br_f (by decide) (br_f (nI_ne0 (by omega) (by omega)) ?_)) (fun d => absurd h2 d))
    rcases hC' with ⟨a, b, rfl⟩ | ⟨a, rfl⟩ | ⟨a, b, rfl⟩
    · exact br_t a (br_t b ⟨last + 1, HY _ (last + 1) (by omega) ⟨rfl, hR⟩⟩)
    · exact br_f a (br_t (by decide) ⟨2, HY _ 2 (by omega) ⟨rfl, hR⟩⟩)
    · exact br_t a (br_f b ⟨17, HY _ 17 (by omega) ⟨rfl, hR⟩⟩)
