section
variable {cp pr ph gc gp oc ml cl ol vl tr ac ca pa bk ix cL cH im tl tk dr cc ld sd yn yl yt yr yo : Int32} {gk gb ge po oa mn cu og vl_ tp ce lN lC sk yA cd ou sN sS sQ sM : Nat → Int32}
theorem cs_xls {t n d : Nat} (ht : t ≤ 32) (hd : d ≤ t) (he : ∀ j, j < d → tp j = cu j) (q : Int32 → Prop) (hE : ∀ f : Nat, wX_tapeIsSmaller_30 q cp pr ph gc gp oc ml (nI n) ol vl tr ac ca pa bk ix cL cH im tl (nI t) dr cc ld sd gk gb ge po oa mn cu og vl_ tp ce lN lC sk (f + 1) (nI d)) : ∀ (e j fuel : Nat), j + e = d → e < fuel → wX_tapeIsSmaller_30 q cp pr ph gc gp oc ml (nI n) ol vl tr ac ca pa bk ix cL cH im tl (nI t) dr cc ld sd gk gb ge po oa mn cu og vl_ tp ce lN lC sk fuel (nI j) := by
  intro e
  induction e with
  | zero =>
    intro j fuel hj hf
    obtain ⟨f, rfl⟩ : ∃ f, fuel = f + 1 := ⟨fuel - 1, by omega⟩
    have z : j = d := by omega
    subst z
    exact hE f
  | succ e ih =>
    intro j fuel hj hf
    obtain ⟨f, rfl⟩ : ∃ f, fuel = f + 1 := ⟨fuel - 1, by omega⟩
    have ec : (nI j).toNatClampNeg = j := nI_clamp (by omega)
    have hv : vp_in (nI j) 32 := vp_in_nI (by omega) (by omega)
    exact br_f (nI_ge (by omega) (by omega)) ⟨hv, hv, br_t (by rw [ec]; exact he j (by omega)) (nm_r (nI_1 j) (ih (j + 1) f (by omega) (by omega)))⟩
theorem cs_yls {t n d : Nat} (ht : t ≤ 32) (hd : d ≤ t) (he : ∀ j, j < d → cd j = cu j) (q : Int32 → SY → Prop) (hE : ∀ f : Nat, wY_trial_63 q pr cp ph gc gp oc ml (nI n) ol vl tr ac ca pa bk ix cL cH im yn yl (nI t) yr yo gk gb po yA mn cu og vl_ cd ou sN sS sQ sM sk (f + 1) (nI d)) : ∀ (e j fuel : Nat), j + e = d → e < fuel → wY_trial_63 q pr cp ph gc gp oc ml (nI n) ol vl tr ac ca pa bk ix cL cH im yn yl (nI t) yr yo gk gb po yA mn cu og vl_ cd ou sN sS sQ sM sk fuel (nI j) := by
  intro e
  induction e with
  | zero =>
    intro j fuel hj hf
    obtain ⟨f, rfl⟩ : ∃ f, fuel = f + 1 := ⟨fuel - 1, by omega⟩
    have z : j = d := by omega
    subst z
    exact hE f
  | succ e ih =>
    intro j fuel hj hf
    obtain ⟨f, rfl⟩ : ∃ f, fuel = f + 1 := ⟨fuel - 1, by omega⟩
    have ec : (nI j).toNatClampNeg = j := nI_clamp (by omega)
    have hv : vp_in (nI j) 32 := vp_in_nI (by omega) (by omega)
    exact br_f (nI_ge (by omega) (by omega)) (br_f (nI_ge (b := 32) (by omega) (by decide)) ⟨hv, hv, br_t (by rw [ec]; exact he j (by omega)) (nm_r (nI_1 j) (ih (j + 1) f (by omega) (by omega)))⟩)
theorem cs_less {t n : Nat} (ht : t ≤ 32) (hn : n ≤ 32) (he : ∀ j, j < t → tp j = cd j) : ∃ b : Int32, (b = 0 ∨ (b = 1 ∧ t ≤ n)) ∧ (∀ q : Int32 → Prop, q b → wpX_tapeIsSmaller q (cp, pr, ph, gc, gp, oc, ml, nI n, ol, vl, tr, ac, ca, pa, bk, ix, cL, cH, im, tl, nI t, dr, cc, ld, sd, gk, gb, ge, po, oa, mn, cu, og, vl_, tp, ce, lN, lC, sk)) ∧
    (∀ post : Int32 → SY → Prop, wY_trial_133 post b pr cp ph gc gp oc ml (nI n) ol vl tr ac ca pa bk ix cL cH im yn yl (nI t) yr yo gk gb po yA mn cu og vl_ cd ou sN sS sQ sM sk → ((nI n ≤ nI t → wY_trial_49 post 0 pr cp ph gc gp oc ml (nI n) ol vl tr ac ca pa bk ix cL cH im yn yl (nI t) yr yo gk gb po yA mn cu og vl_ cd ou sN sS sQ sM sk) ∧ (¬ nI n ≤ nI t → wY_trial_49 post 1 pr cp ph gc gp oc ml (nI n) ol vl tr ac ca pa bk ix cL cH im yn yl (nI t) yr yo gk gb po yA mn cu og vl_ cd ou sN sS sQ sM sk))) := by
  rcases Nat.lt_trichotomy t n with l | l | l
  · have h1 : ¬ nI t = nI n := fun z => absurd ((nI_eq (by omega) (by omega)).mp z) (by omega)
    have h2 : ¬ nI n ≤ nI t := nI_ge l (by omega)
    exact ⟨1, Or.inr ⟨rfl, by omega⟩, fun q hq => br_f h1 (br_f h2 hq), fun post hp => br_f h2 (br_f h1 hp)⟩
  · subst l
    obtain ⟨d, hd, h1, h2⟩ := cs_fd tp cu t
    have ec : (nI d).toNatClampNeg = d := nI_clamp (by omega)
    have hle : nI t ≤ nI t := nI_le (Nat.le_refl t) (by omega)
    by_cases hdt : d = t
    · subst hdt
      refine ⟨0, Or.inl rfl, fun q hq => br_t rfl ⟨d + 1, cs_xls ht hd h1 q (fun f => br_t hle hq) d 0 (d + 1) (by omega) (by omega)⟩, fun post hp => br_t hle (br_t rfl ⟨d + 1, cs_yls ht hd (fun j hj => (he j (by omega)).symm.trans (h1 j hj)) post (fun f => br_t hle (br_t hle hp)) d 0 (d + 1) (by omega) (by omega)⟩)⟩
    · have hl : ¬ nI t ≤ nI d := nI_ge (by omega) (by omega)
      have hv : vp_in (nI d) 32 := vp_in_nI (by omega) (by omega)
      have hne : ¬ tp d = cu d := h2 (by omega)
      have hne' : ¬ cd d = cu d := by rw [← he d (by omega)]; exact hne
      have h32 : ¬ (32 : Int32) ≤ nI d := nI_ge (b := 32) (by omega) (by decide)
      by_cases z : cu d ≤ tp d
      · refine ⟨0, Or.inl rfl, fun q hq => br_t rfl ⟨d + 1, cs_xls ht hd h1 q (fun f => br_f hl ⟨hv, hv, br_f (by rw [ec]; exact hne) ⟨hv, hv, br_t (by rw [ec]; exact z) hq⟩⟩) d 0 (d + 1) (by omega) (by omega)⟩, fun post hp => br_t hle (br_t rfl ⟨d + 1, cs_yls ht hd (fun j hj => (he j (by omega)).symm.trans (h1 j hj)) post (fun f => br_f hl (br_f h32 ⟨hv, hv, br_f (by rw [ec]; exact hne') (br_f hl (br_f h32 ⟨hv, hv, br_t (by rw [ec, ← he d (by omega)]; exact z) hp⟩))⟩)) d 0 (d + 1) (by omega) (by omega)⟩)⟩
      · refine ⟨1, Or.inr ⟨rfl, by omega⟩, fun q hq => br_t rfl ⟨d + 1, cs_xls ht hd h1 q (fun f => br_f hl ⟨hv, hv, br_f (by rw [ec]; exact hne) ⟨hv, hv, br_f (by rw [ec]; exact z) hq⟩⟩) d 0 (d + 1) (by omega) (by omega)⟩, fun post hp => br_t hle (br_t rfl ⟨d + 1, cs_yls ht hd (fun j hj => (he j (by omega)).symm.trans (h1 j hj)) post (fun f => br_f hl (br_f h32 ⟨hv, hv, br_f (by rw [ec]; exact hne') (br_f hl (br_f h32 ⟨hv, hv, br_f (by rw [ec, ← he d (by omega)]; exact z) hp⟩))⟩)) d 0 (d + 1) (by omega) (by omega)⟩)⟩
  · have h1 : ¬ nI t = nI n := fun z => absurd ((nI_eq (by omega) (by omega)).mp z) (by omega)
    have h2 : nI n ≤ nI t := nI_le (by omega) (by omega)
    exact ⟨0, Or.inl rfl, fun q hq => br_f h1 (br_t h2 hq), fun post hp => br_t h2 (br_f h1 hp)⟩
theorem cs_core {n lim : Nat} {mid : Int32} {T C : Nat → Int32} (hn : n ≤ 32) (hG : cs_Gn gc gp gk gb ge) (hgp : gp = 0) (hP : cs_Pr oc po oa yA) (hmid : (cL + cH) / 2 = mid) (hput : ∀ post : SX → Prop, post (cp, pr, ph, gc, gp, oc, ml, nI n, ol, vl, tr, ac, ca, pa, bk, ix, cL, cH, im, nI lim, tk, dr, cc, ld, sd, gk, gb, ge, po, oa, mn, cu, og, vl_, T, ce, lN, lC, sk) → wpX_putCandidateOnTape post (cp, pr, ph, gc, gp, oc, ml, nI n, ol, vl, tr, ac, ca, pa, bk, ix, cL, cH, im, tl, tk, dr, cc, ld, sd, gk, gb, ge, po, oa, mn, cu, og, vl_, tp, ce, lN, lC, sk) mid) (hT : cs_T 0 (nI lim) lim 0 T C) :
    (∃ (pr' tk' cc' ld' sd' yl' yt' yo' : Int32) (tp' ce' lN' lC' cd' ou' sN' sS' sQ' sM' sk' : Nat → Int32), (∀ post : SX → Prop, wX_performTrial_48 post mid 0 cp pr' ph gc gp oc ml (nI n) ol vl (tr + 1) ac ca pa bk ix cL cH im (nI lim) tk' 0 cc' ld' sd' gk gb ge po oa mn cu og vl_ tp' ce' lN' lC' sk' → wpX_performTrial post (cp, pr, ph, gc, gp, oc, ml, nI n, ol, vl, tr, ac, ca, pa, bk, ix, cL, cH, im, tl, tk, dr, cc, ld, sd, gk, gb, ge, po, oa, mn, cu, og, vl_, tp, ce, lN, lC, sk)) ∧ (∀ post : Int32 → SY → Prop, post 0 (pr', cp, ph, gc, gp, oc, ml, nI n, ol, vl, tr + 1, ac, ca, pa, bk, ix, cL, cH, im, yn, yl', yt', 0, yo', gk, gb, po, yA, mn, cu, og, vl_, cd', ou', sN', sS', sQ', sM', sk') → wpY_trial post (pr, cp, ph, gc, gp, oc, ml, nI n, ol, vl, tr, ac, ca, pa, bk, ix, cL, cH, im, yn, nI lim, yt, yr, yo, gk, gb, po, yA, mn, cu, og, vl_, C, ou, sN, sS, sQ, sM, sk))) ∨
    (∃ (t L : Nat) (pr' ld' sd' yl' : Int32) (tp' ce' lN' lC' cd' ou' sN' sS' sQ' sM' sk' : Nat → Int32), t ≤ n ∧ L ≤ 32 ∧ cs_by tp' t ∧ (∀ post : SX → Prop, wX_performTrial_48 post mid 1 cp pr' ph gc gp oc ml (nI n) ol vl (tr + 1) ac ca pa bk ix cL cH im (nI lim) (nI t) 0 (nI L) ld' sd' gk gb ge po oa mn cu og vl_ tp' ce' lN' lC' sk' → wpX_performTrial post (cp, pr, ph, gc, gp, oc, ml, nI n, ol, vl, tr, ac, ca, pa, bk, ix, cL, cH, im, tl, tk, dr, cc, ld, sd, gk, gb, ge, po, oa, mn, cu, og, vl_, tp, ce, lN, lC, sk)) ∧ (∀ post : Int32 → SY → Prop, post 1 (pr', cp, ph, gc, gp, oc, ml, nI t, ol, nI L, tr + 1, ac + 1, ca, pa, bk, ix, cL, cH, im, yn, yl', nI t, 0, nI L, gk, gb, po, yA, mn, cs_cp tp' cu t, og, cs_cp ce' vl_ L, cd', ou', sN', sS', sQ', sM', sk') → wpY_trial post (pr, cp, ph, gc, gp, oc, ml, nI n, ol, vl, tr, ac, ca, pa, bk, ix, cL, cH, im, yn, nI lim, yt, yr, yo, gk, gb, po, yA, mn, cu, og, vl_, C, ou, sN, sS, sQ, sM, sk))) := by
  rcases cs_out (cp := cp) (pr := pr) (ph := ph) (gc := gc) (gp := gp) (oc := oc) (ml := ml) (cl := nI n) (ol := ol) (vl := vl) (tr := tr + 1) (ac := ac) (ca := ca) (pa := pa) (bk := bk) (ix := ix) (cL := cL) (cH := cH) (im := im) (tk := tk) (dr := 0) (cc := cc) (ld := ld) (sd := sd) (gk := gk) (gb := gb) (ge := ge) (po := po) (oa := oa) (mn := mn) (cu := cu) (og := og) (vl_ := vl_) (tp := T) (ce := ce) (lN := lN) (lC := lC) (sk := sk) (yn := yn) (yl := nI lim) (yt := yt) (yo := yo) (yA := yA) (cd := C) (ou := ou) (sN := sN) (sS := sS) (sQ := sQ) (sM := sM) (dx := dr) (lim := lim) hG hgp hP (fun w => absurd rfl w) hT with ⟨pr', tk', cc', ld', yl', yt', yo', tp', ce', lN', lC', cd', ou', sN', sS', sQ', sM', hX, hY⟩ | ⟨t, L, pr', ld', yl', sd', tp', ce', lN', lC', cd', ou', sN', sS', sQ', sM', sk', ht, hL, e1, e2, e3, hX, hY, hH⟩ | ⟨t, L, pr', ld', yl', sd', tp', ce', lN', lC', cd', ou', sN', sS', sQ', sM', sk', ht, hL, e1, e2, e3, hX, hY, hH⟩
  · refine Or.inl ⟨pr', tk', cc', ld', sd, yl', yt', yo', tp', ce', lN', lC', cd', ou', sN', sS', sQ', sM', sk, fun post hp => ⟨by decide, nm_r hmid (hput _ (nm_e (hX _ (br_f (by decide) hp))))⟩, fun post hp => ?_⟩
    unfold wpY_trial
    exact nm_e (hY _ (br_t rfl hp))
  · refine Or.inl ⟨pr', nI t, nI L, ld', sd', yl', nI t, nI L, tp', ce', lN', lC', cd', ou', sN', sS', sQ', sM', sk', fun post hp => ⟨by decide, nm_r hmid (hput _ (nm_e (hX _ (br_f (by decide) hp))))⟩, fun post hp => ?_⟩
    unfold wpY_trial
    exact nm_e (hY _ (br_f (by decide) (hH _ (br_f (by decide) hp))))
  · obtain ⟨b, hb, hS, hZ⟩ := cs_less (cp := cp) (pr := pr') (ph := ph) (gc := gc) (gp := gp) (oc := oc) (ml := ml) (ol := ol) (vl := vl) (tr := tr + 1) (ac := ac) (ca := ca) (pa := pa) (bk := bk) (ix := ix) (cL := cL) (cH := cH) (im := im) (tl := nI lim) (dr := 0) (cc := nI L) (ld := ld') (sd := sd') (gk := gk) (gb := gb) (ge := ge) (po := po) (oa := oa) (mn := mn) (cu := cu) (og := og) (vl_ := vl_) (tp := tp') (ce := ce') (lN := lN') (lC := lC') (sk := sk') (yn := yn) (yl := yl') (yr := 0) (yo := nI L) (yA := yA) (cd := cd') (ou := ou') (sN := sN') (sS := sS') (sQ := sQ') (sM := sM') (t := t) (n := n) ht hn e1
    rcases hb with rfl | ⟨rfl, htn⟩
    · refine Or.inl ⟨pr', nI t, nI L, ld', sd', yl', nI t, nI L, tp', ce', lN', lC', cd', ou', sN', sS', sQ', sM', sk', fun post hp => ⟨by decide, nm_r hmid (hput _ (nm_e (hX _ (br_t rfl (hS _ (br_t rfl hp))))))⟩, fun post hp => ?_⟩
      unfold wpY_trial
      exact nm_e (hY _ (br_f (by decide) (hH _ (br_t rfl (hZ _ (br_t rfl hp))))))
    · refine Or.inr ⟨t, L, pr', ld', sd', yl', tp', ce', lN', lC', cd', ou', sN', sS', sQ', sM', sk', htn, hL, e2, fun post hp => ⟨by decide, nm_r hmid (hput _ (nm_e (hX _ (br_t rfl (hS _ (br_f (by decide) hp))))))⟩, fun post hp => ?_⟩
      unfold wpY_trial
      refine nm_e (hY _ (br_f (by decide) (hH _ (br_t rfl (hZ _ (br_f (by decide) (cs_ytrial141 ht post ?_)))))))
      refine cs_ytrial183 hL post ?_
      rw [← cs_cpe (t := cu) e1, ← cs_cpe (t := vl_) e3]
      exact nm_e hp
end
