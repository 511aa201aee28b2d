section
variable {cp pr ph gc gp oc ml cl ol vl tr ac ca pa bk ix cL cH im tl tk dr cc ld sd yn yl yt yr yo : Int32} {gk gb ge po oa mn cu og vl_ tp ce lN lC sk yA cd ou sN sS sQ sM : Nat → Int32}
theorem cs_xcz {L : Nat} {x : Int32} (hL : L ≤ 32) (hco : ∀ j, j < L → ce j = ou j) (q : Int32 → Prop) (hq : q (if x < 0 then 0 else if nI L ≤ x then 0 else ou x.toNatClampNeg)) : wpX_cellOrZero q (cp, pr, ph, gc, gp, oc, ml, cl, ol, vl, tr, ac, ca, pa, bk, ix, cL, cH, im, tl, tk, dr, nI L, ld, sd, gk, gb, ge, po, oa, mn, cu, og, vl_, tp, ce, lN, lC, sk) x := by
  by_cases z : x < 0
  · rw [if_pos z] at hq
    exact br_t z hq
  · rw [if_neg z] at hq
    by_cases z2 : nI L ≤ x
    · rw [if_pos z2] at hq
      exact br_f z (br_t z2 hq)
    · rw [if_neg z2] at hq
      obtain ⟨j, hj, ej⟩ := nI_of z
      have hjL : j < L := by
        rw [ej, nI_leI (by omega) hj] at z2
        omega
      have ec : x.toNatClampNeg = j := by rw [ej, nI_clamp hj]
      refine br_f z (br_f z2 ⟨by rw [ej]; exact vp_in_nI (by omega) (by omega), ?_⟩)
      rw [ec, hco j hjL, ← ec]
      exact hq
theorem cs_exe {p d L m : Nat} (hm : m ≤ 32) (hpm : p < m) (hd : d ≤ 16) (hL : L ≤ 32) (hco : ∀ j, j < L → ce j = ou j) (H : ∃ o : Nat, o ≤ 14 ∧ po p = nI o ∧ ((o = 0 ∨ o = 13 ∨ o = 14) → oa p = yA p) ∧ ((o = 13 ∨ o = 14) → ∃ a : Nat, a ≤ 32 ∧ yA p = nI a)) :
    ((∀ post : Int32 → SX → Prop, post (-1) (cp, pr, ph, gc, gp, nI m, ml, cl, ol, vl, tr, ac, ca, pa, bk, ix, cL, cH, im, tl, tk, dr, nI L, ld, nI d, gk, gb, ge, po, oa, mn, cu, og, vl_, tp, ce, lN, lC, sk) → wpX_execute post (cp, pr, ph, gc, gp, nI m, ml, cl, ol, vl, tr, ac, ca, pa, bk, ix, cL, cH, im, tl, tk, dr, nI L, ld, nI d, gk, gb, ge, po, oa, mn, cu, og, vl_, tp, ce, lN, lC, sk) (nI p)) ∧ (∀ (post : Int32 → SY → Prop) (fuel s i : Nat), s < 256 → i < 300 → post 0 (pr, cp, ph, gc, gp, nI m, ml, cl, ol, vl, tr, ac, ca, pa, bk, ix, cL, cH, im, yn, yl, yt, yr, nI L, gk, gb, po, yA, mn, cu, og, vl_, cd, ou, sN, sS, sQ, sM, sk) → wY_holds_9 post pr cp ph gc gp (nI m) ml cl ol vl tr ac ca pa bk ix cL cH im yn yl yt yr (nI L) (fuel + 1) (nI d) (nI p) (nI s) (nI i) gk gb po yA mn cu og vl_ cd ou sN sS sQ sM sk)) ∨
    (∃ (p' d' : Nat) (sk' : Nat → Int32), p' ≤ 32 ∧ d' ≤ 16 ∧ (∀ post : Int32 → SX → Prop, post (nI p') (cp, pr, ph, gc, gp, nI m, ml, cl, ol, vl, tr, ac, ca, pa, bk, ix, cL, cH, im, tl, tk, dr, nI L, ld, nI d', gk, gb, ge, po, oa, mn, cu, og, vl_, tp, ce, lN, lC, sk') → wpX_execute post (cp, pr, ph, gc, gp, nI m, ml, cl, ol, vl, tr, ac, ca, pa, bk, ix, cL, cH, im, tl, tk, dr, nI L, ld, nI d, gk, gb, ge, po, oa, mn, cu, og, vl_, tp, ce, lN, lC, sk) (nI p)) ∧ (∀ (post : Int32 → SY → Prop) (fuel s i : Nat), s < 256 → i < 300 → wY_holds_9 post pr cp ph gc gp (nI m) ml cl ol vl tr ac ca pa bk ix cL cH im yn yl yt yr (nI L) fuel (nI d') (nI p') (nI (s + 1)) (nI (i + 1)) gk gb po yA mn cu og vl_ cd ou sN sS sQ sM sk' → wY_holds_9 post pr cp ph gc gp (nI m) ml cl ol vl tr ac ca pa bk ix cL cH im yn yl yt yr (nI L) (fuel + 1) (nI d) (nI p) (nI s) (nI i) gk gb po yA mn cu og vl_ cd ou sN sS sQ sM sk)) := by
  have hp1 : p + 1 ≤ 32 := by omega
  have hp32 : p < 32 := by omega
  obtain ⟨o, ho14, ho, hA, hB⟩ := H
  obtain rfl | rfl | rfl | rfl | rfl | rfl | rfl | rfl | rfl | rfl | rfl | rfl | rfl | rfl | rfl : o = 0 ∨ o = 1 ∨ o = 2 ∨ o = 3 ∨ o = 4 ∨ o = 5 ∨ o = 6 ∨ o = 7 ∨ o = 8 ∨ o = 9 ∨ o = 10 ∨ o = 11 ∨ o = 12 ∨ o = 13 ∨ o = 14 := by
    clear hA hB
    omega
  · by_cases h16 : d < 16
    · exact Or.inr ⟨p + 1, d + 1, _, hp1, by omega, fun post hp => cs_ex0 hp32 ho h16 post (by rw [hA (Or.inl rfl)]; exact hp), fun post fuel s i hs hi hp => cs_ey0 h16 hm hpm ho hs hi post hp⟩
    · have z : d = 16 := by omega
      subst z
      exact Or.inl ⟨fun post hp => cs_exG0 hp32 ho post hp, fun post fuel s i hs hi hp => cs_eyG0 hm hpm ho hs hi post hp⟩
  · by_cases h : d < 1
    · exact Or.inl ⟨fun post hp => cs_exF1 hp32 ho h post hp, fun post fuel s i hs hi hp => cs_eyF1 h hm hpm ho hs hi post hp⟩
    · obtain ⟨e, rfl⟩ : ∃ e, d = e + 1 := ⟨d - 1, by omega⟩
      exact Or.inr ⟨p + 1, e + 1, _, hp1, by omega, fun post hp => cs_ex1 hp32 ho hd (fun q hq => cs_xcz hL hco q hq) post hp, fun post fuel s i hs hi hp => cs_ey1 hd hL hm hpm ho hs hi post hp⟩
  · by_cases h16 : d < 16
    · exact Or.inr ⟨p + 1, d + 1, _, hp1, by omega, fun post hp => cs_ex2 hp32 ho h16 post hp, fun post fuel s i hs hi hp => cs_ey2 h16 hm hpm ho hs hi post hp⟩
    · have z : d = 16 := by omega
      subst z
      exact Or.inl ⟨fun post hp => cs_exG2 hp32 ho post hp, fun post fuel s i hs hi hp => cs_eyG2 hm hpm ho hs hi post hp⟩
  · by_cases h : d < 2
    · exact Or.inl ⟨fun post hp => cs_exF3 hp32 ho h post hp, fun post fuel s i hs hi hp => cs_eyF3 h hm hpm ho hs hi post hp⟩
    · obtain ⟨e, rfl⟩ : ∃ e, d = e + 2 := ⟨d - 2, by omega⟩
      exact Or.inr ⟨p + 1, e + 1, _, hp1, by omega, fun post hp => cs_ex3 hp32 ho hd post hp, fun post fuel s i hs hi hp => cs_ey3 hd hm hpm ho hs hi post hp⟩
  · by_cases h : d < 2
    · exact Or.inl ⟨fun post hp => cs_exF4 hp32 ho h post hp, fun post fuel s i hs hi hp => cs_eyF4 h hm hpm ho hs hi post hp⟩
    · obtain ⟨e, rfl⟩ : ∃ e, d = e + 2 := ⟨d - 2, by omega⟩
      exact Or.inr ⟨p + 1, e + 1, _, hp1, by omega, fun post hp => cs_ex4 hp32 ho hd post hp, fun post fuel s i hs hi hp => cs_ey4 hd hm hpm ho hs hi post hp⟩
  · by_cases h : d < 2
    · exact Or.inl ⟨fun post hp => cs_exF5 hp32 ho h post hp, fun post fuel s i hs hi hp => cs_eyF5 h hm hpm ho hs hi post hp⟩
    · obtain ⟨e, rfl⟩ : ∃ e, d = e + 2 := ⟨d - 2, by omega⟩
      exact Or.inr ⟨p + 1, e + 1, _, hp1, by omega, fun post hp => cs_ex5 hp32 ho hd post hp, fun post fuel s i hs hi hp => cs_ey5 hd hm hpm ho hs hi post hp⟩
  · by_cases h : d < 2
    · exact Or.inl ⟨fun post hp => cs_exF6 hp32 ho h post hp, fun post fuel s i hs hi hp => cs_eyF6 h hm hpm ho hs hi post hp⟩
    · obtain ⟨e, rfl⟩ : ∃ e, d = e + 2 := ⟨d - 2, by omega⟩
      exact Or.inr ⟨p + 1, e + 1, _, hp1, by omega, fun post hp => cs_ex6 hp32 ho hd post hp, fun post fuel s i hs hi hp => cs_ey6 hd hm hpm ho hs hi post hp⟩
  · by_cases h : d < 2
    · exact Or.inl ⟨fun post hp => cs_exF7 hp32 ho h post hp, fun post fuel s i hs hi hp => cs_eyF7 h hm hpm ho hs hi post hp⟩
    · obtain ⟨e, rfl⟩ : ∃ e, d = e + 2 := ⟨d - 2, by omega⟩
      exact Or.inr ⟨p + 1, e + 1, _, hp1, by omega, fun post hp => cs_ex7 hp32 ho hd post hp, fun post fuel s i hs hi hp => cs_ey7 hd hm hpm ho hs hi post hp⟩
  · by_cases h : d < 1
    · exact Or.inl ⟨fun post hp => cs_exF8 hp32 ho h post hp, fun post fuel s i hs hi hp => cs_eyF8 h hm hpm ho hs hi post hp⟩
    · obtain ⟨e, rfl⟩ : ∃ e, d = e + 1 := ⟨d - 1, by omega⟩
      exact Or.inr ⟨p + 1, e + 1, _, hp1, by omega, fun post hp => cs_ex8 hp32 ho hd post hp, fun post fuel s i hs hi hp => cs_ey8 hd hm hpm ho hs hi post hp⟩
  · by_cases h : d < 1
    · exact Or.inl ⟨fun post hp => cs_exF9 hp32 ho h post hp, fun post fuel s i hs hi hp => cs_eyF9 h hm hpm ho hs hi post hp⟩
    · obtain ⟨e, rfl⟩ : ∃ e, d = e + 1 := ⟨d - 1, by omega⟩
      by_cases h16 : e + 1 < 16
      · exact Or.inr ⟨p + 1, e + 1 + 1, _, hp1, by omega, fun post hp => cs_ex9 hp32 ho h16 post hp, fun post fuel s i hs hi hp => cs_ey9 h16 hm hpm ho hs hi post hp⟩
      · have z : e + 1 = 16 := by omega
        rw [z]
        exact Or.inl ⟨fun post hp => cs_exG9 hp32 ho post hp, fun post fuel s i hs hi hp => cs_eyG9 hm hpm ho hs hi post hp⟩
  · by_cases h : d < 2
    · exact Or.inl ⟨fun post hp => cs_exF10 hp32 ho h post hp, fun post fuel s i hs hi hp => cs_eyF10 h hm hpm ho hs hi post hp⟩
    · obtain ⟨e, rfl⟩ : ∃ e, d = e + 2 := ⟨d - 2, by omega⟩
      exact Or.inr ⟨p + 1, e + 2, _, hp1, by omega, fun post hp => cs_ex10 hp32 ho hd post hp, fun post fuel s i hs hi hp => cs_ey10 hd hm hpm ho hs hi post hp⟩
  · by_cases h : d < 1
    · exact Or.inl ⟨fun post hp => cs_exF11 hp32 ho h post hp, fun post fuel s i hs hi hp => cs_eyF11 h hm hpm ho hs hi post hp⟩
    · obtain ⟨e, rfl⟩ : ∃ e, d = e + 1 := ⟨d - 1, by omega⟩
      exact Or.inr ⟨p + 1, e, _, hp1, by omega, fun post hp => cs_ex11 hp32 ho hd post hp, fun post fuel s i hs hi hp => cs_ey11 hd hm hpm ho hs hi post hp⟩
  · by_cases h : d < 2
    · exact Or.inl ⟨fun post hp => cs_exF12 hp32 ho h post hp, fun post fuel s i hs hi hp => cs_eyF12 h hm hpm ho hs hi post hp⟩
    · obtain ⟨e, rfl⟩ : ∃ e, d = e + 2 := ⟨d - 2, by omega⟩
      by_cases h16 : e + 2 < 16
      · exact Or.inr ⟨p + 1, e + 2 + 1, _, hp1, by omega, fun post hp => cs_ex12 hp32 ho h16 post hp, fun post fuel s i hs hi hp => cs_ey12 h16 hm hpm ho hs hi post hp⟩
      · have z : e + 2 = 16 := by omega
        rw [z]
        exact Or.inl ⟨fun post hp => cs_exG12 hp32 ho post hp, fun post fuel s i hs hi hp => cs_eyG12 hm hpm ho hs hi post hp⟩
  · by_cases h : d < 1
    · exact Or.inl ⟨fun post hp => cs_exF13 hp32 ho h post hp, fun post fuel s i hs hi hp => cs_eyF13 h hm hpm ho hs hi post hp⟩
    · obtain ⟨e, rfl⟩ : ∃ e, d = e + 1 := ⟨d - 1, by omega⟩
      obtain ⟨a, ha, ea⟩ := hB (Or.inl rfl)
      have eA := hA (Or.inr (Or.inl rfl))
      by_cases z : sk e = 0
      · exact Or.inr ⟨a, e, sk, ha, by omega, fun post hp => cs_ex13 hp32 ho hd post (by rw [if_pos z, eA, ea]; exact hp), fun post fuel s i hs hi hp => cs_ey13 hd hm hpm ho hs hi post (by rw [if_pos z, ea]; exact hp)⟩
      · exact Or.inr ⟨p + 1, e, sk, hp1, by omega, fun post hp => cs_ex13 hp32 ho hd post (by rw [if_neg z]; exact hp), fun post fuel s i hs hi hp => cs_ey13 hd hm hpm ho hs hi post (by rw [if_neg z]; exact hp)⟩
  · obtain ⟨a, ha, ea⟩ := hB (Or.inr rfl)
    have eA := hA (Or.inr (Or.inr rfl))
    exact Or.inr ⟨a, d, sk, ha, hd, fun post hp => cs_ex14 hp32 ho hd post (by rw [eA, ea]; exact hp), fun post fuel s i hs hi hp => cs_ey14 hd hm hpm ho hs hi post (by rw [ea]; exact hp)⟩
theorem cs_n1m {m : Nat} (h : m < 2 ^ 31) : (-1 : Int32) < nI m := by
  rw [Int32.lt_iff_toInt_lt, nI_toInt h, show (-1 : Int32).toInt = -1 from by decide]
  omega
theorem cs_pe {d : Nat} (hd : d ≤ 16) : ∃ r : Int32, (r = 0 ∨ r = 1) ∧ (∀ (p m : Nat) (post : Int32 → SX → Prop), m ≤ p → p ≤ 32 → post r (cp, pr, ph, gc, gp, nI m, ml, cl, ol, vl, tr, ac, ca, pa, bk, ix, cL, cH, im, tl, tk, dr, cc, ld, nI d, gk, gb, ge, po, oa, mn, cu, og, vl_, tp, ce, lN, lC, sk) → wX_propertyHolds_41 post (nI p) cp pr ph gc gp (nI m) ml cl ol vl tr ac ca pa bk ix cL cH im tl tk dr cc ld (nI d) gk gb ge po oa mn cu og vl_ tp ce lN lC sk) ∧ (∀ (p m s fuel : Nat) (x : Int32) (post : Int32 → SY → Prop), m ≤ p → p ≤ 32 → s < 300 → post r (pr, cp, ph, gc, gp, nI m, ml, cl, ol, vl, tr, ac, ca, pa, bk, ix, cL, cH, im, yn, yl, yt, yr, yo, gk, gb, po, yA, mn, cu, og, vl_, cd, ou, sN, sS, sQ, sM, sk) → wY_holds_9 post pr cp ph gc gp (nI m) ml cl ol vl tr ac ca pa bk ix cL cH im yn yl yt yr yo (fuel + 1) (nI d) (nI p) x (nI s) gk gb po yA mn cu og vl_ cd ou sN sS sQ sM sk) := by
  by_cases d0 : d = 0
  · subst d0
    exact ⟨0, Or.inl rfl, fun p m post h1 h2 hp => br_f (nI_nlt h1 (by omega)) (br_t (by decide) hp), fun p m s fuel x post h1 h2 h3 hp => br_f (nI_ge (b := 300) h3 (by decide)) (br_f (nI_nlt h1 (by omega)) (br_t (by decide) hp))⟩
  · obtain ⟨e, rfl⟩ : ∃ e, d = e + 1 := ⟨d - 1, by omega⟩
    have ee : (nI (e + 1) - 1).toNatClampNeg = e := by rw [nI_pred, nI_clamp (by omega)]
    have hv : vp_in (nI (e + 1) - 1) 16 := by rw [nI_pred]; exact vp_in_nI (by omega) (by omega)
    have h0 : ¬ nI (e + 1) ≤ 0 := nI_nle (by omega) (by omega)
    by_cases z : sk e = 0
    · exact ⟨0, Or.inl rfl, fun p m post h1 h2 hp => br_f (nI_nlt h1 (by omega)) (br_f h0 ⟨hv, br_t (by rw [ee]; exact z) hp⟩), fun p m s fuel x post h1 h2 h3 hp => br_f (nI_ge (b := 300) h3 (by decide)) (br_f (nI_nlt h1 (by omega)) (br_f h0 ⟨hv, br_t (by rw [ee]; exact z) hp⟩))⟩
    · exact ⟨1, Or.inr rfl, fun p m post h1 h2 hp => br_f (nI_nlt h1 (by omega)) (br_f h0 ⟨hv, br_f (by rw [ee]; exact z) hp⟩), fun p m s fuel x post h1 h2 h3 hp => br_f (nI_ge (b := 300) h3 (by decide)) (br_f (nI_nlt h1 (by omega)) (br_f h0 ⟨hv, br_f (by rw [ee]; exact z) hp⟩))⟩
theorem cs_xpF {s m fuel : Nat} (hm : m ≤ 32) (hs : s ≤ 256) (post : Int32 → SX → Prop) (hp : post 0 (cp, pr, ph, gc, gp, nI m, ml, cl, ol, vl, tr, ac, ca, pa, bk, ix, cL, cH, im, tl, tk, dr, cc, ld, sd, gk, gb, ge, po, oa, mn, cu, og, vl_, tp, ce, lN, lC, sk)) : wX_propertyHolds_9 post (fuel + 1) (-1) (nI s) cp pr ph gc gp (nI m) ml cl ol vl tr ac ca pa bk ix cL cH im tl tk dr cc ld sd gk gb ge po oa mn cu og vl_ tp ce lN lC sk :=
  br_c (fun _ => br_t (cs_n1m (by omega)) hp) (fun _ => br_t rfl (br_t (cs_n1m (by omega)) hp))
theorem cs_hl {L m : Nat} (hm : m ≤ 32) (hL : L ≤ 32) (hco : ∀ j, j < L → ce j = ou j) (H : ∀ j, j < m → ∃ o : Nat, o ≤ 14 ∧ po j = nI o ∧ ((o = 0 ∨ o = 13 ∨ o = 14) → oa j = yA j) ∧ ((o = 13 ∨ o = 14) → ∃ a : Nat, a ≤ 32 ∧ yA j = nI a)) :
    ∀ (c p d s : Nat) (sk : Nat → Int32), s + c = 256 → p ≤ 32 → d ≤ 16 → ∃ (r sd' : Int32) (sk' : Nat → Int32), (r = 0 ∨ r = 1) ∧
    (∀ (post : Int32 → SX → Prop) (fuel : Nat), c + 1 < fuel → post r (cp, pr, ph, gc, gp, nI m, ml, cl, ol, vl, tr, ac, ca, pa, bk, ix, cL, cH, im, tl, tk, dr, nI L, ld, sd', gk, gb, ge, po, oa, mn, cu, og, vl_, tp, ce, lN, lC, sk') → wX_propertyHolds_9 post fuel (nI p) (nI s) cp pr ph gc gp (nI m) ml cl ol vl tr ac ca pa bk ix cL cH im tl tk dr (nI L) ld (nI d) gk gb ge po oa mn cu og vl_ tp ce lN lC sk) ∧
    (∀ (post : Int32 → SY → Prop) (fuel : Nat), c + 1 < fuel → post r (pr, cp, ph, gc, gp, nI m, ml, cl, ol, vl, tr, ac, ca, pa, bk, ix, cL, cH, im, yn, yl, yt, yr, nI L, gk, gb, po, yA, mn, cu, og, vl_, cd, ou, sN, sS, sQ, sM, sk') → wY_holds_9 post pr cp ph gc gp (nI m) ml cl ol vl tr ac ca pa bk ix cL cH im yn yl yt yr (nI L) fuel (nI d) (nI p) (nI s) (nI s) gk gb po yA mn cu og vl_ cd ou sN sS sQ sM sk) := by
  intro c
  induction c with
  | zero =>
    intro p d s sk hs hp32 hd
    have z : s = 256 := by omega
    subst z
    by_cases h : p < m
    · refine ⟨0, nI d, sk, Or.inl rfl, fun post fuel hf hp => ?_, fun post fuel hf hp => ?_⟩
      · obtain ⟨f, rfl⟩ : ∃ f, fuel = f + 1 := ⟨fuel - 1, by omega⟩
        exact br_t (by decide) (br_t (nI_lt h (by omega)) hp)
      · obtain ⟨f, rfl⟩ : ∃ f, fuel = f + 1 := ⟨fuel - 1, by omega⟩
        exact br_f (by decide) (br_t (nI_lt h (by omega)) (br_t rfl hp))
    · obtain ⟨r, hr, hX, hY⟩ := cs_pe (cp := cp) (pr := pr) (ph := ph) (gc := gc) (gp := gp) (ml := ml) (cl := cl) (ol := ol) (vl := vl) (tr := tr) (ac := ac) (ca := ca) (pa := pa) (bk := bk) (ix := ix) (cL := cL) (cH := cH) (im := im) (tl := tl) (tk := tk) (dr := dr) (cc := nI L) (ld := ld) (gk := gk) (gb := gb) (ge := ge) (po := po) (oa := oa) (mn := mn) (cu := cu) (og := og) (vl_ := vl_) (tp := tp) (ce := ce) (lN := lN) (lC := lC) (sk := sk) (yn := yn) (yl := yl) (yt := yt) (yr := yr) (yo := nI L) (yA := yA) (cd := cd) (ou := ou) (sN := sN) (sS := sS) (sQ := sQ) (sM := sM) (d := d) hd
      refine ⟨r, nI d, sk, hr, fun post fuel hf hp => ?_, fun post fuel hf hp => ?_⟩
      · obtain ⟨f, rfl⟩ : ∃ f, fuel = f + 1 := ⟨fuel - 1, by omega⟩
        exact br_t (by decide) (hX p m post (by omega) hp32 hp)
      · obtain ⟨f, rfl⟩ : ∃ f, fuel = f + 1 := ⟨fuel - 1, by omega⟩
        exact hY p m 256 f _ post (by omega) hp32 (by omega) hp
  | succ c ih =>
    intro p d s sk hs hp32 hd
    by_cases h : p < m
    · rcases cs_exe (sk := sk) (cp := cp) (pr := pr) (ph := ph) (gc := gc) (gp := gp) (ml := ml) (cl := cl) (ol := ol) (vl := vl) (tr := tr) (ac := ac) (ca := ca) (pa := pa) (bk := bk) (ix := ix) (cL := cL) (cH := cH) (im := im) (tl := tl) (tk := tk) (dr := dr) (ld := ld) (gk := gk) (gb := gb) (ge := ge) (po := po) (oa := oa) (mn := mn) (cu := cu) (og := og) (vl_ := vl_) (tp := tp) (ce := ce) (lN := lN) (lC := lC) (yn := yn) (yl := yl) (yt := yt) (yr := yr) (yA := yA) (cd := cd) (ou := ou) (sN := sN) (sS := sS) (sQ := sQ) (sM := sM) (p := p) (d := d) (L := L) (m := m) hm h hd hL hco (H p h) with ⟨hX, hY⟩ | ⟨p', d', sk', h1, h2, hX, hY⟩
      · refine ⟨0, nI d, sk, Or.inl rfl, fun post fuel hf hp => ?_, fun post fuel hf hp => ?_⟩
        · obtain ⟨f, rfl⟩ : ∃ f, fuel = f + 1 + 1 := ⟨fuel - 2, by omega⟩
          exact br_f (nI_ge (b := 256) (by omega) (by decide)) (br_f (cs_nm1 (by omega)) (br_f (nI_ge h (by omega)) (hX _ (nm_r (nI_1 s) (cs_xpF hm (by omega) post hp)))))
        · obtain ⟨f, rfl⟩ : ∃ f, fuel = f + 1 := ⟨fuel - 1, by omega⟩
          exact hY post f s s (by omega) (by omega) hp
      · obtain ⟨r, sd', sk2, hr, HX, HY⟩ := ih p' d' (s + 1) sk' (by omega) h1 h2
        refine ⟨r, sd', sk2, hr, fun post fuel hf hp => ?_, fun post fuel hf hp => ?_⟩
        · obtain ⟨f, rfl⟩ : ∃ f, fuel = f + 1 := ⟨fuel - 1, by omega⟩
          exact br_f (nI_ge (b := 256) (by omega) (by decide)) (br_f (cs_nm1 (by omega)) (br_f (nI_ge h (by omega)) (hX _ (nm_r (nI_1 s) (HX post f (by omega) hp)))))
        · obtain ⟨f, rfl⟩ : ∃ f, fuel = f + 1 := ⟨fuel - 1, by omega⟩
          exact hY post f s s (by omega) (by omega) (HY post f (by omega) hp)
    · obtain ⟨r, hr, hX, hY⟩ := cs_pe (cp := cp) (pr := pr) (ph := ph) (gc := gc) (gp := gp) (ml := ml) (cl := cl) (ol := ol) (vl := vl) (tr := tr) (ac := ac) (ca := ca) (pa := pa) (bk := bk) (ix := ix) (cL := cL) (cH := cH) (im := im) (tl := tl) (tk := tk) (dr := dr) (cc := nI L) (ld := ld) (gk := gk) (gb := gb) (ge := ge) (po := po) (oa := oa) (mn := mn) (cu := cu) (og := og) (vl_ := vl_) (tp := tp) (ce := ce) (lN := lN) (lC := lC) (sk := sk) (yn := yn) (yl := yl) (yt := yt) (yr := yr) (yo := nI L) (yA := yA) (cd := cd) (ou := ou) (sN := sN) (sS := sS) (sQ := sQ) (sM := sM) (d := d) hd
      refine ⟨r, nI d, sk, hr, fun post fuel hf hp => ?_, fun post fuel hf hp => ?_⟩
      · obtain ⟨f, rfl⟩ : ∃ f, fuel = f + 1 := ⟨fuel - 1, by omega⟩
        exact br_f (nI_ge (b := 256) (by omega) (by decide)) (br_f (cs_nm1 (by omega)) (br_t (nI_le (by omega) (by omega)) (hX p m post (by omega) hp32 hp)))
      · obtain ⟨f, rfl⟩ : ∃ f, fuel = f + 1 := ⟨fuel - 1, by omega⟩
        exact hY p m s f _ post (by omega) hp32 (by omega) hp
theorem cs_hold {L : Nat} (hL : L ≤ 32) (hco : ∀ j, j < L → ce j = ou j) (hP : cs_Pr oc po oa yA) : ∃ (r sd' : Int32) (sk' : Nat → Int32), (r = 0 ∨ r = 1) ∧
    (∀ post : Int32 → SX → Prop, post r (cp, pr, ph, gc, gp, oc, ml, cl, ol, vl, tr, ac, ca, pa, bk, ix, cL, cH, im, tl, tk, dr, nI L, ld, sd', gk, gb, ge, po, oa, mn, cu, og, vl_, tp, ce, lN, lC, sk') → wpX_propertyHolds post (cp, pr, ph, gc, gp, oc, ml, cl, ol, vl, tr, ac, ca, pa, bk, ix, cL, cH, im, tl, tk, dr, nI L, ld, sd, gk, gb, ge, po, oa, mn, cu, og, vl_, tp, ce, lN, lC, sk)) ∧
    (∀ post : Int32 → SY → Prop, post r (pr, cp, ph, gc, gp, oc, ml, cl, ol, vl, tr, ac, ca, pa, bk, ix, cL, cH, im, yn, yl, yt, yr, nI L, gk, gb, po, yA, mn, cu, og, vl_, cd, ou, sN, sS, sQ, sM, sk') → wpY_holds post (pr, cp, ph, gc, gp, oc, ml, cl, ol, vl, tr, ac, ca, pa, bk, ix, cL, cH, im, yn, yl, yt, yr, nI L, gk, gb, po, yA, mn, cu, og, vl_, cd, ou, sN, sS, sQ, sM, sk)) := by
  obtain ⟨m, hm, rfl, H⟩ := hP
  obtain ⟨r, sd', sk', hr, hX, hY⟩ := cs_hl (cp := cp) (pr := pr) (ph := ph) (gc := gc) (gp := gp) (ml := ml) (cl := cl) (ol := ol) (vl := vl) (tr := tr) (ac := ac) (ca := ca) (pa := pa) (bk := bk) (ix := ix) (cL := cL) (cH := cH) (im := im) (tl := tl) (tk := tk) (dr := dr) (ld := ld) (gk := gk) (gb := gb) (ge := ge) (po := po) (oa := oa) (mn := mn) (cu := cu) (og := og) (vl_ := vl_) (tp := tp) (ce := ce) (lN := lN) (lC := lC) (yn := yn) (yl := yl) (yt := yt) (yr := yr) (yA := yA) (cd := cd) (ou := ou) (sN := sN) (sS := sS) (sQ := sQ) (sM := sM) (L := L) (m := m) hm hL hco H 256 0 0 0 sk (by omega) (by omega) (by omega)
  exact ⟨r, sd', sk', hr, fun post hp => ⟨258, hX post 258 (by omega) hp⟩, fun post hp => ⟨258, hY post 258 (by omega) hp⟩⟩
end
