section
variable {cp pr ph gc gp oc ml cl ol vl tr ac ca pa bk ix cL cH im tl tk dr cc ld sd yn yl yt yr yo : Int32} {gk gb ge po oa mn cu og vl_ tp ce lN lC sk yA cd ou sN sS sQ sM : Nat → Int32}
theorem cs_xc_tape_current {n : Nat} (hn : n ≤ 32) (post : SX → Prop) (hp : post (cp, pr, ph, gc, gp, oc, ml, cl, ol, vl, tr, ac, ca, pa, bk, ix, cL, cH, im, tl, tk, dr, cc, ld, sd, gk, gb, ge, po, oa, mn, cs_cp tp cu n, og, vl_, tp, ce, lN, lC, sk)) : wpX_copy__tape_current post (cp, pr, ph, gc, gp, oc, ml, cl, ol, vl, tr, ac, ca, pa, bk, ix, cL, cH, im, tl, tk, dr, cc, ld, sd, gk, gb, ge, po, oa, mn, cu, og, vl_, tp, ce, lN, lC, sk) (nI n) := by
  have loop : ∀ (d i fuel : Nat), i + d = n → d < fuel → wX_copy__tape_current_2 post (nI n) cp pr ph gc gp oc ml cl ol vl tr ac ca pa bk ix cL cH im tl tk dr cc ld sd fuel (nI i) gk gb ge po oa mn (cs_cp tp cu i) og vl_ tp ce lN lC sk := by
    intro d
    induction d with
    | zero =>
      intro i fuel hi hf
      obtain ⟨g, rfl⟩ : ∃ g, fuel = g + 1 := ⟨fuel - 1, by omega⟩
      have z : i = n := by omega
      subst z
      exact br_t (nI_le (Nat.le_refl _) (by omega)) hp
    | succ d ih =>
      intro i fuel hi hf
      obtain ⟨g, rfl⟩ : ∃ g, fuel = g + 1 := ⟨fuel - 1, by omega⟩
      have ec : (nI i).toNatClampNeg = i := nI_clamp (by omega)
      have hv : vp_in (nI i) 32 := vp_in_nI (by omega) (by omega)
      exact br_f (nI_ge (by omega) (by omega)) ⟨hv, hv, nm_r (e' := cs_cp tp cu (i + 1)) (by rw [ec, cs_cps]) (nm_r (nI_1 i) (ih (i + 1) g (by omega) (by omega)))⟩
  have h := loop n 0 (n + 1) (by omega) (by omega)
  rw [cs_cp0] at h
  exact ⟨n + 1, h⟩
theorem cs_xc_cells_value {n : Nat} (hn : n ≤ 32) (post : SX → Prop) (hp : post (cp, pr, ph, gc, gp, oc, ml, cl, ol, vl, tr, ac, ca, pa, bk, ix, cL, cH, im, tl, tk, dr, cc, ld, sd, gk, gb, ge, po, oa, mn, cu, og, cs_cp ce vl_ n, tp, ce, lN, lC, sk)) : wpX_copy__cells_value post (cp, pr, ph, gc, gp, oc, ml, cl, ol, vl, tr, ac, ca, pa, bk, ix, cL, cH, im, tl, tk, dr, cc, ld, sd, gk, gb, ge, po, oa, mn, cu, og, vl_, tp, ce, lN, lC, sk) (nI n) := by
  have loop : ∀ (d i fuel : Nat), i + d = n → d < fuel → wX_copy__cells_value_2 post (nI n) cp pr ph gc gp oc ml cl ol vl tr ac ca pa bk ix cL cH im tl tk dr cc ld sd fuel (nI i) gk gb ge po oa mn cu og (cs_cp ce vl_ i) tp ce lN lC sk := by
    intro d
    induction d with
    | zero =>
      intro i fuel hi hf
      obtain ⟨g, rfl⟩ : ∃ g, fuel = g + 1 := ⟨fuel - 1, by omega⟩
      have z : i = n := by omega
      subst z
      exact br_t (nI_le (Nat.le_refl _) (by omega)) hp
    | succ d ih =>
      intro i fuel hi hf
      obtain ⟨g, rfl⟩ : ∃ g, fuel = g + 1 := ⟨fuel - 1, by omega⟩
      have ec : (nI i).toNatClampNeg = i := nI_clamp (by omega)
      have hv : vp_in (nI i) 32 := vp_in_nI (by omega) (by omega)
      exact br_f (nI_ge (by omega) (by omega)) ⟨hv, hv, nm_r (e' := cs_cp ce vl_ (i + 1)) (by rw [ec, cs_cps]) (nm_r (nI_1 i) (ih (i + 1) g (by omega) (by omega)))⟩
  have h := loop n 0 (n + 1) (by omega) (by omega)
  rw [cs_cp0] at h
  exact ⟨n + 1, h⟩
theorem cs_xc_tape_original {n : Nat} (hn : n ≤ 32) (post : SX → Prop) (hp : post (cp, pr, ph, gc, gp, oc, ml, cl, ol, vl, tr, ac, ca, pa, bk, ix, cL, cH, im, tl, tk, dr, cc, ld, sd, gk, gb, ge, po, oa, mn, cu, cs_cp tp og n, vl_, tp, ce, lN, lC, sk)) : wpX_copy__tape_original post (cp, pr, ph, gc, gp, oc, ml, cl, ol, vl, tr, ac, ca, pa, bk, ix, cL, cH, im, tl, tk, dr, cc, ld, sd, gk, gb, ge, po, oa, mn, cu, og, vl_, tp, ce, lN, lC, sk) (nI n) := by
  have loop : ∀ (d i fuel : Nat), i + d = n → d < fuel → wX_copy__tape_original_2 post (nI n) cp pr ph gc gp oc ml cl ol vl tr ac ca pa bk ix cL cH im tl tk dr cc ld sd fuel (nI i) gk gb ge po oa mn cu (cs_cp tp og i) vl_ tp ce lN lC sk := by
    intro d
    induction d with
    | zero =>
      intro i fuel hi hf
      obtain ⟨g, rfl⟩ : ∃ g, fuel = g + 1 := ⟨fuel - 1, by omega⟩
      have z : i = n := by omega
      subst z
      exact br_t (nI_le (Nat.le_refl _) (by omega)) hp
    | succ d ih =>
      intro i fuel hi hf
      obtain ⟨g, rfl⟩ : ∃ g, fuel = g + 1 := ⟨fuel - 1, by omega⟩
      have ec : (nI i).toNatClampNeg = i := nI_clamp (by omega)
      have hv : vp_in (nI i) 32 := vp_in_nI (by omega) (by omega)
      exact br_f (nI_ge (by omega) (by omega)) ⟨hv, hv, nm_r (e' := cs_cp tp og (i + 1)) (by rw [ec, cs_cps]) (nm_r (nI_1 i) (ih (i + 1) g (by omega) (by omega)))⟩
  have h := loop n 0 (n + 1) (by omega) (by omega)
  rw [cs_cp0] at h
  exact ⟨n + 1, h⟩
theorem cs_xc_manual_tape {n : Nat} (hn : n ≤ 32) (post : SX → Prop) (hp : post (cp, pr, ph, gc, gp, oc, ml, cl, ol, vl, tr, ac, ca, pa, bk, ix, cL, cH, im, tl, tk, dr, cc, ld, sd, gk, gb, ge, po, oa, mn, cu, og, vl_, cs_cp mn tp n, ce, lN, lC, sk)) : wpX_copy__manual_tape post (cp, pr, ph, gc, gp, oc, ml, cl, ol, vl, tr, ac, ca, pa, bk, ix, cL, cH, im, tl, tk, dr, cc, ld, sd, gk, gb, ge, po, oa, mn, cu, og, vl_, tp, ce, lN, lC, sk) (nI n) := by
  have loop : ∀ (d i fuel : Nat), i + d = n → d < fuel → wX_copy__manual_tape_2 post (nI n) cp pr ph gc gp oc ml cl ol vl tr ac ca pa bk ix cL cH im tl tk dr cc ld sd fuel (nI i) gk gb ge po oa mn cu og vl_ (cs_cp mn tp i) ce lN lC sk := by
    intro d
    induction d with
    | zero =>
      intro i fuel hi hf
      obtain ⟨g, rfl⟩ : ∃ g, fuel = g + 1 := ⟨fuel - 1, by omega⟩
      have z : i = n := by omega
      subst z
      exact br_t (nI_le (Nat.le_refl _) (by omega)) hp
    | succ d ih =>
      intro i fuel hi hf
      obtain ⟨g, rfl⟩ : ∃ g, fuel = g + 1 := ⟨fuel - 1, by omega⟩
      have ec : (nI i).toNatClampNeg = i := nI_clamp (by omega)
      have hv : vp_in (nI i) 32 := vp_in_nI (by omega) (by omega)
      exact br_f (nI_ge (by omega) (by omega)) ⟨hv, hv, nm_r (e' := cs_cp mn tp (i + 1)) (by rw [ec, cs_cps]) (nm_r (nI_1 i) (ih (i + 1) g (by omega) (by omega)))⟩
  have h := loop n 0 (n + 1) (by omega) (by omega)
  rw [cs_cp0] at h
  exact ⟨n + 1, h⟩
theorem cs_yreplay25 {n : Nat} (hn : n ≤ 32) (post : Int32 → SY → Prop) (hp : wY_replay_57 post pr cp ph gc gp oc (nI n) cl ol vl tr ac ca pa bk ix cL cH im yn yl yt yr yo gk gb po yA mn cu og vl_ (cs_cp mn cd n) ou sN sS sQ sM sk) : ∃ k : Nat, wY_replay_25 post pr cp ph gc gp oc (nI n) cl ol vl tr ac ca pa bk ix cL cH im yn yl yt yr yo k (nI 0) gk gb po yA mn cu og vl_ cd ou sN sS sQ sM sk := by
  have loop : ∀ (d i fuel : Nat), i + d = n → d < fuel → wY_replay_25 post pr cp ph gc gp oc (nI n) cl ol vl tr ac ca pa bk ix cL cH im yn yl yt yr yo fuel (nI i) gk gb po yA mn cu og vl_ (cs_cp mn cd i) ou sN sS sQ sM sk := by
    intro d
    induction d with
    | zero =>
      intro i fuel hi hf
      obtain ⟨g, rfl⟩ : ∃ g, fuel = g + 1 := ⟨fuel - 1, by omega⟩
      have z : i = n := by omega
      subst z
      exact br_t (nI_le (Nat.le_refl _) (by omega)) hp
    | succ d ih =>
      intro i fuel hi hf
      obtain ⟨g, rfl⟩ : ∃ g, fuel = g + 1 := ⟨fuel - 1, by omega⟩
      have ec : (nI i).toNatClampNeg = i := nI_clamp (by omega)
      have hv : vp_in (nI i) 32 := vp_in_nI (by omega) (by omega)
      exact br_f (nI_ge (by omega) (by omega)) (br_f (nI_ge (b := 32) (by omega) (by decide)) ⟨hv, hv, nm_r (e' := cs_cp mn cd (i + 1)) (by rw [ec, cs_cps]) (nm_r (nI_1 i) (ih (i + 1) g (by omega) (by omega)))⟩)
  have h := loop n 0 (n + 1) (by omega) (by omega)
  rw [cs_cp0] at h
  exact ⟨n + 1, h⟩
theorem cs_yfound55 {n : Nat} (hn : n ≤ 32) (post : SY → Prop) (hp : wY_found_87 post pr cp ph gc gp oc ml cl ol vl tr ac ca pa bk ix cL cH im yn yl yt yr (nI n) gk gb po yA mn cu og (cs_cp ou vl_ n) cd ou sN sS sQ sM sk) : ∃ k : Nat, wY_found_55 post pr cp ph gc gp oc ml cl ol vl tr ac ca pa bk ix cL cH im yn yl yt yr (nI n) k (nI 0) gk gb po yA mn cu og vl_ cd ou sN sS sQ sM sk := by
  have loop : ∀ (d i fuel : Nat), i + d = n → d < fuel → wY_found_55 post pr cp ph gc gp oc ml cl ol vl tr ac ca pa bk ix cL cH im yn yl yt yr (nI n) fuel (nI i) gk gb po yA mn cu og (cs_cp ou vl_ i) cd ou sN sS sQ sM sk := by
    intro d
    induction d with
    | zero =>
      intro i fuel hi hf
      obtain ⟨g, rfl⟩ : ∃ g, fuel = g + 1 := ⟨fuel - 1, by omega⟩
      have z : i = n := by omega
      subst z
      exact br_t (nI_le (Nat.le_refl _) (by omega)) hp
    | succ d ih =>
      intro i fuel hi hf
      obtain ⟨g, rfl⟩ : ∃ g, fuel = g + 1 := ⟨fuel - 1, by omega⟩
      have ec : (nI i).toNatClampNeg = i := nI_clamp (by omega)
      have hv : vp_in (nI i) 32 := vp_in_nI (by omega) (by omega)
      exact br_f (nI_ge (by omega) (by omega)) (br_f (nI_ge (b := 32) (by omega) (by decide)) ⟨hv, hv, nm_r (e' := cs_cp ou vl_ (i + 1)) (by rw [ec, cs_cps]) (nm_r (nI_1 i) (ih (i + 1) g (by omega) (by omega)))⟩)
  have h := loop n 0 (n + 1) (by omega) (by omega)
  rw [cs_cp0] at h
  exact ⟨n + 1, h⟩
theorem cs_yfound2 {n : Nat} (hn : n ≤ 32) (post : SY → Prop) (hp : wY_found_43 post (nI n) pr cp ph gc gp oc ml cl ol vl tr ac ca pa bk ix cL cH im yn yl yt yr yo gk gb po yA mn (cs_cp cd cu n) (cs_cp cd og n) vl_ cd ou sN sS sQ sM sk) : ∃ k : Nat, wY_found_2 post (nI n) pr cp ph gc gp oc ml cl ol vl tr ac ca pa bk ix cL cH im yn yl yt yr yo k (nI 0) gk gb po yA mn cu og vl_ cd ou sN sS sQ sM sk := by
  have loop : ∀ (d i fuel : Nat), i + d = n → d < fuel → wY_found_2 post (nI n) pr cp ph gc gp oc ml cl ol vl tr ac ca pa bk ix cL cH im yn yl yt yr yo fuel (nI i) gk gb po yA mn (cs_cp cd cu i) (cs_cp cd og i) vl_ cd ou sN sS sQ sM sk := by
    intro d
    induction d with
    | zero =>
      intro i fuel hi hf
      obtain ⟨g, rfl⟩ : ∃ g, fuel = g + 1 := ⟨fuel - 1, by omega⟩
      have z : i = n := by omega
      subst z
      exact br_t (nI_le (Nat.le_refl _) (by omega)) hp
    | succ d ih =>
      intro i fuel hi hf
      obtain ⟨g, rfl⟩ : ∃ g, fuel = g + 1 := ⟨fuel - 1, by omega⟩
      have ec : (nI i).toNatClampNeg = i := nI_clamp (by omega)
      have hv : vp_in (nI i) 32 := vp_in_nI (by omega) (by omega)
      exact br_f (nI_ge (by omega) (by omega)) (br_f (nI_ge (b := 32) (by omega) (by decide)) ⟨hv, hv, nm_r (e' := cs_cp cd cu (i + 1)) (by rw [ec, cs_cps]) ⟨hv, hv, nm_r (e' := cs_cp cd og (i + 1)) (by rw [ec, cs_cps]) (nm_r (nI_1 i) (ih (i + 1) g (by omega) (by omega)))⟩⟩)
  have h := loop n 0 (n + 1) (by omega) (by omega)
  rw [cs_cp0, cs_cp0] at h
  exact ⟨n + 1, h⟩
theorem cs_ytrial183 {n : Nat} (hn : n ≤ 32) (post : Int32 → SY → Prop) (hp : wY_trial_215 post pr cp ph gc gp oc ml cl ol vl tr ac ca pa bk ix cL cH im yn yl yt yr (nI n) gk gb po yA mn cu og (cs_cp ou vl_ n) cd ou sN sS sQ sM sk) : ∃ k : Nat, wY_trial_183 post pr cp ph gc gp oc ml cl ol vl tr ac ca pa bk ix cL cH im yn yl yt yr (nI n) k (nI 0) gk gb po yA mn cu og vl_ cd ou sN sS sQ sM sk := by
  have loop : ∀ (d i fuel : Nat), i + d = n → d < fuel → wY_trial_183 post pr cp ph gc gp oc ml cl ol vl tr ac ca pa bk ix cL cH im yn yl yt yr (nI n) fuel (nI i) gk gb po yA mn cu og (cs_cp ou vl_ i) cd ou sN sS sQ sM sk := by
    intro d
    induction d with
    | zero =>
      intro i fuel hi hf
      obtain ⟨g, rfl⟩ : ∃ g, fuel = g + 1 := ⟨fuel - 1, by omega⟩
      have z : i = n := by omega
      subst z
      exact br_t (nI_le (Nat.le_refl _) (by omega)) hp
    | succ d ih =>
      intro i fuel hi hf
      obtain ⟨g, rfl⟩ : ∃ g, fuel = g + 1 := ⟨fuel - 1, by omega⟩
      have ec : (nI i).toNatClampNeg = i := nI_clamp (by omega)
      have hv : vp_in (nI i) 32 := vp_in_nI (by omega) (by omega)
      exact br_f (nI_ge (by omega) (by omega)) (br_f (nI_ge (b := 32) (by omega) (by decide)) ⟨hv, hv, nm_r (e' := cs_cp ou vl_ (i + 1)) (by rw [ec, cs_cps]) (nm_r (nI_1 i) (ih (i + 1) g (by omega) (by omega)))⟩)
  have h := loop n 0 (n + 1) (by omega) (by omega)
  rw [cs_cp0] at h
  exact ⟨n + 1, h⟩
theorem cs_ytrial141 {n : Nat} (hn : n ≤ 32) (post : Int32 → SY → Prop) (hp : ∃ k : Nat, wY_trial_183 post pr cp ph gc gp oc ml (nI n) ol vl tr ac ca pa bk ix cL cH im yn yl (nI n) yr yo k (nI 0) gk gb po yA mn (cs_cp cd cu n) og vl_ cd ou sN sS sQ sM sk) : ∃ k : Nat, wY_trial_141 post pr cp ph gc gp oc ml cl ol vl tr ac ca pa bk ix cL cH im yn yl (nI n) yr yo k (nI 0) gk gb po yA mn cu og vl_ cd ou sN sS sQ sM sk := by
  have loop : ∀ (d i fuel : Nat), i + d = n → d < fuel → wY_trial_141 post pr cp ph gc gp oc ml cl ol vl tr ac ca pa bk ix cL cH im yn yl (nI n) yr yo fuel (nI i) gk gb po yA mn (cs_cp cd cu i) og vl_ cd ou sN sS sQ sM sk := by
    intro d
    induction d with
    | zero =>
      intro i fuel hi hf
      obtain ⟨g, rfl⟩ : ∃ g, fuel = g + 1 := ⟨fuel - 1, by omega⟩
      have z : i = n := by omega
      subst z
      exact br_t (nI_le (Nat.le_refl _) (by omega)) hp
    | succ d ih =>
      intro i fuel hi hf
      obtain ⟨g, rfl⟩ : ∃ g, fuel = g + 1 := ⟨fuel - 1, by omega⟩
      have ec : (nI i).toNatClampNeg = i := nI_clamp (by omega)
      have hv : vp_in (nI i) 32 := vp_in_nI (by omega) (by omega)
      exact br_f (nI_ge (by omega) (by omega)) (br_f (nI_ge (b := 32) (by omega) (by decide)) ⟨hv, hv, nm_r (e' := cs_cp cd cu (i + 1)) (by rw [ec, cs_cps]) (nm_r (nI_1 i) (ih (i + 1) g (by omega) (by omega)))⟩)
  have h := loop n 0 (n + 1) (by omega) (by omega)
  rw [cs_cp0] at h
  exact ⟨n + 1, h⟩
theorem cs_ycopyS {n : Nat} (hn : n ≤ 32) (post : SY → Prop) (hp : post (pr, cp, ph, gc, gp, oc, ml, nI n, ol, vl, tr, ac, ca, pa, bk, ix, cL, cH, im, yn, nI n, yt, yr, yo, gk, gb, po, yA, mn, cu, og, vl_, cs_cp cu cd n, ou, sN, sS, sQ, sM, sk)) : ∃ k : Nat, wY_copySToCand_2 post pr cp ph gc gp oc ml (nI n) ol vl tr ac ca pa bk ix cL cH im yn yl yt yr yo k (nI 0) gk gb po yA mn cu og vl_ cd ou sN sS sQ sM sk := by
  have loop : ∀ (d i fuel : Nat), i + d = n → d < fuel → wY_copySToCand_2 post pr cp ph gc gp oc ml (nI n) ol vl tr ac ca pa bk ix cL cH im yn yl yt yr yo fuel (nI i) gk gb po yA mn cu og vl_ (cs_cp cu cd i) ou sN sS sQ sM sk := by
    intro d
    induction d with
    | zero =>
      intro i fuel hi hf
      obtain ⟨g, rfl⟩ : ∃ g, fuel = g + 1 := ⟨fuel - 1, by omega⟩
      have z : i = n := by omega
      subst z
      exact br_t (nI_le (Nat.le_refl _) (by omega)) hp
    | succ d ih =>
      intro i fuel hi hf
      obtain ⟨g, rfl⟩ : ∃ g, fuel = g + 1 := ⟨fuel - 1, by omega⟩
      have ec : (nI i).toNatClampNeg = i := nI_clamp (by omega)
      have hv : vp_in (nI i) 32 := vp_in_nI (by omega) (by omega)
      exact br_f (nI_ge (by omega) (by omega)) (br_f (nI_ge (b := 32) (by omega) (by decide)) ⟨hv, hv, nm_r (e' := cs_cp cu cd (i + 1)) (by rw [ec, cs_cps]) (nm_r (nI_1 i) (ih (i + 1) g (by omega) (by omega)))⟩)
  have h := loop n 0 (n + 1) (by omega) (by omega)
  rw [cs_cp0] at h
  exact ⟨n + 1, h⟩
theorem cs_xkeep {t L : Nat} (ht : t ≤ 32) (hL : L ≤ 32) (post : SX → Prop) (hp : post (cp, pr, ph, gc, gp, oc, ml, nI t, ol, nI L, tr, ac, ca, pa, bk, ix, cL, cH, im, tl, nI t, dr, nI L, ld, sd, gk, gb, ge, po, oa, mn, cs_cp tp cu t, og, cs_cp ce vl_ L, tp, ce, lN, lC, sk)) : wpX_keepTape post (cp, pr, ph, gc, gp, oc, ml, cl, ol, vl, tr, ac, ca, pa, bk, ix, cL, cH, im, tl, nI t, dr, nI L, ld, sd, gk, gb, ge, po, oa, mn, cu, og, vl_, tp, ce, lN, lC, sk) := by
  unfold wpX_keepTape
  refine cs_xc_tape_current ht _ ?_
  refine cs_xc_cells_value hL _ ?_
  exact hp
theorem cs_xfind {t L : Nat} (ht : t ≤ 32) (hL : L ≤ 32) (post : SX → Prop) (hp : post (cp, pr, 1, gc, gp, oc, ml, nI t, nI t, nI L, 0, 0, ca, 0, 0, 0, 0, 0, 0, tl, nI t, dr, nI L, ld, sd, gk, gb, ge, po, oa, mn, cs_cp tp cu t, cs_cp tp og t, cs_cp ce vl_ L, tp, ce, lN, lC, sk)) : wpX_keepFinding post (cp, pr, ph, gc, gp, oc, ml, cl, ol, vl, tr, ac, ca, pa, bk, ix, cL, cH, im, tl, nI t, dr, nI L, ld, sd, gk, gb, ge, po, oa, mn, cu, og, vl_, tp, ce, lN, lC, sk) := by
  unfold wpX_keepFinding
  refine cs_xkeep ht hL _ ?_
  refine cs_xc_tape_original ht _ ?_
  exact hp
theorem cs_yfind {t L : Nat} (ht : t ≤ 32) (hL : L ≤ 32) (post : SY → Prop) (hp : post (pr, cp, 1, gc, gp, oc, ml, nI t, nI t, nI L, 0, 0, ca, 0, 0, 0, 0, 0, 0, 0, yl, yt, yr, nI L, gk, gb, po, yA, mn, cs_cp cd cu t, cs_cp cd og t, cs_cp ou vl_ L, cd, ou, sN, sS, sQ, sM, sk)) : wpY_found post (pr, cp, ph, gc, gp, oc, ml, cl, ol, vl, tr, ac, ca, pa, bk, ix, cL, cH, im, yn, yl, yt, yr, nI L, gk, gb, po, yA, mn, cu, og, vl_, cd, ou, sN, sS, sQ, sM, sk) (nI t) := by
  refine cs_yfound2 ht post ?_
  refine cs_yfound55 hL post ?_
  exact hp
end
