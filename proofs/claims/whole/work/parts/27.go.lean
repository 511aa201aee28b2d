def cs_H (ph gp cl ol vl pa bk ix lo hi im yn : Int32) (cu : Nat → Int32) : Prop :=
  ∃ n o v : Nat, n ≤ 32 ∧ o ≤ 32 ∧ v ≤ 32 ∧ cl = nI n ∧ ol = nI o ∧ vl = nI v ∧ cs_by cu n ∧ (ph = 2 ∨ (ph = 1 ∧ gp = 0 ∧ cs_at pa bk ix lo hi im yn n))
theorem cs_HF {ph gp cl ol vl pa bk ix lo hi im yn : Int32} {cu : Nat → Int32} (h : cs_H ph gp cl ol vl pa bk ix lo hi im yn cu) : cs_F ph gp cl ol vl pa bk ix lo hi im yn cu := by
  obtain ⟨n, o, v, a1, a2, a3, a4, a5, a6, a7, a8⟩ := h
  refine ⟨n, o, v, a1, a2, a3, a4, a5, a6, a7, ?_⟩
  rcases a8 with a | ⟨a, b, c⟩
  · exact Or.inr (Or.inl a)
  · exact Or.inr (Or.inr ⟨a, b, Or.inr c⟩)
def cs_V (u : SX) (v : SY) : Prop :=
  ∃ (cp pr ph gc gp oc ml cl ol vl tr ac ca pa bk ix cL cH im tl tk dr cc ld sd yn yl yt yr yo : Int32) (gk gb ge po oa mn cu og vl_ tp ce lN lC sk yA cd ou sN sS sQ sM : Nat → Int32), u = (cp, pr, ph, gc, gp, oc, ml, cl, ol, vl, tr, ac, ca, pa, bk, ix, cL, cH, im, tl, tk, dr, cc, ld, sd, gk, gb, ge, po, oa, mn, cu, og, vl_, tp, ce, lN, lC, sk) ∧ v = (pr, cp, ph, gc, gp, oc, ml, cl, ol, vl, tr, ac, ca, pa, bk, ix, cL, cH, im, yn, yl, yt, yr, yo, gk, gb, po, yA, mn, cu, og, vl_, cd, ou, sN, sS, sQ, sM, sk) ∧ cs_M cp ml mn ∧ cs_Gn gc gp gk gb ge ∧ cs_Pr oc po oa yA ∧ cs_H ph gp cl ol vl pa bk ix cL cH im yn cu
theorem cs_Vmk {cp pr ph gc gp oc ml cl ol vl tr ac ca pa bk ix cL cH im tl tk dr cc ld sd yn yl yt yr yo : Int32} {gk gb ge po oa mn cu og vl_ tp ce lN lC sk yA cd ou sN sS sQ sM : Nat → Int32} (hM : cs_M cp ml mn) (hG : cs_Gn gc gp gk gb ge) (hP : cs_Pr oc po oa yA) (hF : cs_H ph gp cl ol vl pa bk ix cL cH im yn cu) : cs_V (cp, pr, ph, gc, gp, oc, ml, cl, ol, vl, tr, ac, ca, pa, bk, ix, cL, cH, im, tl, tk, dr, cc, ld, sd, gk, gb, ge, po, oa, mn, cu, og, vl_, tp, ce, lN, lC, sk) (pr, cp, ph, gc, gp, oc, ml, cl, ol, vl, tr, ac, ca, pa, bk, ix, cL, cH, im, yn, yl, yt, yr, yo, gk, gb, po, yA, mn, cu, og, vl_, cd, ou, sN, sS, sQ, sM, sk) :=
  ⟨cp, pr, ph, gc, gp, oc, ml, cl, ol, vl, tr, ac, ca, pa, bk, ix, cL, cH, im, tl, tk, dr, cc, ld, sd, yn, yl, yt, yr, yo, gk, gb, ge, po, oa, mn, cu, og, vl_, tp, ce, lN, lC, sk, yA, cd, ou, sN, sS, sQ, sM, rfl, rfl, hM, hG, hP, hF⟩
theorem cs_Velim {u : SX} {v : SY} {P : SX → SY → Prop} (I : cs_V u v) (h : ∀ (cp pr ph gc gp oc ml cl ol vl tr ac ca pa bk ix cL cH im tl tk dr cc ld sd yn yl yt yr yo : Int32) (gk gb ge po oa mn cu og vl_ tp ce lN lC sk yA cd ou sN sS sQ sM : Nat → Int32), cs_M cp ml mn → cs_Gn gc gp gk gb ge → cs_Pr oc po oa yA → cs_H ph gp cl ol vl pa bk ix cL cH im yn cu → P (cp, pr, ph, gc, gp, oc, ml, cl, ol, vl, tr, ac, ca, pa, bk, ix, cL, cH, im, tl, tk, dr, cc, ld, sd, gk, gb, ge, po, oa, mn, cu, og, vl_, tp, ce, lN, lC, sk) (pr, cp, ph, gc, gp, oc, ml, cl, ol, vl, tr, ac, ca, pa, bk, ix, cL, cH, im, yn, yl, yt, yr, yo, gk, gb, po, yA, mn, cu, og, vl_, cd, ou, sN, sS, sQ, sM, sk)) : P u v := by
  obtain ⟨cp, pr, ph, gc, gp, oc, ml, cl, ol, vl, tr, ac, ca, pa, bk, ix, cL, cH, im, tl, tk, dr, cc, ld, sd, yn, yl, yt, yr, yo, gk, gb, ge, po, oa, mn, cu, og, vl_, tp, ce, lN, lC, sk, yA, cd, ou, sN, sS, sQ, sM, rfl, rfl, hM, hG, hP, hF⟩ := I
  exact h cp pr ph gc gp oc ml cl ol vl tr ac ca pa bk ix cL cH im tl tk dr cc ld sd yn yl yt yr yo gk gb ge po oa mn cu og vl_ tp ce lN lC sk yA cd ou sN sS sQ sM hM hG hP hF
def cs_go (cp pr gc oc ml ol vl tr ac ca tl tk dr cc ld sd yl yt yr yo : Int32) (gk gb ge po oa mn cu og vl_ tp ce lN lC sk yA cd ou sN sS sQ sM : Nat → Int32) (k0 n M : Nat) (pa bk xi xl xh im ix lo hi yn : Int32) : Prop :=
  ∃ (u' : SX) (v' : SY), cs_V u' v' ∧
  (∀ (post : SX → Prop) (fuel st : Nat), M < fuel → st + M < 1000000 → post u' → wX_moveToTrial_2 post fuel (nI st) cp pr 1 gc 0 oc ml (nI n) ol vl tr ac ca pa bk xi xl xh im tl tk dr cc ld sd gk gb ge po oa mn cu og vl_ tp ce lN lC sk) ∧
  (∀ (post : SY → Prop) (fuel it : Nat), M < fuel → it + M < 4096 → post v' → wY_advance_2 post fuel (nI it) pr cp 1 gc 0 oc ml (nI n) ol vl tr ac ca pa bk ix lo hi im yn yl yt yr yo gk gb po yA mn cu og vl_ cd ou sN sS sQ sM sk)
def cs_mv (n : Nat) (cu : Nat → Int32) (pa bk xi xl xh im ix lo hi yn : Int32) (μ : Nat) : Prop :=
  ∃ k i w : Nat, bk = nI k ∧ ix = nI i ∧ ((im = 0 ∧ w = 0) ∨ (im = 1 ∧ w = 500)) ∧
  ((pa = nI 1 ∧ (k = 1 ∨ k = 2 ∨ k = 4) ∧ i ≤ 33 ∧ xi = nI i ∧ xl = 0 ∧ xh = 0 ∧ lo = 0 ∧ hi = 0 ∧ yn = 0 ∧ μ = w + 400 + k / 2) ∨
  (pa = nI 2 ∧ (k = 1 ∨ k = 2 ∨ k = 4) ∧ i ≤ 33 ∧ xi = nI i ∧ xl = 0 ∧ xh = 0 ∧ lo = 0 ∧ hi = 0 ∧ yn = 0 ∧ μ = w + 200 + 50 * (k / 2) + (40 - i)) ∨
  (pa = nI 3 ∧ k = 1 ∧ i ≤ 34 ∧ yn = 0 ∧ lo = 0 ∧ hi = 0 ∧ (∃ j : Nat, xi = nI j ∧ j ≤ 34 ∧ ((j = i ∧ xl = 0 ∧ xh = (if i < n then cu i else 0)) ∨ (n ≤ j ∧ n ≤ i))) ∧ μ = w + 50 + 3 * (40 - i) + 2) ∨
  (pa = nI 3 ∧ k = 1 ∧ i ≤ 33 ∧ yn = 1 ∧ xi = nI i ∧ (∃ l h : Nat, lo = nI l ∧ hi = nI h ∧ xl = nI l ∧ xh = nI h ∧ l ≤ 256 ∧ h ≤ 255) ∧ μ = w + 50 + 3 * (40 - i) + 1) ∨
  (pa = nI 4 ∧ k = 1 ∧ i ≤ 33 ∧ xi = nI i ∧ xl = 0 ∧ xh = 0 ∧ lo = 0 ∧ hi = 0 ∧ yn = 0 ∧ μ = w + (40 - i)))
section
variable {cp pr ph gc gp oc ml cl ol vl tr ac ca pa bk ix cL cH im tl tk dr cc ld sd yn yl yt yr yo : Int32} {gk gb ge po oa mn cu og vl_ tp ce lN lC sk yA cd ou sN sS sQ sM : Nat → Int32}
variable {k0 n M : Nat} {xi xl xh lo hi pa2 bk2 xi2 xl2 xh2 im2 ix2 lo2 hi2 yn2 : Int32}
theorem cs_goT (h : cs_go cp pr gc oc ml ol vl tr ac ca tl tk dr cc ld sd yl yt yr yo gk gb ge po oa mn cu og vl_ tp ce lN lC sk yA cd ou sN sS sQ sM k0 n M pa2 bk2 xi2 xl2 xh2 im2 ix2 lo2 hi2 yn2)
    (hx : ∀ (post : SX → Prop) (fuel st : Nat), st < 1000000 → wX_moveToTrial_2 post fuel (nI (st + 1)) cp pr 1 gc 0 oc ml (nI n) ol vl tr ac ca pa2 bk2 xi2 xl2 xh2 im2 tl tk dr cc ld sd gk gb ge po oa mn cu og vl_ tp ce lN lC sk → wX_moveToTrial_2 post (fuel + 1) (nI st) cp pr 1 gc 0 oc ml (nI n) ol vl tr ac ca pa bk xi xl xh im tl tk dr cc ld sd gk gb ge po oa mn cu og vl_ tp ce lN lC sk)
    (hy : ∀ (post : SY → Prop) (fuel it : Nat), it < 4096 → wY_advance_2 post fuel (nI (it + 1)) pr cp 1 gc 0 oc ml (nI n) ol vl tr ac ca pa2 bk2 ix2 lo2 hi2 im2 yn2 yl yt yr yo gk gb po yA mn cu og vl_ cd ou sN sS sQ sM sk → wY_advance_2 post (fuel + 1) (nI it) pr cp 1 gc 0 oc ml (nI n) ol vl tr ac ca pa bk ix lo hi im yn yl yt yr yo gk gb po yA mn cu og vl_ cd ou sN sS sQ sM sk) :
    cs_go cp pr gc oc ml ol vl tr ac ca tl tk dr cc ld sd yl yt yr yo gk gb ge po oa mn cu og vl_ tp ce lN lC sk yA cd ou sN sS sQ sM k0 n (M + 1) pa bk xi xl xh im ix lo hi yn := by
  obtain ⟨u', v', hR, HX, HY⟩ := h
  refine ⟨u', v', hR, fun post fuel st h1 h2 hp => ?_, fun post fuel it h1 h2 hp => ?_⟩
  · obtain ⟨f, rfl⟩ : ∃ f, fuel = f + 1 := ⟨fuel - 1, by omega⟩
    exact hx post f st (by omega) (HX post f (st + 1) (by omega) (by omega) hp)
  · obtain ⟨f, rfl⟩ : ∃ f, fuel = f + 1 := ⟨fuel - 1, by omega⟩
    exact hy post f it (by omega) (HY post f (it + 1) (by omega) (by omega) hp)
theorem cs_goS (h : cs_go cp pr gc oc ml ol vl tr ac ca tl tk dr cc ld sd yl yt yr yo gk gb ge po oa mn cu og vl_ tp ce lN lC sk yA cd ou sN sS sQ sM k0 n M pa bk xi xl xh im ix2 lo2 hi2 yn2)
    (hy : ∀ (post : SY → Prop) (fuel it : Nat), it < 4096 → wY_advance_2 post fuel (nI (it + 1)) pr cp 1 gc 0 oc ml (nI n) ol vl tr ac ca pa bk ix2 lo2 hi2 im yn2 yl yt yr yo gk gb po yA mn cu og vl_ cd ou sN sS sQ sM sk → wY_advance_2 post (fuel + 1) (nI it) pr cp 1 gc 0 oc ml (nI n) ol vl tr ac ca pa bk ix lo hi im yn yl yt yr yo gk gb po yA mn cu og vl_ cd ou sN sS sQ sM sk) :
    cs_go cp pr gc oc ml ol vl tr ac ca tl tk dr cc ld sd yl yt yr yo gk gb ge po oa mn cu og vl_ tp ce lN lC sk yA cd ou sN sS sQ sM k0 n (M + 1) pa bk xi xl xh im ix lo hi yn := by
  obtain ⟨u', v', hR, HX, HY⟩ := h
  refine ⟨u', v', hR, fun post fuel st h1 h2 hp => HX post fuel st (by omega) (by omega) hp, fun post fuel it h1 h2 hp => ?_⟩
  obtain ⟨f, rfl⟩ : ∃ f, fuel = f + 1 := ⟨fuel - 1, by omega⟩
  exact hy post f it (by omega) (HY post f (it + 1) (by omega) (by omega) hp)
theorem cs_goE (hR : cs_V (cp, pr, 1, gc, 0, oc, ml, nI n, ol, vl, tr, ac, ca, pa, bk, ix, cL, cH, im, tl, tk, dr, cc, ld, sd, gk, gb, ge, po, oa, mn, cu, og, vl_, tp, ce, lN, lC, sk) (pr, cp, 1, gc, 0, oc, ml, nI n, ol, vl, tr, ac, ca, pa, bk, ix, cL, cH, im, yn, yl, yt, yr, yo, gk, gb, po, yA, mn, cu, og, vl_, cd, ou, sN, sS, sQ, sM, sk))
    (hx : ∀ (post : SX → Prop) (fuel st : Nat), st < 1000000 → post (cp, pr, 1, gc, 0, oc, ml, nI n, ol, vl, tr, ac, ca, pa, bk, ix, cL, cH, im, tl, tk, dr, cc, ld, sd, gk, gb, ge, po, oa, mn, cu, og, vl_, tp, ce, lN, lC, sk) → wX_moveToTrial_2 post (fuel + 1) (nI st) cp pr 1 gc 0 oc ml (nI n) ol vl tr ac ca pa bk ix cL cH im tl tk dr cc ld sd gk gb ge po oa mn cu og vl_ tp ce lN lC sk)
    (hy : ∀ (post : SY → Prop) (fuel it : Nat), it < 4096 → post (pr, cp, 1, gc, 0, oc, ml, nI n, ol, vl, tr, ac, ca, pa, bk, ix, cL, cH, im, yn, yl, yt, yr, yo, gk, gb, po, yA, mn, cu, og, vl_, cd, ou, sN, sS, sQ, sM, sk) → wY_advance_2 post (fuel + 1) (nI it) pr cp 1 gc 0 oc ml (nI n) ol vl tr ac ca pa bk ix cL cH im yn yl yt yr yo gk gb po yA mn cu og vl_ cd ou sN sS sQ sM sk) :
    cs_go cp pr gc oc ml ol vl tr ac ca tl tk dr cc ld sd yl yt yr yo gk gb ge po oa mn cu og vl_ tp ce lN lC sk yA cd ou sN sS sQ sM k0 n (M + 1) pa bk ix cL cH im ix cL cH yn := by
  refine ⟨_, _, hR, fun post fuel st h1 h2 hp => ?_, fun post fuel it h1 h2 hp => ?_⟩
  · obtain ⟨f, rfl⟩ : ∃ f, fuel = f + 1 := ⟨fuel - 1, by omega⟩
    exact hx post f st (by omega) hp
  · obtain ⟨f, rfl⟩ : ∃ f, fuel = f + 1 := ⟨fuel - 1, by omega⟩
    exact hy post f it (by omega) hp
theorem cs_goR {oo vv : Nat} (hn : n ≤ 32) (ho : oo ≤ 32) (hv : vv ≤ 32) (hM : cs_M cp ml mn) (hG : cs_Gn gc 0 gk gb ge) (hP : cs_Pr oc po oa yA) (hb : cs_by cu n) (him : im = 0 ∨ im = 1) {p k i l h : Nat} (hat : ((p = 1 ∨ p = 2) ∧ (k = 1 ∨ k = 2 ∨ k = 4) ∧ i + k ≤ n ∧ l = 0 ∧ h = 0 ∧ yn = 0) ∨ (p = 3 ∧ k = 1 ∧ i < n ∧ l < h ∧ h ≤ 255 ∧ yn = 1) ∨ (p = 4 ∧ k = 1 ∧ i + 1 < n ∧ l = 0 ∧ h = 0 ∧ yn = 0)) : cs_V (cp, pr, 1, gc, 0, oc, ml, nI n, nI oo, nI vv, tr, ac, ca, nI p, nI k, nI i, nI l, nI h, im, tl, tk, dr, cc, ld, sd, gk, gb, ge, po, oa, mn, cu, og, vl_, tp, ce, lN, lC, sk) (pr, cp, 1, gc, 0, oc, ml, nI n, nI oo, nI vv, tr, ac, ca, nI p, nI k, nI i, nI l, nI h, im, yn, yl, yt, yr, yo, gk, gb, po, yA, mn, cu, og, vl_, cd, ou, sN, sS, sQ, sM, sk) :=
  cs_Vmk hM hG hP ⟨n, oo, vv, hn, ho, hv, rfl, rfl, rfl, hb, Or.inr ⟨rfl, rfl, p, k, i, l, h, rfl, rfl, rfl, rfl, rfl, him, hat⟩⟩
theorem cs_goAll {oo vv : Nat} (hn : n ≤ 32) (ho : oo ≤ 32) (hv : vv ≤ 32) (hM : cs_M cp ml mn) (hG : cs_Gn gc 0 gk gb ge) (hP : cs_Pr oc po oa yA) (hb : cs_by cu n) : ∀ (M : Nat) (pa bk xi xl xh im ix lo hi yn : Int32) (μ : Nat), cs_mv n cu pa bk xi xl xh im ix lo hi yn μ → μ < M → cs_go cp pr gc oc ml (nI oo) (nI vv) tr ac ca tl tk dr cc ld sd yl yt yr yo gk gb ge po oa mn cu og vl_ tp ce lN lC sk yA cd ou sN sS sQ sM k0 n M pa bk xi xl xh im ix lo hi yn := by
  intro M
  induction M with
  | zero => intro pa bk xi xl xh im ix lo hi yn μ _ h; omega
  | succ M ih =>
    intro pa bk xi xl xh im ix lo hi yn μ hmv hμ
    obtain ⟨k, i, w, rfl, rfl, hw, hC⟩ := hmv
    have him : im = 0 ∨ im = 1 := by
      rcases hw with a | a
      · exact Or.inl a.1
      · exact Or.inr a.1
    rcases hC with ⟨rfl, hk, hi', rfl, rfl, rfl, rfl, rfl, rfl, rfl⟩ | ⟨rfl, hk, hi', rfl, rfl, rfl, rfl, rfl, rfl, rfl⟩ | ⟨rfl, rfl, hi', rfl, rfl, rfl, ⟨j, rfl, hj, hjj⟩, rfl⟩ | ⟨rfl, rfl, hi', rfl, rfl, ⟨l, h, rfl, rfl, rfl, rfl, hl, hh⟩, rfl⟩ | ⟨rfl, rfl, hi', rfl, rfl, rfl, rfl, rfl, rfl, rfl⟩
    · skip
      by_cases h : i + k ≤ n
      · exact cs_goE (cs_goR (l := 0) (h := 0) hn ho hv hM hG hP hb him (Or.inl ⟨Or.inl rfl, hk, h, rfl, rfl, rfl⟩)) (fun post fuel st h1 hp => cs_mstop h1 (fun q hq => cs_at1 hn (by omega) h q hq) post hp) (fun post fuel it h1 hp => cs_y1a h1 hn (by omega) h post hp)
      · by_cases h1k : k = 1
        · subst h1k
          exact cs_goT (ih (nI 2) (nI 4) (nI 0) 0 0 im (nI 0) 0 0 0 _ ⟨4, 0, w, rfl, rfl, hw, Or.inr (Or.inl ⟨rfl, by omega, by omega, rfl, rfl, rfl, rfl, rfl, rfl, rfl⟩)⟩ (by omega)) (fun post fuel st h1 hp => cs_mstep h1 (fun q hq => cs_atO (by decide) hn (by omega) (by omega) (by omega) q hq) (fun p hp => cs_soP1 hn (by omega) (by omega) p hp) post hp) (fun post fuel it h1 hp => cs_y1c h1 hn (by omega) (by omega) post hp)
        · exact cs_goT (ih (nI 1) (nI (k / 2)) (nI 0) 0 0 im (nI 0) 0 0 0 _ ⟨k / 2, 0, w, rfl, rfl, hw, Or.inl ⟨rfl, by omega, by omega, rfl, rfl, rfl, rfl, rfl, rfl, rfl⟩⟩ (by omega)) (fun post fuel st h1 hp => cs_mstep h1 (fun q hq => cs_atO (by decide) hn (by omega) (by omega) (by omega) q hq) (fun p hp => cs_soH (by decide) (by decide) hn (by omega) (by omega) (by omega) (by omega) p hp) post hp) (fun post fuel it h1 hp => cs_y1b h1 hn (by omega) (by omega) (by omega) (by omega) post hp)
    · skip
      by_cases h : i + k ≤ n
      · obtain ⟨z, hz, hX, hY⟩ := cs_bz (cp := cp) (pr := pr) (ph := 1) (gc := gc) (gp := 0) (oc := oc) (ml := ml) (ol := nI oo) (vl := nI vv) (tr := tr) (ac := ac) (ca := ca) (pa := nI 2) (cL := 0) (cH := 0) (im := im) (tl := tl) (tk := tk) (dr := dr) (cc := cc) (ld := ld) (sd := sd) (gk := gk) (gb := gb) (ge := ge) (po := po) (oa := oa) (mn := mn) (cu := cu) (og := og) (vl_ := vl_) (tp := tp) (ce := ce) (lN := lN) (lC := lC) (sk := sk) (yn := 0) (yl := yl) (yt := yt) (yr := yr) (yo := yo) (yA := yA) (cd := cd) (ou := ou) (sN := sN) (sS := sS) (sQ := sQ) (sM := sM) (n := n) (i := i) (k := k) hn h
        rcases hz with rfl | rfl
        · exact cs_goE (cs_goR (l := 0) (h := 0) hn ho hv hM hG hP hb him (Or.inl ⟨Or.inr rfl, hk, h, rfl, rfl, rfl⟩)) (fun post fuel st h1 hp => cs_mstop h1 (fun q hq => cs_at2 hn (by omega) h hX q (br_t rfl hq)) post hp) (fun post fuel it h1 hp => cs_y2a h1 hn (by omega) h hY post hp)
        · exact cs_goT (ih (nI 2) (nI k) (nI (i + 1)) 0 0 im (nI (i + 1)) 0 0 0 _ ⟨k, i + 1, w, rfl, rfl, hw, Or.inr (Or.inl ⟨rfl, hk, by omega, rfl, rfl, rfl, rfl, rfl, rfl, rfl⟩)⟩ (by omega)) (fun post fuel st h1 hp => cs_mstep h1 (fun q hq => cs_at2 hn (by omega) h hX q (br_f (by decide) hq)) (fun p hp => cs_soI (by decide) (by decide) hn (by omega) h p hp) post hp) (fun post fuel it h1 hp => cs_y2b h1 hn (by omega) h hY post hp)
      · by_cases h1k : k = 1
        · subst h1k
          exact cs_goT (ih (nI 3) (nI 1) (nI 0) 0 (if 0 < n then cu 0 else 0) im (nI 0) 0 0 0 _ ⟨1, 0, w, rfl, rfl, hw, Or.inr (Or.inr (Or.inl ⟨rfl, rfl, by omega, rfl, rfl, rfl, ⟨0, rfl, by omega, Or.inl ⟨rfl, rfl, rfl⟩⟩, rfl⟩))⟩ (by omega)) (fun post fuel st h1 hp => cs_mstep h1 (fun q hq => cs_atO (by decide) hn (by omega) (by omega) (by omega) q hq) (fun p hp => cs_soP2 hn (by omega) (by omega) p hp) post hp) (fun post fuel it h1 hp => cs_y2d h1 hn (by omega) (by omega) post hp)
        · exact cs_goT (ih (nI 2) (nI (k / 2)) (nI 0) 0 0 im (nI 0) 0 0 0 _ ⟨k / 2, 0, w, rfl, rfl, hw, Or.inr (Or.inl ⟨rfl, by omega, by omega, rfl, rfl, rfl, rfl, rfl, rfl, rfl⟩)⟩ (by omega)) (fun post fuel st h1 hp => cs_mstep h1 (fun q hq => cs_atO (by decide) hn (by omega) (by omega) (by omega) q hq) (fun p hp => cs_soH (by decide) (by decide) hn (by omega) (by omega) (by omega) (by omega) p hp) post hp) (fun post fuel it h1 hp => cs_y2c h1 hn (by omega) (by omega) (by omega) (by omega) post hp)
    · skip
      by_cases h : i < n
      · have hj3 : j = i ∧ xl = 0 ∧ xh = (if i < n then cu i else 0) := hjj.resolve_right (fun z => absurd z.2 (by omega))
        obtain ⟨rfl, rfl, rfl⟩ := hj3
        rw [if_pos h]
        obtain ⟨b, hb2, eb⟩ := hb j h
        by_cases hz : cu j ≤ 0
        · have hc : cu j = 0 := by
            rw [eb] at hz ⊢
            have := (nI_leI (b := 0) (by omega) (by decide)).mp hz
            have z : b = 0 := by omega
            rw [z]
            rfl
          exact cs_goT (ih (nI 3) (nI 1) (nI (j + 1)) 0 (if j + 1 < n then cu (j + 1) else 0) im (nI (j + 1)) 0 0 0 _ ⟨1, j + 1, w, rfl, rfl, hw, Or.inr (Or.inr (Or.inl ⟨rfl, rfl, by omega, rfl, rfl, rfl, ⟨j + 1, rfl, by omega, Or.inl ⟨rfl, rfl, rfl⟩⟩, rfl⟩))⟩ (by omega)) (fun post fuel st h1 hp => cs_mstep h1 (fun q hq => cs_at3 hn h q (br_t hz hq)) (fun p hp => cs_soI3 hn h p hp) post hp) (fun post fuel it h1 hp => cs_y3z h1 hn h hz post hp)
        · refine cs_goS (ih (nI 3) (nI 1) (nI j) 0 (cu j) im (nI j) 0 (cu j) 1 _ ⟨1, j, w, rfl, rfl, hw, Or.inr (Or.inr (Or.inr (Or.inl ⟨rfl, rfl, by omega, rfl, rfl, ⟨0, b, rfl, eb, rfl, eb, by omega, by omega⟩, rfl⟩)))⟩ (by omega)) (fun post fuel it h1 hp => cs_y3p h1 hn h hz post hp)
      · have hjn : n ≤ j := by
          rcases hjj with z | z
          · omega
          · exact z.1
        exact cs_goT (ih (nI 4) (nI 1) (nI 0) 0 0 im (nI 0) 0 0 0 _ ⟨1, 0, w, rfl, rfl, hw, Or.inr (Or.inr (Or.inr (Or.inr ⟨rfl, rfl, by omega, rfl, rfl, rfl, rfl, rfl, rfl, rfl⟩)))⟩ (by omega)) (fun post fuel st h1 hp => cs_mstep h1 (fun q hq => cs_atO (by decide) hn (by omega) (by omega) (by omega) q hq) (fun p hp => cs_soP3 hn (by omega) (by omega) p hp) post hp) (fun post fuel it h1 hp => cs_y3e h1 hn (by omega) (by omega) post hp)
    · skip
      by_cases hin : i < n
      · by_cases hlh : l < h
        · have hz : ¬ nI h ≤ nI l := nI_ge hlh (by omega)
          exact cs_goE (cs_goR hn ho hv hM hG hP hb him (Or.inr (Or.inl ⟨rfl, rfl, hin, hlh, hh, rfl⟩))) (fun post fuel st h1 hp => cs_mstop h1 (fun q hq => cs_at3 hn hin q (br_f hz hq)) post hp) (fun post fuel it h1 hp => cs_y3s h1 hn hin hz post hp)
        · have hz : nI h ≤ nI l := nI_le (by omega) (by omega)
          exact cs_goT (ih (nI 3) (nI 1) (nI (i + 1)) 0 (if i + 1 < n then cu (i + 1) else 0) im (nI (i + 1)) 0 0 0 _ ⟨1, i + 1, w, rfl, rfl, hw, Or.inr (Or.inr (Or.inl ⟨rfl, rfl, by omega, rfl, rfl, rfl, ⟨i + 1, rfl, by omega, Or.inl ⟨rfl, rfl, rfl⟩⟩, rfl⟩))⟩ (by omega)) (fun post fuel st h1 hp => cs_mstep h1 (fun q hq => cs_at3 hn hin q (br_t hz hq)) (fun p hp => cs_soI3 hn hin p hp) post hp) (fun post fuel it h1 hp => cs_y3o h1 hn (by omega) (Or.inl hz) post hp)
      · exact cs_goS (ih (nI 3) (nI 1) (nI i) (nI l) (nI h) im (nI (i + 1)) 0 0 0 _ ⟨1, i + 1, w, rfl, rfl, hw, Or.inr (Or.inr (Or.inl ⟨rfl, rfl, by omega, rfl, rfl, rfl, ⟨i, rfl, by omega, Or.inr ⟨by omega, by omega⟩⟩, rfl⟩))⟩ (by omega)) (fun post fuel it h1 hp => cs_y3o h1 hn (by omega) (Or.inr (by omega)) post hp)
    · skip
      by_cases h : i + 1 < n
      · by_cases hz : cu i ≤ cu (i + 1)
        · exact cs_goT (ih (nI 4) (nI 1) (nI (i + 1)) 0 0 im (nI (i + 1)) 0 0 0 _ ⟨1, i + 1, w, rfl, rfl, hw, Or.inr (Or.inr (Or.inr (Or.inr ⟨rfl, rfl, by omega, rfl, rfl, rfl, rfl, rfl, rfl, rfl⟩)))⟩ (by omega)) (fun post fuel st h1 hp => cs_mstep h1 (fun q hq => cs_at4 hn h q (br_t hz hq)) (fun p hp => cs_soI4 hn h p hp) post hp) (fun post fuel it h1 hp => cs_y4b h1 hn h hz post hp)
        · exact cs_goE (cs_goR (l := 0) (h := 0) hn ho hv hM hG hP hb him (Or.inr (Or.inr ⟨rfl, rfl, h, rfl, rfl, rfl⟩))) (fun post fuel st h1 hp => cs_mstop h1 (fun q hq => cs_at4 hn h q (br_f hz hq)) post hp) (fun post fuel it h1 hp => cs_y4a h1 hn h hz post hp)
      · rcases hw with ⟨rfl, rfl⟩ | ⟨rfl, rfl⟩
        · refine ⟨(cp, pr, 2, gc, 0, oc, ml, nI n, nI oo, nI vv, tr, ac, ca, 0, 0, 0, 0, 0, 0, tl, tk, dr, cc, ld, sd, gk, gb, ge, po, oa, mn, cu, og, vl_, tp, ce, lN, lC, sk), (pr, cp, 2, gc, 0, oc, ml, nI n, nI oo, nI vv, tr, ac, ca, 0, 0, 0, 0, 0, 0, 0, yl, yt, yr, yo, gk, gb, po, yA, mn, cu, og, vl_, cd, ou, sN, sS, sQ, sM, sk), cs_Vmk hM hG hP ⟨n, oo, vv, hn, ho, hv, rfl, rfl, rfl, hb, Or.inl rfl⟩, fun post fuel st h1 h2 hp => ?_, fun post fuel it h1 h2 hp => ?_⟩
          · obtain ⟨f, rfl⟩ : ∃ f, fuel = f + 1 + 1 := ⟨fuel - 2, by omega⟩
            exact cs_mstep (by omega) (fun q hq => cs_atO4 hn (by omega) (by omega) q hq) (fun p hp => cs_so4D hn (by omega) (by omega) p hp) post (cs_mdone post hp)
          · obtain ⟨f, rfl⟩ : ∃ f, fuel = f + 1 + 1 := ⟨fuel - 2, by omega⟩
            exact cs_y4d (by omega) hn (by omega) (by omega) post (cs_ydone post hp)
        · exact cs_goT (ih (nI 1) (nI 4) (nI 0) 0 0 0 (nI 0) 0 0 0 _ ⟨4, 0, 0, rfl, rfl, Or.inl ⟨rfl, rfl⟩, Or.inl ⟨rfl, by omega, by omega, rfl, rfl, rfl, rfl, rfl, rfl, rfl⟩⟩ (by omega)) (fun post fuel st h1 hp => cs_mstep h1 (fun q hq => cs_atO4 hn (by omega) (by omega) q hq) (fun p hp => cs_so4R hn (by omega) (by omega) p hp) post hp) (fun post fuel it h1 hp => cs_y4r h1 hn (by omega) (by omega) post hp)
end
