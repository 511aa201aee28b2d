def cs_M (cp ml : Int32) (mn : Nat → Int32) : Prop := ∃ c m : Nat, 4 ≤ c ∧ c ≤ 32 ∧ m ≤ c ∧ cp = nI c ∧ ml = nI m ∧ cs_by mn m
def cs_F (ph gp cl ol vl pa bk ix lo hi im yn : Int32) (cu : Nat → Int32) : Prop :=
  ∃ n o v : Nat, n ≤ 32 ∧ o ≤ 32 ∧ v ≤ 32 ∧ cl = nI n ∧ ol = nI o ∧ vl = nI v ∧ cs_by cu n ∧
    (ph = 0 ∨ ph = 2 ∨ (ph = 1 ∧ gp = 0 ∧ ((pa = 0 ∧ bk = 0 ∧ ix = 0 ∧ lo = 0 ∧ hi = 0 ∧ im = 0 ∧ yn = 0) ∨ cs_at pa bk ix lo hi im yn n)))
def i_Rel (_ : Nat) (u : SX) (v : SY) : Prop :=
  ∃ (cp pr ph gc gp oc ml cl ol vl tr ac ca pa bk ix cL cH im tl tk dr cc ld sd yn yl yt yr yo : Int32) (gk gb ge po oa mn cu og vl_ tp ce lN lC sk yA cd ou sN sS sQ sM : Nat → Int32), u = (cp, pr, ph, gc, gp, oc, ml, cl, ol, vl, tr, ac, ca, pa, bk, ix, cL, cH, im, tl, tk, dr, cc, ld, sd, gk, gb, ge, po, oa, mn, cu, og, vl_, tp, ce, lN, lC, sk) ∧ v = (pr, cp, ph, gc, gp, oc, ml, cl, ol, vl, tr, ac, ca, pa, bk, ix, cL, cH, im, yn, yl, yt, yr, yo, gk, gb, po, yA, mn, cu, og, vl_, cd, ou, sN, sS, sQ, sM, sk) ∧ cs_M cp ml mn ∧ cs_Gn gc gp gk gb ge ∧ cs_Pr oc po oa yA ∧ cs_F ph gp cl ol vl pa bk ix cL cH im yn cu
theorem i_up {k : Nat} {u : SX} {v : SY} (h : i_Rel k u v) : i_Rel (k + 3) u v := h
theorem cs_mk {k : Nat} {cp pr ph gc gp oc ml cl ol vl tr ac ca pa bk ix cL cH im tl tk dr cc ld sd yn yl yt yr yo : Int32} {gk gb ge po oa mn cu og vl_ tp ce lN lC sk yA cd ou sN sS sQ sM : Nat → Int32} (hM : cs_M cp ml mn) (hG : cs_Gn gc gp gk gb ge) (hP : cs_Pr oc po oa yA) (hF : cs_F ph gp cl ol vl pa bk ix cL cH im yn cu) : i_Rel k (cp, pr, ph, gc, gp, oc, ml, cl, ol, vl, tr, ac, ca, pa, bk, ix, cL, cH, im, tl, tk, dr, cc, ld, sd, gk, gb, ge, po, oa, mn, cu, og, vl_, tp, ce, lN, lC, sk) (pr, cp, ph, gc, gp, oc, ml, cl, ol, vl, tr, ac, ca, pa, bk, ix, cL, cH, im, yn, yl, yt, yr, yo, gk, gb, po, yA, mn, cu, og, vl_, cd, ou, sN, sS, sQ, sM, sk) :=
  ⟨cp, pr, ph, gc, gp, oc, ml, cl, ol, vl, tr, ac, ca, pa, bk, ix, cL, cH, im, tl, tk, dr, cc, ld, sd, yn, yl, yt, yr, yo, gk, gb, ge, po, oa, mn, cu, og, vl_, tp, ce, lN, lC, sk, yA, cd, ou, sN, sS, sQ, sM, rfl, rfl, hM, hG, hP, hF⟩
theorem cs_elim {k : Nat} {u : SX} {v : SY} {P : SX → SY → Prop} (I : i_Rel k u v) (h : ∀ (cp pr ph gc gp oc ml cl ol vl tr ac ca pa bk ix cL cH im tl tk dr cc ld sd yn yl yt yr yo : Int32) (gk gb ge po oa mn cu og vl_ tp ce lN lC sk yA cd ou sN sS sQ sM : Nat → Int32), cs_M cp ml mn → cs_Gn gc gp gk gb ge → cs_Pr oc po oa yA → cs_F ph gp cl ol vl pa bk ix cL cH im yn cu → P (cp, pr, ph, gc, gp, oc, ml, cl, ol, vl, tr, ac, ca, pa, bk, ix, cL, cH, im, tl, tk, dr, cc, ld, sd, gk, gb, ge, po, oa, mn, cu, og, vl_, tp, ce, lN, lC, sk) (pr, cp, ph, gc, gp, oc, ml, cl, ol, vl, tr, ac, ca, pa, bk, ix, cL, cH, im, yn, yl, yt, yr, yo, gk, gb, po, yA, mn, cu, og, vl_, cd, ou, sN, sS, sQ, sM, sk)) : P u v := by
  obtain ⟨cp, pr, ph, gc, gp, oc, ml, cl, ol, vl, tr, ac, ca, pa, bk, ix, cL, cH, im, tl, tk, dr, cc, ld, sd, yn, yl, yt, yr, yo, gk, gb, ge, po, oa, mn, cu, og, vl_, tp, ce, lN, lC, sk, yA, cd, ou, sN, sS, sQ, sM, rfl, rfl, hM, hG, hP, hF⟩ := I
  exact h cp pr ph gc gp oc ml cl ol vl tr ac ca pa bk ix cL cH im tl tk dr cc ld sd yn yl yt yr yo gk gb ge po oa mn cu og vl_ tp ce lN lC sk yA cd ou sN sS sQ sM hM hG hP hF
theorem cs_nm1 {n : Nat} (h : n < 2 ^ 31) : ¬ nI n = -1 := by
  intro e
  have e1 := congrArg Int32.toInt e
  rw [nI_toInt h, show (-1 : Int32).toInt = -1 from by decide] at e1
  omega
theorem cs_M0 {cp ml : Int32} {mn : Nat → Int32} (h : cs_M cp ml mn) : cs_M cp 0 mn := by
  obtain ⟨c, m, h1, h2, h3, h4, h5, h6⟩ := h
  exact ⟨c, 0, h1, h2, by omega, h4, rfl, cs_by0 mn⟩
theorem cs_F0 (gp : Int32) (cu : Nat → Int32) : cs_F 0 gp 0 0 0 0 0 0 0 0 0 0 cu :=
  ⟨0, 0, 0, by omega, by omega, by omega, rfl, rfl, rfl, cs_by0 cu, Or.inl rfl⟩
