def cs_con (cp ph gc gp oc ml cl ol vl tr ac ca pa bk ix cL cH im dr sd yn : Int32) (gk gb ge po oa mn cu og vl_ sk yA : Nat → Int32) (lim M n : Nat) (en : Nat → Nat) (F : List cs_Fr) (t L : Nat) (pr yl : Int32) (tp ce lN lC cd ou sN sS sQ sM : Nat → Int32) : Prop :=
  ∃ (r pr' tk' cc' ld' yl' yt' yo' : Int32) (tp' ce' lN' lC' cd' ou' sN' sS' sQ' sM' : Nat → Int32), cs_fin r tk' cc' yt' yo' tp' ce' cd' ou' ∧
  (∀ (post : Int32 → SX → Prop) (fuel st : Nat), M < fuel → st + M < 1000000 → post r (cp, pr', ph, gc, gp, oc, ml, cl, ol, vl, tr, ac, ca, pa, bk, ix, cL, cH, im, nI lim, tk', dr, cc', ld', sd, gk, gb, ge, po, oa, mn, cu, og, vl_, tp', ce', lN', lC', sk) → wX_generate_19 post fuel (nI (cs_pos gk en n F)) (nI st) cp pr ph gc gp oc ml cl ol vl tr ac ca pa bk ix cL cH im (nI lim) (nI t) dr (nI L) (nI (cs_L gk F).length) sd gk gb ge po oa mn cu og vl_ tp ce lN lC sk) ∧
  (∀ (post : Int32 → SY → Prop) (fuel i : Nat), M < fuel → i + M ≤ 8192 → post r (pr', cp, ph, gc, gp, oc, ml, cl, ol, vl, tr, ac, ca, pa, bk, ix, cL, cH, im, yn, yl', yt', dr, yo', gk, gb, po, yA, mn, cu, og, vl_, cd', ou', sN', sS', sQ', sM', sk) → wY_generate_50 post fuel (nI F.length) (nI i) pr cp ph gc gp oc ml cl ol vl tr ac ca pa bk ix cL cH im yn yl (nI t) dr (nI L) gk gb po yA mn cu og vl_ cd ou sN sS sQ sM sk)
section
variable {cp pr ph gc gp oc ml cl ol vl tr ac ca pa bk ix cL cH im tl tk dr cc ld sd yn yl yt yr yo : Int32} {gk gb ge po oa mn cu og vl_ tp ce lN lC sk yA cd ou sN sS sQ sM : Nat → Int32}
variable {lim M n t L t2 L2 : Nat} {en : Nat → Nat} {F F2 : List cs_Fr} {pr2 yl2 : Int32} {tp2 ce2 lN2 lC2 cd2 ou2 sN2 sS2 sQ2 sM2 : Nat → Int32}
theorem cs_conT (h : cs_con cp ph gc gp oc ml cl ol vl tr ac ca pa bk ix cL cH im dr sd yn gk gb ge po oa mn cu og vl_ sk yA lim M n en F2 t2 L2 pr2 yl2 tp2 ce2 lN2 lC2 cd2 ou2 sN2 sS2 sQ2 sM2)
    (hx : ∀ (post : Int32 → SX → Prop) (fuel st : Nat), st < 1000000 → wX_generate_19 post fuel (nI (cs_pos gk en n F2)) (nI (st + 1)) cp pr2 ph gc gp oc ml cl ol vl tr ac ca pa bk ix cL cH im (nI lim) (nI t2) dr (nI L2) (nI (cs_L gk F2).length) sd gk gb ge po oa mn cu og vl_ tp2 ce2 lN2 lC2 sk → wX_generate_19 post (fuel + 1) (nI (cs_pos gk en n F)) (nI st) cp pr ph gc gp oc ml cl ol vl tr ac ca pa bk ix cL cH im (nI lim) (nI t) dr (nI L) (nI (cs_L gk F).length) sd gk gb ge po oa mn cu og vl_ tp ce lN lC sk)
    (hy : ∀ (post : Int32 → SY → Prop) (fuel i : Nat), i < 8192 → wY_generate_50 post fuel (nI F2.length) (nI (i + 1)) pr2 cp ph gc gp oc ml cl ol vl tr ac ca pa bk ix cL cH im yn yl2 (nI t2) dr (nI L2) gk gb po yA mn cu og vl_ cd2 ou2 sN2 sS2 sQ2 sM2 sk → wY_generate_50 post (fuel + 1) (nI F.length) (nI i) pr cp ph gc gp oc ml cl ol vl tr ac ca pa bk ix cL cH im yn yl (nI t) dr (nI L) gk gb po yA mn cu og vl_ cd ou sN sS sQ sM sk) :
    cs_con cp ph gc gp oc ml cl ol vl tr ac ca pa bk ix cL cH im dr sd yn gk gb ge po oa mn cu og vl_ sk yA lim (M + 1) n en F t L pr yl tp ce lN lC cd ou sN sS sQ sM := by
  obtain ⟨r, pr', tk', cc', ld', yl', yt', yo', tp', ce', lN', lC', cd', ou', sN', sS', sQ', sM', hf, HX, HY⟩ := h
  refine ⟨r, pr', tk', cc', ld', yl', yt', yo', tp', ce', lN', lC', cd', ou', sN', sS', sQ', sM', hf, fun post fuel st h1 h2 hp => ?_, fun post fuel i h1 h2 hp => ?_⟩
  · obtain ⟨f, rfl⟩ : ∃ f, fuel = f + 1 := ⟨fuel - 1, by omega⟩
    exact hx post f st (by omega) (HX post f (st + 1) (by omega) (by omega) hp)
  · obtain ⟨f, rfl⟩ : ∃ f, fuel = f + 1 := ⟨fuel - 1, by omega⟩
    exact hy post f i (by omega) (HY post f (i + 1) (by omega) (by omega) hp)
theorem cs_conS (h : cs_con cp ph gc gp oc ml cl ol vl tr ac ca pa bk ix cL cH im dr sd yn gk gb ge po oa mn cu og vl_ sk yA lim M n en F2 t L pr yl tp ce lN lC cd ou2 sN2 sS2 sQ2 sM2) (h1 : cs_pos gk en n F2 = cs_pos gk en n F) (h2 : (cs_L gk F2).length = (cs_L gk F).length)
    (hy : ∀ (post : Int32 → SY → Prop) (fuel i : Nat), i < 8192 → wY_generate_50 post fuel (nI F2.length) (nI (i + 1)) pr cp ph gc gp oc ml cl ol vl tr ac ca pa bk ix cL cH im yn yl (nI t) dr (nI L) gk gb po yA mn cu og vl_ cd ou2 sN2 sS2 sQ2 sM2 sk → wY_generate_50 post (fuel + 1) (nI F.length) (nI i) pr cp ph gc gp oc ml cl ol vl tr ac ca pa bk ix cL cH im yn yl (nI t) dr (nI L) gk gb po yA mn cu og vl_ cd ou sN sS sQ sM sk) :
    cs_con cp ph gc gp oc ml cl ol vl tr ac ca pa bk ix cL cH im dr sd yn gk gb ge po oa mn cu og vl_ sk yA lim (M + 1) n en F t L pr yl tp ce lN lC cd ou sN sS sQ sM := by
  obtain ⟨r, pr', tk', cc', ld', yl', yt', yo', tp', ce', lN', lC', cd', ou', sN', sS', sQ', sM', hf, HX, HY⟩ := h
  refine ⟨r, pr', tk', cc', ld', yl', yt', yo', tp', ce', lN', lC', cd', ou', sN', sS', sQ', sM', hf, fun post fuel st h3 h4 hp => ?_, fun post fuel i h3 h4 hp => ?_⟩
  · rw [← h1, ← h2]
    exact HX post fuel st (by omega) (by omega) hp
  · obtain ⟨f, rfl⟩ : ∃ f, fuel = f + 1 := ⟨fuel - 1, by omega⟩
    exact hy post f i (by omega) (HY post f (i + 1) (by omega) (by omega) hp)
end
