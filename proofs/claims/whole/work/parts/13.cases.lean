section
variable {cp pr ph gc gp oc ml cl ol vl tr ac ca pa bk ix cL cH im tl tk dr cc ld sd yn yl yt yr yo : Int32} {gk gb ge po oa mn cu og vl_ tp ce lN lC sk yA cd ou sN sS sQ sM : Nat → Int32}
variable {lim M n t L nd q m : Nat} {en : Nat → Nat} {fs : List cs_Fr}
theorem cs_c1 (G : cs_G gk en n) (hge : ∀ j, j < n → ge j = nI (en j)) (hgb : ∀ j, j < n → ∃ b : Nat, b < 256 ∧ gb j = nI b) (hc : dr ≠ 0 → cp = nI lim)
    (ih : ∀ (F : List cs_Fr) (t L : Nat) (pr yl : Int32) (tp ce lN lC cd ou sN sS sQ sM : Nat → Int32), cs_mu gk en n lim t F < M → cs_S gk en n F L ce ou sN sS sQ sM lN lC → L ≤ 32 → cs_T dr yl lim t tp cd → cs_con cp ph (nI n) gp oc ml cl ol vl tr ac ca pa bk ix cL cH im dr sd yn gk gb ge po oa mn cu og vl_ sk yA lim M n en F t L pr yl tp ce lN lC cd ou sN sS sQ sM)
    (hmu : cs_mu gk en n lim t ((nd, 0, q, m) :: fs) < M + 1) (hS : cs_S gk en n ((nd, 0, q, m) :: fs) L ce ou sN sS sQ sM lN lC) (hL : L ≤ 32) (hT : cs_T dr yl lim t tp cd) (k : gk nd = 1) : cs_con cp ph (nI n) gp oc ml cl ol vl tr ac ca pa bk ix cL cH im dr sd yn gk gb ge po oa mn cu og vl_ sk yA lim (M + 1) n en ((nd, 0, q, m) :: fs) t L pr yl tp ce lN lC cd ou sN sS sQ sM := by
  have n16 := G.2.1
  obtain ⟨hn, hfl, hN, hs, _⟩ := cs_tf G hS
  obtain ⟨_, _, hll, hz⟩ := cs_nz G hS
  obtain ⟨b, hb2, hb⟩ := hgb nd hn
  have e0 : cs_pos gk en n ((nd, 0, q, m) :: fs) = nd := cs_p0 gk en n nd q m fs
  have e1 : cs_L gk ((nd, 0, q, m) :: fs) = cs_L gk fs := cs_L0 gk nd q m fs
  rcases cs_take (cp := cp) (pr := pr) (ph := ph) (gc := nI n) (gp := gp) (oc := oc) (ml := ml) (cl := cl) (ol := ol) (vl := vl) (tr := tr) (ac := ac) (ca := ca) (pa := pa) (bk := bk) (ix := ix) (cL := cL) (cH := cH) (im := im) (dr := dr) (cc := nI L) (ld := nI (cs_L gk fs).length) (sd := sd) (gk := gk) (gb := gb) (ge := ge) (po := po) (oa := oa) (mn := mn) (cu := cu) (og := og) (vl_ := vl_) (tp := tp) (ce := ce) (lN := lN) (lC := lC) (sk := sk) (yn := yn) (yl := yl) (yo := nI L) (yA := yA) (cd := cd) (ou := ou) (sN := sN) (sS := sS) (sQ := sQ) (sM := sM) (w := b + 1) (lim := lim) (t := t) (b := nI b) (by omega) (by omega) (Or.inl rfl) hc hT with ⟨ht, hX, hY⟩ | ⟨ht, c, pr', yl', tp', cd', hc2, hT', hX, hY⟩
  · refine ⟨0, pr, nI t, nI L, nI (cs_L gk fs).length, yl, nI t, nI L, tp, ce, lN, lC, cd, ou, sN, sS, sQ, sM, Or.inl rfl, fun post fuel st h1 h2 hp => ?_, fun post fuel i h1 h2 hp => ?_⟩
    · obtain ⟨f, rfl⟩ : ∃ f, fuel = f + 1 + 1 := ⟨fuel - 2, by omega⟩
      rw [e0, e1]
      exact cs_gxJ (by omega) hn n16 hge hz post (cs_gxI hn n16 k post (fun p h => cs_xgi0 (by omega) hb p hX h) (cs_gxF (by omega) post hp))
    · obtain ⟨f, rfl⟩ : ∃ f, fuel = f + 1 := ⟨fuel - 1, by omega⟩
      rw [List.length_cons]
      exact cs_gy1F (by omega) hn n16 (by omega) hN k hb hY post hp
  · by_cases hL2 : L < 32
    · obtain ⟨S', m', p'⟩ := cs_t1 G k hS (nI (c % (b + 1))) lim t ht
      refine cs_conT (ih fs (t + 1) (L + 1) pr' yl' tp' (upd ce L (nI (c % (b + 1)))) lN lC cd' (upd ou L (nI (c % (b + 1)))) sN sS sQ sM (by omega) S' (by omega) hT') (fun post fuel st h1 h2 => ?_) (fun post fuel i h1 h2 => ?_)
      · rw [e0, e1]
        rw [p'] at h2
        exact cs_gxJ h1 hn n16 hge hz post (cs_gxI hn n16 k post (fun p h => cs_xgi2 (by omega) hb hb2 hc2 hL2 p hX h) h2)
      · rw [List.length_cons]
        exact cs_gy1 (by omega) hn n16 h1 hN k hb hb2 hc2 hL2 hY post h2
    · have z : L = 32 := by omega
      subst z
      refine ⟨0, pr', nI (t + 1), nI 32, nI (cs_L gk fs).length, yl', nI (t + 1), nI 32, tp', ce, lN, lC, cd', ou, sN, sS, sQ, sM, Or.inl rfl, fun post fuel st h1 h2 hp => ?_, fun post fuel i h1 h2 hp => ?_⟩
      · obtain ⟨f, rfl⟩ : ∃ f, fuel = f + 1 + 1 := ⟨fuel - 2, by omega⟩
        rw [e0, e1]
        exact cs_gxJ (by omega) hn n16 hge hz post (cs_gxI hn n16 k post (fun p h => cs_xgi1 (by omega) hb hb2 hc2 p hX h) (cs_gxF (by omega) post hp))
      · obtain ⟨f, rfl⟩ : ∃ f, fuel = f + 1 := ⟨fuel - 1, by omega⟩
        rw [List.length_cons]
        exact cs_gy1G (by omega) hn n16 (by omega) hN k hb hc2 hY post hp
theorem cs_c2 (G : cs_G gk en n) (hge : ∀ j, j < n → ge j = nI (en j)) (hgb : ∀ j, j < n → ∃ b : Nat, b < 256 ∧ gb j = nI b) (hc : dr ≠ 0 → cp = nI lim)
    (ih : ∀ (F : List cs_Fr) (t L : Nat) (pr yl : Int32) (tp ce lN lC cd ou sN sS sQ sM : Nat → Int32), cs_mu gk en n lim t F < M → cs_S gk en n F L ce ou sN sS sQ sM lN lC → L ≤ 32 → cs_T dr yl lim t tp cd → cs_con cp ph (nI n) gp oc ml cl ol vl tr ac ca pa bk ix cL cH im dr sd yn gk gb ge po oa mn cu og vl_ sk yA lim M n en F t L pr yl tp ce lN lC cd ou sN sS sQ sM)
    (hmu : cs_mu gk en n lim t ((nd, 0, q, m) :: fs) < M + 1) (hS : cs_S gk en n ((nd, 0, q, m) :: fs) L ce ou sN sS sQ sM lN lC) (hL : L ≤ 32) (hT : cs_T dr yl lim t tp cd) (k : gk nd = 3) : cs_con cp ph (nI n) gp oc ml cl ol vl tr ac ca pa bk ix cL cH im dr sd yn gk gb ge po oa mn cu og vl_ sk yA lim (M + 1) n en ((nd, 0, q, m) :: fs) t L pr yl tp ce lN lC cd ou sN sS sQ sM := by
  have n16 := G.2.1
  obtain ⟨hn, hfl, hN, hs, _⟩ := cs_tf G hS
  obtain ⟨_, _, hll, hz⟩ := cs_nz G hS
  have e0 : cs_pos gk en n ((nd, 0, q, m) :: fs) = nd := cs_p0 gk en n nd q m fs
  have e1 : cs_L gk ((nd, 0, q, m) :: fs) = cs_L gk fs := cs_L0 gk nd q m fs
  obtain ⟨S', m', p'⟩ := cs_t2 G k hS lim t
  have e2 : cs_pos gk en n ((nd + 1, 0, 0, 0) :: (nd, 1, q, m) :: fs) = nd + 1 := cs_p0 gk en n (nd + 1) 0 0 _
  have e3 : cs_L gk ((nd + 1, 0, 0, 0) :: (nd, 1, q, m) :: fs) = cs_L gk fs := (cs_L0 gk (nd + 1) 0 0 _).trans (cs_L3 k 1 q m fs)
  refine cs_conT (ih _ t L pr yl tp ce lN lC cd ou _ _ sQ sM (by omega) S' hL hT) (fun post fuel st h1 h2 => ?_) (fun post fuel i h1 h2 => ?_)
  · rw [e0, e1]
    rw [e2, e3] at h2
    exact cs_gxJ h1 hn n16 hge hz post (cs_gxP hn n16 k post h2)
  · rw [List.length_cons]
    rw [List.length_cons, List.length_cons] at h2
    exact cs_gy2 (by omega) hn n16 h1 hN k hs p' post h2
theorem cs_c3 (G : cs_G gk en n) (hge : ∀ j, j < n → ge j = nI (en j)) (hgb : ∀ j, j < n → ∃ b : Nat, b < 256 ∧ gb j = nI b) (hc : dr ≠ 0 → cp = nI lim)
    (ih : ∀ (F : List cs_Fr) (t L : Nat) (pr yl : Int32) (tp ce lN lC cd ou sN sS sQ sM : Nat → Int32), cs_mu gk en n lim t F < M → cs_S gk en n F L ce ou sN sS sQ sM lN lC → L ≤ 32 → cs_T dr yl lim t tp cd → cs_con cp ph (nI n) gp oc ml cl ol vl tr ac ca pa bk ix cL cH im dr sd yn gk gb ge po oa mn cu og vl_ sk yA lim M n en F t L pr yl tp ce lN lC cd ou sN sS sQ sM)
    (hmu : cs_mu gk en n lim t ((nd, 1, q, m) :: fs) < M + 1) (hS : cs_S gk en n ((nd, 1, q, m) :: fs) L ce ou sN sS sQ sM lN lC) (hL : L ≤ 32) (hT : cs_T dr yl lim t tp cd) (k : gk nd = 3) : cs_con cp ph (nI n) gp oc ml cl ol vl tr ac ca pa bk ix cL cH im dr sd yn gk gb ge po oa mn cu og vl_ sk yA lim (M + 1) n en ((nd, 1, q, m) :: fs) t L pr yl tp ce lN lC cd ou sN sS sQ sM := by
  have n16 := G.2.1
  obtain ⟨hn, hfl, hN, hs, _⟩ := cs_tf G hS
  obtain ⟨S', m', p1, p2⟩ := cs_t3 G k hS lim t
  have e3 : cs_L gk ((en (nd + 1), 0, 0, 0) :: (nd, 2, q, m) :: fs) = cs_L gk ((nd, 1, q, m) :: fs) := ((cs_L0 gk _ 0 0 _).trans (cs_L3 k 2 q m fs)).trans (cs_L3 k 1 q m fs).symm
  have hp := cs_par G hn k
  have H := G.2.2.2
  refine cs_conS (ih _ t L pr yl tp ce lN lC cd ou _ _ sQ sM (by omega) S' hL hT) p2 (by rw [e3]) (fun post fuel i h1 h2 => ?_)
  rw [List.length_cons]
  rw [List.length_cons, List.length_cons] at h2
  exact cs_gy3 (by omega) hn n16 h1 hN k hs p1 (fun j hj => ⟨(H j hj).1, (H j hj).2.2⟩) (H (nd + 1) hp.1).2.1 post h2
theorem cs_c4 (G : cs_G gk en n) (hge : ∀ j, j < n → ge j = nI (en j)) (hgb : ∀ j, j < n → ∃ b : Nat, b < 256 ∧ gb j = nI b) (hc : dr ≠ 0 → cp = nI lim)
    (ih : ∀ (F : List cs_Fr) (t L : Nat) (pr yl : Int32) (tp ce lN lC cd ou sN sS sQ sM : Nat → Int32), cs_mu gk en n lim t F < M → cs_S gk en n F L ce ou sN sS sQ sM lN lC → L ≤ 32 → cs_T dr yl lim t tp cd → cs_con cp ph (nI n) gp oc ml cl ol vl tr ac ca pa bk ix cL cH im dr sd yn gk gb ge po oa mn cu og vl_ sk yA lim M n en F t L pr yl tp ce lN lC cd ou sN sS sQ sM)
    (hmu : cs_mu gk en n lim t ((nd, 2, q, m) :: fs) < M + 1) (hS : cs_S gk en n ((nd, 2, q, m) :: fs) L ce ou sN sS sQ sM lN lC) (hL : L ≤ 32) (hT : cs_T dr yl lim t tp cd) (k : gk nd = 3) : cs_con cp ph (nI n) gp oc ml cl ol vl tr ac ca pa bk ix cL cH im dr sd yn gk gb ge po oa mn cu og vl_ sk yA lim (M + 1) n en ((nd, 2, q, m) :: fs) t L pr yl tp ce lN lC cd ou sN sS sQ sM := by
  have n16 := G.2.1
  obtain ⟨hn, hfl, hN, hs, _⟩ := cs_tf G hS
  obtain ⟨S', m', p2⟩ := cs_t4 G k hS lim t
  have e3 : cs_L gk fs = cs_L gk ((nd, 2, q, m) :: fs) := (cs_L3 k 2 q m fs).symm
  refine cs_conS (ih _ t L pr yl tp ce lN lC cd ou _ _ sQ sM (by omega) S' hL hT) p2 (by rw [e3]) (fun post fuel i h1 h2 => ?_)
  rw [List.length_cons]
  exact cs_gy4 (by omega) hn n16 h1 hN k hs post h2
theorem cs_c5 (G : cs_G gk en n) (hge : ∀ j, j < n → ge j = nI (en j)) (hgb : ∀ j, j < n → ∃ b : Nat, b < 256 ∧ gb j = nI b) (hc : dr ≠ 0 → cp = nI lim)
    (ih : ∀ (F : List cs_Fr) (t L : Nat) (pr yl : Int32) (tp ce lN lC cd ou sN sS sQ sM : Nat → Int32), cs_mu gk en n lim t F < M → cs_S gk en n F L ce ou sN sS sQ sM lN lC → L ≤ 32 → cs_T dr yl lim t tp cd → cs_con cp ph (nI n) gp oc ml cl ol vl tr ac ca pa bk ix cL cH im dr sd yn gk gb ge po oa mn cu og vl_ sk yA lim M n en F t L pr yl tp ce lN lC cd ou sN sS sQ sM)
    (hmu : cs_mu gk en n lim t ((nd, 0, q, m) :: fs) < M + 1) (hS : cs_S gk en n ((nd, 0, q, m) :: fs) L ce ou sN sS sQ sM lN lC) (hL : L ≤ 32) (hT : cs_T dr yl lim t tp cd) (k : gk nd = 2) : cs_con cp ph (nI n) gp oc ml cl ol vl tr ac ca pa bk ix cL cH im dr sd yn gk gb ge po oa mn cu og vl_ sk yA lim (M + 1) n en ((nd, 0, q, m) :: fs) t L pr yl tp ce lN lC cd ou sN sS sQ sM := by
  have n16 := G.2.1
  obtain ⟨hn, hfl, hN, hs, _⟩ := cs_tf G hS
  obtain ⟨_, _, hll, hz⟩ := cs_nz G hS
  have e0 : cs_pos gk en n ((nd, 0, q, m) :: fs) = nd := cs_p0 gk en n nd q m fs
  have e1 : cs_L gk ((nd, 0, q, m) :: fs) = cs_L gk fs := cs_L0 gk nd q m fs
  by_cases hL2 : L < 32
  · obtain ⟨S', m'⟩ := cs_t5 G k hS lim t
    have e2 : cs_pos gk en n ((nd, 1, L, 0) :: fs) = en nd := cs_p21 en n k L 0 fs
    have e3 : cs_L gk ((nd, 1, L, 0) :: fs) = (nd, L) :: cs_L gk fs := cs_L2 k 0 L 0 fs
    refine cs_conT (ih _ t (L + 1) pr yl tp _ _ _ cd _ sN _ _ _ (by omega) S' (by omega) hT) (fun post fuel st h1 h2 => ?_) (fun post fuel i h1 h2 => ?_)
    · rw [e0, e1]
      rw [e2, e3, List.length_cons] at h2
      exact cs_gxJ h1 hn n16 hge hz post (cs_gxO hn n16 k post (fun p h => cs_xol1 (by omega) hL2 (by omega) (hge nd hn) p h) h2)
    · rw [List.length_cons]
      rw [List.length_cons] at h2
      exact cs_gy5 (by omega) hn n16 h1 hN k hL2 hs post h2
  · have z : L = 32 := by omega
    subst z
    refine ⟨0, pr, nI t, nI 32, nI (cs_L gk fs).length, yl, nI t, nI 32, tp, ce, lN, lC, cd, ou, sN, sS, sQ, sM, Or.inl rfl, fun post fuel st h1 h2 hp => ?_, fun post fuel i h1 h2 hp => ?_⟩
    · obtain ⟨f, rfl⟩ : ∃ f, fuel = f + 1 + 1 := ⟨fuel - 2, by omega⟩
      rw [e0, e1]
      exact cs_gxJ (by omega) hn n16 hge hz post (cs_gxO hn n16 k post (fun p h => cs_xol0 p h) (cs_gxF (by omega) post hp))
    · obtain ⟨f, rfl⟩ : ∃ f, fuel = f + 1 := ⟨fuel - 1, by omega⟩
      rw [List.length_cons]
      exact cs_gy5F (by omega) hn n16 (by omega) hN k hs post hp
theorem cs_c6 (G : cs_G gk en n) (hge : ∀ j, j < n → ge j = nI (en j)) (hgb : ∀ j, j < n → ∃ b : Nat, b < 256 ∧ gb j = nI b) (hc : dr ≠ 0 → cp = nI lim)
    (ih : ∀ (F : List cs_Fr) (t L : Nat) (pr yl : Int32) (tp ce lN lC cd ou sN sS sQ sM : Nat → Int32), cs_mu gk en n lim t F < M → cs_S gk en n F L ce ou sN sS sQ sM lN lC → L ≤ 32 → cs_T dr yl lim t tp cd → cs_con cp ph (nI n) gp oc ml cl ol vl tr ac ca pa bk ix cL cH im dr sd yn gk gb ge po oa mn cu og vl_ sk yA lim M n en F t L pr yl tp ce lN lC cd ou sN sS sQ sM)
    (hmu : cs_mu gk en n lim t ((nd, 2, q, m) :: fs) < M + 1) (hS : cs_S gk en n ((nd, 2, q, m) :: fs) L ce ou sN sS sQ sM lN lC) (hL : L ≤ 32) (hT : cs_T dr yl lim t tp cd) (k : gk nd = 2) : cs_con cp ph (nI n) gp oc ml cl ol vl tr ac ca pa bk ix cL cH im dr sd yn gk gb ge po oa mn cu og vl_ sk yA lim (M + 1) n en ((nd, 2, q, m) :: fs) t L pr yl tp ce lN lC cd ou sN sS sQ sM := by
  have n16 := G.2.1
  obtain ⟨hn, hfl, hN, hs, _⟩ := cs_tf G hS
  obtain ⟨S', m', p2⟩ := cs_t6 G k hS lim t
  have e3 : cs_L gk ((nd, 1, q, m + 1) :: fs) = cs_L gk ((nd, 2, q, m) :: fs) := (cs_L2 k 0 q (m + 1) fs).trans (cs_L2 k 1 q m fs).symm
  have hm : sM fs.length = nI m := (hS.2.1.2.2.1 k (show (2 : Nat) ≠ 0 by decide)).2
  refine cs_conS (ih _ t L pr yl tp ce lN lC cd ou sN _ sQ _ (by omega) S' hL hT) p2 (by rw [e3]) (fun post fuel i h1 h2 => ?_)
  rw [List.length_cons]
  rw [List.length_cons] at h2
  exact cs_gy6 (by omega) hn n16 h1 hN k hs hm post h2
theorem cs_c7 (G : cs_G gk en n) (hge : ∀ j, j < n → ge j = nI (en j)) (hgb : ∀ j, j < n → ∃ b : Nat, b < 256 ∧ gb j = nI b) (hc : dr ≠ 0 → cp = nI lim)
    (ih : ∀ (F : List cs_Fr) (t L : Nat) (pr yl : Int32) (tp ce lN lC cd ou sN sS sQ sM : Nat → Int32), cs_mu gk en n lim t F < M → cs_S gk en n F L ce ou sN sS sQ sM lN lC → L ≤ 32 → cs_T dr yl lim t tp cd → cs_con cp ph (nI n) gp oc ml cl ol vl tr ac ca pa bk ix cL cH im dr sd yn gk gb ge po oa mn cu og vl_ sk yA lim M n en F t L pr yl tp ce lN lC cd ou sN sS sQ sM)
    (hmu : cs_mu gk en n lim t ((nd, 1, q, m) :: fs) < M + 1) (hS : cs_S gk en n ((nd, 1, q, m) :: fs) L ce ou sN sS sQ sM lN lC) (hL : L ≤ 32) (hT : cs_T dr yl lim t tp cd) (k : gk nd = 2) : cs_con cp ph (nI n) gp oc ml cl ol vl tr ac ca pa bk ix cL cH im dr sd yn gk gb ge po oa mn cu og vl_ sk yA lim (M + 1) n en ((nd, 1, q, m) :: fs) t L pr yl tp ce lN lC cd ou sN sS sQ sM := by
  have n16 := G.2.1
  obtain ⟨hn, hfl, hN, hs, _⟩ := cs_tf G hS
  obtain ⟨_, _, hll, hlen, hlN, hlC, hq, hcq, hm8, hQ, hM⟩ := cs_lz G k hS
  have hen := (cs_le G hn).2
  have e0 : cs_pos gk en n ((nd, 1, q, m) :: fs) = en nd := cs_p21 en n k q m fs
  by_cases h8 : m = 8
  · obtain ⟨S', m', p'⟩ := cs_t7 G k hS lim t t (Nat.le_refl t)
    refine cs_conT (ih fs t L pr yl tp ce lN lC cd _ sN sS sQ sM (by omega) S' hL hT) (fun post fuel st h1 h2 => ?_) (fun post fuel i h1 h2 => ?_)
    · rw [e0, hlen]
      rw [p'] at h2
      exact cs_gxL h1 hn n16 hen hge (by omega) hlN post (fun p h => cs_xcl8 (by omega) (by omega) (by omega) hlN hlC (by rw [hcq, h8]) (hge nd hn) p h) h2
    · rw [List.length_cons]
      exact cs_gy7 (by omega) hn n16 h1 hN k (by omega) hs hQ hM h8 post h2
  · rcases cs_take (cp := cp) (pr := pr) (ph := ph) (gc := nI n) (gp := gp) (oc := oc) (ml := ml) (cl := cl) (ol := ol) (vl := vl) (tr := tr) (ac := ac) (ca := ca) (pa := pa) (bk := bk) (ix := ix) (cL := cL) (cH := cH) (im := im) (dr := dr) (cc := nI L) (ld := nI ((cs_L gk fs).length + 1)) (sd := sd) (gk := gk) (gb := gb) (ge := ge) (po := po) (oa := oa) (mn := mn) (cu := cu) (og := og) (vl_ := vl_) (tp := tp) (ce := ce) (lN := lN) (lC := lC) (sk := sk) (yn := yn) (yl := yl) (yo := nI L) (yA := yA) (cd := cd) (ou := ou) (sN := sN) (sS := sS) (sQ := sQ) (sM := sM) (w := 4) (lim := lim) (t := t) (b := -1) (by omega) (by omega) (Or.inr ⟨rfl, rfl⟩) hc hT with ⟨ht, hX, hY⟩ | ⟨ht, c, pr', yl', tp', cd', hc2, hT', hX, hY⟩
    · refine ⟨0, pr, nI t, nI L, nI ((cs_L gk fs).length + 1), yl, nI t, nI L, tp, ce, lN, lC, cd, ou, sN, sS, sQ, sM, Or.inl rfl, fun post fuel st h1 h2 hp => ?_, fun post fuel i h1 h2 hp => ?_⟩
      · obtain ⟨f, rfl⟩ : ∃ f, fuel = f + 1 + 1 := ⟨fuel - 2, by omega⟩
        rw [e0, hlen]
        exact cs_gxL (by omega) hn n16 hen hge (by omega) hlN post (fun p h => cs_xclt (by omega) (by omega) hlN hlC hcq (by omega) p hX (cs_xc0 p h)) (cs_gxF (by omega) post hp)
      · obtain ⟨f, rfl⟩ : ∃ f, fuel = f + 1 := ⟨fuel - 1, by omega⟩
        rw [List.length_cons]
        exact cs_gy8F (by omega) hn n16 (by omega) hN k hs hM (by omega) hY post hp
    · by_cases hc0 : c = 0
      · subst hc0
        obtain ⟨S', m', p'⟩ := cs_t7 G k hS lim t (t + 1) (by omega)
        refine cs_conT (ih fs (t + 1) L pr' yl' tp' ce lN lC cd' _ sN sS sQ sM (by omega) S' hL hT') (fun post fuel st h1 h2 => ?_) (fun post fuel i h1 h2 => ?_)
        · rw [e0, hlen]
          rw [p'] at h2
          exact cs_gxL h1 hn n16 hen hge (by omega) hlN post (fun p h => cs_xclt (by omega) (by omega) hlN hlC hcq (by omega) p hX (cs_xc1 (by omega) (hge nd hn) p h)) h2
        · rw [List.length_cons]
          exact cs_gy7t (by omega) hn n16 h1 hN k (by omega) hs hQ hM (by omega) hY post h2
      · obtain ⟨S', m', p'⟩ := cs_t8 G k hS h8 lim t ht
        have e2 : cs_pos gk en n ((nd + 1, 0, 0, 0) :: (nd, 2, q, m) :: fs) = nd + 1 := cs_p0 gk en n (nd + 1) 0 0 _
        have e3 : cs_L gk ((nd + 1, 0, 0, 0) :: (nd, 2, q, m) :: fs) = (nd, q) :: cs_L gk fs := (cs_L0 gk (nd + 1) 0 0 _).trans (cs_L2 k 1 q m fs)
        refine cs_conT (ih _ (t + 1) L pr' yl' tp' _ lN lC cd' ou _ _ sQ sM (by omega) S' hL hT') (fun post fuel st h1 h2 => ?_) (fun post fuel i h1 h2 => ?_)
        · rw [e0, hlen]
          rw [e2, e3, List.length_cons] at h2
          exact cs_gxL h1 hn n16 hen hge (by omega) hlN post (fun p h => cs_xclt (by omega) (by omega) hlN hlC hcq (by omega) p hX (cs_xc2 (by omega) hc2 hc0 hcq p h)) h2
        · rw [List.length_cons]
          rw [List.length_cons, List.length_cons] at h2
          exact cs_gy8 (by omega) hn n16 h1 hN k hs hM (by omega) hc2 hc0 p' hY post h2
theorem cs_gen0 (G : cs_G gk en n) (hge : ∀ j, j < n → ge j = nI (en j)) (hgb : ∀ j, j < n → ∃ b : Nat, b < 256 ∧ gb j = nI b) (hc : dr ≠ 0 → cp = nI lim) :
    ∀ (M : Nat) (F : List cs_Fr) (t L : Nat) (pr yl : Int32) (tp ce lN lC cd ou sN sS sQ sM : Nat → Int32), cs_mu gk en n lim t F < M → cs_S gk en n F L ce ou sN sS sQ sM lN lC → L ≤ 32 → cs_T dr yl lim t tp cd → cs_con cp ph (nI n) gp oc ml cl ol vl tr ac ca pa bk ix cL cH im dr sd yn gk gb ge po oa mn cu og vl_ sk yA lim M n en F t L pr yl tp ce lN lC cd ou sN sS sQ sM := by
  intro M
  induction M with
  | zero => intro F t L pr yl tp ce lN lC cd ou sN sS sQ sM hmu; omega
  | succ M ih =>
    intro F t L pr yl tp ce lN lC cd ou sN sS sQ sM hmu hS hL hT
    have n16 := G.2.1
    cases F with
    | nil =>
      obtain ⟨h1, h2, h3, h4, h5, h6⟩ := hT
      refine ⟨1, pr, nI t, nI L, nI 0, yl, nI t, nI L, tp, ce, lN, lC, cd, ou, sN, sS, sQ, sM, Or.inr ⟨rfl, t, L, by omega, hL, rfl, rfl, rfl, rfl, h4, h5, fun j hj => hS.2.2.2.2 j hj (fun p hp => absurd hp (by simp [cs_L]))⟩, fun post fuel st h1 h2 hp => ?_, fun post fuel i h1 h2 hp => ?_⟩
      · obtain ⟨f, rfl⟩ : ∃ f, fuel = f + 1 := ⟨fuel - 1, by omega⟩
        exact cs_gxE n16 (by omega) post hp
      · obtain ⟨f, rfl⟩ : ∃ f, fuel = f + 1 := ⟨fuel - 1, by omega⟩
        exact cs_gyE post hp
    | cons fr fs =>
      obtain ⟨nd, s, q, m⟩ := fr
      obtain ⟨hn, _, _, _, hst⟩ := cs_tf G hS
      have hk := (G.2.2.2 nd hn).2.2
      by_cases s0 : s = 0
      · subst s0
        rcases hk with k | k | k
        · exact cs_c1 G hge hgb hc ih hmu hS hL hT k
        · exact cs_c5 G hge hgb hc ih hmu hS hL hT k
        · exact cs_c2 G hge hgb hc ih hmu hS hL hT k
      · obtain ⟨k | k, rfl | rfl⟩ := hst.resolve_left s0
        · exact cs_c3 G hge hgb hc ih hmu hS hL hT k
        · exact cs_c4 G hge hgb hc ih hmu hS hL hT k
        · exact cs_c7 G hge hgb hc ih hmu hS hL hT k
        · exact cs_c6 G hge hgb hc ih hmu hS hL hT k
end
