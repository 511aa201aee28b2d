def gs_post (ok : Bool) (n lim t' L' : Nat) (dr : Int32) (T' V : Nat → Int32) (cp ph gp oc ml cl ol vl tr ac ca pa bk ix cL cH im sd : Int32) (gk gb ge po oa mn cu og vl_ sk : Nat → Int32) (post : Int32 → St2 → Prop) : Prop :=
  (ok = true → ∀ (pr' ld' : Int32) (tp' ce' lN' lC' : Nat → Int32), (∀ j, j < t' → tp' j = T' j) → (∀ j, j < L' → ce' j = V j) → post 1 (cp, pr', ph, nI n, gp, oc, ml, cl, ol, vl, tr, ac, ca, pa, bk, ix, cL, cH, im, nI lim, nI t', dr, nI L', ld', sd, gk, gb, ge, po, oa, mn, cu, og, vl_, tp', ce', lN', lC', sk)) ∧
  (ok = false → ∀ (pr' tk' cc' ld' : Int32) (tp' ce' lN' lC' : Nat → Int32), post 0 (cp, pr', ph, nI n, gp, oc, ml, cl, ol, vl, tr, ac, ca, pa, bk, ix, cL, cH, im, nI lim, tk', dr, cc', ld', sd, gk, gb, ge, po, oa, mn, cu, og, vl_, tp', ce', lN', lC', sk))
def gs_go (gk gb : Nat → Int32) (en : Nat → Nat) (n lim ag : Nat) (dr : Int32) (M : Nat) (F : List cs_Fr) (t L : Nat) (pr : Int32) (T ce : Nat → Int32) (ok : Bool) (t' L' : Nat) (T' V : Nat → Int32) : Prop :=
  ∀ (cp ph gp oc ml cl ol vl tr ac ca pa bk ix cL cH im sd prR : Int32) (ge po oa mn cu og vl_ sk tp ceR lN lC : Nat → Int32) (post : Int32 → St2 → Prop) (fuel st : Nat), M < fuel → st + M < 1000000 → (∀ j, j < n → ge j = nI (en j)) → (∀ j, j < ag → tp j = T j) → (dr ≠ 0 → prR = pr) → (∀ j, j < L → ceR j = ce j) → cs_xl lN lC (cs_L gk F) → gs_post ok n lim t' L' dr T' V cp ph gp oc ml cl ol vl tr ac ca pa bk ix cL cH im sd gk gb ge po oa mn cu og vl_ sk post →
  wX_generate_19 post fuel (nI (cs_pos gk en n F)) (nI st) cp prR ph (nI n) gp oc ml cl ol vl tr ac ca pa bk ix cL cH im (nI lim) (nI t) dr (nI L) (nI (cs_L gk F).length) sd gk gb ge po oa mn cu og vl_ tp ceR lN lC sk
def gs_tk (n lim ag : Nat) (dr : Int32) (t : Nat) (pr : Int32) (T : Nat → Int32) (w c ag' : Nat) (pr1 : Int32) (T1 : Nat → Int32) : Prop :=
  ∀ (cp ph gp oc ml cl ol vl tr ac ca pa bk ix cL cH im sd prR cc ld : Int32) (gk gb ge po oa mn cu og vl_ sk tp ce lN lC : Nat → Int32), (∀ j, j < ag → tp j = T j) → (dr ≠ 0 → prR = pr) → ∃ (tp' : Nat → Int32) (pr' : Int32), (∀ j, j < ag' → tp' j = T1 j) ∧ (dr ≠ 0 → pr' = pr1) ∧ ∀ post : Int32 → St2 → Prop, post (nI c) (cp, pr', ph, nI n, gp, oc, ml, cl, ol, vl, tr, ac, ca, pa, bk, ix, cL, cH, im, nI lim, nI (t + 1), dr, cc, ld, sd, gk, gb, ge, po, oa, mn, cu, og, vl_, tp', ce, lN, lC, sk) → wpX_take post (cp, prR, ph, nI n, gp, oc, ml, cl, ol, vl, tr, ac, ca, pa, bk, ix, cL, cH, im, nI lim, nI t, dr, cc, ld, sd, gk, gb, ge, po, oa, mn, cu, og, vl_, tp, ce, lN, lC, sk) (nI w)
theorem gs_tkr {n lim ag t w c : Nat} {pr : Int32} {T : Nat → Int32} (h1 : t < lim) (h2 : lim ≤ 32) (h3 : t < ag) (e : T t = nI c) : gs_tk n lim ag 0 t pr T w c ag pr T := by
  intro cp ph gp oc ml cl ol vl tr ac ca pa bk ix cL cH im sd prR cc ld gk gb ge po oa mn cu og vl_ sk tp ce lN lC ha hr
  refine ⟨tp, prR, ha, fun z => absurd rfl z, fun post hp => cs_xtr h1 h2 _ post ?_⟩
  rw [ha t h3, e]
  exact hp
theorem gs_tkd {n lim t w : Nat} {pr : Int32} {T : Nat → Int32} (h1 : t < lim) (h2 : lim ≤ 32) (hw : 0 < w) (hw2 : w ≤ 256) : gs_tk n lim t 1 t pr T w (cs_rn (pr * 1103515245 + 12345) % w) (t + 1) (pr * 1103515245 + 12345) (upd T t (nI (cs_rn (pr * 1103515245 + 12345) % w))) := by
  intro cp ph gp oc ml cl ol vl tr ac ca pa bk ix cL cH im sd prR cc ld gk gb ge po oa mn cu og vl_ sk tp ce lN lC ha hr
  have e := hr (by decide)
  subst e
  refine ⟨upd tp t (nI (cs_rn (prR * 1103515245 + 12345) % w)), prR * 1103515245 + 12345, fun j hj => ?_, fun _ => rfl, fun post hp => cs_xtd h1 h2 hw hw2 post hp⟩
  by_cases z : j = t
  · rw [z, pk_us, pk_us]
  · rw [pk_un z, pk_un z]
    exact ha j (by omega)
section
variable {gk gb T ce T1 T' V ou sN sS sQ sM lg cg : Nat → Int32} {en : Nat → Nat} {n lim ag ag' M t L nd q m c b t' L' : Nat} {dr pr pr1 : Int32} {fs F F2 : List cs_Fr} {ok : Bool}
theorem gs_still (h : gs_go gk gb en n lim ag dr M F2 t L pr T ce ok t' L' T' V) (h1 : cs_pos gk en n F2 = cs_pos gk en n F) (h2 : cs_L gk F2 = cs_L gk F) : gs_go gk gb en n lim ag dr (M + 1) F t L pr T ce ok t' L' T' V := by
  intro cp ph gp oc ml cl ol vl tr ac ca pa bk ix cL cH im sd prR ge po oa mn cu og vl_ sk tp ceR lN lC post fuel st a1 a2 hge ha hr hc hx hp
  rw [← h1, ← h2]
  exact h cp ph gp oc ml cl ol vl tr ac ca pa bk ix cL cH im sd prR ge po oa mn cu og vl_ sk tp ceR lN lC post fuel st (by omega) (by omega) hge ha hr hc (by rw [h2]; exact hx) hp
theorem gs_end (G : cs_G gk en n) (hp' : t' = t ∧ L' = L) (hT : ∀ j, j < t → T' j = T j) (hag : t ≤ ag) (hV : ∀ j, j < L → V j = ce j) : gs_go gk gb en n lim ag dr (M + 1) [] t L pr T ce true t' L' T' V := by
  obtain ⟨rfl, rfl⟩ := hp'
  intro cp ph gp oc ml cl ol vl tr ac ca pa bk ix cL cH im sd prR ge po oa mn cu og vl_ sk tp ceR lN lC post fuel st a1 a2 hge ha hr hc hx hp
  obtain ⟨f, rfl⟩ : ∃ f, fuel = f + 1 := ⟨fuel - 1, by omega⟩
  exact cs_gxE G.2.1 (by omega) post (hp.1 rfl prR (nI 0) tp ceR lN lC (fun j hj => (ha j (by omega)).trans (hT j hj).symm) (fun j hj => (hc j hj).trans (hV j hj).symm))
theorem gs_int (G : cs_G gk en n) (k : gk nd = 1) (hb : gb nd = nI b) (hb2 : b < 256) (hc2 : c < 256) (hL : L < 32) (hS : cs_S gk en n ((nd, 0, q, m) :: fs) L ce ou sN sS sQ sM lg cg) (hk : gs_tk n lim ag dr t pr T (b + 1) c ag' pr1 T1) (h : gs_go gk gb en n lim ag' dr M fs (t + 1) (L + 1) pr1 T1 (upd ce L (nI (c % (b + 1)))) ok t' L' T' V) (p' : cs_pos gk en n fs = nd + 1) : gs_go gk gb en n lim ag dr (M + 1) ((nd, 0, q, m) :: fs) t L pr T ce ok t' L' T' V := by
  intro cp ph gp oc ml cl ol vl tr ac ca pa bk ix cL cH im sd prR ge po oa mn cu og vl_ sk tp ceR lN lC post fuel st a1 a2 hge ha hr hc hx hp
  obtain ⟨f, rfl⟩ : ∃ f, fuel = f + 1 := ⟨fuel - 1, by omega⟩
  have n16 := G.2.1
  have hS' : cs_S gk en n ((nd, 0, q, m) :: fs) L ce ou sN sS sQ sM lN lC := ⟨hS.1, hS.2.1, hx, hS.2.2.2.1, hS.2.2.2.2⟩
  obtain ⟨hn, _, hll, hz⟩ := cs_nz G hS'
  rw [cs_L0] at hx
  obtain ⟨tp', pr', x1, x2, hX⟩ := hk cp ph gp oc ml cl ol vl tr ac ca pa bk ix cL cH im sd prR (nI L) (nI (cs_L gk fs).length) gk gb ge po oa mn cu og vl_ sk tp ceR lN lC ha hr
  rw [cs_p0, cs_L0]
  refine cs_gxJ (by omega) hn n16 hge hz post (cs_gxI hn n16 k post (fun p hh => cs_xgi2 (by omega) hb hb2 hc2 hL p hX hh) ?_)
  have g := h cp ph gp oc ml cl ol vl tr ac ca pa bk ix cL cH im sd pr' ge po oa mn cu og vl_ sk tp' (upd ceR L (nI (c % (b + 1)))) lN lC post f (st + 1) (by omega) (by omega) hge x1 x2 (fun j hj => ?_) hx hp
  · rw [p'] at g
    exact g
  · by_cases z : j = L
    · rw [z, pk_us, pk_us]
    · rw [pk_un z, pk_un z]
      exact hc j (by omega)
theorem gs_int0 (G : cs_G gk en n) (k : gk nd = 1) (hb : gb nd = nI b) (ht : t = lim) (hl : lim ≤ 32) (hS : cs_S gk en n ((nd, 0, q, m) :: fs) L ce ou sN sS sQ sM lg cg) : gs_go gk gb en n lim ag dr (M + 1) ((nd, 0, q, m) :: fs) t L pr T ce false t' L' T' V := by
  intro cp ph gp oc ml cl ol vl tr ac ca pa bk ix cL cH im sd prR ge po oa mn cu og vl_ sk tp ceR lN lC post fuel st a1 a2 hge ha hr hc hx hp
  obtain ⟨f, rfl⟩ : ∃ f, fuel = f + 1 + 1 := ⟨fuel - 2, by omega⟩
  have n16 := G.2.1
  have hS' : cs_S gk en n ((nd, 0, q, m) :: fs) L ce ou sN sS sQ sM lN lC := ⟨hS.1, hS.2.1, hx, hS.2.2.2.1, hS.2.2.2.2⟩
  obtain ⟨hn, _, hll, hz⟩ := cs_nz G hS'
  rw [cs_p0, cs_L0]
  exact cs_gxJ (by omega) hn n16 hge hz post (cs_gxI hn n16 k post (fun p hh => cs_xgi0 (by omega) hb p (fun p2 h2 => cs_xt0 (by omega) (by omega) _ p2 h2) hh) (cs_gxF (by omega) post (hp.2 rfl _ _ _ _ _ _ _ _)))
theorem gs_int1 (G : cs_G gk en n) (k : gk nd = 1) (hb : gb nd = nI b) (hb2 : b < 256) (hc2 : c < 256) (hL : L = 32) (hS : cs_S gk en n ((nd, 0, q, m) :: fs) L ce ou sN sS sQ sM lg cg) (hk : gs_tk n lim ag dr t pr T (b + 1) c ag' pr1 T1) : gs_go gk gb en n lim ag dr (M + 1) ((nd, 0, q, m) :: fs) t L pr T ce false t' L' T' V := by
  subst hL
  intro cp ph gp oc ml cl ol vl tr ac ca pa bk ix cL cH im sd prR ge po oa mn cu og vl_ sk tp ceR lN lC post fuel st a1 a2 hge ha hr hc hx hp
  obtain ⟨f, rfl⟩ : ∃ f, fuel = f + 1 + 1 := ⟨fuel - 2, by omega⟩
  have n16 := G.2.1
  have hS' : cs_S gk en n ((nd, 0, q, m) :: fs) 32 ce ou sN sS sQ sM lN lC := ⟨hS.1, hS.2.1, hx, hS.2.2.2.1, hS.2.2.2.2⟩
  obtain ⟨hn, _, hll, hz⟩ := cs_nz G hS'
  obtain ⟨tp', pr', x1, x2, hX⟩ := hk cp ph gp oc ml cl ol vl tr ac ca pa bk ix cL cH im sd prR (nI 32) (nI (cs_L gk fs).length) gk gb ge po oa mn cu og vl_ sk tp ceR lN lC ha hr
  rw [cs_p0, cs_L0]
  exact cs_gxJ (by omega) hn n16 hge hz post (cs_gxI hn n16 k post (fun p hh => cs_xgi1 (by omega) hb hb2 hc2 p hX hh) (cs_gxF (by omega) post (hp.2 rfl _ _ _ _ _ _ _ _)))
theorem gs_pair (G : cs_G gk en n) (k : gk nd = 3) (hS : cs_S gk en n ((nd, 0, q, m) :: fs) L ce ou sN sS sQ sM lg cg) (h : gs_go gk gb en n lim ag dr M ((nd + 1, 0, 0, 0) :: (nd, 1, q, m) :: fs) t L pr T ce ok t' L' T' V) : gs_go gk gb en n lim ag dr (M + 1) ((nd, 0, q, m) :: fs) t L pr T ce ok t' L' T' V := by
  intro cp ph gp oc ml cl ol vl tr ac ca pa bk ix cL cH im sd prR ge po oa mn cu og vl_ sk tp ceR lN lC post fuel st a1 a2 hge ha hr hc hx hp
  obtain ⟨f, rfl⟩ : ∃ f, fuel = f + 1 := ⟨fuel - 1, by omega⟩
  have n16 := G.2.1
  have hS' : cs_S gk en n ((nd, 0, q, m) :: fs) L ce ou sN sS sQ sM lN lC := ⟨hS.1, hS.2.1, hx, hS.2.2.2.1, hS.2.2.2.2⟩
  obtain ⟨hn, _, hll, hz⟩ := cs_nz G hS'
  rw [cs_L0] at hx
  have e2 : cs_pos gk en n ((nd + 1, 0, 0, 0) :: (nd, 1, q, m) :: fs) = nd + 1 := cs_p0 gk en n (nd + 1) 0 0 _
  have e3 : cs_L gk ((nd + 1, 0, 0, 0) :: (nd, 1, q, m) :: fs) = cs_L gk fs := (cs_L0 gk (nd + 1) 0 0 _).trans (cs_L3 k 1 q m fs)
  have g := h cp ph gp oc ml cl ol vl tr ac ca pa bk ix cL cH im sd prR ge po oa mn cu og vl_ sk tp ceR lN lC post f (st + 1) (by omega) (by omega) hge ha hr hc (by rw [e3]; exact hx) hp
  rw [e2, e3] at g
  rw [cs_p0, cs_L0]
  exact cs_gxJ (by omega) hn n16 hge hz post (cs_gxP hn n16 k post g)
theorem gs_open (G : cs_G gk en n) (k : gk nd = 2) (hL : L < 32) (hS : cs_S gk en n ((nd, 0, q, m) :: fs) L ce ou sN sS sQ sM lg cg) (h : gs_go gk gb en n lim ag dr M ((nd, 1, L, 0) :: fs) t (L + 1) pr T (upd ce L (nI 0)) ok t' L' T' V) : gs_go gk gb en n lim ag dr (M + 1) ((nd, 0, q, m) :: fs) t L pr T ce ok t' L' T' V := by
  intro cp ph gp oc ml cl ol vl tr ac ca pa bk ix cL cH im sd prR ge po oa mn cu og vl_ sk tp ceR lN lC post fuel st a1 a2 hge ha hr hc hx hp
  obtain ⟨f, rfl⟩ : ∃ f, fuel = f + 1 := ⟨fuel - 1, by omega⟩
  have n16 := G.2.1
  have hS' : cs_S gk en n ((nd, 0, q, m) :: fs) L ce ou sN sS sQ sM lN lC := ⟨hS.1, hS.2.1, hx, hS.2.2.2.1, hS.2.2.2.2⟩
  obtain ⟨hn, _, hll, hz⟩ := cs_nz G hS'
  have e2 : cs_pos gk en n ((nd, 1, L, 0) :: fs) = en nd := cs_p21 en n k L 0 fs
  have e3 : cs_L gk ((nd, 1, L, 0) :: fs) = (nd, L) :: cs_L gk fs := cs_L2 k 0 L 0 fs
  have g := h cp ph gp oc ml cl ol vl tr ac ca pa bk ix cL cH im sd prR ge po oa mn cu og vl_ sk tp (upd ceR L (nI 0)) (upd lN (cs_L gk fs).length (nI nd)) (upd lC (cs_L gk fs).length (nI L)) post f (st + 1) (by omega) (by omega) hge ha hr (fun j hj => by
    by_cases z : j = L
    · rw [z, pk_us, pk_us]
    · rw [pk_un z, pk_un z]
      exact hc j (by omega)) (cs_t5 G k hS' lim t).1.2.2.1 hp
  rw [e2, e3, List.length_cons] at g
  rw [cs_p0, cs_L0]
  exact cs_gxJ (by omega) hn n16 hge hz post (cs_gxO hn n16 k post (fun p hh => cs_xol1 (by omega) hL (by omega) (hge nd hn) p hh) g)
theorem gs_open0 (G : cs_G gk en n) (k : gk nd = 2) (hL : L = 32) (hS : cs_S gk en n ((nd, 0, q, m) :: fs) L ce ou sN sS sQ sM lg cg) : gs_go gk gb en n lim ag dr (M + 1) ((nd, 0, q, m) :: fs) t L pr T ce false t' L' T' V := by
  subst hL
  intro cp ph gp oc ml cl ol vl tr ac ca pa bk ix cL cH im sd prR ge po oa mn cu og vl_ sk tp ceR lN lC post fuel st a1 a2 hge ha hr hc hx hp
  obtain ⟨f, rfl⟩ : ∃ f, fuel = f + 1 + 1 := ⟨fuel - 2, by omega⟩
  have n16 := G.2.1
  have hS' : cs_S gk en n ((nd, 0, q, m) :: fs) 32 ce ou sN sS sQ sM lN lC := ⟨hS.1, hS.2.1, hx, hS.2.2.2.1, hS.2.2.2.2⟩
  obtain ⟨hn, _, hll, hz⟩ := cs_nz G hS'
  rw [cs_p0, cs_L0]
  exact cs_gxJ (by omega) hn n16 hge hz post (cs_gxO hn n16 k post (fun p hh => cs_xol0 p hh) (cs_gxF (by omega) post (hp.2 rfl _ _ _ _ _ _ _ _)))
theorem gs_l8 (G : cs_G gk en n) (k : gk nd = 2) (hL : L ≤ 32) (h8 : m = 8) (hS : cs_S gk en n ((nd, 1, q, m) :: fs) L ce ou sN sS sQ sM lg cg) (h : gs_go gk gb en n lim ag dr M fs t L pr T ce ok t' L' T' V) (p' : cs_pos gk en n fs = en nd) : gs_go gk gb en n lim ag dr (M + 1) ((nd, 1, q, m) :: fs) t L pr T ce ok t' L' T' V := by
  intro cp ph gp oc ml cl ol vl tr ac ca pa bk ix cL cH im sd prR ge po oa mn cu og vl_ sk tp ceR lN lC post fuel st a1 a2 hge ha hr hc hx hp
  obtain ⟨f, rfl⟩ : ∃ f, fuel = f + 1 := ⟨fuel - 1, by omega⟩
  have n16 := G.2.1
  have hS' : cs_S gk en n ((nd, 1, q, m) :: fs) L ce ou sN sS sQ sM lN lC := ⟨hS.1, hS.2.1, hx, hS.2.2.2.1, hS.2.2.2.2⟩
  obtain ⟨hn, _, hll, hlen, hlN, hlC, hq, hcq, hm8, _, _⟩ := cs_lz G k hS'
  have hen := (cs_le G hn).2
  have e0 : cs_pos gk en n ((nd, 1, q, m) :: fs) = en nd := cs_p21 en n k q m fs
  have hcR : ceR q = nI m := (hc q hq).trans hcq
  rw [cs_L2 (s := 0) k] at hx
  have g := h cp ph gp oc ml cl ol vl tr ac ca pa bk ix cL cH im sd prR ge po oa mn cu og vl_ sk tp ceR lN lC post f (st + 1) (by omega) (by omega) hge ha hr hc hx.2.2 hp
  rw [p'] at g
  rw [e0, hlen]
  exact cs_gxL (by omega) hn n16 hen hge (by omega) hlN post (fun p hh => cs_xcl8 (by omega) (by omega) (by omega) hlN hlC (by rw [hcR, h8]) (hge nd hn) p hh) g
theorem gs_l0 (G : cs_G gk en n) (k : gk nd = 2) (hL : L ≤ 32) (h8 : m ≠ 8) (hS : cs_S gk en n ((nd, 1, q, m) :: fs) L ce ou sN sS sQ sM lg cg) (hk : gs_tk n lim ag dr t pr T 4 0 ag' pr1 T1) (h : gs_go gk gb en n lim ag' dr M fs (t + 1) L pr1 T1 ce ok t' L' T' V) (p' : cs_pos gk en n fs = en nd) : gs_go gk gb en n lim ag dr (M + 1) ((nd, 1, q, m) :: fs) t L pr T ce ok t' L' T' V := by
  intro cp ph gp oc ml cl ol vl tr ac ca pa bk ix cL cH im sd prR ge po oa mn cu og vl_ sk tp ceR lN lC post fuel st a1 a2 hge ha hr hc hx hp
  obtain ⟨f, rfl⟩ : ∃ f, fuel = f + 1 := ⟨fuel - 1, by omega⟩
  have n16 := G.2.1
  have hS' : cs_S gk en n ((nd, 1, q, m) :: fs) L ce ou sN sS sQ sM lN lC := ⟨hS.1, hS.2.1, hx, hS.2.2.2.1, hS.2.2.2.2⟩
  obtain ⟨hn, _, hll, hlen, hlN, hlC, hq, hcq, hm8, _, _⟩ := cs_lz G k hS'
  have hen := (cs_le G hn).2
  have e0 : cs_pos gk en n ((nd, 1, q, m) :: fs) = en nd := cs_p21 en n k q m fs
  have hcR : ceR q = nI m := (hc q hq).trans hcq
  rw [cs_L2 (s := 0) k] at hx
  obtain ⟨tp', pr', x1, x2, hX⟩ := hk cp ph gp oc ml cl ol vl tr ac ca pa bk ix cL cH im sd prR (nI L) (nI ((cs_L gk fs).length + 1)) gk gb ge po oa mn cu og vl_ sk tp ceR lN lC ha hr
  have g := h cp ph gp oc ml cl ol vl tr ac ca pa bk ix cL cH im sd pr' ge po oa mn cu og vl_ sk tp' ceR lN lC post f (st + 1) (by omega) (by omega) hge x1 x2 hc hx.2.2 hp
  rw [p'] at g
  rw [e0, hlen]
  exact cs_gxL (by omega) hn n16 hen hge (by omega) hlN post (fun p hh => cs_xclt (by omega) (by omega) hlN hlC hcR (by omega) p hX (cs_xc1 (by omega) (hge nd hn) p hh)) g
theorem gs_l1 (G : cs_G gk en n) (k : gk nd = 2) (hL : L ≤ 32) (h8 : m ≠ 8) (hc2 : c < 256) (hc0 : c ≠ 0) (hS : cs_S gk en n ((nd, 1, q, m) :: fs) L ce ou sN sS sQ sM lg cg) (hk : gs_tk n lim ag dr t pr T 4 c ag' pr1 T1) (h : gs_go gk gb en n lim ag' dr M ((nd + 1, 0, 0, 0) :: (nd, 2, q, m) :: fs) (t + 1) L pr1 T1 (upd ce q (nI (m + 1))) ok t' L' T' V) : gs_go gk gb en n lim ag dr (M + 1) ((nd, 1, q, m) :: fs) t L pr T ce ok t' L' T' V := by
  intro cp ph gp oc ml cl ol vl tr ac ca pa bk ix cL cH im sd prR ge po oa mn cu og vl_ sk tp ceR lN lC post fuel st a1 a2 hge ha hr hc hx hp
  obtain ⟨f, rfl⟩ : ∃ f, fuel = f + 1 := ⟨fuel - 1, by omega⟩
  have n16 := G.2.1
  have hS' : cs_S gk en n ((nd, 1, q, m) :: fs) L ce ou sN sS sQ sM lN lC := ⟨hS.1, hS.2.1, hx, hS.2.2.2.1, hS.2.2.2.2⟩
  obtain ⟨hn, _, hll, hlen, hlN, hlC, hq, hcq, hm8, _, _⟩ := cs_lz G k hS'
  have hen := (cs_le G hn).2
  have e0 : cs_pos gk en n ((nd, 1, q, m) :: fs) = en nd := cs_p21 en n k q m fs
  have hcR : ceR q = nI m := (hc q hq).trans hcq
  rw [cs_L2 (s := 0) k] at hx
  obtain ⟨tp', pr', x1, x2, hX⟩ := hk cp ph gp oc ml cl ol vl tr ac ca pa bk ix cL cH im sd prR (nI L) (nI ((cs_L gk fs).length + 1)) gk gb ge po oa mn cu og vl_ sk tp ceR lN lC ha hr
  have e2 : cs_pos gk en n ((nd + 1, 0, 0, 0) :: (nd, 2, q, m) :: fs) = nd + 1 := cs_p0 gk en n (nd + 1) 0 0 _
  have e3 : cs_L gk ((nd + 1, 0, 0, 0) :: (nd, 2, q, m) :: fs) = (nd, q) :: cs_L gk fs := (cs_L0 gk (nd + 1) 0 0 _).trans (cs_L2 k 1 q m fs)
  have g := h cp ph gp oc ml cl ol vl tr ac ca pa bk ix cL cH im sd pr' ge po oa mn cu og vl_ sk tp' (upd ceR q (nI (m + 1))) lN lC post f (st + 1) (by omega) (by omega) hge x1 x2 (fun j hj => by
    by_cases z : j = q
    · rw [z, pk_us, pk_us]
    · rw [pk_un z, pk_un z]
      exact hc j (by omega)) (by rw [e3]; exact hx) hp
  rw [e2, e3, List.length_cons] at g
  rw [e0, hlen]
  exact cs_gxL (by omega) hn n16 hen hge (by omega) hlN post (fun p hh => cs_xclt (by omega) (by omega) hlN hlC hcR (by omega) p hX (cs_xc2 (by omega) hc2 hc0 hcR p hh)) g
theorem gs_lF (G : cs_G gk en n) (k : gk nd = 2) (hL : L ≤ 32) (h8 : m ≠ 8) (ht : t = lim) (hl : lim ≤ 32) (hS : cs_S gk en n ((nd, 1, q, m) :: fs) L ce ou sN sS sQ sM lg cg) : gs_go gk gb en n lim ag dr (M + 1) ((nd, 1, q, m) :: fs) t L pr T ce false t' L' T' V := by
  intro cp ph gp oc ml cl ol vl tr ac ca pa bk ix cL cH im sd prR ge po oa mn cu og vl_ sk tp ceR lN lC post fuel st a1 a2 hge ha hr hc hx hp
  obtain ⟨f, rfl⟩ : ∃ f, fuel = f + 1 + 1 := ⟨fuel - 2, by omega⟩
  have n16 := G.2.1
  have hS' : cs_S gk en n ((nd, 1, q, m) :: fs) L ce ou sN sS sQ sM lN lC := ⟨hS.1, hS.2.1, hx, hS.2.2.2.1, hS.2.2.2.2⟩
  obtain ⟨hn, _, hll, hlen, hlN, hlC, hq, hcq, hm8, _, _⟩ := cs_lz G k hS'
  have hen := (cs_le G hn).2
  have e0 : cs_pos gk en n ((nd, 1, q, m) :: fs) = en nd := cs_p21 en n k q m fs
  have hcR : ceR q = nI m := (hc q hq).trans hcq
  rw [cs_L2 (s := 0) k] at hx
  rw [e0, hlen]
  exact cs_gxL (by omega) hn n16 hen hge (by omega) hlN post (fun p hh => cs_xclt (by omega) (by omega) hlN hlC hcR (by omega) p (fun p2 h2 => cs_xt0 (by omega) (by omega) _ p2 h2) (cs_xc0 p hh)) (cs_gxF (by omega) post (hp.2 rfl _ _ _ _ _ _ _ _))
end
