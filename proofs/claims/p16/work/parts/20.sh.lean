theorem tr_ {gk gb : Nat → Int32} {en : Nat → Nat} {gn : Nat} {po oa : Nat → Int32} {m c : Nat} {og : Nat → Int32} {o : Nat} (G : cs_G gk en gn) (hgb : ∀ j, j < gn → ∃ b : Nat, b < 256 ∧ gb j = nI b) (hm : m ≤ 32) (H : ∀ j, j < m → (∃ o : Nat, o ≤ 14 ∧ po j = nI o ∧ ((o = 13 ∨ o = 14) → ∃ a : Nat, a ≤ 32 ∧ oa j = nI a))) {u : St2} (I : pt_ gk gb en gn po oa m c og o u) (post : St2 → Prop) (hp : ∀ u', pm_ gk gb en gn po oa m c og o u' → post u') : wpX_performTrial post u := by
  refine pt_e (P := fun u => wpX_performTrial post u) I ?_
  intro pr ml tr ac ca im tl tk dr cc ld sd ge mn cu vl_ tp ce lN lC sk n v p k i l h hge hiv h3
  obtain ⟨ht, hcv⟩ := h3
  rcases ht with ⟨rfl | rfl, hk, hi, rfl, rfl⟩ | ⟨rfl, rfl, hi, hlh, hh⟩ | ⟨rfl, rfl, hi, rfl, rfl⟩
  · exact tr_1 G hge hgb hm H hiv hk hi hcv post hp
  · exact tr_2 G hge hgb hm H hiv hk hi hcv post hp
  · exact tr_3 G hge hgb hm H hiv hi hlh hh hcv post hp
  · exact tr_4 G hge hgb hm H hiv hi hcv post hp
theorem mv_b {p k i l h : Nat} {im : Int32} (hm : cv_m p k i l h) : mv_mu p k i im < 2000 := by
  unfold mv_mu
  have h1 : (if im = 1 then 500 else 0) ≤ 500 := by split <;> omega
  have h2 : (if p = 1 then 400 + k / 2 else if p = 2 then 200 + 50 * (k / 2) + (40 - i) else if p = 3 then 100 + (40 - i) else 40 - i) ≤ 600 := by
    rcases hm with ⟨_, hk, _⟩ | ⟨_, rfl, _⟩ | ⟨_, rfl, _⟩
    · have := cv_Kle hk
      repeat' split
      all_goals omega
    · repeat' split
      all_goals omega
    · repeat' split
      all_goals omega
  omega
theorem mv_ {gk gb : Nat → Int32} {en : Nat → Nat} {gn : Nat} {po oa : Nat → Int32} {m c : Nat} {og : Nat → Int32} {o : Nat} {u : St2} (I : pm_ gk gb en gn po oa m c og o u) (post : St2 → Prop) (hp : ∀ u', (pt_ gk gb en gn po oa m c og o u' ∨ pd_ gk gb en gn po oa m c og o u') → post u') : wpX_moveToTrial post u := by
  refine pm_e (P := fun u => wpX_moveToTrial post u) I ?_
  intro pr ml tr ac ca im tl tk dr cc ld sd ge mn cu vl_ tp ce lN lC sk n v p k i l h hge hiv h3
  exact ⟨2001, mv_l hge hiv 2000 p k i l h im (mv_b h3.1) h3.1 h3.2 post 2001 0 (by omega) (by omega) hp⟩
def sx_ (post : Int32 → St2 → Prop) (x2 : Int32) (fuel : Nat) (x3 : Int32) (u : St2) : Prop := match u with
  | (cp, pr, ph, gc, gp, oc, ml, cl, ol, vl, tr, ac, ca, pa, bk, ix, cL, cH, im, tl, tk, dr, cc, ld, sd, gk, gb, ge, po, oa, mn, cu, og, vl_, tp, ce, lN, lC, sk) => wX_shrink_36 post x2 fuel x3 cp pr ph gc gp oc ml cl ol vl tr ac ca pa bk ix cL cH im tl tk dr cc ld sd gk gb ge po oa mn cu og vl_ tp ce lN lC sk
theorem sh_l {gk gb : Nat → Int32} {en : Nat → Nat} {gn : Nat} {po oa : Nat → Int32} {m c : Nat} {og : Nat → Int32} {o : Nat} (G : cs_G gk en gn) (hgb : ∀ j, j < gn → ∃ b : Nat, b < 256 ∧ gb j = nI b) (hm : m ≤ 32) (H : ∀ j, j < m → (∃ o : Nat, o ≤ 14 ∧ po j = nI o ∧ ((o = 13 ∨ o = 14) → ∃ a : Nat, a ≤ 32 ∧ oa j = nI a))) {limit : Nat} (hl : limit ≤ 64) : ∀ (q j : Nat) (u : St2), j + q = limit → (pt_ gk gb en gn po oa m c og o u ∨ pd_ gk gb en gn po oa m c og o u) → ∀ (post : Int32 → St2 → Prop) (fuel : Nat), q < fuel → (∀ r u', (pt_ gk gb en gn po oa m c og o u' ∨ pd_ gk gb en gn po oa m c og o u') → post r u') → sx_ post (nI limit) fuel (nI j) u := by
  intro q
  induction q with
  | zero =>
    intro j u hj hu post fuel hf hp
    obtain ⟨f, rfl⟩ : ∃ f, fuel = f + 1 := ⟨fuel - 1, by omega⟩
    rcases hu with hu | hu
    · refine pt_e (P := fun u => sx_ post (nI limit) (f + 1) (nI j) u) hu ?_
      intro pr ml tr ac ca im tl tk dr cc ld sd ge mn cu vl_ tp ce lN lC sk n v p k i l h hge hiv h3
      exact br_t (nI_le (by omega) (by omega)) (hp _ _ (Or.inl (pt_i hge hiv h3)))
    · refine pd_e (P := fun u => sx_ post (nI limit) (f + 1) (nI j) u) hu ?_
      intro pr ml tr ac ca im tl tk dr cc ld sd ge mn cu vl_ tp ce lN lC sk n v p k i l h hge hiv h3
      exact br_t (nI_le (by omega) (by omega)) (hp _ _ (Or.inr (pd_i (p := p) (k := k) (i := i) (l := l) (h := h) hge hiv h3)))
  | succ q ih =>
    intro j u hj hu post fuel hf hp
    obtain ⟨f, rfl⟩ : ∃ f, fuel = f + 1 := ⟨fuel - 1, by omega⟩
    have hlt : ¬ nI limit ≤ nI j := nI_ge (by omega) (by omega)
    have hnext : ∀ u', (pt_ gk gb en gn po oa m c og o u' ∨ pd_ gk gb en gn po oa m c og o u') → sx_ post (nI limit) f (nI (j + 1)) u' := fun u' h' => ih (j + 1) u' (by omega) h' post f (by omega) hp
    rcases hu with hu | hu
    · have hI := hu
      revert hI
      refine pt_e (P := fun u => pt_ gk gb en gn po oa m c og o u → sx_ post (nI limit) (f + 1) (nI j) u) hu ?_
      intro pr ml tr ac ca im tl tk dr cc ld sd ge mn cu vl_ tp ce lN lC sk n v p k i l h hge hiv h3 hI
      refine br_f hlt (br_t rfl (tr_ G hgb hm H hI _ ?_))
      rintro _ ⟨pr, ml, tr, ac, ca, im, tl, tk, dr, cc, ld, sd, ge, mn, cu, vl_, tp, ce, lN, lC, sk, n, v, p, k, i, l, h, rfl, hge, hiv, h3⟩
      refine mv_ (pm_i hge hiv h3) _ ?_
      rintro u2 h2
      have hn2 := hnext u2 h2
      revert hn2
      rcases h2 with ⟨pr, ml, tr, ac, ca, im, tl, tk, dr, cc, ld, sd, ge, mn, cu, vl_, tp, ce, lN, lC, sk, n, v, p, k, i, l, h, rfl, hge, hiv, h3⟩ | ⟨pr, ml, tr, ac, ca, im, tl, tk, dr, cc, ld, sd, ge, mn, cu, vl_, tp, ce, lN, lC, sk, n, v, p, k, i, l, h, rfl, hge, hiv, h3⟩
      · intro hn2
        exact nm_r (nI_1 j) hn2
      · intro hn2
        exact nm_r (nI_1 j) hn2
    · refine pd_e (P := fun u => sx_ post (nI limit) (f + 1) (nI j) u) hu ?_
      intro pr ml tr ac ca im tl tk dr cc ld sd ge mn cu vl_ tp ce lN lC sk n v p k i l h hge hiv h3
      exact br_f hlt (br_f (by decide) (hp _ _ (Or.inr (pd_i (p := p) (k := k) (i := i) (l := l) (h := h) hge hiv h3))))
theorem sh_ {gk gb : Nat → Int32} {en : Nat → Nat} {gn : Nat} {po oa : Nat → Int32} {m c : Nat} {og : Nat → Int32} {o : Nat} (G : cs_G gk en gn) (hgb : ∀ j, j < gn → ∃ b : Nat, b < 256 ∧ gb j = nI b) (hm : m ≤ 32) (H : ∀ j, j < m → (∃ o : Nat, o ≤ 14 ∧ po j = nI o ∧ ((o = 13 ∨ o = 14) → ∃ a : Nat, a ≤ 32 ∧ oa j = nI a))) {u : St2} (x : Int32) (I : pz_ gk gb en gn po oa m c og o u ∨ pt_ gk gb en gn po oa m c og o u) (post : Int32 → St2 → Prop) (hp : ∀ r u', (pt_ gk gb en gn po oa m c og o u' ∨ pd_ gk gb en gn po oa m c og o u') → post r u') : wpX_shrink post u x := by
  obtain ⟨limit, l1, l64, hC, _⟩ := cs_clamp (x := x) 1 64 (by omega) (by omega)
  have hL : ∀ u', (pt_ gk gb en gn po oa m c og o u' ∨ pd_ gk gb en gn po oa m c og o u') → sx_ post (nI limit) (limit + 1) (nI 0) u' := fun u' h' => sh_l G hgb hm H l64 limit 0 u' (by omega) h' post (limit + 1) (by omega) hp
  rcases I with I | I
  · refine pz_e (P := fun u => wpX_shrink post u x) I ?_
    intro pr ml tr ac ca im tl tk dr cc ld sd ge mn cu vl_ tp ce lN lC sk n v p k i l h hge hiv h3
    subst h3
    refine br_t rfl (hC _ (br_t rfl (br_t rfl (br_f (by decide) ?_))))
    refine mv_ (pm_i (p := 1) (k := 4) (i := 0) (l := 0) (h := 0) hge hiv ⟨Or.inl ⟨Or.inl rfl, Or.inr (Or.inr rfl), by omega, rfl, rfl⟩, Or.inl ⟨rfl, Or.inl ⟨rfl, fun k' i' a b d => (by have := cv_Kle a; omega)⟩⟩⟩) _ ?_
    rintro u2 h2
    have hn2 := hL u2 h2
    revert hn2
    rcases h2 with ⟨pr, ml, tr, ac, ca, im, tl, tk, dr, cc, ld, sd, ge, mn, cu, vl_, tp, ce, lN, lC, sk, n, v, p, k, i, l, h, rfl, hge, hiv, h3⟩ | ⟨pr, ml, tr, ac, ca, im, tl, tk, dr, cc, ld, sd, ge, mn, cu, vl_, tp, ce, lN, lC, sk, n, v, p, k, i, l, h, rfl, hge, hiv, h3⟩
    · intro hn2
      exact ⟨limit + 1, hn2⟩
    · intro hn2
      exact ⟨limit + 1, hn2⟩
  · have hn2 := hL u (Or.inl I)
    revert hn2
    refine pt_e (P := fun u => sx_ post (nI limit) (limit + 1) (nI 0) u → wpX_shrink post u x) I ?_
    intro pr ml tr ac ca im tl tk dr cc ld sd ge mn cu vl_ tp ce lN lC sk n v p k i l h hge hiv h3 hn2
    refine br_t rfl (hC _ (br_f ?_ ⟨limit + 1, hn2⟩))
    obtain ⟨ht, _⟩ := h3
    exact nI_ne0 (by rcases ht with ⟨z | z, _⟩ | ⟨z, _⟩ | ⟨z, _⟩ <;> omega) (by rcases ht with ⟨z | z, _⟩ | ⟨z, _⟩ | ⟨z, _⟩ <;> omega)
