theorem ls_c {T T' S : Nat → Int32} {t n : Nat} (h : ls_lt T S t n) (e : ∀ j, j < t → T' j = T j) : ls_lt T' S t n := by
  rcases h with h | ⟨h1, d, h2, h3, h4⟩
  · exact Or.inl h
  · exact Or.inr ⟨h1, d, h2, fun j hj => (e j (by omega)).trans (h3 j hj), by rw [e d h2]; exact h4⟩
theorem iv_n {gk gb : Nat → Int32} {en : Nat → Nat} {gn : Nat} {po oa : Nat → Int32} {m c : Nat} {og cu vl_ T V S' V' : Nat → Int32} {o n v t L : Nat} (h : iv_ gk gb en gn po oa m c og o cu n vl_ v) (htn : t ≤ n) (hL : L ≤ 32) (hb : cs_by T t) (hlt : ls_lt T cu t n) (hos : os_O gk gb en gn po oa m t t 0 0 T 1 t L T V) (e1 : ∀ j, j < t → S' j = T j) (e2 : ∀ j, j < L → V' j = V j) : iv_ gk gb en gn po oa m c og o S' t V' L := by
  obtain ⟨a1, a2, a3, a4, a5, a6, a7⟩ := h
  exact ⟨by omega, a2, a3, hL, cs_byc hb e1, Or.inl (ls_tr (ls_c hlt e1) a6), os_c hos e1 e1 e2⟩
section
variable {cp pr ph gc gp oc ml cl ol vl tr ac ca pa bk ix cL cH im tl tk dr cc ld sd : Int32} {gk gb ge po oa mn cu og vl_ tp ce lN lC sk ou : Nat → Int32}
variable {en : Nat → Nat} {gn m c o n v k i l h : Nat}
theorem tr_1 (G : cs_G gk en gn) (hge : ∀ j, j < gn → ge j = nI (en j)) (hgb : ∀ j, j < gn → ∃ b : Nat, b < 256 ∧ gb j = nI b) (hm : m ≤ 32) (H : ∀ j, j < m → (∃ o : Nat, o ≤ 14 ∧ po j = nI o ∧ ((o = 13 ∨ o = 14) → ∃ a : Nat, a ≤ 32 ∧ oa j = nI a))) (hiv : iv_ gk gb en gn po oa m c og o cu n vl_ v) (hk : cv_K k) (hi : i + k ≤ n) (hcv : (im = 0 ∧ cv_at (nb_ gk gb en gn po oa m cu n) cu n 1 k i 0 0) ∨ im = 1) (post : St2 → Prop) (hp : ∀ u', pm_ gk gb en gn po oa m c og o u' → post u') : wpX_performTrial post (nI c, pr, 1, nI gn, 0, nI m, ml, nI n, nI o, nI v, tr, ac, ca, nI 1, nI k, nI i, nI 0, nI 0, im, tl, tk, dr, cc, ld, sd, gk, gb, ge, po, oa, mn, cu, og, vl_, tp, ce, lN, lC, sk) := by
  have hn : n ≤ 32 := Nat.le_trans hiv.1 hiv.2.1
  have hb : cs_by cu n := hiv.2.2.2.2.1
  rcases ps_core (cp := nI c) (ph := 1) (gp := 0) (ol := nI o) (vl := nI v) (pa := nI 1) (bk := nI k) (ix := nI i) (cL := nI 0) (cH := nI 0) (pr := pr) (ml := ml) (tr := tr) (ac := ac) (ca := ca) (im := im) (tl := tl) (tk := tk) (dr := dr) (cc := cc) (ld := ld) (sd := sd) (gk := gk) (gb := gb) (ge := ge) (po := po) (oa := oa) (mn := mn) (cu := cu) (og := og) (vl_ := vl_) (tp := tp) (ce := ce) (lN := lN) (lC := lC) (sk := sk) (en := en) (gn := gn) (m := m) (n := n) (lim := n - k) (mid := nI 0) (T := cs_cp (cs_del cu i k) tp (n - k)) G hge hgb hm H hn (by omega) (cs_byc (cs_delb hb hi) (fun j hj => cs_cpl hj)) (by decide) (fun post hp => cs_xput1 hn hi _ post hp) with ⟨hnb, hX⟩ | ⟨t, L, V, htn, htl, hL, hbt, hlt, hos, hX⟩
  · have hnb' : (nb_ gk gb en gn po oa m cu n) (cs_del cu i k) (n - k) := nb_c hnb (fun j hj => (cs_cpl hj).symm)
    have hcv' : (im = 0 ∧ cv_at (nb_ gk gb en gn po oa m cu n) cu n 1 k (i + 1) (0) (0)) ∨ im = 1 := by
      rcases hcv with ⟨h0, hcv⟩ | h1
      · refine Or.inl ⟨h0, ?_⟩
        rcases hcv with ⟨_, h1⟩ | ⟨z, _⟩ | ⟨z, _⟩ | ⟨z, _⟩
        · refine Or.inl ⟨rfl, fun k' i' a b d => ?_⟩
          by_cases e : k' = k ∧ i' = i
          · obtain ⟨rfl, rfl⟩ := e
            exact hnb'
          · exact h1 k' i' a b (by omega)
        · omega
        · omega
        · omega
      · exact Or.inr h1
    exact hX post (fun pr' tk' cc' ld' sd' tp' ce' lN' lC' sk' => br_t rfl (br_f (by decide) (br_t rfl (br_t rfl (cs_x129 (by decide) post (hp _ (pm_i (p := 1) (k := k) (i := i + 1) (l := 0) (h := 0) hge hiv ⟨Or.inl ⟨Or.inl rfl, hk, by rcases hk with z | z | z <;> omega, rfl, rfl⟩, hcv'⟩)))))))
  · exact hX post (fun pr' ld' sd' tp' ce' lN' lC' sk' x1 x2 => br_f (by decide) (cs_xkeep (by omega) hL _ (nm_e (br_f (by decide) (br_t rfl (br_f (by decide) (hp _ (pm_i (p := 1) (k := k) (i := i) (l := 0) (h := 0) hge (iv_n hiv htn hL hbt hlt hos (fun j hj => (cs_cpl hj).trans (x1 j hj)) (fun j hj => (cs_cpl hj).trans (x2 j hj))) ⟨Or.inl ⟨Or.inl rfl, hk, by omega, rfl, rfl⟩, Or.inr rfl⟩))))))))
theorem tr_2 (G : cs_G gk en gn) (hge : ∀ j, j < gn → ge j = nI (en j)) (hgb : ∀ j, j < gn → ∃ b : Nat, b < 256 ∧ gb j = nI b) (hm : m ≤ 32) (H : ∀ j, j < m → (∃ o : Nat, o ≤ 14 ∧ po j = nI o ∧ ((o = 13 ∨ o = 14) → ∃ a : Nat, a ≤ 32 ∧ oa j = nI a))) (hiv : iv_ gk gb en gn po oa m c og o cu n vl_ v) (hk : cv_K k) (hi : i + k ≤ n) (hcv : (im = 0 ∧ cv_at (nb_ gk gb en gn po oa m cu n) cu n 2 k i 0 0) ∨ im = 1) (post : St2 → Prop) (hp : ∀ u', pm_ gk gb en gn po oa m c og o u' → post u') : wpX_performTrial post (nI c, pr, 1, nI gn, 0, nI m, ml, nI n, nI o, nI v, tr, ac, ca, nI 2, nI k, nI i, nI 0, nI 0, im, tl, tk, dr, cc, ld, sd, gk, gb, ge, po, oa, mn, cu, og, vl_, tp, ce, lN, lC, sk) := by
  have hn : n ≤ 32 := Nat.le_trans hiv.1 hiv.2.1
  have hb : cs_by cu n := hiv.2.2.2.2.1
  rcases ps_core (cp := nI c) (ph := 1) (gp := 0) (ol := nI o) (vl := nI v) (pa := nI 2) (bk := nI k) (ix := nI i) (cL := nI 0) (cH := nI 0) (pr := pr) (ml := ml) (tr := tr) (ac := ac) (ca := ca) (im := im) (tl := tl) (tk := tk) (dr := dr) (cc := cc) (ld := ld) (sd := sd) (gk := gk) (gb := gb) (ge := ge) (po := po) (oa := oa) (mn := mn) (cu := cu) (og := og) (vl_ := vl_) (tp := tp) (ce := ce) (lN := lN) (lC := lC) (sk := sk) (en := en) (gn := gn) (m := m) (n := n) (lim := n) (mid := nI 0) (T := cs_zb (cs_cp cu tp n) i k) G hge hgb hm H hn (by omega) (cs_zbb (cs_byc hb (fun j hj => cs_cpl hj))) (by decide) (fun post hp => cs_xput2 hn hi _ post hp) with ⟨hnb, hX⟩ | ⟨t, L, V, htn, htl, hL, hbt, hlt, hos, hX⟩
  · have hnb' : (nb_ gk gb en gn po oa m cu n) (cs_zb cu i k) (n) := nb_c hnb (fun j hj => cs_zbe (fun j hj => (cs_cpl hj).symm) j hj)
    have hcv' : (im = 0 ∧ cv_at (nb_ gk gb en gn po oa m cu n) cu n 2 k (i + 1) (0) (0)) ∨ im = 1 := by
      rcases hcv with ⟨h0, hcv⟩ | h1
      · refine Or.inl ⟨h0, ?_⟩
        rcases hcv with ⟨z, _⟩ | ⟨_, h1, h2⟩ | ⟨z, _⟩ | ⟨z, _⟩
        · omega
        · refine Or.inr (Or.inl ⟨rfl, h1, fun k' i' a b f d => ?_⟩)
          by_cases e : k' = k ∧ i' = i
          · obtain ⟨rfl, rfl⟩ := e
            exact hnb'
          · exact h2 k' i' a b f (by omega)
        · omega
        · omega
      · exact Or.inr h1
    exact hX post (fun pr' tk' cc' ld' sd' tp' ce' lN' lC' sk' => br_t rfl (br_f (by decide) (br_f (by decide) (cs_x129 (by decide) post (hp _ (pm_i (p := 2) (k := k) (i := i + 1) (l := 0) (h := 0) hge hiv ⟨Or.inl ⟨Or.inr rfl, hk, by rcases hk with z | z | z <;> omega, rfl, rfl⟩, hcv'⟩))))))
  · exact hX post (fun pr' ld' sd' tp' ce' lN' lC' sk' x1 x2 => br_f (by decide) (cs_xkeep (by omega) hL _ (nm_e (br_f (by decide) (br_f (by decide) (cs_x129 (by decide) post (hp _ (pm_i (p := 2) (k := k) (i := i + 1) (l := 0) (h := 0) hge (iv_n hiv htn hL hbt hlt hos (fun j hj => (cs_cpl hj).trans (x1 j hj)) (fun j hj => (cs_cpl hj).trans (x2 j hj))) ⟨Or.inl ⟨Or.inr rfl, hk, by rcases hk with z | z | z <;> omega, rfl, rfl⟩, Or.inr rfl⟩))))))))
theorem tr_3 (G : cs_G gk en gn) (hge : ∀ j, j < gn → ge j = nI (en j)) (hgb : ∀ j, j < gn → ∃ b : Nat, b < 256 ∧ gb j = nI b) (hm : m ≤ 32) (H : ∀ j, j < m → (∃ o : Nat, o ≤ 14 ∧ po j = nI o ∧ ((o = 13 ∨ o = 14) → ∃ a : Nat, a ≤ 32 ∧ oa j = nI a))) (hiv : iv_ gk gb en gn po oa m c og o cu n vl_ v) (hi : i < n) (hlh : l < h) (hh : h ≤ 255) (hcv : (im = 0 ∧ cv_at (nb_ gk gb en gn po oa m cu n) cu n 3 1 i l h) ∨ im = 1) (post : St2 → Prop) (hp : ∀ u', pm_ gk gb en gn po oa m c og o u' → post u') : wpX_performTrial post (nI c, pr, 1, nI gn, 0, nI m, ml, nI n, nI o, nI v, tr, ac, ca, nI 3, nI 1, nI i, nI l, nI h, im, tl, tk, dr, cc, ld, sd, gk, gb, ge, po, oa, mn, cu, og, vl_, tp, ce, lN, lC, sk) := by
  have hn : n ≤ 32 := Nat.le_trans hiv.1 hiv.2.1
  have hb : cs_by cu n := hiv.2.2.2.2.1
  rcases ps_core (cp := nI c) (ph := 1) (gp := 0) (ol := nI o) (vl := nI v) (pa := nI 3) (bk := nI 1) (ix := nI i) (cL := nI l) (cH := nI h) (pr := pr) (ml := ml) (tr := tr) (ac := ac) (ca := ca) (im := im) (tl := tl) (tk := tk) (dr := dr) (cc := cc) (ld := ld) (sd := sd) (gk := gk) (gb := gb) (ge := ge) (po := po) (oa := oa) (mn := mn) (cu := cu) (og := og) (vl_ := vl_) (tp := tp) (ce := ce) (lN := lN) (lC := lC) (sk := sk) (en := en) (gn := gn) (m := m) (n := n) (lim := n) (mid := nI ((l + h) / 2)) (T := upd (cs_cp cu tp n) i (nI ((l + h) / 2))) G hge hgb hm H hn (by omega) (cs_byu (cs_byc hb (fun j hj => cs_cpl hj)) (by omega)) (cs_half l h (by omega) hh) (fun post hp => cs_xput3 hn hi _ post hp) with ⟨hnb, hX⟩ | ⟨t, L, V, htn, htl, hL, hbt, hlt, hos, hX⟩
  · have hnb' : (nb_ gk gb en gn po oa m cu n) (upd cu i (nI ((l + h) / 2))) (n) := nb_c hnb (fun j hj => cs_ue (fun j hj => (cs_cpl hj).symm) j hj)
    have hcv' : (im = 0 ∧ cv_at (nb_ gk gb en gn po oa m cu n) cu n 3 1 (i) ((l + h) / 2 + 1) (h)) ∨ im = 1 := by
      rcases hcv with ⟨h0, hcv⟩ | h1
      · refine Or.inl ⟨h0, ?_⟩
        rcases hcv with ⟨z, _⟩ | ⟨z, _⟩ | ⟨_, h1, h2, h3, h4⟩ | ⟨z, _⟩
        · omega
        · omega
        · exact Or.inr (Or.inr (Or.inl ⟨rfl, h1, h2, h3, fun w => ⟨(h4 w).1, by omega, Or.inr hnb'⟩⟩))
        · omega
      · exact Or.inr h1
    refine hX post (fun pr' tk' cc' ld' sd' tp' ce' lN' lC' sk' => br_t rfl (br_t rfl (br_t rfl (br_t rfl ?_))))
    rw [nI_1]
    exact hp _ (pm_i (p := 3) (k := 1) (i := i) (l := (l + h) / 2 + 1) (h := h) hge hiv ⟨Or.inr (Or.inl ⟨rfl, rfl, by omega, by omega, hh⟩), hcv'⟩)
  · exact hX post (fun pr' ld' sd' tp' ce' lN' lC' sk' x1 x2 => br_f (by decide) (cs_xkeep (by omega) hL _ (nm_e (br_t rfl (br_f (by decide) (br_f (by decide) (hp _ (pm_i (p := 3) (k := 1) (i := i) (l := l) (h := (l + h) / 2) hge (iv_n hiv htn hL hbt hlt hos (fun j hj => (cs_cpl hj).trans (x1 j hj)) (fun j hj => (cs_cpl hj).trans (x2 j hj))) ⟨Or.inr (Or.inl ⟨rfl, rfl, by omega, by omega, by omega⟩), Or.inr rfl⟩))))))))
theorem tr_4 (G : cs_G gk en gn) (hge : ∀ j, j < gn → ge j = nI (en j)) (hgb : ∀ j, j < gn → ∃ b : Nat, b < 256 ∧ gb j = nI b) (hm : m ≤ 32) (H : ∀ j, j < m → (∃ o : Nat, o ≤ 14 ∧ po j = nI o ∧ ((o = 13 ∨ o = 14) → ∃ a : Nat, a ≤ 32 ∧ oa j = nI a))) (hiv : iv_ gk gb en gn po oa m c og o cu n vl_ v) (hi : i + 1 < n) (hcv : (im = 0 ∧ cv_at (nb_ gk gb en gn po oa m cu n) cu n 4 1 i 0 0) ∨ im = 1) (post : St2 → Prop) (hp : ∀ u', pm_ gk gb en gn po oa m c og o u' → post u') : wpX_performTrial post (nI c, pr, 1, nI gn, 0, nI m, ml, nI n, nI o, nI v, tr, ac, ca, nI 4, nI 1, nI i, nI 0, nI 0, im, tl, tk, dr, cc, ld, sd, gk, gb, ge, po, oa, mn, cu, og, vl_, tp, ce, lN, lC, sk) := by
  have hn : n ≤ 32 := Nat.le_trans hiv.1 hiv.2.1
  have hb : cs_by cu n := hiv.2.2.2.2.1
  obtain ⟨b0, hb0, eb0⟩ := hb i (by omega)
  obtain ⟨b1, hb1, eb1⟩ := hb (i + 1) hi
  have hT : cs_by (upd (upd (cs_cp cu tp n) i (cu (i + 1))) (i + 1) (cu i)) n := by
    rw [eb0, eb1]
    exact cs_byu (cs_byu (cs_byc hb (fun j hj => cs_cpl hj)) hb1) hb0
  rcases ps_core (cp := nI c) (ph := 1) (gp := 0) (ol := nI o) (vl := nI v) (pa := nI 4) (bk := nI 1) (ix := nI i) (cL := nI 0) (cH := nI 0) (pr := pr) (ml := ml) (tr := tr) (ac := ac) (ca := ca) (im := im) (tl := tl) (tk := tk) (dr := dr) (cc := cc) (ld := ld) (sd := sd) (gk := gk) (gb := gb) (ge := ge) (po := po) (oa := oa) (mn := mn) (cu := cu) (og := og) (vl_ := vl_) (tp := tp) (ce := ce) (lN := lN) (lC := lC) (sk := sk) (en := en) (gn := gn) (m := m) (n := n) (lim := n) (mid := nI 0) (T := upd (upd (cs_cp cu tp n) i (cu (i + 1))) (i + 1) (cu i)) G hge hgb hm H hn (by omega) hT (by decide) (fun post hp => cs_xput4 hn hi _ post hp) with ⟨hnb, hX⟩ | ⟨t, L, V, htn, htl, hL, hbt, hlt, hos, hX⟩
  · have hnb' : (nb_ gk gb en gn po oa m cu n) (upd (upd cu i (cu (i + 1))) (i + 1) (cu i)) (n) := nb_c hnb (fun j hj => cs_ue (cs_ue (fun j hj => (cs_cpl hj).symm)) j hj)
    have hcv' : (im = 0 ∧ cv_at (nb_ gk gb en gn po oa m cu n) cu n 4 1 (i + 1) (0) (0)) ∨ im = 1 := by
      rcases hcv with ⟨h0, hcv⟩ | h1
      · refine Or.inl ⟨h0, ?_⟩
        rcases hcv with ⟨z, _⟩ | ⟨z, _⟩ | ⟨z, _⟩ | ⟨_, h1, h2, h3, h4⟩
        · omega
        · omega
        · omega
        · refine Or.inr (Or.inr (Or.inr ⟨rfl, h1, h2, h3, fun i' a b d => ?_⟩))
          by_cases e : i' = i
          · subst e
            exact hnb'
          · exact h4 i' (by omega) b d
      · exact Or.inr h1
    exact hX post (fun pr' tk' cc' ld' sd' tp' ce' lN' lC' sk' => br_t rfl (br_f (by decide) (br_f (by decide) (cs_x129 (by decide) post (hp _ (pm_i (p := 4) (k := 1) (i := i + 1) (l := 0) (h := 0) hge hiv ⟨Or.inr (Or.inr ⟨rfl, rfl, by omega, rfl, rfl⟩), hcv'⟩))))))
  · exact hX post (fun pr' ld' sd' tp' ce' lN' lC' sk' x1 x2 => br_f (by decide) (cs_xkeep (by omega) hL _ (nm_e (br_f (by decide) (br_f (by decide) (cs_x129 (by decide) post (hp _ (pm_i (p := 4) (k := 1) (i := i + 1) (l := 0) (h := 0) hge (iv_n hiv htn hL hbt hlt hos (fun j hj => (cs_cpl hj).trans (x1 j hj)) (fun j hj => (cs_cpl hj).trans (x2 j hj))) ⟨Or.inr (Or.inr ⟨rfl, rfl, by omega, rfl, rfl⟩), Or.inr rfl⟩))))))))
end
