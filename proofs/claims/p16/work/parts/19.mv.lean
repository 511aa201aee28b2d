theorem cv_K2 {k : Nat} (h : cv_K k) (h1 : k ≠ 1) : cv_K (k / 2) ∧ 1 < k ∧ k ≤ 4 := by
  rcases h with rfl | rfl | rfl
  · omega
  · exact ⟨Or.inl rfl, by omega, by omega⟩
  · exact ⟨Or.inr (Or.inl rfl), by omega, by omega⟩
theorem cv_Kle {k : Nat} (h : cv_K k) : 1 ≤ k ∧ k ≤ 4 := by
  rcases h with rfl | rfl | rfl <;> omega
theorem cv_Kh {k k' : Nat} (h : cv_K k) (h' : cv_K k') (h1 : k / 2 < k') : k ≤ k' := by
  rcases h with rfl | rfl | rfl <;> rcases h' with rfl | rfl | rfl <;> omega
def mv_mu (p k i : Nat) (im : Int32) : Nat := (if im = 1 then 500 else 0) + (if p = 1 then 400 + k / 2 else if p = 2 then 200 + 50 * (k / 2) + (40 - i) else if p = 3 then 100 + (40 - i) else 40 - i)
section
variable {cp pr ph gc gp oc ml cl ol vl tr ac ca pa bk ix cL cH im tl tk dr cc ld sd : Int32} {gk gb ge po oa mn cu og vl_ tp ce lN lC sk ou : Nat → Int32}
variable {en : Nat → Nat} {gn m c o n v : Nat}
theorem bz_ {i k : Nat} (h : i + k ≤ 32) : ∃ z : Int32, ((z = 1 ∧ ∀ j, i ≤ j → j < i + k → cu j = 0) ∨ (z = 0 ∧ ∃ j, i ≤ j ∧ j < i + k ∧ cu j ≠ 0)) ∧ ∀ q : Int32 → Prop, q z → wpX_blockIsZero q (cp, pr, ph, gc, gp, oc, ml, cl, ol, vl, tr, ac, ca, pa, nI k, nI i, cL, cH, im, tl, tk, dr, cc, ld, sd, gk, gb, ge, po, oa, mn, cu, og, vl_, tp, ce, lN, lC, sk) := by
  have e : nI i + nI k = nI (i + k) := nI_add i k
  have loop : ∀ (d j : Nat), j + d = i + k → i ≤ j → (∀ a, i ≤ a → a < j → cu a = 0) → ∃ z : Int32, ((z = 1 ∧ ∀ j, i ≤ j → j < i + k → cu j = 0) ∨ (z = 0 ∧ ∃ j, i ≤ j ∧ j < i + k ∧ cu j ≠ 0)) ∧ ∀ (q : Int32 → Prop) (fuel : Nat), d < fuel → q z → wX_blockIsZero_5 q cp pr ph gc gp oc ml cl ol vl tr ac ca pa (nI k) (nI i) cL cH im tl tk dr cc ld sd gk gb ge po oa mn cu og vl_ tp ce lN lC sk fuel (nI j) := by
    intro d
    induction d with
    | zero =>
      intro j hj hij ha
      have g : nI i + nI k ≤ nI j := by rw [e]; exact nI_le (by omega) (by omega)
      refine ⟨1, Or.inl ⟨rfl, fun a x y => ha a x (by omega)⟩, fun q fuel hf hq => ?_⟩
      obtain ⟨f, rfl⟩ : ∃ f, fuel = f + 1 := ⟨fuel - 1, by omega⟩
      exact br_t g hq
    | succ d ih =>
      intro j hj hij ha
      have g : ¬ nI i + nI k ≤ nI j := by rw [e]; exact nI_ge (by omega) (by omega)
      have ec : (nI j).toNatClampNeg = j := nI_clamp (by omega)
      have hv : vp_in (nI j) 32 := vp_in_nI (by omega) (by omega)
      by_cases z0 : cu j = 0
      · obtain ⟨z, hz, hX⟩ := ih (j + 1) (by omega) (by omega) (fun a x y => by
          by_cases w : a = j
          · rw [w]
            exact z0
          · exact ha a x (by omega))
        refine ⟨z, hz, fun q fuel hf hq => ?_⟩
        obtain ⟨f, rfl⟩ : ∃ f, fuel = f + 1 := ⟨fuel - 1, by omega⟩
        exact br_f g ⟨hv, br_t (by rw [ec]; exact z0) (nm_r (nI_1 j) (hX q f (by omega) hq))⟩
      · refine ⟨0, Or.inr ⟨rfl, j, hij, by omega, z0⟩, fun q fuel hf hq => ?_⟩
        obtain ⟨f, rfl⟩ : ∃ f, fuel = f + 1 := ⟨fuel - 1, by omega⟩
        exact br_f g ⟨hv, br_f (by rw [ec]; exact z0) hq⟩
  obtain ⟨z, hz, hX⟩ := loop k i (by omega) (Nat.le_refl i) (fun a x y => absurd x (by omega))
  exact ⟨z, hz, fun q hq => ⟨k + 1, hX q (k + 1) (by omega) hq⟩⟩
theorem mv_l (hge : ∀ j, j < gn → ge j = nI (en j)) (hiv : iv_ gk gb en gn po oa m c og o cu n vl_ v) :
    ∀ (M p k i l h : Nat) (im : Int32), mv_mu p k i im < M → cv_m p k i l h → ((im = 0 ∧ cv_at (nb_ gk gb en gn po oa m cu n) cu n p k i l h) ∨ im = 1) → ∀ (post : St2 → Prop) (fuel st : Nat), M < fuel → st + M < 1000000 → (∀ u', (pt_ gk gb en gn po oa m c og o u' ∨ pd_ gk gb en gn po oa m c og o u') → post u') → wX_moveToTrial_2 post fuel (nI st) (nI c) pr 1 (nI gn) 0 (nI m) ml (nI n) (nI o) (nI v) tr ac ca (nI p) (nI k) (nI i) (nI l) (nI h) im tl tk dr cc ld sd gk gb ge po oa mn cu og vl_ tp ce lN lC sk := by
  have hn : n ≤ 32 := Nat.le_trans hiv.1 hiv.2.1
  have hb : cs_by cu n := hiv.2.2.2.2.1
  intro M
  induction M with
  | zero => intro p k i l h im hμ; omega
  | succ M ih =>
    intro p k i l h im hμ hmm hcv post fuel st hf hs hp
    obtain ⟨f, rfl⟩ : ∃ f, fuel = f + 1 := ⟨fuel - 1, by omega⟩
    rcases hmm with ⟨rfl | rfl, hk, hi, rfl, rfl⟩ | ⟨rfl, rfl, hi, hl, hh⟩ | ⟨rfl, rfl, hi, rfl, rfl⟩
    · have kl := cv_Kle hk
      by_cases hin : i + k ≤ n
      · exact cs_mstop (by omega) (fun q hq => cs_at1 hn kl.2 hin q hq) post (hp _ (Or.inl (pt_i (p := 1) (k := k) (i := i) (l := 0) (h := 0) hge hiv ⟨Or.inl ⟨Or.inl rfl, hk, hin, rfl, rfl⟩, hcv⟩)))
      · by_cases hk1 : k = 1
        · subst hk1
          have hcv' : (im = 0 ∧ cv_at (nb_ gk gb en gn po oa m cu n) cu n 2 4 0 0 0) ∨ im = 1 := by
            rcases hcv with ⟨h0, hcv⟩ | h1
            · refine Or.inl ⟨h0, ?_⟩
              rcases hcv with ⟨_, h1⟩ | ⟨z, _⟩ | ⟨z, _⟩ | ⟨z, _⟩
              · refine Or.inr (Or.inl ⟨rfl, fun k' i' a b d => h1 k' i' a b ?_, fun k' i' a b _ d => ?_⟩)
                · have := cv_Kle a
                  omega
                · have := cv_Kle a
                  omega
              · omega
              · omega
              · omega
            · exact Or.inr h1
          have g := ih 2 4 0 0 0 im (by unfold mv_mu at hμ ⊢; simp at hμ ⊢; omega) (Or.inl ⟨Or.inr rfl, Or.inr (Or.inr rfl), by omega, rfl, rfl⟩) hcv' post f (st + 1) (by omega) (by omega) hp
          exact cs_mstep (by omega) (fun q hq => cs_atO (by decide) hn (by omega) (by omega) (by omega) q hq) (fun p hp => cs_soP1 hn (by omega) (by omega) p hp) post g
        · obtain ⟨k2, k3, k4⟩ := cv_K2 hk hk1
          have hcv' : (im = 0 ∧ cv_at (nb_ gk gb en gn po oa m cu n) cu n 1 (k / 2) 0 0 0) ∨ im = 1 := by
            rcases hcv with ⟨h0, hcv⟩ | h1
            · refine Or.inl ⟨h0, ?_⟩
              rcases hcv with ⟨_, h1⟩ | ⟨z, _⟩ | ⟨z, _⟩ | ⟨z, _⟩
              · refine Or.inl ⟨rfl, fun k' i' a b d => h1 k' i' a b ?_⟩
                rcases d with d | d
                · have := cv_Kh hk a d
                  omega
                · omega
              · omega
              · omega
              · omega
            · exact Or.inr h1
          have g := ih 1 (k / 2) 0 0 0 im (by unfold mv_mu at hμ ⊢; simp at hμ ⊢; omega) (Or.inl ⟨Or.inl rfl, k2, by omega, rfl, rfl⟩) hcv' post f (st + 1) (by omega) (by omega) hp
          exact cs_mstep (by omega) (fun q hq => cs_atO (by decide) hn (by omega) (by omega) (by omega) q hq) (fun p hp => cs_soH (by decide) (by decide) hn (by omega) (by omega) (by omega) (by omega) p hp) post g
    · have kl := cv_Kle hk
      by_cases hin : i + k ≤ n
      · obtain ⟨z, hz, hX⟩ := bz_ (cp := nI c) (pr := pr) (ph := 1) (gc := nI gn) (gp := 0) (oc := nI m) (ml := ml) (cl := nI n) (ol := nI o) (vl := nI v) (tr := tr) (ac := ac) (ca := ca) (pa := nI 2) (cL := nI 0) (cH := nI 0) (im := im) (tl := tl) (tk := tk) (dr := dr) (cc := cc) (ld := ld) (sd := sd) (gk := gk) (gb := gb) (ge := ge) (po := po) (oa := oa) (mn := mn) (cu := cu) (og := og) (vl_ := vl_) (tp := tp) (ce := ce) (lN := lN) (lC := lC) (sk := sk) (i := i) (k := k) (by omega)
        rcases hz with ⟨rfl, hz⟩ | ⟨rfl, hz⟩
        · have hcv' : (im = 0 ∧ cv_at (nb_ gk gb en gn po oa m cu n) cu n 2 k (i + 1) 0 0) ∨ im = 1 := by
            rcases hcv with ⟨h0, hcv⟩ | h1
            · refine Or.inl ⟨h0, ?_⟩
              rcases hcv with ⟨z, _⟩ | ⟨_, h1, h2⟩ | ⟨z, _⟩ | ⟨z, _⟩
              · omega
              · refine Or.inr (Or.inl ⟨rfl, h1, fun k' i' a b x d => ?_⟩)
                by_cases w : k' = k ∧ i' = i
                · obtain ⟨rfl, rfl⟩ := w
                  obtain ⟨j, x1, x2, x3⟩ := x
                  exact absurd (hz j x1 x2) x3
                · exact h2 k' i' a b x (by omega)
              · omega
              · omega
            · exact Or.inr h1
          have g := ih 2 k (i + 1) 0 0 im (by unfold mv_mu at hμ ⊢; simp at hμ ⊢; omega) (Or.inl ⟨Or.inr rfl, hk, by omega, rfl, rfl⟩) hcv' post f (st + 1) (by omega) (by omega) hp
          exact cs_mstep (by omega) (fun q hq => cs_at2 hn kl.2 hin hX q (br_f (by decide) hq)) (fun p hp => cs_soI (by decide) (by decide) hn kl.2 hin p hp) post g
        · exact cs_mstop (by omega) (fun q hq => cs_at2 hn kl.2 hin hX q (br_t rfl hq)) post (hp _ (Or.inl (pt_i (p := 2) (k := k) (i := i) (l := 0) (h := 0) hge hiv ⟨Or.inl ⟨Or.inr rfl, hk, hin, rfl, rfl⟩, hcv⟩)))
      · by_cases hk1 : k = 1
        · subst hk1
          obtain ⟨b, hb2, eb⟩ : ∃ b : Nat, b ≤ 255 ∧ (if 0 < n then cu 0 else 0) = nI b := by
            by_cases w : 0 < n
            · rw [if_pos w]
              obtain ⟨b, x, y⟩ := hb 0 w
              exact ⟨b, by omega, y⟩
            · rw [if_neg w]
              exact ⟨0, by omega, rfl⟩
          have hcv' : (im = 0 ∧ cv_at (nb_ gk gb en gn po oa m cu n) cu n 3 1 0 0 b) ∨ im = 1 := by
            rcases hcv with ⟨h0, hcv⟩ | h1
            · refine Or.inl ⟨h0, ?_⟩
              rcases hcv with ⟨z, _⟩ | ⟨_, h1, h2⟩ | ⟨z, _⟩ | ⟨z, _⟩
              · omega
              · refine Or.inr (Or.inr (Or.inl ⟨rfl, h1, fun k' i' a b x d => h2 k' i' a b x ?_, fun i' b a => absurd a (by omega), fun w => ?_⟩))
                · have := cv_Kle a
                  omega
                · rw [if_pos w] at eb
                  exact ⟨eb, by omega, Or.inl rfl⟩
              · omega
              · omega
            · exact Or.inr h1
          have g := ih 3 1 0 0 b im (by unfold mv_mu at hμ ⊢; simp at hμ ⊢; omega) (Or.inr (Or.inl ⟨rfl, rfl, by omega, by omega, hb2⟩)) hcv' post f (st + 1) (by omega) (by omega) hp
          rw [← eb] at g
          exact cs_mstep (by omega) (fun q hq => cs_atO (by decide) hn (by omega) (by omega) (by omega) q hq) (fun p hp => cs_soP2 hn (by omega) (by omega) p hp) post g
        · obtain ⟨k2, k3, k4⟩ := cv_K2 hk hk1
          have hcv' : (im = 0 ∧ cv_at (nb_ gk gb en gn po oa m cu n) cu n 2 (k / 2) 0 0 0) ∨ im = 1 := by
            rcases hcv with ⟨h0, hcv⟩ | h1
            · refine Or.inl ⟨h0, ?_⟩
              rcases hcv with ⟨z, _⟩ | ⟨_, h1, h2⟩ | ⟨z, _⟩ | ⟨z, _⟩
              · omega
              · refine Or.inr (Or.inl ⟨rfl, h1, fun k' i' a b x d => h2 k' i' a b x ?_⟩)
                rcases d with d | d
                · have := cv_Kh hk a d
                  omega
                · omega
              · omega
              · omega
            · exact Or.inr h1
          have g := ih 2 (k / 2) 0 0 0 im (by unfold mv_mu at hμ ⊢; simp at hμ ⊢; omega) (Or.inl ⟨Or.inr rfl, k2, by omega, rfl, rfl⟩) hcv' post f (st + 1) (by omega) (by omega) hp
          exact cs_mstep (by omega) (fun q hq => cs_atO (by decide) hn (by omega) (by omega) (by omega) q hq) (fun p hp => cs_soH (by decide) (by decide) hn (by omega) (by omega) (by omega) (by omega) p hp) post g
    · by_cases hin : i < n
      · by_cases hlh : l < h
        · exact cs_mstop (by omega) (fun q hq => cs_at3 hn hin q (br_f (nI_ge hlh (by omega)) hq)) post (hp _ (Or.inl (pt_i (p := 3) (k := 1) (i := i) (l := l) (h := h) hge hiv ⟨Or.inr (Or.inl ⟨rfl, rfl, hin, hlh, hh⟩), hcv⟩)))
        · obtain ⟨b, hb2, eb⟩ : ∃ b : Nat, b ≤ 255 ∧ (if i + 1 < n then cu (i + 1) else 0) = nI b := by
            by_cases w : i + 1 < n
            · rw [if_pos w]
              obtain ⟨b, x, y⟩ := hb (i + 1) w
              exact ⟨b, by omega, y⟩
            · rw [if_neg w]
              exact ⟨0, by omega, rfl⟩
          have hcv' : (im = 0 ∧ cv_at (nb_ gk gb en gn po oa m cu n) cu n 3 1 (i + 1) 0 b) ∨ im = 1 := by
            rcases hcv with ⟨h0, hcv⟩ | h1
            · refine Or.inl ⟨h0, ?_⟩
              rcases hcv with ⟨z, _⟩ | ⟨z, _⟩ | ⟨_, h1, h2, h3, h4⟩ | ⟨z, _⟩
              · omega
              · omega
              · refine Or.inr (Or.inr (Or.inl ⟨rfl, h1, h2, fun i' b' a x y z => ?_, fun w => ?_⟩))
                · by_cases w : i' = i
                  · subst w
                    obtain ⟨s1, s2, s3⟩ := h4 hin
                    have e1 : h = b' + 1 := (nI_eq (by omega) (by omega)).mp (s1.symm.trans y)
                    rcases s3 with s3 | s3
                    · omega
                    · have e2 : l - 1 = b' := by omega
                      rw [e2] at s3
                      exact s3
                  · exact h3 i' b' (by omega) x y z
                · rw [if_pos w] at eb
                  exact ⟨eb, by omega, Or.inl rfl⟩
              · omega
            · exact Or.inr h1
          have g := ih 3 1 (i + 1) 0 b im (by unfold mv_mu at hμ ⊢; simp at hμ ⊢; omega) (Or.inr (Or.inl ⟨rfl, rfl, by omega, by omega, hb2⟩)) hcv' post f (st + 1) (by omega) (by omega) hp
          rw [← eb] at g
          exact cs_mstep (by omega) (fun q hq => cs_at3 hn hin q (br_t (nI_le (by omega) (by omega)) hq)) (fun p hp => cs_soI3 hn hin p hp) post g
      · have hcv' : (im = 0 ∧ cv_at (nb_ gk gb en gn po oa m cu n) cu n 4 1 0 0 0) ∨ im = 1 := by
          rcases hcv with ⟨h0, hcv⟩ | h1
          · refine Or.inl ⟨h0, ?_⟩
            rcases hcv with ⟨z, _⟩ | ⟨z, _⟩ | ⟨_, h1, h2, h3, h4⟩ | ⟨z, _⟩
            · omega
            · omega
            · exact Or.inr (Or.inr (Or.inr ⟨rfl, h1, h2, fun i' b' a x y z => h3 i' b' (by omega) x y z, fun i' a => absurd a (by omega)⟩))
            · omega
          · exact Or.inr h1
        have g := ih 4 1 0 0 0 im (by unfold mv_mu at hμ ⊢; simp at hμ ⊢; omega) (Or.inr (Or.inr ⟨rfl, rfl, by omega, rfl, rfl⟩)) hcv' post f (st + 1) (by omega) (by omega) hp
        exact cs_mstep (by omega) (fun q hq => cs_atO (by decide) hn (by omega) (by omega) (by omega) q hq) (fun p hp => cs_soP3 hn (by omega) (by omega) p hp) post g
    · by_cases hin : i + 1 < n
      · by_cases hz : cu i ≤ cu (i + 1)
        · have hcv' : (im = 0 ∧ cv_at (nb_ gk gb en gn po oa m cu n) cu n 4 1 (i + 1) 0 0) ∨ im = 1 := by
            rcases hcv with ⟨h0, hcv⟩ | h1
            · refine Or.inl ⟨h0, ?_⟩
              rcases hcv with ⟨z, _⟩ | ⟨z, _⟩ | ⟨z, _⟩ | ⟨_, h1, h2, h3, h4⟩
              · omega
              · omega
              · omega
              · refine Or.inr (Or.inr (Or.inr ⟨rfl, h1, h2, h3, fun i' a x y => ?_⟩))
                by_cases w : i' = i
                · subst w
                  exact absurd hz y
                · exact h4 i' (by omega) x y
            · exact Or.inr h1
          have g := ih 4 1 (i + 1) 0 0 im (by unfold mv_mu at hμ ⊢; simp at hμ ⊢; omega) (Or.inr (Or.inr ⟨rfl, rfl, by omega, rfl, rfl⟩)) hcv' post f (st + 1) (by omega) (by omega) hp
          exact cs_mstep (by omega) (fun q hq => cs_at4 hn hin q (br_t hz hq)) (fun p hp => cs_soI4 hn hin p hp) post g
        · exact cs_mstop (by omega) (fun q hq => cs_at4 hn hin q (br_f hz hq)) post (hp _ (Or.inl (pt_i (p := 4) (k := 1) (i := i) (l := 0) (h := 0) hge hiv ⟨Or.inr (Or.inr ⟨rfl, rfl, hin, rfl, rfl⟩), hcv⟩)))
      · rcases hcv with ⟨rfl, hcv⟩ | rfl
        · obtain ⟨f', rfl⟩ : ∃ f', f = f' + 1 := ⟨f - 1, by omega⟩
          have hall : cv_all (nb_ gk gb en gn po oa m cu n) cu n := by
            rcases hcv with ⟨z, _⟩ | ⟨z, _⟩ | ⟨z, _⟩ | ⟨_, h1, h2, h3, h4⟩
            · omega
            · omega
            · omega
            · exact ⟨h1, h2, h3, fun i' a x y => h4 i' (by omega) x y⟩
          exact cs_mstep (by omega) (fun q hq => cs_atO4 hn (by omega) (by omega) q hq) (fun p hp => cs_so4D hn (by omega) (by omega) p hp) post (cs_mdone post (hp _ (Or.inr (pd_i (p := 0) (k := 0) (i := 0) (l := 0) (h := 0) hge hiv hall))))
        · have g := ih 1 4 0 0 0 0 (by unfold mv_mu at hμ ⊢; simp at hμ ⊢; omega) (Or.inl ⟨Or.inl rfl, Or.inr (Or.inr rfl), by omega, rfl, rfl⟩) (Or.inl ⟨rfl, Or.inl ⟨rfl, fun k' i' a b d => (by have := cv_Kle a; omega)⟩⟩) post f (st + 1) (by omega) (by omega) hp
          exact cs_mstep (by omega) (fun q hq => cs_atO4 hn (by omega) (by omega) q hq) (fun p hp => cs_so4R hn (by omega) (by omega) p hp) post g
end
