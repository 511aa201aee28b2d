theorem cs_nb0 : narrow .boolean (.int 0) = .int 0 := rfl
theorem cs_nb1 : narrow .boolean (.int 1) = .int 1 := rfl
theorem cs_fb0 : fits .boolean (.int 0) = true := by decide
theorem cs_fb1 : fits .boolean (.int 1) = true := by decide
section
variable {cp pr ph gc gp oc ml cl ol vl tr ac ca pa bk ix cL cH im tl tk dr cc ld sd : Int32} {gk gb ge po oa mn cu og vl_ tp ce lN lC sk ou : Nat → Int32}
variable {dx : Int32}
theorem cs_xrdy1 {m : Nat} (hm : 0 < m) (hm2 : m ≤ 32) (hgp : gp = 0) (post : Int32 → Prop) (hp : post 1) : wpX_readyToTest post (cp, pr, 0, gc, gp, nI m, ml, cl, ol, vl, tr, ac, ca, pa, bk, ix, cL, cH, im, tl, tk, dr, cc, ld, sd, gk, gb, ge, po, oa, mn, cu, og, vl_, tp, ce, lN, lC, sk) :=
  br_t rfl (br_t hgp (br_f (nI_nle hm (by omega)) hp))
theorem cs_xrdy0 {m : Nat} (h : ph ≠ 0 ∨ gp ≠ 0 ∨ m = 0) (post : Int32 → Prop) (hp : post 0) : wpX_readyToTest post (cp, pr, ph, gc, gp, nI m, ml, cl, ol, vl, tr, ac, ca, pa, bk, ix, cL, cH, im, tl, tk, dr, cc, ld, sd, gk, gb, ge, po, oa, mn, cu, og, vl_, tp, ce, lN, lC, sk) := by
  by_cases h1 : ph = 0
  · by_cases h2 : gp = 0
    · have z := (h.resolve_left (fun w => w h1)).resolve_left (fun w => w h2)
      subst z
      exact br_t h1 (br_t h2 (br_t (by decide) hp))
    · exact br_t h1 (br_f h2 hp)
  · exact br_f h1 hp
end
section
variable {cp pr ph gc gp oc ml cl ol vl tr ac ca pa bk ix cL cH im tl tk dr cc ld sd : Int32} {gk gb ge po oa mn cu og vl_ tp ce lN lC sk ou : Nat → Int32}
theorem cs_xls {t n d : Nat} (ht : t ≤ 32) (hd : d ≤ t) (he : ∀ j, j < d → tp j = cu j) (q : Int32 → Prop) (hE : ∀ f : Nat, wX_tapeIsSmaller_30 q cp pr ph gc gp oc ml (nI n) ol vl tr ac ca pa bk ix cL cH im tl (nI t) dr cc ld sd gk gb ge po oa mn cu og vl_ tp ce lN lC sk (f + 1) (nI d)) : ∀ (e j fuel : Nat), j + e = d → e < fuel → wX_tapeIsSmaller_30 q cp pr ph gc gp oc ml (nI n) ol vl tr ac ca pa bk ix cL cH im tl (nI t) dr cc ld sd gk gb ge po oa mn cu og vl_ tp ce lN lC sk fuel (nI j) := by
  intro e
  induction e with
  | zero =>
    intro j fuel hj hf
    obtain ⟨f, rfl⟩ : ∃ f, fuel = f + 1 := ⟨fuel - 1, by omega⟩
    have z : j = d := by omega
    subst z
    exact hE f
  | succ e ih =>
    intro j fuel hj hf
    obtain ⟨f, rfl⟩ : ∃ f, fuel = f + 1 := ⟨fuel - 1, by omega⟩
    have ec : (nI j).toNatClampNeg = j := nI_clamp (by omega)
    have hv : vp_in (nI j) 32 := vp_in_nI (by omega) (by omega)
    exact br_f (nI_ge (by omega) (by omega)) ⟨hv, hv, br_t (by rw [ec]; exact he j (by omega)) (nm_r (nI_1 j) (ih (j + 1) f (by omega) (by omega)))⟩
end
section
variable {cp pr ph gc gp oc ml cl ol vl tr ac ca pa bk ix cL cH im tl tk dr cc ld sd : Int32} {gk gb ge po oa mn cu og vl_ tp ce lN lC sk ou : Nat → Int32}
theorem cs_xputL {n i g : Nat} (hn : n ≤ 32) (hi : i + g ≤ n) (post : St2 → Prop) (x1 : Int32) (hE : ∀ f : Nat, wX_putCandidateOnTape_29 post x1 (nI g) cp pr ph gc gp oc ml cl ol vl tr ac ca pa bk (nI i) cL cH im (nI (n - g)) tk dr cc ld sd (f + 1) (nI (n - g)) gk gb ge po oa mn cu og vl_ (cs_cp (cs_del cu i g) tp (n - g)) ce lN lC sk) : ∃ k : Nat, wX_putCandidateOnTape_29 post x1 (nI g) cp pr ph gc gp oc ml cl ol vl tr ac ca pa bk (nI i) cL cH im (nI (n - g)) tk dr cc ld sd k (nI 0) gk gb ge po oa mn cu og vl_ tp ce lN lC sk := by
  have loop : ∀ (d j fuel : Nat), j + d = n - g → d < fuel → wX_putCandidateOnTape_29 post x1 (nI g) cp pr ph gc gp oc ml cl ol vl tr ac ca pa bk (nI i) cL cH im (nI (n - g)) tk dr cc ld sd fuel (nI j) gk gb ge po oa mn cu og vl_ (cs_cp (cs_del cu i g) tp j) ce lN lC sk := by
    intro d
    induction d with
    | zero =>
      intro j fuel hj hf
      obtain ⟨f, rfl⟩ : ∃ f, fuel = f + 1 := ⟨fuel - 1, by omega⟩
      have z : j = n - g := by omega
      subst z
      exact hE f
    | succ d ih =>
      intro j fuel hj hf
      obtain ⟨f, rfl⟩ : ∃ f, fuel = f + 1 := ⟨fuel - 1, by omega⟩
      have ec : (nI j).toNatClampNeg = j := nI_clamp (by omega)
      have hv : vp_in (nI j) 32 := vp_in_nI (by omega) (by omega)
      have ik := ih (j + 1) f (by omega) (by omega)
      refine br_f (nI_ge (by omega) (by omega)) ?_
      by_cases h : i ≤ j
      · have e2 : nI j + nI g = nI (j + g) := nI_add j g
        have ec2 : (nI (j + g)).toNatClampNeg = j + g := nI_clamp (by omega)
        have e3 : cu (j + g) = cs_del cu i g j := (cs_del2 h).symm
        exact br_t (nI_le h (by omega)) ⟨by rw [e2]; exact vp_in_nI (by omega) (by omega), hv, nm_r (e' := cs_cp (cs_del cu i g) tp (j + 1)) (by rw [e2, ec, ec2, e3, cs_cps]) (nm_r (nI_1 j) ik)⟩
      · have e3 : cu j = cs_del cu i g j := (cs_del1 (by omega)).symm
        exact br_f (nI_ge (by omega) (by omega)) ⟨hv, hv, nm_r (e' := cs_cp (cs_del cu i g) tp (j + 1)) (by rw [ec]; rw [e3]; exact cs_cps _ _ _) (nm_r (nI_1 j) ik)⟩
  have h := loop (n - g) 0 (n - g + 1) (by omega) (by omega)
  rw [cs_cp0] at h
  exact ⟨n - g + 1, h⟩
theorem cs_xput1 {n i k : Nat} (hn : n ≤ 32) (hi : i + k ≤ n) (mid : Int32) (post : St2 → Prop) (hp : post (cp, pr, ph, gc, gp, oc, ml, nI n, ol, vl, tr, ac, ca, nI 1, nI k, nI i, cL, cH, im, nI (n - k), tk, dr, cc, ld, sd, gk, gb, ge, po, oa, mn, cu, og, vl_, cs_cp (cs_del cu i k) tp (n - k), ce, lN, lC, sk)) : wpX_putCandidateOnTape post (cp, pr, ph, gc, gp, oc, ml, nI n, ol, vl, tr, ac, ca, nI 1, nI k, nI i, cL, cH, im, tl, tk, dr, cc, ld, sd, gk, gb, ge, po, oa, mn, cu, og, vl_, tp, ce, lN, lC, sk) mid :=
  br_t rfl (nm_r (pk_sub (by omega)) (cs_xputL hn hi post mid (fun f => br_t (nI_le (Nat.le_refl _) (by omega)) (br_f (by decide) (br_f (by decide) (br_f (by decide) hp))))))
theorem cs_sub0 (n : Nat) : nI n - 0 = nI (n - 0) := pk_sub (a := n) (b := 0) (by omega)
theorem cs_xput2L {i kk : Nat} (h : i + kk ≤ 32) (post : St2 → Prop) (hp : post (cp, pr, ph, gc, gp, oc, ml, cl, ol, vl, tr, ac, ca, pa, nI kk, nI i, cL, cH, im, tl, tk, dr, cc, ld, sd, gk, gb, ge, po, oa, mn, cu, og, vl_, cs_zb tp i kk, ce, lN, lC, sk)) : ∃ k : Nat, wX_putCandidateOnTape_82 post cp pr ph gc gp oc ml cl ol vl tr ac ca pa (nI kk) (nI i) cL cH im tl tk dr cc ld sd k (nI i) gk gb ge po oa mn cu og vl_ tp ce lN lC sk := by
  have loop : ∀ (d m fuel : Nat), m + d = kk → d < fuel → wX_putCandidateOnTape_82 post cp pr ph gc gp oc ml cl ol vl tr ac ca pa (nI kk) (nI i) cL cH im tl tk dr cc ld sd fuel (nI (i + m)) gk gb ge po oa mn cu og vl_ (cs_zb tp i m) ce lN lC sk := by
    intro d
    induction d with
    | zero =>
      intro m fuel hm hf
      obtain ⟨f, rfl⟩ : ∃ f, fuel = f + 1 := ⟨fuel - 1, by omega⟩
      have z : m = kk := by omega
      subst z
      exact br_t (by rw [nI_add]; exact nI_le (Nat.le_refl _) (by omega)) hp
    | succ d ih =>
      intro m fuel hm hf
      obtain ⟨f, rfl⟩ : ∃ f, fuel = f + 1 := ⟨fuel - 1, by omega⟩
      have ec : (nI (i + m)).toNatClampNeg = i + m := nI_clamp (by omega)
      exact br_f (by rw [nI_add]; exact nI_ge (by omega) (by omega)) ⟨vp_in_nI (by omega) (by omega), nm_r (e' := cs_zb tp i (m + 1)) (by rw [ec, cs_zbs]) (nm_r (nI_1 (i + m)) (ih (m + 1) f (by omega) (by omega)))⟩
  have h := loop kk 0 (kk + 1) (by omega) (by omega)
  rw [cs_zb0] at h
  exact ⟨kk + 1, h⟩
theorem cs_xput2 {n i k : Nat} (hn : n ≤ 32) (hi : i + k ≤ n) (mid : Int32) (post : St2 → Prop) (hp : post (cp, pr, ph, gc, gp, oc, ml, nI n, ol, vl, tr, ac, ca, nI 2, nI k, nI i, cL, cH, im, nI n, tk, dr, cc, ld, sd, gk, gb, ge, po, oa, mn, cu, og, vl_, cs_zb (cs_cp cu tp n) i k, ce, lN, lC, sk)) : wpX_putCandidateOnTape post (cp, pr, ph, gc, gp, oc, ml, nI n, ol, vl, tr, ac, ca, nI 2, nI k, nI i, cL, cH, im, tl, tk, dr, cc, ld, sd, gk, gb, ge, po, oa, mn, cu, og, vl_, tp, ce, lN, lC, sk) mid := by
  refine br_f (by decide) (nm_r (cs_sub0 n) (cs_xputL (g := 0) hn (by omega) post mid (fun f => ?_)))
  rw [cs_del0]
  exact br_t (nI_le (Nat.le_refl _) (by omega)) (br_t rfl (cs_xput2L (by omega) post hp))
theorem cs_xput3 {n i : Nat} (hn : n ≤ 32) (hi : i < n) (mid : Int32) (post : St2 → Prop) (hp : post (cp, pr, ph, gc, gp, oc, ml, nI n, ol, vl, tr, ac, ca, nI 3, bk, nI i, cL, cH, im, nI n, tk, dr, cc, ld, sd, gk, gb, ge, po, oa, mn, cu, og, vl_, upd (cs_cp cu tp n) i mid, ce, lN, lC, sk)) : wpX_putCandidateOnTape post (cp, pr, ph, gc, gp, oc, ml, nI n, ol, vl, tr, ac, ca, nI 3, bk, nI i, cL, cH, im, tl, tk, dr, cc, ld, sd, gk, gb, ge, po, oa, mn, cu, og, vl_, tp, ce, lN, lC, sk) mid := by
  refine br_f (by decide) (nm_r (cs_sub0 n) (cs_xputL (g := 0) hn (by omega) post mid (fun f => ?_)))
  rw [cs_del0]
  exact br_t (nI_le (Nat.le_refl _) (by omega)) (br_f (by decide) (br_t rfl ⟨vp_in_nI (by omega) (by omega), nm_r (e' := upd (cs_cp cu tp n) i mid) (by rw [nI_clamp (by omega)]; rfl) hp⟩))
theorem cs_xput4 {n i : Nat} (hn : n ≤ 32) (hi : i + 1 < n) (mid : Int32) (post : St2 → Prop) (hp : post (cp, pr, ph, gc, gp, oc, ml, nI n, ol, vl, tr, ac, ca, nI 4, bk, nI i, cL, cH, im, nI n, tk, dr, cc, ld, sd, gk, gb, ge, po, oa, mn, cu, og, vl_, upd (upd (cs_cp cu tp n) i (cu (i + 1))) (i + 1) (cu i), ce, lN, lC, sk)) : wpX_putCandidateOnTape post (cp, pr, ph, gc, gp, oc, ml, nI n, ol, vl, tr, ac, ca, nI 4, bk, nI i, cL, cH, im, tl, tk, dr, cc, ld, sd, gk, gb, ge, po, oa, mn, cu, og, vl_, tp, ce, lN, lC, sk) mid := by
  have e0 : (nI i).toNatClampNeg = i := nI_clamp (by omega)
  have e1 : (nI (i + 1)).toNatClampNeg = i + 1 := nI_clamp (by omega)
  have e2 : nI i + 1 = nI (i + 1) := nI_1 i
  have hv : vp_in (nI i) 32 := vp_in_nI (by omega) (by omega)
  have hv1 : vp_in (nI i + 1) 32 := by rw [e2]; exact vp_in_nI (by omega) (by omega)
  refine br_f (by decide) (nm_r (cs_sub0 n) (cs_xputL (g := 0) hn (by omega) post mid (fun f => ?_)))
  rw [cs_del0]
  exact br_t (nI_le (Nat.le_refl _) (by omega)) (br_f (by decide) (br_f (by decide) (br_t rfl ⟨hv1, hv, nm_r (e' := upd (cs_cp cu tp n) i (cu (i + 1))) (by rw [e2, e0, e1]; rfl) ⟨hv, hv1, nm_r (e' := upd (upd (cs_cp cu tp n) i (cu (i + 1))) (i + 1) (cu i)) (by rw [e2, e0, e1]) hp⟩⟩)))
end
def cs_md (pa bk ix lo hi yn : Int32) : Prop := ∃ k i : Nat, bk = nI k ∧ ix = nI i ∧ i ≤ 33 ∧
  (((pa = nI 1 ∨ pa = nI 2) ∧ (k = 1 ∨ k = 2 ∨ k = 4) ∧ lo = 0 ∧ hi = 0 ∧ yn = 0) ∨ (pa = nI 3 ∧ k = 1 ∧ yn = 1 ∧ ∃ l h : Nat, lo = nI l ∧ hi = nI h ∧ l ≤ 256 ∧ h ≤ 255) ∨ (pa = nI 4 ∧ k = 1 ∧ lo = 0 ∧ hi = 0 ∧ yn = 0))
section
variable {cp pr ph gc gp oc ml cl ol vl tr ac ca pa bk ix cL cH im tl tk dr cc ld sd : Int32} {gk gb ge po oa mn cu og vl_ tp ce lN lC sk ou : Nat → Int32}
theorem cs_x129 {i : Nat} (hpa : ¬ pa = 3) (post : St2 → Prop) (hp : post (cp, pr, ph, gc, gp, oc, ml, cl, ol, vl, tr, ac, ca, pa, bk, nI (i + 1), 0, 0, im, tl, tk, dr, cc, ld, sd, gk, gb, ge, po, oa, mn, cu, og, vl_, tp, ce, lN, lC, sk)) : wX_performTrial_129 post cp pr ph gc gp oc ml cl ol vl tr ac ca pa bk (nI i) cL cH im tl tk dr cc ld sd gk gb ge po oa mn cu og vl_ tp ce lN lC sk := by
  unfold wX_performTrial_129
  rw [nI_1]
  exact br_f hpa hp
theorem cs_half (l h : Nat) (hl : l ≤ 255) (hh : h ≤ 255) : (nI l + nI h) / 2 = nI ((l + h) / 2) := by
  rw [nI_add]
  exact pk_div (d := 2) (by omega) (by decide) (by decide)
end
