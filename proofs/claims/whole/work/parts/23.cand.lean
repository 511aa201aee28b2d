section
variable {cp pr ph gc gp oc ml cl ol vl tr ac ca pa bk ix cL cH im tl tk dr cc ld sd yn yl yt yr yo : Int32} {gk gb ge po oa mn cu og vl_ tp ce lN lC sk yA cd ou sN sS sQ sM : Nat → Int32}
theorem cs_xputL {n i g : Nat} (hn : n ≤ 32) (hi : i + g ≤ n) (post : SX → Prop) (x1 : Int32) (hE : ∀ f : Nat, wX_putCandidateOnTape_29 post x1 (nI g) cp pr ph gc gp oc ml cl ol vl tr ac ca pa bk (nI i) cL cH im (nI (n - g)) tk dr cc ld sd (f + 1) (nI (n - g)) gk gb ge po oa mn cu og vl_ (cs_cp (cs_del cu i g) tp (n - g)) ce lN lC sk) : ∃ k : Nat, wX_putCandidateOnTape_29 post x1 (nI g) cp pr ph gc gp oc ml cl ol vl tr ac ca pa bk (nI i) cL cH im (nI (n - g)) tk dr cc ld sd k (nI 0) gk gb ge po oa mn cu og vl_ tp ce lN lC sk := by
  have loop : ∀ (d j fuel : Nat), j + d = n - g → d < fuel → wX_putCandidateOnTape_29 post x1 (nI g) cp pr ph gc gp oc ml cl ol vl tr ac ca pa bk (nI i) cL cH im (nI (n - g)) tk dr cc ld sd fuel (nI j) gk gb ge po oa mn cu og vl_ (cs_cp (cs_del cu i g) tp j) ce lN lC sk := by
    intro d
    induction d with
    | zero =>
      intro j fuel hj hf
      obtain ⟨f, rfl⟩ : ∃ f, fuel = f + 1 := ⟨fuel - 1, by omega⟩
      have z : j = n - g := by omega
      subst z
      exact hE f
    | succ d ih =>
      intro j fuel hj hf
      obtain ⟨f, rfl⟩ : ∃ f, fuel = f + 1 := ⟨fuel - 1, by omega⟩
      have ec : (nI j).toNatClampNeg = j := nI_clamp (by omega)
      have hv : vp_in (nI j) 32 := vp_in_nI (by omega) (by omega)
      have ik := ih (j + 1) f (by omega) (by omega)
      refine br_f (nI_ge (by omega) (by omega)) ?_
      by_cases h : i ≤ j
      · have e2 : nI j + nI g = nI (j + g) := nI_add j g
        have ec2 : (nI (j + g)).toNatClampNeg = j + g := nI_clamp (by omega)
        have e3 : cu (j + g) = cs_del cu i g j := (cs_del2 h).symm
        exact br_t (nI_le h (by omega)) ⟨by rw [e2]; exact vp_in_nI (by omega) (by omega), hv, nm_r (e' := cs_cp (cs_del cu i g) tp (j + 1)) (by rw [e2, ec, ec2, e3, cs_cps]) (nm_r (nI_1 j) ik)⟩
      · have e3 : cu j = cs_del cu i g j := (cs_del1 (by omega)).symm
        exact br_f (nI_ge (by omega) (by omega)) ⟨hv, hv, nm_r (e' := cs_cp (cs_del cu i g) tp (j + 1)) (by rw [ec]; rw [e3]; exact cs_cps _ _ _) (nm_r (nI_1 j) ik)⟩
  have h := loop (n - g) 0 (n - g + 1) (by omega) (by omega)
  rw [cs_cp0] at h
  exact ⟨n - g + 1, h⟩
theorem cs_xput1 {n i k : Nat} (hn : n ≤ 32) (hi : i + k ≤ n) (mid : Int32) (post : SX → Prop) (hp : post (cp, pr, ph, gc, gp, oc, ml, nI n, ol, vl, tr, ac, ca, nI 1, nI k, nI i, cL, cH, im, nI (n - k), tk, dr, cc, ld, sd, gk, gb, ge, po, oa, mn, cu, og, vl_, cs_cp (cs_del cu i k) tp (n - k), ce, lN, lC, sk)) : wpX_putCandidateOnTape post (cp, pr, ph, gc, gp, oc, ml, nI n, ol, vl, tr, ac, ca, nI 1, nI k, nI i, cL, cH, im, tl, tk, dr, cc, ld, sd, gk, gb, ge, po, oa, mn, cu, og, vl_, tp, ce, lN, lC, sk) mid :=
  br_t rfl (nm_r (pk_sub (by omega)) (cs_xputL hn hi post mid (fun f => br_t (nI_le (Nat.le_refl _) (by omega)) (br_f (by decide) (br_f (by decide) (br_f (by decide) hp))))))
theorem cs_sub0 (n : Nat) : nI n - 0 = nI (n - 0) := pk_sub (a := n) (b := 0) (by omega)
theorem cs_xput2L {i kk : Nat} (h : i + kk ≤ 32) (post : SX → Prop) (hp : post (cp, pr, ph, gc, gp, oc, ml, cl, ol, vl, tr, ac, ca, pa, nI kk, nI i, cL, cH, im, tl, tk, dr, cc, ld, sd, gk, gb, ge, po, oa, mn, cu, og, vl_, cs_zb tp i kk, ce, lN, lC, sk)) : ∃ k : Nat, wX_putCandidateOnTape_82 post cp pr ph gc gp oc ml cl ol vl tr ac ca pa (nI kk) (nI i) cL cH im tl tk dr cc ld sd k (nI i) gk gb ge po oa mn cu og vl_ tp ce lN lC sk := by
  have loop : ∀ (d m fuel : Nat), m + d = kk → d < fuel → wX_putCandidateOnTape_82 post cp pr ph gc gp oc ml cl ol vl tr ac ca pa (nI kk) (nI i) cL cH im tl tk dr cc ld sd fuel (nI (i + m)) gk gb ge po oa mn cu og vl_ (cs_zb tp i m) ce lN lC sk := by
    intro d
    induction d with
    | zero =>
      intro m fuel hm hf
      obtain ⟨f, rfl⟩ : ∃ f, fuel = f + 1 := ⟨fuel - 1, by omega⟩
      have z : m = kk := by omega
      subst z
      exact br_t (by rw [nI_add]; exact nI_le (Nat.le_refl _) (by omega)) hp
    | succ d ih =>
      intro m fuel hm hf
      obtain ⟨f, rfl⟩ : ∃ f, fuel = f + 1 := ⟨fuel - 1, by omega⟩
      have ec : (nI (i + m)).toNatClampNeg = i + m := nI_clamp (by omega)
      exact br_f (by rw [nI_add]; exact nI_ge (by omega) (by omega)) ⟨vp_in_nI (by omega) (by omega), nm_r (e' := cs_zb tp i (m + 1)) (by rw [ec, cs_zbs]) (nm_r (nI_1 (i + m)) (ih (m + 1) f (by omega) (by omega)))⟩
  have h := loop kk 0 (kk + 1) (by omega) (by omega)
  rw [cs_zb0] at h
  exact ⟨kk + 1, h⟩
theorem cs_xput2 {n i k : Nat} (hn : n ≤ 32) (hi : i + k ≤ n) (mid : Int32) (post : SX → Prop) (hp : post (cp, pr, ph, gc, gp, oc, ml, nI n, ol, vl, tr, ac, ca, nI 2, nI k, nI i, cL, cH, im, nI n, tk, dr, cc, ld, sd, gk, gb, ge, po, oa, mn, cu, og, vl_, cs_zb (cs_cp cu tp n) i k, ce, lN, lC, sk)) : wpX_putCandidateOnTape post (cp, pr, ph, gc, gp, oc, ml, nI n, ol, vl, tr, ac, ca, nI 2, nI k, nI i, cL, cH, im, tl, tk, dr, cc, ld, sd, gk, gb, ge, po, oa, mn, cu, og, vl_, tp, ce, lN, lC, sk) mid := by
  refine br_f (by decide) (nm_r (cs_sub0 n) (cs_xputL (g := 0) hn (by omega) post mid (fun f => ?_)))
  rw [cs_del0]
  exact br_t (nI_le (Nat.le_refl _) (by omega)) (br_t rfl (cs_xput2L (by omega) post hp))
theorem cs_xput3 {n i : Nat} (hn : n ≤ 32) (hi : i < n) (mid : Int32) (post : SX → Prop) (hp : post (cp, pr, ph, gc, gp, oc, ml, nI n, ol, vl, tr, ac, ca, nI 3, bk, nI i, cL, cH, im, nI n, tk, dr, cc, ld, sd, gk, gb, ge, po, oa, mn, cu, og, vl_, upd (cs_cp cu tp n) i mid, ce, lN, lC, sk)) : wpX_putCandidateOnTape post (cp, pr, ph, gc, gp, oc, ml, nI n, ol, vl, tr, ac, ca, nI 3, bk, nI i, cL, cH, im, tl, tk, dr, cc, ld, sd, gk, gb, ge, po, oa, mn, cu, og, vl_, tp, ce, lN, lC, sk) mid := by
  refine br_f (by decide) (nm_r (cs_sub0 n) (cs_xputL (g := 0) hn (by omega) post mid (fun f => ?_)))
  rw [cs_del0]
  exact br_t (nI_le (Nat.le_refl _) (by omega)) (br_f (by decide) (br_t rfl ⟨vp_in_nI (by omega) (by omega), nm_r (e' := upd (cs_cp cu tp n) i mid) (by rw [nI_clamp (by omega)]; rfl) hp⟩))
theorem cs_xput4 {n i : Nat} (hn : n ≤ 32) (hi : i + 1 < n) (mid : Int32) (post : SX → Prop) (hp : post (cp, pr, ph, gc, gp, oc, ml, nI n, ol, vl, tr, ac, ca, nI 4, bk, nI i, cL, cH, im, nI n, tk, dr, cc, ld, sd, gk, gb, ge, po, oa, mn, cu, og, vl_, upd (upd (cs_cp cu tp n) i (cu (i + 1))) (i + 1) (cu i), ce, lN, lC, sk)) : wpX_putCandidateOnTape post (cp, pr, ph, gc, gp, oc, ml, nI n, ol, vl, tr, ac, ca, nI 4, bk, nI i, cL, cH, im, tl, tk, dr, cc, ld, sd, gk, gb, ge, po, oa, mn, cu, og, vl_, tp, ce, lN, lC, sk) mid := by
  have e0 : (nI i).toNatClampNeg = i := nI_clamp (by omega)
  have e1 : (nI (i + 1)).toNatClampNeg = i + 1 := nI_clamp (by omega)
  have e2 : nI i + 1 = nI (i + 1) := nI_1 i
  have hv : vp_in (nI i) 32 := vp_in_nI (by omega) (by omega)
  have hv1 : vp_in (nI i + 1) 32 := by rw [e2]; exact vp_in_nI (by omega) (by omega)
  refine br_f (by decide) (nm_r (cs_sub0 n) (cs_xputL (g := 0) hn (by omega) post mid (fun f => ?_)))
  rw [cs_del0]
  exact br_t (nI_le (Nat.le_refl _) (by omega)) (br_f (by decide) (br_f (by decide) (br_t rfl ⟨hv1, hv, nm_r (e' := upd (cs_cp cu tp n) i (cu (i + 1))) (by rw [e2, e0, e1]; rfl) ⟨hv, hv1, nm_r (e' := upd (upd (cs_cp cu tp n) i (cu (i + 1))) (i + 1) (cu i)) (by rw [e2, e0, e1]) hp⟩⟩)))
theorem cs_ycand1 {n i k : Nat} (hn : n ≤ 32) (hi : i + k ≤ n) (C0 : Nat → Int32) : ∃ C : Nat → Int32, (∀ q, q < n - k → C q = cs_del cu i k q) ∧ ∀ post : SY → Prop, wY_trialAtCursor_72 post (nI (n - k)) pr cp ph gc gp oc ml (nI n) ol vl tr ac ca pa (nI k) (nI i) cL cH im yn yl yt yr yo gk gb po yA mn cu og vl_ C ou sN sS sQ sM sk → ∃ fuel : Nat, wY_trialAtCursor_16 post pr cp ph gc gp oc ml (nI n) ol vl tr ac ca pa (nI k) (nI i) cL cH im yn yl yt yr yo fuel (nI 0) (nI 0) gk gb po yA mn cu og vl_ C0 ou sN sS sQ sM sk := by
  have loop : ∀ (d j : Nat) (C : Nat → Int32), j + d = n → (∀ q, q < cs_dp i k j → C q = cs_del cu i k q) → ∃ C' : Nat → Int32, (∀ q, q < n - k → C' q = cs_del cu i k q) ∧ ∀ (post : SY → Prop) (fuel : Nat), d < fuel → wY_trialAtCursor_72 post (nI (n - k)) pr cp ph gc gp oc ml (nI n) ol vl tr ac ca pa (nI k) (nI i) cL cH im yn yl yt yr yo gk gb po yA mn cu og vl_ C' ou sN sS sQ sM sk → wY_trialAtCursor_16 post pr cp ph gc gp oc ml (nI n) ol vl tr ac ca pa (nI k) (nI i) cL cH im yn yl yt yr yo fuel (nI (cs_dp i k j)) (nI j) gk gb po yA mn cu og vl_ C ou sN sS sQ sM sk := by
    intro d
    induction d with
    | zero =>
      intro j C hj hC
      have z : j = n := by omega
      subst z
      rw [cs_dpn hi] at hC ⊢
      refine ⟨C, hC, fun post fuel hf hp => ?_⟩
      obtain ⟨f, rfl⟩ : ∃ f, fuel = f + 1 := ⟨fuel - 1, by omega⟩
      exact br_t (nI_le (Nat.le_refl _) (by omega)) hp
    | succ d ih =>
      intro j C hj hC
      have ec : (nI j).toNatClampNeg = j := nI_clamp (by omega)
      have hv : vp_in (nI j) 32 := vp_in_nI (by omega) (by omega)
      have g1 : ¬ nI n ≤ nI j := nI_ge (by omega) (by omega)
      have g2 : ¬ (32 : Int32) ≤ nI j := nI_ge (b := 32) (by omega) (by decide)
      have e2 : nI i + nI k = nI (i + k) := nI_add i k
      by_cases h1 : j < i
      · obtain ⟨p1, p2⟩ := cs_dp1 (k := k) h1
        have ep : (nI (cs_dp i k j)).toNatClampNeg = cs_dp i k j := nI_clamp (by omega)
        obtain ⟨C', a, b⟩ := ih (j + 1) (upd C (cs_dp i k j) (cu j)) (by omega) (fun q hq => by
          rw [p1] at hq
          by_cases z : q = cs_dp i k j
          · rw [z, pk_us, p2, cs_del1 h1]
          · rw [pk_un z]
            exact hC q (by omega))
        rw [p1] at b
        refine ⟨C', a, fun post fuel hf hp => ?_⟩
        obtain ⟨f, rfl⟩ : ∃ f, fuel = f + 1 := ⟨fuel - 1, by omega⟩
        exact br_f g1 (br_f g2 (br_t (nI_lt h1 (by omega)) ⟨hv, vp_in_nI (by omega) (by omega), nm_r (e' := upd C (cs_dp i k j) (cu j)) (by rw [ep, ec]) (nm_r (nI_1 _) (nm_r (nI_1 j) (b post f (by omega) hp)))⟩))
      · by_cases h2 : j < i + k
        · have p1 := cs_dp2 (i := i) (k := k) (j := j) (by omega) h2
          obtain ⟨C', a, b⟩ := ih (j + 1) C (by omega) (fun q hq => hC q (by omega))
          rw [p1] at b
          refine ⟨C', a, fun post fuel hf hp => ?_⟩
          obtain ⟨f, rfl⟩ : ∃ f, fuel = f + 1 := ⟨fuel - 1, by omega⟩
          exact br_f g1 (br_f g2 (br_f (nI_nlt (by omega) (by omega)) (br_t (by rw [e2]; exact nI_lt h2 (by omega)) (nm_r (nI_1 j) (b post f (by omega) hp)))))
        · obtain ⟨p1, p2⟩ := cs_dp3 (i := i) (k := k) (j := j) (by omega)
          have ep : (nI (cs_dp i k j)).toNatClampNeg = cs_dp i k j := nI_clamp (by omega)
          obtain ⟨C', a, b⟩ := ih (j + 1) (upd C (cs_dp i k j) (cu j)) (by omega) (fun q hq => by
            rw [p1] at hq
            by_cases z : q = cs_dp i k j
            · rw [z, pk_us, p2, cs_del2 (by omega)]
              exact congrArg cu (by omega)
            · rw [pk_un z]
              exact hC q (by omega))
          rw [p1] at b
          refine ⟨C', a, fun post fuel hf hp => ?_⟩
          obtain ⟨f, rfl⟩ : ∃ f, fuel = f + 1 := ⟨fuel - 1, by omega⟩
          exact br_f g1 (br_f g2 (br_f (nI_nlt (by omega) (by omega)) (br_f (by rw [e2]; exact nI_nlt (by omega) (by omega)) ⟨hv, vp_in_nI (by omega) (by omega), nm_r (e' := upd C (cs_dp i k j) (cu j)) (by rw [ep, ec]) (nm_r (nI_1 _) (nm_r (nI_1 j) (b post f (by omega) hp)))⟩)))
  have z : cs_dp i k 0 = 0 := if_pos (by omega)
  obtain ⟨C, a, b⟩ := loop n 0 C0 (by omega) (fun q hq => by
    rw [z] at hq
    omega)
  rw [z] at b
  exact ⟨C, a, fun post hp => ⟨n + 1, b post (n + 1) (by omega) hp⟩⟩
theorem cs_ycand2 {i kk : Nat} (h : i + kk ≤ 32) (post : SY → Prop) (hp : wY_trialAtCursor_154 post pr cp ph gc gp oc ml cl ol vl tr ac ca pa (nI kk) (nI i) cL cH im yn yl yt yr yo gk gb po yA mn cu og vl_ (cs_zb cd i kk) ou sN sS sQ sM sk) : ∃ k : Nat, wY_trialAtCursor_118 post pr cp ph gc gp oc ml cl ol vl tr ac ca pa (nI kk) (nI i) cL cH im yn yl yt yr yo k (nI i) gk gb po yA mn cu og vl_ cd ou sN sS sQ sM sk := by
  have loop : ∀ (d m fuel : Nat), m + d = kk → d < fuel → wY_trialAtCursor_118 post pr cp ph gc gp oc ml cl ol vl tr ac ca pa (nI kk) (nI i) cL cH im yn yl yt yr yo fuel (nI (i + m)) gk gb po yA mn cu og vl_ (cs_zb cd i m) ou sN sS sQ sM sk := by
    intro d
    induction d with
    | zero =>
      intro m fuel hm hf
      obtain ⟨f, rfl⟩ : ∃ f, fuel = f + 1 := ⟨fuel - 1, by omega⟩
      have z : m = kk := by omega
      subst z
      exact br_t (by rw [nI_add]; exact nI_le (Nat.le_refl _) (by omega)) hp
    | succ d ih =>
      intro m fuel hm hf
      obtain ⟨f, rfl⟩ : ∃ f, fuel = f + 1 := ⟨fuel - 1, by omega⟩
      have ec : (nI (i + m)).toNatClampNeg = i + m := nI_clamp (by omega)
      exact br_f (by rw [nI_add]; exact nI_ge (by omega) (by omega)) (br_f (nI_ge (b := 32) (by omega) (by decide)) (br_f (nI_pos (by omega)) ⟨vp_in_nI (by omega) (by omega), nm_r (e' := cs_zb cd i (m + 1)) (by rw [ec, cs_zbs]) (nm_r (nI_1 (i + m)) (ih (m + 1) f (by omega) (by omega)))⟩))
  have h := loop kk 0 (kk + 1) (by omega) (by omega)
  rw [cs_zb0] at h
  exact ⟨kk + 1, h⟩
end
