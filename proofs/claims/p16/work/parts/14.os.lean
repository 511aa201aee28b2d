def os_post (n m lim o t L : Nat) (dr : Int32) (T V : Nat → Int32) (cp ph gp ml cl ol vl tr ac ca pa bk ix cL cH im : Int32) (gk gb ge po oa mn cu og vl_ : Nat → Int32) (post : Int32 → St2 → Prop) : Prop :=
  (o = 2 → ∀ (pr' tk' cc' ld' sd' : Int32) (tp' ce' lN' lC' sk' : Nat → Int32), post 2 (cp, pr', ph, nI n, gp, nI m, ml, cl, ol, vl, tr, ac, ca, pa, bk, ix, cL, cH, im, nI lim, tk', dr, cc', ld', sd', gk, gb, ge, po, oa, mn, cu, og, vl_, tp', ce', lN', lC', sk')) ∧
  (o ≠ 2 → ∀ (pr' ld' sd' : Int32) (tp' ce' lN' lC' sk' : Nat → Int32), (∀ j, j < t → tp' j = T j) → (∀ j, j < L → ce' j = V j) → post (nI o) (cp, pr', ph, nI n, gp, nI m, ml, cl, ol, vl, tr, ac, ca, pa, bk, ix, cL, cH, im, nI lim, nI t, dr, nI L, ld', sd', gk, gb, ge, po, oa, mn, cu, og, vl_, tp', ce', lN', lC', sk'))
def os_O (gk gb : Nat → Int32) (en : Nat → Nat) (n : Nat) (po oa : Nat → Int32) (m lim ag : Nat) (dr pr : Int32) (T0 : Nat → Int32) (o t L : Nat) (T V : Nat → Int32) : Prop :=
  ∀ (cp ph gp ml cl ol vl tr ac ca pa bk ix cL cH im prR tk cc ld sd dx : Int32) (ge mn cu og vl_ tp ce lN lC sk : Nat → Int32) (post : Int32 → St2 → Prop), (∀ j, j < n → ge j = nI (en j)) → (∀ j, j < ag → tp j = T0 j) → (dr ≠ 0 → prR = pr) → os_post n m lim o t L dr T V cp ph gp ml cl ol vl tr ac ca pa bk ix cL cH im gk gb ge po oa mn cu og vl_ post → wpX_outcomeOfTape post (cp, prR, ph, nI n, gp, nI m, ml, cl, ol, vl, tr, ac, ca, pa, bk, ix, cL, cH, im, nI lim, tk, dx, cc, ld, sd, gk, gb, ge, po, oa, mn, cu, og, vl_, tp, ce, lN, lC, sk) dr
theorem os_mk {gk gb T0 : Nat → Int32} {en : Nat → Nat} {n : Nat} {po oa : Nat → Int32} {m lim ag : Nat} {dr pr r : Int32} {t L : Nat} {T V : Nat → Int32} (hdr : dr = 0 ∨ dr = 1) (hr : r = 0 ∨ r = 1) (hg : gs_run gk gb en n lim ag dr pr T0 true t L T V) (hh : hs_P po oa m L V r) : os_O gk gb en n po oa m lim ag dr pr T0 (if r = 0 then 1 else 0) t L T V := by
  intro cp ph gp ml cl ol vl tr ac ca pa bk ix cL cH im prR tk cc ld sd dx ge mn cu og vl_ tp ce lN lC sk post hge ha hpr hp
  have hn : narrow .boolean (.int dr) = .int dr ∧ fits .boolean (.int dr) = true := by
    rcases hdr with rfl | rfl
    · exact ⟨cs_nb0, cs_fb0⟩
    · exact ⟨cs_nb1, cs_fb1⟩
  refine ⟨hn.1, hn.2, hg cp ph gp (nI m) ml cl ol vl tr ac ca pa bk ix cL cH im sd prR tk cc ld ge po oa mn cu og vl_ sk tp ce lN lC _ hge ha hpr ⟨fun _ pr' ld' tp' ce' lN' lC' h1 h2 => br_f (by decide) (hh cp pr' ph (nI n) gp ml cl ol vl tr ac ca pa bk ix cL cH im (nI lim) (nI t) dr ld' sd gk gb ge mn cu og vl_ tp' ce' lN' lC' sk _ h2 (fun sd' sk' => ?_)), fun z => absurd z (by decide)⟩⟩
  rcases hr with rfl | rfl
  · exact br_t rfl (hp.2 (by decide) pr' ld' sd' tp' ce' lN' lC' sk' h1 h2)
  · exact br_f (by decide) (hp.2 (by decide) pr' ld' sd' tp' ce' lN' lC' sk' h1 h2)
theorem os_mk2 {gk gb T0 : Nat → Int32} {en : Nat → Nat} {n : Nat} {po oa : Nat → Int32} {m lim ag : Nat} {dr pr : Int32} {t L t2 L2 : Nat} {T V T2 V2 : Nat → Int32} (hdr : dr = 0 ∨ dr = 1) (hg : gs_run gk gb en n lim ag dr pr T0 false t L T V) : os_O gk gb en n po oa m lim ag dr pr T0 2 t2 L2 T2 V2 := by
  intro cp ph gp ml cl ol vl tr ac ca pa bk ix cL cH im prR tk cc ld sd dx ge mn cu og vl_ tp ce lN lC sk post hge ha hpr hp
  have hn : narrow .boolean (.int dr) = .int dr ∧ fits .boolean (.int dr) = true := by
    rcases hdr with rfl | rfl
    · exact ⟨cs_nb0, cs_fb0⟩
    · exact ⟨cs_nb1, cs_fb1⟩
  exact ⟨hn.1, hn.2, hg cp ph gp (nI m) ml cl ol vl tr ac ca pa bk ix cL cH im sd prR tk cc ld ge po oa mn cu og vl_ sk tp ce lN lC _ hge ha hpr ⟨fun z => absurd z (by decide), fun _ pr' tk' cc' ld' tp' ce' lN' lC' => br_t rfl (hp.1 rfl pr' tk' cc' ld' sd tp' ce' lN' lC' sk)⟩⟩
theorem os_ex {gk gb T0 : Nat → Int32} {en : Nat → Nat} {n : Nat} {po oa : Nat → Int32} {m lim : Nat} {dr pr : Int32} (G : cs_G gk en n) (hgb : ∀ j, j < n → ∃ b : Nat, b < 256 ∧ gb j = nI b) (hm : m ≤ 32) (H : ∀ j, j < m → (∃ o : Nat, o ≤ 14 ∧ po j = nI o ∧ ((o = 13 ∨ o = 14) → ∃ a : Nat, a ≤ 32 ∧ oa j = nI a))) (hO : gs_or dr lim 0 T0) :
    ∃ (o t L : Nat) (T V : Nat → Int32), o ≤ 2 ∧ os_O gk gb en n po oa m lim (gs_ag dr lim 0) dr pr T0 o t L T V ∧ (o ≠ 2 → t ≤ lim ∧ L ≤ 32 ∧ cs_by T t ∧ (dr = 0 → T = T0) ∧ ∀ (prx : Int32) (lim2 : Nat), t ≤ lim2 → lim2 ≤ 32 → os_O gk gb en n po oa m lim2 t 0 prx T o t L T V) := by
  have hdr : dr = 0 ∨ dr = 1 := by
    rcases hO.2.2 with h | h
    · exact Or.inl h.1
    · exact Or.inr h.1
  obtain ⟨ok, t, L, T, V, h1, h2⟩ := gs_gen (gb := gb) (pr := pr) G hgb hO
  cases ok with
  | false => exact ⟨2, 0, 0, T, V, Nat.le_refl 2, os_mk2 hdr h1, fun z => absurd rfl z⟩
  | true =>
    obtain ⟨a1, a2, a3, a4, a5⟩ := h2 rfl
    obtain ⟨r, hr, hh⟩ := hs_ex (V := V) hm a2 H
    refine ⟨if r = 0 then 1 else 0, t, L, T, V, ?_, os_mk hdr hr h1 hh, fun _ => ⟨a1, a2, a3, a4, fun prx lim2 b1 b2 => os_mk (Or.inl rfl) hr (a5 prx lim2 b1 b2) hh⟩⟩
    split <;> omega
theorem os_c {gk gb T0 T1 : Nat → Int32} {en : Nat → Nat} {n : Nat} {po oa : Nat → Int32} {m lim ag : Nat} {dr pr : Int32} {o t L : Nat} {T V T2 V2 : Nat → Int32} (h : os_O gk gb en n po oa m lim ag dr pr T0 o t L T V) (h1 : ∀ j, j < ag → T1 j = T0 j) (h2 : ∀ j, j < t → T2 j = T j) (h3 : ∀ j, j < L → V2 j = V j) : os_O gk gb en n po oa m lim ag dr pr T1 o t L T2 V2 := by
  intro cp ph gp ml cl ol vl tr ac ca pa bk ix cL cH im prR tk cc ld sd dx ge mn cu og vl_ tp ce lN lC sk post hge ha hpr hp
  exact h cp ph gp ml cl ol vl tr ac ca pa bk ix cL cH im prR tk cc ld sd dx ge mn cu og vl_ tp ce lN lC sk post hge (fun j hj => (ha j hj).trans (h1 j hj)) hpr ⟨hp.1, fun z pr' ld' sd' tp' ce' lN' lC' sk' x1 x2 => hp.2 z pr' ld' sd' tp' ce' lN' lC' sk' (fun j hj => (x1 j hj).trans (h2 j hj).symm) (fun j hj => (x2 j hj).trans (h3 j hj).symm)⟩
