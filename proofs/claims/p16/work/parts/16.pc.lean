def nb_ (gk gb : Nat → Int32) (en : Nat → Nat) (gn : Nat) (po oa : Nat → Int32) (m : Nat) (S : Nat → Int32) (n : Nat) (C : Nat → Int32) (lim : Nat) : Prop :=
  ∃ (o t L : Nat) (V : Nat → Int32), o ≤ 2 ∧ os_O gk gb en gn po oa m lim lim 0 0 C o t L C V ∧ (o ≠ 2 → t ≤ lim ∧ L ≤ 32) ∧ (o = 1 → ¬ ls_lt C S t n)
theorem nb_c {gk gb : Nat → Int32} {en : Nat → Nat} {gn : Nat} {po oa : Nat → Int32} {m : Nat} {S : Nat → Int32} {n : Nat} {C C' : Nat → Int32} {lim : Nat} (h : nb_ gk gb en gn po oa m S n C lim) (e : ∀ j, j < lim → C' j = C j) : nb_ gk gb en gn po oa m S n C' lim := by
  obtain ⟨o, t, L, V, h1, h2, h3, h4⟩ := h
  by_cases z : o = 2
  · subst z
    refine ⟨2, 0, L, V, h1, ?_, fun w => absurd rfl w, fun w => absurd w (by decide)⟩
    intro cp ph gp ml cl ol vl tr ac ca pa bk ix cL cH im prR tk cc ld sd dx ge mn cu og vl_ tp ce lN lC sk post hge ha hpr hp
    exact h2 cp ph gp ml cl ol vl tr ac ca pa bk ix cL cH im prR tk cc ld sd dx ge mn cu og vl_ tp ce lN lC sk post hge (fun j hj => (ha j hj).trans (e j hj)) hpr ⟨hp.1, fun w => absurd rfl w⟩
  · obtain ⟨a, b⟩ := h3 z
    refine ⟨o, t, L, V, h1, os_c h2 e (fun j hj => e j (by omega)) (fun j _ => rfl), h3, fun w x => h4 w ?_⟩
    rcases x with x | ⟨x1, d, x2, x3, x4⟩
    · exact Or.inl x
    · exact Or.inr ⟨x1, d, x2, fun j hj => (e j (by omega)).symm.trans (x3 j hj), by rw [← e d (by omega)]; exact x4⟩
section
variable {cp pr ph gc gp oc ml cl ol vl tr ac ca pa bk ix cL cH im tl tk dr cc ld sd : Int32} {gk gb ge po oa mn cu og vl_ tp ce lN lC sk ou : Nat → Int32}
variable {en : Nat → Nat} {gn m n lim : Nat} {mid : Int32} {T : Nat → Int32}
theorem ps_core (G : cs_G gk en gn) (hge : ∀ j, j < gn → ge j = nI (en j)) (hgb : ∀ j, j < gn → ∃ b : Nat, b < 256 ∧ gb j = nI b) (hm : m ≤ 32) (H : ∀ j, j < m → (∃ o : Nat, o ≤ 14 ∧ po j = nI o ∧ ((o = 13 ∨ o = 14) → ∃ a : Nat, a ≤ 32 ∧ oa j = nI a))) (hn : n ≤ 32) (hl : lim ≤ 32) (hT : cs_by T lim) (hmid : (cL + cH) / 2 = mid) (hput : ∀ post : St2 → Prop, post (cp, pr, ph, nI gn, gp, nI m, ml, nI n, ol, vl, tr, ac, ca, pa, bk, ix, cL, cH, im, nI lim, tk, dr, cc, ld, sd, gk, gb, ge, po, oa, mn, cu, og, vl_, T, ce, lN, lC, sk) → wpX_putCandidateOnTape post (cp, pr, ph, nI gn, gp, nI m, ml, nI n, ol, vl, tr, ac, ca, pa, bk, ix, cL, cH, im, tl, tk, dr, cc, ld, sd, gk, gb, ge, po, oa, mn, cu, og, vl_, tp, ce, lN, lC, sk) mid) :
    (nb_ gk gb en gn po oa m cu n T lim ∧ ∀ post : St2 → Prop, (∀ (pr' tk' cc' ld' sd' : Int32) (tp' ce' lN' lC' sk' : Nat → Int32), wX_performTrial_48 post mid 0 cp pr' ph (nI gn) gp (nI m) ml (nI n) ol vl (tr + 1) ac ca pa bk ix cL cH im (nI lim) tk' 0 cc' ld' sd' gk gb ge po oa mn cu og vl_ tp' ce' lN' lC' sk') → wpX_performTrial post (cp, pr, ph, nI gn, gp, nI m, ml, nI n, ol, vl, tr, ac, ca, pa, bk, ix, cL, cH, im, tl, tk, dr, cc, ld, sd, gk, gb, ge, po, oa, mn, cu, og, vl_, tp, ce, lN, lC, sk)) ∨
    (∃ (t L : Nat) (V : Nat → Int32), t ≤ n ∧ t ≤ lim ∧ L ≤ 32 ∧ cs_by T t ∧ ls_lt T cu t n ∧ os_O gk gb en gn po oa m t t 0 0 T 1 t L T V ∧ ∀ post : St2 → Prop, (∀ (pr' ld' sd' : Int32) (tp' ce' lN' lC' sk' : Nat → Int32), (∀ j, j < t → tp' j = T j) → (∀ j, j < L → ce' j = V j) → wX_performTrial_48 post mid 1 cp pr' ph (nI gn) gp (nI m) ml (nI n) ol vl (tr + 1) ac ca pa bk ix cL cH im (nI lim) (nI t) 0 (nI L) ld' sd' gk gb ge po oa mn cu og vl_ tp' ce' lN' lC' sk') → wpX_performTrial post (cp, pr, ph, nI gn, gp, nI m, ml, nI n, ol, vl, tr, ac, ca, pa, bk, ix, cL, cH, im, tl, tk, dr, cc, ld, sd, gk, gb, ge, po, oa, mn, cu, og, vl_, tp, ce, lN, lC, sk)) := by
  obtain ⟨o, t, L, T2, V, ho, hos, hrep⟩ := os_ex (gb := gb) (dr := 0) (pr := 0) (T0 := T) G hgb hm H ⟨Nat.zero_le lim, hl, Or.inl ⟨rfl, hT⟩⟩
  rw [gs_ag0] at hos
  obtain rfl | rfl | rfl : o = 0 ∨ o = 1 ∨ o = 2 := by omega
  · obtain ⟨a1, a2, a3, a4, a5⟩ := hrep (by decide)
    have e := a4 rfl
    subst e
    refine Or.inl ⟨⟨0, t, L, V, by omega, hos, fun _ => ⟨a1, a2⟩, fun z => absurd z (by decide)⟩, fun post hp => ⟨by decide, nm_r hmid (hput _ (nm_e ?_))⟩⟩
    exact hos cp ph gp ml (nI n) ol vl (tr + 1) ac ca pa bk ix cL cH im pr tk cc ld sd dr ge mn cu og vl_ T2 ce lN lC sk _ hge (fun j _ => rfl) (fun z => absurd rfl z) ⟨fun z => absurd z (by decide), fun _ pr' ld' sd' tp' ce' lN' lC' sk' x1 x2 => br_f (by decide) (hp pr' _ _ ld' sd' tp' ce' lN' lC' sk')⟩
  · obtain ⟨a1, a2, a3, a4, a5⟩ := hrep (by decide)
    have e := a4 rfl
    subst e
    obtain ⟨b, hb, hx⟩ := ls_x (T := T2) (S := cu) (t := t) (n := n) (by omega) hn
    rcases hb with ⟨rfl, hb⟩ | ⟨rfl, htn, hb⟩
    · refine Or.inl ⟨⟨1, t, L, V, by omega, hos, fun _ => ⟨a1, a2⟩, fun _ => hb⟩, fun post hp => ⟨by decide, nm_r hmid (hput _ (nm_e ?_))⟩⟩
      exact hos cp ph gp ml (nI n) ol vl (tr + 1) ac ca pa bk ix cL cH im pr tk cc ld sd dr ge mn cu og vl_ T2 ce lN lC sk _ hge (fun j _ => rfl) (fun z => absurd rfl z) ⟨fun z => absurd z (by decide), fun _ pr' ld' sd' tp' ce' lN' lC' sk' x1 x2 => br_t rfl (hx _ _ _ _ _ _ _ _ _ _ _ _ _ _ _ _ _ _ _ _ _ _ _ _ _ _ _ _ _ _ _ tp' cu _ _ _ _ _ x1 (fun j _ => rfl) (br_t rfl (hp pr' _ _ ld' sd' tp' ce' lN' lC' sk')))⟩
    · refine Or.inr ⟨t, L, V, htn, a1, a2, a3, hb, a5 0 t (Nat.le_refl t) (by omega), fun post hp => ⟨by decide, nm_r hmid (hput _ (nm_e ?_))⟩⟩
      exact hos cp ph gp ml (nI n) ol vl (tr + 1) ac ca pa bk ix cL cH im pr tk cc ld sd dr ge mn cu og vl_ T2 ce lN lC sk _ hge (fun j _ => rfl) (fun z => absurd rfl z) ⟨fun z => absurd z (by decide), fun _ pr' ld' sd' tp' ce' lN' lC' sk' x1 x2 => br_t rfl (hx _ _ _ _ _ _ _ _ _ _ _ _ _ _ _ _ _ _ _ _ _ _ _ _ _ _ _ _ _ _ _ tp' cu _ _ _ _ _ x1 (fun j _ => rfl) (br_f (by decide) (hp pr' ld' sd' tp' ce' lN' lC' sk' x1 x2)))⟩
  · refine Or.inl ⟨⟨2, 0, 0, V, by omega, ?_, fun z => absurd rfl z, fun z => absurd z (by decide)⟩, fun post hp => ⟨by decide, nm_r hmid (hput _ (nm_e ?_))⟩⟩
    · intro cp ph gp ml cl ol vl tr ac ca pa bk ix cL cH im prR tk cc ld sd dx ge mn cu og vl_ tp ce lN lC sk post hge ha hpr hp
      exact hos cp ph gp ml cl ol vl tr ac ca pa bk ix cL cH im prR tk cc ld sd dx ge mn cu og vl_ tp ce lN lC sk post hge ha hpr ⟨hp.1, fun w => absurd rfl w⟩
    · exact hos cp ph gp ml (nI n) ol vl (tr + 1) ac ca pa bk ix cL cH im pr tk cc ld sd dr ge mn cu og vl_ T ce lN lC sk _ hge (fun j _ => rfl) (fun z => absurd rfl z) ⟨fun _ pr' tk' cc' ld' sd' tp' ce' lN' lC' sk' => br_f (by decide) (hp pr' tk' cc' ld' sd' tp' ce' lN' lC' sk'), fun z => absurd rfl z⟩
end
