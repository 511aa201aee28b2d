theorem cs_xch {x : Int32} (hx : x = 1 ∨ x = 2 ∨ x = 3) (post : Int32 → Prop) (hp : post (nI (cs_ch x))) : wpX_childrenOf post () x := by
  rcases hx with rfl | rfl | rfl
  · exact br_f (by decide) (br_f (by decide) hp)
  · exact br_f (by decide) (br_t rfl hp)
  · exact br_t rfl hp
theorem cs_opn {a b : Nat} (h : 1 ≤ a) : nI a + (nI b - 1) = nI (a - 1 + b) := by
  obtain ⟨c, rfl⟩ : ∃ c, a = c + 1 := ⟨a - 1, by omega⟩
  rw [Nat.add_sub_cancel, ← nI_1, ← nI_add]
  grind
section
variable {cp pr ph gc gp oc ml cl ol vl tr ac ca pa bk ix cL cH im tl tk dr cc ld sd : Int32} {gk gb ge po oa mn cu og vl_ tp ce lN lC sk ou : Nat → Int32}
theorem cs_xse {n j e : Nat} (post : Int32 → Prop) (hp : post (nI e)) (hn : n ≤ 16) (he : e ≤ n) (H : ∀ k, k < n → 1 ≤ cs_D gk k ∧ (gk k = 1 ∨ gk k = 2 ∨ gk k = 3)) (hE : cs_E gk j e) : ∀ (d k need fuel : Nat), k + d = e → j ≤ k → need + cs_D gk j = cs_D gk k + 1 → d < fuel → wX_subtreeEnd_4 post cp pr ph (nI n) gp oc ml cl ol vl tr ac ca pa bk ix cL cH im tl tk dr cc ld sd gk gb ge po oa mn cu og vl_ tp ce lN lC sk fuel (nI need) (nI k) := by
  intro d
  induction d with
  | zero =>
    intro k need fuel hk hj hc hf
    obtain ⟨f, rfl⟩ : ∃ f, fuel = f + 1 := ⟨fuel - 1, by omega⟩
    have z : k = e := by omega
    subst z
    have z := cs_need0 hE hc
    subst z
    exact br_t (by decide) hp
  | succ d ih =>
    intro k need fuel hk hj hc hf
    obtain ⟨f, rfl⟩ : ∃ f, fuel = f + 1 := ⟨fuel - 1, by omega⟩
    have hj' := hE.1
    have n1 := cs_need (H j (by omega)).1 hE hj (by omega) hc
    have hdk := cs_Dle gk k
    have ec : (nI k).toNatClampNeg = k := nI_clamp (by omega)
    refine br_f (nI_nle n1.1 (by omega)) (br_f (nI_ge (by omega) (by omega)) ⟨vp_in_nI (by omega) (by omega), ?_⟩)
    rw [ec]
    exact cs_xch (H k (by omega)).2 _ (nm_r (cs_opn n1.1) (nm_r (nI_1 k) (ih (k + 1) _ f (by omega) (by omega) n1.2 (by omega))))
theorem cs_xmk {n : Nat} (post : St2 → Prop) (hn : n ≤ 16) (H : ∀ k, k < n → 1 ≤ cs_D gk k ∧ (gk k = 1 ∨ gk k = 2 ∨ gk k = 3)) (h0 : cs_D gk n = 0) (hp : ∀ ge' : Nat → Int32, (∀ j, j < n → ∃ e, e ≤ n ∧ cs_E gk j e ∧ ge' j = nI e) → post (cp, pr, ph, nI n, gp, oc, ml, cl, ol, vl, tr, ac, ca, pa, bk, ix, cL, cH, im, tl, tk, dr, cc, ld, sd, gk, gb, ge', po, oa, mn, cu, og, vl_, tp, ce, lN, lC, sk)) : ∀ (d i fuel : Nat) (ge : Nat → Int32), i + d = n → (∀ j, j < i → ∃ e, e ≤ n ∧ cs_E gk j e ∧ ge j = nI e) → d < fuel → wX_markSubtreeEnds_2 post cp pr ph (nI n) gp oc ml cl ol vl tr ac ca pa bk ix cL cH im tl tk dr cc ld sd fuel (nI i) gk gb ge po oa mn cu og vl_ tp ce lN lC sk := by
  intro d
  induction d with
  | zero =>
    intro i fuel ge hi hg hf
    obtain ⟨f, rfl⟩ : ∃ f, fuel = f + 1 := ⟨fuel - 1, by omega⟩
    have z : i = n := by omega
    subst z
    exact br_t (nI_le (Nat.le_refl _) (by omega)) (hp ge hg)
  | succ d ih =>
    intro i fuel ge hi hg hf
    obtain ⟨f, rfl⟩ : ∃ f, fuel = f + 1 := ⟨fuel - 1, by omega⟩
    obtain ⟨e, he, hE⟩ := cs_Eex (g := gk) (n := n) (j := i) (by omega) (fun k hk => (H k hk).1) h0
    have hl := hE.1
    have ec : (nI i).toNatClampNeg = i := nI_clamp (by omega)
    refine br_f (nI_ge (by omega) (by omega)) ⟨e + 1, cs_xse _ ?_ hn he H hE (e - i) i 1 (e + 1) (by omega) (by omega) (by omega) (by omega)⟩
    refine ⟨vp_in_nI (by omega) (by omega), nm_r (e' := upd ge i (nI e)) (by rw [ec]) (nm_r (nI_1 i) (ih (i + 1) f (upd ge i (nI e)) (by omega) (fun j hj => ?_) (by omega)))⟩
    by_cases z : j = i
    · exact ⟨e, he, by rw [z]; exact hE, by rw [z, pk_us]⟩
    · obtain ⟨e', a, b, c⟩ := hg j (by omega)
      exact ⟨e', a, b, by rw [pk_un z, c]⟩
theorem cs_xgT {n : Nat} {x z : Int32} (post : Int32 → St2 → Prop) (hn : n < 16) (H : ∀ j, j < n → 1 ≤ cs_D gk j ∧ (gk j = 1 ∨ gk j = 2 ∨ gk j = 3)) (hd : 1 ≤ cs_D gk n) (hx : x = 1 ∨ x = 2 ∨ x = 3)
    (hp : ∀ ge' : Nat → Int32, (cs_D (upd gk n x) (n + 1) = 0 → ∀ j, j < n + 1 → ∃ e, e ≤ n + 1 ∧ cs_E (upd gk n x) j e ∧ ge' j = nI e) → post (nI n) (cp, pr, ph, nI (n + 1), nI (cs_D (upd gk n x) (n + 1)), oc, ml, cl, ol, vl, tr, ac, ca, pa, bk, ix, cL, cH, im, tl, tk, dr, cc, ld, sd, upd gk n x, upd gb n z, ge', po, oa, mn, cu, og, vl_, tp, ce, lN, lC, sk)) :
    wX_addGen_83 post x z (nI n) cp pr ph (nI n) (nI (cs_D gk n)) oc ml cl ol vl tr ac ca pa bk ix cL cH im tl tk dr cc ld sd (upd gk n x) gb ge po oa mn cu og vl_ tp ce lN lC sk := by
  obtain ⟨K1, K2⟩ := cs_Gstep H hd hx
  have ec : (nI n).toNatClampNeg = n := nI_clamp (by omega)
  have dl := cs_Dle (upd gk n x) (n + 1)
  have e2 : nI (n + 1) - 1 = nI n := nI_pred n
  have eo : nI (cs_D gk n) + (nI (cs_ch x) - 1) = nI (cs_D (upd gk n x) (n + 1)) := (cs_opn hd).trans (congrArg nI K2.symm)
  refine ⟨vp_in_nI hn (by omega), nm_r (e' := upd gb n z) (by rw [ec]) (nm_r (nI_1 n) (cs_xch hx _ (nm_r eo ?_)))⟩
  rcases Nat.eq_zero_or_pos (cs_D (upd gk n x) (n + 1)) with d | d
  · refine br_t (by rw [d]; rfl) ⟨n + 2, cs_xmk (gk := upd gk n x) _ (by omega) K1 d (fun ge' hg => ?_) (n + 1) 0 (n + 2) ge (by omega) (fun j hj => absurd hj (by omega)) (by omega)⟩
    dsimp only
    rw [e2]
    exact hp ge' (fun _ => hg)
  · refine br_f (nI_ne0 d (by omega)) ?_
    rw [e2]
    exact hp ge (fun z => absurd z (by omega))
end
section
variable {cp pr ph gc gp oc ml cl ol vl tr ac ca pa bk ix cL cH im tl tk dr cc ld sd : Int32} {gk gb ge po oa mn cu og vl_ tp ce lN lC sk ou : Nat → Int32}
theorem cs_xg37 {x b : Int32} (h1 : ¬ x < 1) (h2 : x ≤ 3) (h3 : x = 1 → ¬ b < 0 ∧ b ≤ 255) (post : Int32 → St2 → Prop) (hD : wX_addGen_37 post x b cp pr 0 gc gp oc ml cl ol vl tr ac ca pa bk ix cL cH im tl tk dr cc ld sd gk gb ge po oa mn cu og vl_ tp ce lN lC sk) : wpX_addGen post (cp, pr, 0, gc, gp, oc, ml, cl, ol, vl, tr, ac, ca, pa, bk, ix, cL, cH, im, tl, tk, dr, cc, ld, sd, gk, gb, ge, po, oa, mn, cu, og, vl_, tp, ce, lN, lC, sk) x b := by
  by_cases e : x = 1
  · exact br_t rfl (br_f h1 (br_t h2 (br_t e (br_f (h3 e).1 (br_t (h3 e).2 hD)))))
  · exact br_t rfl (br_f h1 (br_t h2 (br_f e hD)))
theorem cs_xgR {x b : Int32} (h1 : ¬ x < 1) (h2 : x ≤ 3) (h3 : x = 1 ∧ (b < 0 ∨ ¬ b ≤ 255)) (post : Int32 → St2 → Prop) (hp : post (-1) (cp, pr, 0, gc, gp, oc, ml, cl, ol, vl, tr, ac, ca, pa, bk, ix, cL, cH, im, tl, tk, dr, cc, ld, sd, gk, gb, ge, po, oa, mn, cu, og, vl_, tp, ce, lN, lC, sk)) : wpX_addGen post (cp, pr, 0, gc, gp, oc, ml, cl, ol, vl, tr, ac, ca, pa, bk, ix, cL, cH, im, tl, tk, dr, cc, ld, sd, gk, gb, ge, po, oa, mn, cu, og, vl_, tp, ce, lN, lC, sk) x b := by
  by_cases a : b < 0
  · exact br_t rfl (br_f h1 (br_t h2 (br_t h3.1 (br_t a hp))))
  · exact br_t rfl (br_f h1 (br_t h2 (br_t h3.1 (br_f a (br_f (h3.2.resolve_left a) hp)))))
theorem cs_D0n {g : Nat → Int32} {n : Nat} (h : cs_D g n = 0) : 0 < n := by
  rcases Nat.eq_zero_or_pos n with w | w
  · rw [w] at h
    exact absurd h (show ¬ (1 : Nat) = 0 by decide)
  · exact w
theorem cs_xgF {n : Nat} {x b : Int32} (hn : n ≤ 16) (h : cs_D gk n = 0 ∨ 16 ≤ n) (post : Int32 → St2 → Prop) (hp : post (-1) (cp, pr, ph, nI n, nI (cs_D gk n), oc, ml, cl, ol, vl, tr, ac, ca, pa, bk, ix, cL, cH, im, tl, tk, dr, cc, ld, sd, gk, gb, ge, po, oa, mn, cu, og, vl_, tp, ce, lN, lC, sk)) : wX_addGen_37 post x b cp pr ph (nI n) (nI (cs_D gk n)) oc ml cl ol vl tr ac ca pa bk ix cL cH im tl tk dr cc ld sd gk gb ge po oa mn cu og vl_ tp ce lN lC sk := by
  have dl := cs_Dle gk n
  by_cases d : cs_D gk n = 0
  · exact br_t (by rw [d]; rfl) hp
  · exact br_f (nI_ne0 (by omega) (by omega)) (br_f (nI_nlt (b := 16) (h.resolve_left d) (by omega)) hp)
theorem cs_xgS {n : Nat} {x b : Int32} (hn : n < 16) (hd : cs_D gk n ≠ 0) (H : ∀ j, j < n → 1 ≤ cs_D gk j ∧ (gk j = 1 ∨ gk j = 2 ∨ gk j = 3)) (hx : x = 1 ∨ x = 2 ∨ x = 3) (post : Int32 → St2 → Prop)
    (hp : ∀ ge' : Nat → Int32, (cs_D (upd gk n x) (n + 1) = 0 → ∀ j, j < n + 1 → ∃ e, e ≤ n + 1 ∧ cs_E (upd gk n x) j e ∧ ge' j = nI e) → post (nI n) (cp, pr, ph, nI (n + 1), nI (cs_D (upd gk n x) (n + 1)), oc, ml, cl, ol, vl, tr, ac, ca, pa, bk, ix, cL, cH, im, tl, tk, dr, cc, ld, sd, upd gk n x, upd gb n (if x = 1 then b else 0), ge', po, oa, mn, cu, og, vl_, tp, ce, lN, lC, sk)) : wX_addGen_37 post x b cp pr ph (nI n) (nI (cs_D gk n)) oc ml cl ol vl tr ac ca pa bk ix cL cH im tl tk dr cc ld sd gk gb ge po oa mn cu og vl_ tp ce lN lC sk := by
  have dl := cs_Dle gk n
  have ec : (nI n).toNatClampNeg = n := nI_clamp (by omega)
  refine br_f (nI_ne0 (by omega) (by omega)) (br_t (nI_lt (b := 16) hn (by decide)) ⟨vp_in_nI hn (by omega), nm_r (e' := upd gk n x) (by rw [ec]) ?_⟩)
  by_cases e : x = 1
  · rw [if_pos e] at hp
    exact br_t e (cs_xgT post hn H (by omega) hx hp)
  · rw [if_neg e] at hp
    exact br_f e (cs_xgT post hn H (by omega) hx hp)
end
theorem cs_Prs {oc : Int32} {po oa yA yA' : Nat → Int32} {m o : Nat} {a : Int32} (hm : m < 32) (ho : o ≤ 14) (H : ∀ j, j < m → ∃ o : Nat, o ≤ 14 ∧ po j = nI o ∧ ((o = 0 ∨ o = 13 ∨ o = 14) → oa j = yA j) ∧ ((o = 13 ∨ o = 14) → ∃ a : Nat, a ≤ 32 ∧ yA j = nI a))
    (h1 : ∀ j, j < m → yA' j = yA j) (h2 : (o = 0 ∨ o = 13 ∨ o = 14) → yA' m = a) (h3 : (o = 13 ∨ o = 14) → ∃ b : Nat, b ≤ 32 ∧ a = nI b) : cs_Pr (nI (m + 1)) (upd po m (nI o)) (upd oa m a) yA' := by
  refine ⟨m + 1, by omega, rfl, fun j hj => ?_⟩
  by_cases z : j = m
  · subst z
    refine ⟨o, ho, pk_us, fun w => ?_, fun w => ?_⟩
    · rw [pk_us, h2 w]
    · obtain ⟨b, hb, e⟩ := h3 w
      exact ⟨b, hb, by rw [h2 (Or.inr w), e]⟩
  · have hjm : j < m := by omega
    obtain ⟨o', a1, a2, a3, a4⟩ := H j hjm
    refine ⟨o', a1, (pk_un z).trans a2, fun w => ?_, fun w => ?_⟩
    · rw [pk_un z, h1 j hjm]
      exact a3 w
    · rw [h1 j hjm]
      exact a4 w
section
variable {cp pr ph gc gp oc ml cl ol vl tr ac ca pa bk ix cL cH im tl tk dr cc ld sd : Int32} {gk gb ge po oa mn cu og vl_ tp ce lN lC sk ou : Nat → Int32}
theorem cs_xop {m o : Nat} {a : Int32} (hm : m < 32) (ho : o ≤ 14) (h3 : (o = 13 ∨ o = 14) → ¬ a < 0 ∧ a ≤ 32) (post : Int32 → St2 → Prop) (hp : post (nI m) (cp, pr, 0, gc, gp, nI (m + 1), ml, cl, ol, vl, tr, ac, ca, pa, bk, ix, cL, cH, im, tl, tk, dr, cc, ld, sd, gk, gb, ge, upd po m (nI o), upd oa m a, mn, cu, og, vl_, tp, ce, lN, lC, sk)) : wpX_addOp post (cp, pr, 0, gc, gp, nI m, ml, cl, ol, vl, tr, ac, ca, pa, bk, ix, cL, cH, im, tl, tk, dr, cc, ld, sd, gk, gb, ge, po, oa, mn, cu, og, vl_, tp, ce, lN, lC, sk) (nI o) a := by
  have e1 : (nI m).toNatClampNeg = m := nI_clamp (by omega)
  have hi : vp_in (nI m) 32 := vp_in_nI (by omega) (by omega)
  have hl : nI m < 32 := nI_lt (b := 32) hm (by decide)
  have e2 : nI (m + 1) - 1 = nI m := nI_pred m
  refine br_t rfl (br_f (nI_pos (by omega)) (br_t (nI_le (b := 14) ho (by decide)) ?_))
  by_cases h13 : nI o = 13
  · obtain ⟨a0, a1⟩ := h3 (Or.inl ((nI_eq (b := 13) (by omega) (by decide)).mp h13))
    refine br_t h13 (br_f a0 (br_t a1 (br_t hl ⟨hi, nm_r (e' := upd po m (nI o)) (by rw [e1]) ⟨hi, nm_r (e' := upd oa m a) (by rw [e1]) (nm_r (nI_1 m) ?_)⟩⟩)))
    rw [e2]
    exact hp
  · by_cases h14 : nI o = 14
    · obtain ⟨a0, a1⟩ := h3 (Or.inr ((nI_eq (b := 14) (by omega) (by decide)).mp h14))
      refine br_f h13 (br_t h14 (br_f a0 (br_t a1 (br_t hl ⟨hi, nm_r (e' := upd po m (nI o)) (by rw [e1]) ⟨hi, nm_r (e' := upd oa m a) (by rw [e1]) (nm_r (nI_1 m) ?_)⟩⟩))))
      rw [e2]
      exact hp
    · refine br_f h13 (br_f h14 (br_t hl ⟨hi, nm_r (e' := upd po m (nI o)) (by rw [e1]) ⟨hi, nm_r (e' := upd oa m a) (by rw [e1]) (nm_r (nI_1 m) ?_)⟩⟩))
      rw [e2]
      exact hp
theorem cs_xopR {m o : Nat} {a : Int32} (hm : m ≤ 32) (ho : o ≤ 14) (h : 32 ≤ m ∨ ((o = 13 ∨ o = 14) ∧ (a < 0 ∨ ¬ a ≤ 32))) (post : Int32 → St2 → Prop) (hp : post (-1) (cp, pr, 0, gc, gp, nI m, ml, cl, ol, vl, tr, ac, ca, pa, bk, ix, cL, cH, im, tl, tk, dr, cc, ld, sd, gk, gb, ge, po, oa, mn, cu, og, vl_, tp, ce, lN, lC, sk)) : wpX_addOp post (cp, pr, 0, gc, gp, nI m, ml, cl, ol, vl, tr, ac, ca, pa, bk, ix, cL, cH, im, tl, tk, dr, cc, ld, sd, gk, gb, ge, po, oa, mn, cu, og, vl_, tp, ce, lN, lC, sk) (nI o) a := by
  refine br_t rfl (br_f (nI_pos (by omega)) (br_t (nI_le (b := 14) ho (by decide)) ?_))
  have hl : ¬ (a < 0 ∨ ¬ a ≤ 32) ∨ ¬ (o = 13 ∨ o = 14) → ¬ nI m < 32 := fun w => nI_nlt (b := 32) (by
    rcases h with h | h
    · exact h
    · exact absurd h (by
        rcases w with w | w
        · exact fun z => w z.2
        · exact fun z => w z.1)) (by omega)
  by_cases h13 : nI o = 13
  · by_cases a0 : a < 0
    · exact br_t h13 (br_t a0 hp)
    · by_cases a1 : a ≤ 32
      · exact br_t h13 (br_f a0 (br_t a1 (br_f (hl (Or.inl (fun z => z.elim a0 (fun y => y a1)))) hp)))
      · exact br_t h13 (br_f a0 (br_f a1 hp))
  · by_cases h14 : nI o = 14
    · by_cases a0 : a < 0
      · exact br_f h13 (br_t h14 (br_t a0 hp))
      · by_cases a1 : a ≤ 32
        · exact br_f h13 (br_t h14 (br_f a0 (br_t a1 (br_f (hl (Or.inl (fun z => z.elim a0 (fun y => y a1)))) hp))))
        · exact br_f h13 (br_t h14 (br_f a0 (br_f a1 hp)))
    · exact br_f h13 (br_f h14 (br_f (hl (Or.inr (fun z => z.elim (fun y => h13 (congrArg nI y)) (fun y => h14 (congrArg nI y))))) hp))
end
