theorem cs_xch {x : Int32} (hx : x = 1 ∨ x = 2 ∨ x = 3) (post : Int32 → Prop) (hp : post (nI (cs_ch x))) : wpX_childrenOf post x := by
  rcases hx with rfl | rfl | rfl
  · exact br_f (by decide) (br_f (by decide) hp)
  · exact br_f (by decide) (br_t rfl hp)
  · exact br_t rfl hp
theorem cs_opn {a b : Nat} (h : 1 ≤ a) : nI a + (nI b - 1) = nI (a - 1 + b) := by
  obtain ⟨c, rfl⟩ : ∃ c, a = c + 1 := ⟨a - 1, by omega⟩
  rw [Nat.add_sub_cancel, ← nI_1, ← nI_add]
  grind
section
variable {cp pr ph gc gp oc ml cl ol vl tr ac ca pa bk ix cL cH im tl tk dr cc ld sd yn yl yt yr yo : Int32} {gk gb ge po oa mn cu og vl_ tp ce lN lC sk yA cd ou sN sS sQ sM : Nat → Int32}
theorem cs_xse {n j e : Nat} (post : Int32 → Prop) (hp : post (nI e)) (hn : n ≤ 16) (he : e ≤ n) (H : ∀ k, k < n → 1 ≤ cs_D gk k ∧ (gk k = 1 ∨ gk k = 2 ∨ gk k = 3)) (hE : cs_E gk j e) : ∀ (d k need fuel : Nat), k + d = e → j ≤ k → need + cs_D gk j = cs_D gk k + 1 → d < fuel → wX_subtreeEnd_4 post cp pr ph (nI n) gp oc ml cl ol vl tr ac ca pa bk ix cL cH im tl tk dr cc ld sd gk gb ge po oa mn cu og vl_ tp ce lN lC sk fuel (nI need) (nI k) := by
  intro d
  induction d with
  | zero =>
    intro k need fuel hk hj hc hf
    obtain ⟨f, rfl⟩ : ∃ f, fuel = f + 1 := ⟨fuel - 1, by omega⟩
    have z : k = e := by omega
    subst z
    have z := cs_need0 hE hc
    subst z
    exact br_t (by decide) hp
  | succ d ih =>
    intro k need fuel hk hj hc hf
    obtain ⟨f, rfl⟩ : ∃ f, fuel = f + 1 := ⟨fuel - 1, by omega⟩
    have hj' := hE.1
    have n1 := cs_need (H j (by omega)).1 hE hj (by omega) hc
    have hdk := cs_Dle gk k
    have ec : (nI k).toNatClampNeg = k := nI_clamp (by omega)
    refine br_f (nI_nle n1.1 (by omega)) (br_f (nI_ge (by omega) (by omega)) ⟨vp_in_nI (by omega) (by omega), ?_⟩)
    rw [ec]
    exact cs_xch (H k (by omega)).2 _ (nm_r (cs_opn n1.1) (nm_r (nI_1 k) (ih (k + 1) _ f (by omega) (by omega) n1.2 (by omega))))
theorem cs_yse {n j e : Nat} (post : Int32 → Prop) (hp : post (nI e)) (hn : n ≤ 16) (he : e ≤ n) (H : ∀ k, k < n → 1 ≤ cs_D gk k ∧ (gk k = 1 ∨ gk k = 2 ∨ gk k = 3)) (hE : cs_E gk j e) : ∀ (d k need fuel : Nat), k + d = e → j ≤ k → need + cs_D gk j = cs_D gk k + 1 → d < fuel → wY_subtreeEnd_4 post pr cp ph (nI n) gp oc ml cl ol vl tr ac ca pa bk ix cL cH im yn yl yt yr yo gk gb po yA mn cu og vl_ cd ou sN sS sQ sM sk fuel (nI need) (nI k) := by
  intro d
  induction d with
  | zero =>
    intro k need fuel hk hj hc hf
    obtain ⟨f, rfl⟩ : ∃ f, fuel = f + 1 := ⟨fuel - 1, by omega⟩
    have z : k = e := by omega
    subst z
    have z := cs_need0 hE hc
    subst z
    exact br_t (by decide) hp
  | succ d ih =>
    intro k need fuel hk hj hc hf
    obtain ⟨f, rfl⟩ : ∃ f, fuel = f + 1 := ⟨fuel - 1, by omega⟩
    have hj' := hE.1
    have n1 := cs_need (H j (by omega)).1 hE hj (by omega) hc
    have hdk := cs_Dle gk k
    have ec : (nI k).toNatClampNeg = k := nI_clamp (by omega)
    have hv : vp_in (nI k) 16 := vp_in_nI (by omega) (by omega)
    have ik := ih (k + 1) _ f (by omega) (by omega) n1.2 (by omega)
    refine br_f (nI_nle n1.1 (by omega)) (br_f (nI_ge (by omega) (by omega)) (br_f (nI_pos (by omega)) (nm_r (sb_m1 n1.1) ⟨hv, ?_⟩)))
    rcases (H k (by omega)).2 with g | g | g
    · rw [cs_ch1 g] at ik
      exact br_f (by rw [ec, g]; decide) ⟨hv, br_f (by rw [ec, g]; decide) (nm_r (nI_1 k) ik)⟩
    · rw [cs_ch2 g] at ik
      exact br_t (by rw [ec, g]) (nm_r (nI_1 _) ⟨hv, br_f (by rw [ec, g]; decide) (nm_r (nI_1 k) ik)⟩)
    · rw [cs_ch3 g] at ik
      exact br_f (by rw [ec, g]; decide) ⟨hv, br_t (by rw [ec, g]) (nm_r (nI_add _ 2) (nm_r (nI_1 k) ik))⟩
theorem cs_ysub {n j e : Nat} (post : Int32 → Prop) (hp : post (nI e)) (hn : n ≤ 16) (he : e ≤ n) (H : ∀ k, k < n → 1 ≤ cs_D gk k ∧ (gk k = 1 ∨ gk k = 2 ∨ gk k = 3)) (hE : cs_E gk j e) : wpY_subtreeEnd post (pr, cp, ph, nI n, gp, oc, ml, cl, ol, vl, tr, ac, ca, pa, bk, ix, cL, cH, im, yn, yl, yt, yr, yo, gk, gb, po, yA, mn, cu, og, vl_, cd, ou, sN, sS, sQ, sM, sk) (nI j) := by
  have h := hE.1
  exact ⟨e + 1, cs_yse post hp hn he H hE (e - j) j 1 (e + 1) (by omega) (by omega) (by omega) (by omega)⟩
theorem cs_xmk {n : Nat} (post : SX → Prop) (hn : n ≤ 16) (H : ∀ k, k < n → 1 ≤ cs_D gk k ∧ (gk k = 1 ∨ gk k = 2 ∨ gk k = 3)) (h0 : cs_D gk n = 0) (hp : ∀ ge' : Nat → Int32, (∀ j, j < n → ∃ e, e ≤ n ∧ cs_E gk j e ∧ ge' j = nI e) → post (cp, pr, ph, nI n, gp, oc, ml, cl, ol, vl, tr, ac, ca, pa, bk, ix, cL, cH, im, tl, tk, dr, cc, ld, sd, gk, gb, ge', po, oa, mn, cu, og, vl_, tp, ce, lN, lC, sk)) : ∀ (d i fuel : Nat) (ge : Nat → Int32), i + d = n → (∀ j, j < i → ∃ e, e ≤ n ∧ cs_E gk j e ∧ ge j = nI e) → d < fuel → wX_markSubtreeEnds_2 post cp pr ph (nI n) gp oc ml cl ol vl tr ac ca pa bk ix cL cH im tl tk dr cc ld sd fuel (nI i) gk gb ge po oa mn cu og vl_ tp ce lN lC sk := by
  intro d
  induction d with
  | zero =>
    intro i fuel ge hi hg hf
    obtain ⟨f, rfl⟩ : ∃ f, fuel = f + 1 := ⟨fuel - 1, by omega⟩
    have z : i = n := by omega
    subst z
    exact br_t (nI_le (Nat.le_refl _) (by omega)) (hp ge hg)
  | succ d ih =>
    intro i fuel ge hi hg hf
    obtain ⟨f, rfl⟩ : ∃ f, fuel = f + 1 := ⟨fuel - 1, by omega⟩
    obtain ⟨e, he, hE⟩ := cs_Eex (g := gk) (n := n) (j := i) (by omega) (fun k hk => (H k hk).1) h0
    have hl := hE.1
    have ec : (nI i).toNatClampNeg = i := nI_clamp (by omega)
    refine br_f (nI_ge (by omega) (by omega)) ⟨e + 1, cs_xse _ ?_ hn he H hE (e - i) i 1 (e + 1) (by omega) (by omega) (by omega) (by omega)⟩
    refine ⟨vp_in_nI (by omega) (by omega), nm_r (e' := upd ge i (nI e)) (by rw [ec]) (nm_r (nI_1 i) (ih (i + 1) f (upd ge i (nI e)) (by omega) (fun j hj => ?_) (by omega)))⟩
    by_cases z : j = i
    · exact ⟨e, he, by rw [z]; exact hE, by rw [z, pk_us]⟩
    · obtain ⟨e', a, b, c⟩ := hg j (by omega)
      exact ⟨e', a, b, by rw [pk_un z, c]⟩
theorem cs_xgT {n : Nat} {x z : Int32} (post : Int32 → SX → Prop) (hn : n < 16) (H : ∀ j, j < n → 1 ≤ cs_D gk j ∧ (gk j = 1 ∨ gk j = 2 ∨ gk j = 3)) (hd : 1 ≤ cs_D gk n) (hx : x = 1 ∨ x = 2 ∨ x = 3)
    (hp : ∀ ge' : Nat → Int32, (cs_D (upd gk n x) (n + 1) = 0 → ∀ j, j < n + 1 → ∃ e, e ≤ n + 1 ∧ cs_E (upd gk n x) j e ∧ ge' j = nI e) → post (nI n) (cp, pr, ph, nI (n + 1), nI (cs_D (upd gk n x) (n + 1)), oc, ml, cl, ol, vl, tr, ac, ca, pa, bk, ix, cL, cH, im, tl, tk, dr, cc, ld, sd, upd gk n x, upd gb n z, ge', po, oa, mn, cu, og, vl_, tp, ce, lN, lC, sk)) :
    wX_addGen_83 post x z (nI n) cp pr ph (nI n) (nI (cs_D gk n)) oc ml cl ol vl tr ac ca pa bk ix cL cH im tl tk dr cc ld sd (upd gk n x) gb ge po oa mn cu og vl_ tp ce lN lC sk := by
  obtain ⟨K1, K2⟩ := cs_Gstep H hd hx
  have ec : (nI n).toNatClampNeg = n := nI_clamp (by omega)
  have dl := cs_Dle (upd gk n x) (n + 1)
  have e2 : nI (n + 1) - 1 = nI n := nI_pred n
  have eo : nI (cs_D gk n) + (nI (cs_ch x) - 1) = nI (cs_D (upd gk n x) (n + 1)) := (cs_opn hd).trans (congrArg nI K2.symm)
  refine ⟨vp_in_nI hn (by omega), nm_r (e' := upd gb n z) (by rw [ec]) (nm_r (nI_1 n) (cs_xch hx _ (nm_r eo ?_)))⟩
  rcases Nat.eq_zero_or_pos (cs_D (upd gk n x) (n + 1)) with d | d
  · refine br_t (by rw [d]; rfl) ⟨n + 2, cs_xmk (gk := upd gk n x) _ (by omega) K1 d (fun ge' hg => ?_) (n + 1) 0 (n + 2) ge (by omega) (fun j hj => absurd hj (by omega)) (by omega)⟩
    dsimp only
    rw [e2]
    exact hp ge' (fun _ => hg)
  · refine br_f (nI_ne0 d (by omega)) ?_
    rw [e2]
    exact hp ge (fun z => absurd z (by omega))
theorem cs_ygT {n : Nat} {x : Int32} (post : Int32 → SY → Prop) (hn : n < 16) (H : ∀ j, j < n → 1 ≤ cs_D gk j ∧ (gk j = 1 ∨ gk j = 2 ∨ gk j = 3)) (hd : 1 ≤ cs_D gk n) (hx : x = 1 ∨ x = 2 ∨ x = 3)
    (hp : post (nI n) (pr, cp, ph, nI (n + 1), nI (cs_D (upd gk n x) (n + 1)), oc, ml, cl, ol, vl, tr, ac, ca, pa, bk, ix, cL, cH, im, yn, yl, yt, yr, yo, upd gk n x, gb, po, yA, mn, cu, og, vl_, cd, ou, sN, sS, sQ, sM, sk)) : wY_addGen_94 post x pr cp ph (nI n) (nI (cs_D gk n)) oc ml cl ol vl tr ac ca pa bk ix cL cH im yn yl yt yr yo (upd gk n x) gb po yA mn cu og vl_ cd ou sN sS sQ sM sk := by
  obtain ⟨K1, K2⟩ := cs_Gstep H hd hx
  obtain ⟨D, hD⟩ : ∃ D, cs_D gk n = D + 1 := ⟨cs_D gk n - 1, by omega⟩
  rw [hD] at K2
  rw [K2] at hp
  rw [hD]
  have e2 : nI (n + 1) - 1 = nI n := nI_pred n
  rcases hx with rfl | rfl | rfl
  · refine nm_r (nI_pred D) (br_f (by decide) (br_f (by decide) (nm_r (nI_1 n) ?_)))
    rw [e2]
    exact hp
  · refine nm_r (nI_pred D) (br_t rfl (nm_r (nI_1 D) (br_f (by decide) (nm_r (nI_1 n) ?_))))
    rw [e2]
    exact hp
  · refine nm_r (nI_pred D) (br_f (by decide) (br_t rfl (nm_r (nI_add D 2) (nm_r (nI_1 n) ?_))))
    rw [e2]
    exact hp
end
