section
variable {cp pr ph gc gp oc ml cl ol vl tr ac ca pa bk ix cL cH im tl tk dr cc ld sd yn yl yt yr yo : Int32} {gk gb ge po oa mn cu og vl_ tp ce lN lC sk yA cd ou sN sS sQ sM : Nat → Int32}
theorem cs_xg37 {x b : Int32} (h1 : ¬ x < 1) (h2 : x ≤ 3) (h3 : x = 1 → ¬ b < 0 ∧ b ≤ 255) (post : Int32 → SX → Prop) (hD : wX_addGen_37 post x b cp pr 0 gc gp oc ml cl ol vl tr ac ca pa bk ix cL cH im tl tk dr cc ld sd gk gb ge po oa mn cu og vl_ tp ce lN lC sk) : wpX_addGen post (cp, pr, 0, gc, gp, oc, ml, cl, ol, vl, tr, ac, ca, pa, bk, ix, cL, cH, im, tl, tk, dr, cc, ld, sd, gk, gb, ge, po, oa, mn, cu, og, vl_, tp, ce, lN, lC, sk) x b := by
  by_cases e : x = 1
  · exact br_t rfl (br_f h1 (br_t h2 (br_t e (br_f (h3 e).1 (br_t (h3 e).2 hD)))))
  · exact br_t rfl (br_f h1 (br_t h2 (br_f e hD)))
theorem cs_yg39 {x b : Int32} (h1 : ¬ x < 1) (h2 : x ≤ 3) (h3 : x = 1 → ¬ b < 0 ∧ b ≤ 255) (post : Int32 → SY → Prop) (hD : wY_addGen_39 post x b pr cp 0 gc gp oc ml cl ol vl tr ac ca pa bk ix cL cH im yn yl yt yr yo gk gb po yA mn cu og vl_ cd ou sN sS sQ sM sk) : wpY_addGen post (pr, cp, 0, gc, gp, oc, ml, cl, ol, vl, tr, ac, ca, pa, bk, ix, cL, cH, im, yn, yl, yt, yr, yo, gk, gb, po, yA, mn, cu, og, vl_, cd, ou, sN, sS, sQ, sM, sk) x b := by
  by_cases e : x = 1
  · exact br_t rfl (br_f h1 (br_t h2 (br_t e (br_f (h3 e).1 (br_t (h3 e).2 hD)))))
  · exact br_t rfl (br_f h1 (br_t h2 (br_f e hD)))
theorem cs_xgR {x b : Int32} (h1 : ¬ x < 1) (h2 : x ≤ 3) (h3 : x = 1 ∧ (b < 0 ∨ ¬ b ≤ 255)) (post : Int32 → SX → Prop) (hp : post (-1) (cp, pr, 0, gc, gp, oc, ml, cl, ol, vl, tr, ac, ca, pa, bk, ix, cL, cH, im, tl, tk, dr, cc, ld, sd, gk, gb, ge, po, oa, mn, cu, og, vl_, tp, ce, lN, lC, sk)) : wpX_addGen post (cp, pr, 0, gc, gp, oc, ml, cl, ol, vl, tr, ac, ca, pa, bk, ix, cL, cH, im, tl, tk, dr, cc, ld, sd, gk, gb, ge, po, oa, mn, cu, og, vl_, tp, ce, lN, lC, sk) x b := by
  by_cases a : b < 0
  · exact br_t rfl (br_f h1 (br_t h2 (br_t h3.1 (br_t a hp))))
  · exact br_t rfl (br_f h1 (br_t h2 (br_t h3.1 (br_f a (br_f (h3.2.resolve_left a) hp)))))
theorem cs_ygR {x b : Int32} (h1 : ¬ x < 1) (h2 : x ≤ 3) (h3 : x = 1 ∧ (b < 0 ∨ ¬ b ≤ 255)) (post : Int32 → SY → Prop) (hp : post (-1) (pr, cp, 0, gc, gp, oc, ml, cl, ol, vl, tr, ac, ca, pa, bk, ix, cL, cH, im, yn, yl, yt, yr, yo, gk, gb, po, yA, mn, cu, og, vl_, cd, ou, sN, sS, sQ, sM, sk)) : wpY_addGen post (pr, cp, 0, gc, gp, oc, ml, cl, ol, vl, tr, ac, ca, pa, bk, ix, cL, cH, im, yn, yl, yt, yr, yo, gk, gb, po, yA, mn, cu, og, vl_, cd, ou, sN, sS, sQ, sM, sk) x b := by
  by_cases a : b < 0
  · exact br_t rfl (br_f h1 (br_t h2 (br_t h3.1 (br_t a hp))))
  · exact br_t rfl (br_f h1 (br_t h2 (br_t h3.1 (br_f a (br_f (h3.2.resolve_left a) hp)))))
theorem cs_D0n {g : Nat → Int32} {n : Nat} (h : cs_D g n = 0) : 0 < n := by
  rcases Nat.eq_zero_or_pos n with w | w
  · rw [w] at h
    exact absurd h (show ¬ (1 : Nat) = 0 by decide)
  · exact w
theorem cs_ycp {n : Nat} (hn : n ≤ 16) (post : Int32 → Prop) (p0 : cs_D gk n = 0 → post 1) (p1 : cs_D gk n ≠ 0 → post 0) : wpY_complete post (pr, cp, ph, nI n, nI (cs_D gk n), oc, ml, cl, ol, vl, tr, ac, ca, pa, bk, ix, cL, cH, im, yn, yl, yt, yr, yo, gk, gb, po, yA, mn, cu, og, vl_, cd, ou, sN, sS, sQ, sM, sk) := by
  have dl := cs_Dle gk n
  by_cases d : cs_D gk n = 0
  · exact br_f (nI_nlt (b := 1) (cs_D0n d) (by omega)) (br_t (by rw [d]; rfl) (p0 d))
  · exact br_c (fun _ => p1 d) (fun _ => br_f (nI_ne0 (by omega) (by omega)) (p1 d))
theorem cs_xgF {n : Nat} {x b : Int32} (hn : n ≤ 16) (h : cs_D gk n = 0 ∨ 16 ≤ n) (post : Int32 → SX → Prop) (hp : post (-1) (cp, pr, ph, nI n, nI (cs_D gk n), oc, ml, cl, ol, vl, tr, ac, ca, pa, bk, ix, cL, cH, im, tl, tk, dr, cc, ld, sd, gk, gb, ge, po, oa, mn, cu, og, vl_, tp, ce, lN, lC, sk)) : wX_addGen_37 post x b cp pr ph (nI n) (nI (cs_D gk n)) oc ml cl ol vl tr ac ca pa bk ix cL cH im tl tk dr cc ld sd gk gb ge po oa mn cu og vl_ tp ce lN lC sk := by
  have dl := cs_Dle gk n
  by_cases d : cs_D gk n = 0
  · exact br_t (by rw [d]; rfl) hp
  · exact br_f (nI_ne0 (by omega) (by omega)) (br_f (nI_nlt (b := 16) (h.resolve_left d) (by omega)) hp)
theorem cs_ygF {n : Nat} {x b : Int32} (hn : n ≤ 16) (h : cs_D gk n = 0 ∨ 16 ≤ n) (post : Int32 → SY → Prop) (hp : post (-1) (pr, cp, ph, nI n, nI (cs_D gk n), oc, ml, cl, ol, vl, tr, ac, ca, pa, bk, ix, cL, cH, im, yn, yl, yt, yr, yo, gk, gb, po, yA, mn, cu, og, vl_, cd, ou, sN, sS, sQ, sM, sk)) : wY_addGen_39 post x b pr cp ph (nI n) (nI (cs_D gk n)) oc ml cl ol vl tr ac ca pa bk ix cL cH im yn yl yt yr yo gk gb po yA mn cu og vl_ cd ou sN sS sQ sM sk :=
  cs_ycp hn _ (fun _ => br_f (by decide) hp) (fun d => br_t rfl (br_f (nI_nlt (b := 16) (h.resolve_left d) (by omega)) hp))
theorem cs_xgS {n : Nat} {x b : Int32} (hn : n < 16) (hd : cs_D gk n ≠ 0) (H : ∀ j, j < n → 1 ≤ cs_D gk j ∧ (gk j = 1 ∨ gk j = 2 ∨ gk j = 3)) (hx : x = 1 ∨ x = 2 ∨ x = 3) (post : Int32 → SX → Prop)
    (hp : ∀ ge' : Nat → Int32, (cs_D (upd gk n x) (n + 1) = 0 → ∀ j, j < n + 1 → ∃ e, e ≤ n + 1 ∧ cs_E (upd gk n x) j e ∧ ge' j = nI e) → post (nI n) (cp, pr, ph, nI (n + 1), nI (cs_D (upd gk n x) (n + 1)), oc, ml, cl, ol, vl, tr, ac, ca, pa, bk, ix, cL, cH, im, tl, tk, dr, cc, ld, sd, upd gk n x, upd gb n (if x = 1 then b else 0), ge', po, oa, mn, cu, og, vl_, tp, ce, lN, lC, sk)) : wX_addGen_37 post x b cp pr ph (nI n) (nI (cs_D gk n)) oc ml cl ol vl tr ac ca pa bk ix cL cH im tl tk dr cc ld sd gk gb ge po oa mn cu og vl_ tp ce lN lC sk := by
  have dl := cs_Dle gk n
  have ec : (nI n).toNatClampNeg = n := nI_clamp (by omega)
  refine br_f (nI_ne0 (by omega) (by omega)) (br_t (nI_lt (b := 16) hn (by decide)) ⟨vp_in_nI hn (by omega), nm_r (e' := upd gk n x) (by rw [ec]) ?_⟩)
  by_cases e : x = 1
  · rw [if_pos e] at hp
    exact br_t e (cs_xgT post hn H (by omega) hx hp)
  · rw [if_neg e] at hp
    exact br_f e (cs_xgT post hn H (by omega) hx hp)
theorem cs_ygS {n : Nat} {x b : Int32} (hn : n < 16) (hd : cs_D gk n ≠ 0) (H : ∀ j, j < n → 1 ≤ cs_D gk j ∧ (gk j = 1 ∨ gk j = 2 ∨ gk j = 3)) (hx : x = 1 ∨ x = 2 ∨ x = 3) (post : Int32 → SY → Prop)
    (hp : post (nI n) (pr, cp, ph, nI (n + 1), nI (cs_D (upd gk n x) (n + 1)), oc, ml, cl, ol, vl, tr, ac, ca, pa, bk, ix, cL, cH, im, yn, yl, yt, yr, yo, upd gk n x, upd gb n (if x = 1 then b else 0), po, yA, mn, cu, og, vl_, cd, ou, sN, sS, sQ, sM, sk)) : wY_addGen_39 post x b pr cp ph (nI n) (nI (cs_D gk n)) oc ml cl ol vl tr ac ca pa bk ix cL cH im yn yl yt yr yo gk gb po yA mn cu og vl_ cd ou sN sS sQ sM sk := by
  have ec : (nI n).toNatClampNeg = n := nI_clamp (by omega)
  have hv : vp_in (nI n) 16 := vp_in_nI hn (by omega)
  refine cs_ycp (by omega) _ (fun d => absurd d hd) (fun _ => br_t rfl (br_t (nI_lt (b := 16) hn (by decide)) ⟨hv, nm_r (e' := upd gk n x) (by rw [ec]) ⟨hv, nm_r (e' := upd gb n 0) (by rw [ec]) ?_⟩⟩))
  by_cases e : x = 1
  · rw [if_pos e] at hp
    exact br_t e ⟨hv, nm_r (e' := upd gb n b) (by rw [ec, cs_uu]) (cs_ygT post hn H (by omega) hx hp)⟩
  · rw [if_neg e] at hp
    exact br_f e (cs_ygT post hn H (by omega) hx hp)
end
theorem i_vc_addGen {k : Nat} {u : SX} {v : SY} (I : i_Rel k u v) (hk : k + 3 ≤ 1538) (v1 : Int32) (v2 : Int32) : wpX_addGen (fun r u' => wpY_addGen (fun r' v' => r' = r ∧ i_Rel (k + 3) u' v') v v1 v2) u v1 v2 := by
  refine cs_elim (P := fun u v => wpX_addGen (fun r u' => wpY_addGen (fun r' v' => r' = r ∧ i_Rel (k + 3) u' v') v v1 v2) u v1 v2) I ?_
  intro cp pr ph gc gp oc ml cl ol vl tr ac ca pa bk ix cL cH im tl tk dr cc ld sd yn yl yt yr yo gk gb ge po oa mn cu og vl_ tp ce lN lC sk yA cd ou sN sS sQ sM hM hG hP hF
  have J : i_Rel (k + 3) (cp, pr, ph, gc, gp, oc, ml, cl, ol, vl, tr, ac, ca, pa, bk, ix, cL, cH, im, tl, tk, dr, cc, ld, sd, gk, gb, ge, po, oa, mn, cu, og, vl_, tp, ce, lN, lC, sk) (pr, cp, ph, gc, gp, oc, ml, cl, ol, vl, tr, ac, ca, pa, bk, ix, cL, cH, im, yn, yl, yt, yr, yo, gk, gb, po, yA, mn, cu, og, vl_, cd, ou, sN, sS, sQ, sM, sk) := cs_mk hM hG hP hF
  obtain ⟨n, hn, rfl, rfl, H, hgb, hE⟩ := hG
  by_cases hp : ph = 0
  · subst hp
    by_cases h : v1 < 1
    · exact br_t rfl (br_t h (br_t rfl (br_t h ⟨rfl, J⟩)))
    · by_cases h2 : v1 ≤ 3
      · have hx : v1 = 1 ∨ v1 = 2 ∨ v1 = 3 := by
          have h0 : ¬ v1 < 0 := cs_ix0 (n := 1) (by decide) (Int32.not_lt.mp h)
          obtain ⟨j, hj, rfl⟩ := nI_of2 (M := 3) (n := 3) (by decide) h0 h2
          obtain rfl | rfl | rfl | rfl : j = 0 ∨ j = 1 ∨ j = 2 ∨ j = 3 := by omega
          · exact absurd (show nI 0 < 1 by decide) h
          · exact Or.inl rfl
          · exact Or.inr (Or.inl rfl)
          · exact Or.inr (Or.inr rfl)
        by_cases h3 : v1 = 1 ∧ (v2 < 0 ∨ ¬ v2 ≤ 255)
        · exact cs_xgR h h2 h3 _ (cs_ygR h h2 h3 _ ⟨rfl, J⟩)
        · have h3' : v1 = 1 → ¬ v2 < 0 ∧ v2 ≤ 255 := fun e => ⟨fun z => h3 ⟨e, Or.inl z⟩, Classical.byContradiction fun z => h3 ⟨e, Or.inr z⟩⟩
          by_cases h4 : cs_D gk n = 0 ∨ 16 ≤ n
          · exact cs_xg37 h h2 h3' _ (cs_xgF hn h4 _ (cs_yg39 h h2 h3' _ (cs_ygF hn h4 _ ⟨rfl, J⟩)))
          · have hd : cs_D gk n ≠ 0 := fun z => h4 (Or.inl z)
            have hn16 : n < 16 := Nat.not_le.mp fun z => h4 (Or.inr z)
            refine cs_xg37 h h2 h3' _ (cs_xgS hn16 hd H hx _ (fun ge' hg => cs_yg39 h h2 h3' _ (cs_ygS hn16 hd H hx _ ⟨rfl, ?_⟩)))
            obtain ⟨K1, K2⟩ := cs_Gstep H (by omega) hx
            refine cs_mk hM ⟨n + 1, hn16, rfl, rfl, K1, fun j hj => ?_, fun d => cs_mkG hn16 (by omega) d K1 (hg d)⟩ hP ?_
            · by_cases z : j = n
              · rw [z, pk_us]
                by_cases e : v1 = 1
                · rw [if_pos e]
                  obtain ⟨b, hb, eb⟩ := nI_of2 (M := 255) (n := 255) (by decide) (h3' e).1 (h3' e).2
                  exact ⟨b, by omega, eb⟩
                · rw [if_neg e]
                  exact ⟨0, by omega, rfl⟩
              · rw [pk_un z]
                exact hgb j (by omega)
            · obtain ⟨a1, a2, a3, b1, b2, b3, b4, b5, b6, b7, b8⟩ := hF
              exact ⟨a1, a2, a3, b1, b2, b3, b4, b5, b6, b7, Or.inl rfl⟩
      · exact br_t rfl (br_f h (br_f h2 (br_t rfl (br_f h (br_f h2 ⟨rfl, J⟩)))))
  · exact br_f hp (br_f hp ⟨rfl, J⟩)
