def gs_run (gk gb : Nat → Int32) (en : Nat → Nat) (n lim ag : Nat) (dr pr : Int32) (T : Nat → Int32) (ok : Bool) (t' L' : Nat) (T' V : Nat → Int32) : Prop :=
  ∀ (cp ph gp oc ml cl ol vl tr ac ca pa bk ix cL cH im sd prR tk cc ld : Int32) (ge po oa mn cu og vl_ sk tp ce lN lC : Nat → Int32) (post : Int32 → St2 → Prop), (∀ j, j < n → ge j = nI (en j)) → (∀ j, j < ag → tp j = T j) → (dr ≠ 0 → prR = pr) → gs_post ok n lim t' L' dr T' V cp ph gp oc ml cl ol vl tr ac ca pa bk ix cL cH im sd gk gb ge po oa mn cu og vl_ sk post → wpX_generate post (cp, prR, ph, nI n, gp, oc, ml, cl, ol, vl, tr, ac, ca, pa, bk, ix, cL, cH, im, nI lim, tk, dr, cc, ld, sd, gk, gb, ge, po, oa, mn, cu, og, vl_, tp, ce, lN, lC, sk)
theorem gs_runI {gk gb : Nat → Int32} {en : Nat → Nat} {n lim ag : Nat} {dr pr : Int32} {T : Nat → Int32} {ok : Bool} {t' L' : Nat} {T' V ce0 : Nat → Int32} (h : gs_go gk gb en n lim ag dr 1700 [(0, 0, 0, 0)] 0 0 pr T ce0 ok t' L' T' V) : gs_run gk gb en n lim ag dr pr T ok t' L' T' V := by
  intro cp ph gp oc ml cl ol vl tr ac ca pa bk ix cL cH im sd prR tk cc ld ge po oa mn cu og vl_ sk tp ce lN lC post hge ha hr hp
  have e0 : cs_pos gk en n [(0, 0, 0, 0)] = 0 := cs_p0 gk en n 0 0 0 []
  have e1 : cs_L gk [(0, 0, 0, 0)] = [] := cs_L0 gk 0 0 0 []
  have g := h cp ph gp oc ml cl ol vl tr ac ca pa bk ix cL cH im sd prR ge po oa mn cu og vl_ sk tp ce lN lC post 1701 0 (by omega) (by omega) hge ha hr (fun j hj => absurd hj (by omega)) (by rw [e1]; trivial) hp
  rw [e0, e1] at g
  exact ⟨1701, g⟩
theorem gs_gen {gk gb : Nat → Int32} {en : Nat → Nat} {n lim : Nat} {dr pr : Int32} {T : Nat → Int32} (G : cs_G gk en n) (hgb : ∀ j, j < n → ∃ b : Nat, b < 256 ∧ gb j = nI b) (hO : gs_or dr lim 0 T) : ∃ (ok : Bool) (t' L' : Nat) (T' V : Nat → Int32), gs_run gk gb en n lim (gs_ag dr lim 0) dr pr T ok t' L' T' V ∧ (ok = true → t' ≤ lim ∧ L' ≤ 32 ∧ cs_by T' t' ∧ (dr = 0 → T' = T) ∧ ∀ (prx : Int32) (lim2 : Nat), t' ≤ lim2 → lim2 ≤ 32 → gs_run gk gb en n lim2 t' 0 prx T' true t' L' T' V) := by
  have hl := hO.2.1
  have e0 : cs_pos gk en n [(0, 0, 0, 0)] = 0 := cs_p0 gk en n 0 0 0 []
  have e2 : cs_ph gk [(0, 0, 0, 0)] = 0 := cs_h0 gk 0 0 0 []
  have hmu : cs_mu gk en n lim 0 [(0, 0, 0, 0)] < 1700 := by
    unfold cs_mu
    rw [e0, e2]
    omega
  obtain ⟨ok, t', L', T', V, h1, h2⟩ := gs_all (gb := gb) G hgb 1700 [(0, 0, 0, 0)] 0 0 pr T (fun _ => 0) (fun _ => 0) (upd (fun _ => 0) 0 0) (upd (fun _ => 0) 0 0) (fun _ => 0) (fun _ => 0) (fun _ => 0) (fun _ => 0) hmu (cs_S0 G) (by omega) hO
  refine ⟨ok, t', L', T', V, gs_runI h1, fun h => ?_⟩
  obtain ⟨a1, a2, a3, a4, a5, a6, a7⟩ := h2 h
  exact ⟨a2, a3, a4, a6, fun prx lim2 b1 b2 => gs_runI (a7 prx lim2 b1 b2)⟩
theorem hs_up {a b : Nat → Int32} {e : Nat} {x y : Int32} (h : ∀ j, j < e → a j = b j) (hx : x = y) : ∀ j, j < e + 1 → upd a e x j = upd b e y j := by
  intro j hj
  by_cases z : j = e
  · rw [z, pk_us, pk_us, hx]
  · rw [pk_un z, pk_un z]
    exact h j (by omega)
theorem hs_exe {po oa V sk : Nat → Int32} {p d L m : Nat} (hm : m ≤ 32) (hpm : p < m) (hd : d ≤ 16) (hL : L ≤ 32) (H : (∃ o : Nat, o ≤ 14 ∧ po p = nI o ∧ ((o = 13 ∨ o = 14) → ∃ a : Nat, a ≤ 32 ∧ oa p = nI a))) :
    (∀ (cp pr ph gc gp ml cl ol vl tr ac ca pa bk ix cL cH im tl tk dr ld : Int32) (gk gb ge mn cu og vl_ tp ce lN lC skR : Nat → Int32) (post : Int32 → St2 → Prop), post (-1) (cp, pr, ph, gc, gp, nI m, ml, cl, ol, vl, tr, ac, ca, pa, bk, ix, cL, cH, im, tl, tk, dr, nI L, ld, nI d, gk, gb, ge, po, oa, mn, cu, og, vl_, tp, ce, lN, lC, skR) → wpX_execute post (cp, pr, ph, gc, gp, nI m, ml, cl, ol, vl, tr, ac, ca, pa, bk, ix, cL, cH, im, tl, tk, dr, nI L, ld, nI d, gk, gb, ge, po, oa, mn, cu, og, vl_, tp, ce, lN, lC, skR) (nI p)) ∨
    (∃ (p' d' : Nat) (sk' : Nat → Int32), p' ≤ 32 ∧ d' ≤ 16 ∧ ∀ (cp pr ph gc gp ml cl ol vl tr ac ca pa bk ix cL cH im tl tk dr ld : Int32) (gk gb ge mn cu og vl_ tp ce lN lC skR : Nat → Int32), (∀ j, j < L → ce j = V j) → (∀ j, j < d → skR j = sk j) → ∃ skR' : Nat → Int32, (∀ j, j < d' → skR' j = sk' j) ∧ ∀ post : Int32 → St2 → Prop, post (nI p') (cp, pr, ph, gc, gp, nI m, ml, cl, ol, vl, tr, ac, ca, pa, bk, ix, cL, cH, im, tl, tk, dr, nI L, ld, nI d', gk, gb, ge, po, oa, mn, cu, og, vl_, tp, ce, lN, lC, skR') → wpX_execute post (cp, pr, ph, gc, gp, nI m, ml, cl, ol, vl, tr, ac, ca, pa, bk, ix, cL, cH, im, tl, tk, dr, nI L, ld, nI d, gk, gb, ge, po, oa, mn, cu, og, vl_, tp, ce, lN, lC, skR) (nI p)) := by
  have hp1 : p + 1 ≤ 32 := by omega
  have hp32 : p < 32 := by omega
  obtain ⟨o, ho14, ho, hB⟩ := H
  obtain rfl | rfl | rfl | rfl | rfl | rfl | rfl | rfl | rfl | rfl | rfl | rfl | rfl | rfl | rfl : o = 0 ∨ o = 1 ∨ o = 2 ∨ o = 3 ∨ o = 4 ∨ o = 5 ∨ o = 6 ∨ o = 7 ∨ o = 8 ∨ o = 9 ∨ o = 10 ∨ o = 11 ∨ o = 12 ∨ o = 13 ∨ o = 14 := by
    clear hB
    omega
  · by_cases h16 : d < 16
    · exact Or.inr ⟨p + 1, d + 1, upd sk d (oa p), hp1, by omega, fun cp pr ph gc gp ml cl ol vl tr ac ca pa bk ix cL cH im tl tk dr ld gk gb ge mn cu og vl_ tp ce lN lC skR hV hs => ⟨upd skR d (oa p), hs_up hs rfl, fun post hp => cs_ex0 hp32 ho h16 post hp⟩⟩
    · have z : d = 16 := by omega
      subst z
      exact Or.inl (fun cp pr ph gc gp ml cl ol vl tr ac ca pa bk ix cL cH im tl tk dr ld gk gb ge mn cu og vl_ tp ce lN lC skR post hp => cs_exG0 hp32 ho post hp)
  · by_cases h : d < 1
    · exact Or.inl (fun cp pr ph gc gp ml cl ol vl tr ac ca pa bk ix cL cH im tl tk dr ld gk gb ge mn cu og vl_ tp ce lN lC skR post hp => cs_exF1 hp32 ho h post hp)
    · obtain ⟨e, rfl⟩ : ∃ e, d = e + 1 := ⟨d - 1, by omega⟩
      exact Or.inr ⟨p + 1, e + 1, upd sk e (if sk e < 0 then 0 else if nI L ≤ sk e then 0 else V (sk e).toNatClampNeg), hp1, by omega, fun cp pr ph gc gp ml cl ol vl tr ac ca pa bk ix cL cH im tl tk dr ld gk gb ge mn cu og vl_ tp ce lN lC skR hV hs => ⟨upd skR e (if skR e < 0 then 0 else if nI L ≤ skR e then 0 else V (skR e).toNatClampNeg), hs_up (fun j hj => hs j (by omega)) (by rw [(hs e (by omega))]), fun post hp => cs_ex1 hp32 ho hd (fun q hq => cs_xcz (ou := V) hL hV q hq) post hp⟩⟩
  · by_cases h16 : d < 16
    · exact Or.inr ⟨p + 1, d + 1, upd sk d (nI L), hp1, by omega, fun cp pr ph gc gp ml cl ol vl tr ac ca pa bk ix cL cH im tl tk dr ld gk gb ge mn cu og vl_ tp ce lN lC skR hV hs => ⟨upd skR d (nI L), hs_up hs rfl, fun post hp => cs_ex2 hp32 ho h16 post hp⟩⟩
    · have z : d = 16 := by omega
      subst z
      exact Or.inl (fun cp pr ph gc gp ml cl ol vl tr ac ca pa bk ix cL cH im tl tk dr ld gk gb ge mn cu og vl_ tp ce lN lC skR post hp => cs_exG2 hp32 ho post hp)
  · by_cases h : d < 2
    · exact Or.inl (fun cp pr ph gc gp ml cl ol vl tr ac ca pa bk ix cL cH im tl tk dr ld gk gb ge mn cu og vl_ tp ce lN lC skR post hp => cs_exF3 hp32 ho h post hp)
    · obtain ⟨e, rfl⟩ : ∃ e, d = e + 2 := ⟨d - 2, by omega⟩
      exact Or.inr ⟨p + 1, e + 1, upd sk e (sk e + sk (e + 1)), hp1, by omega, fun cp pr ph gc gp ml cl ol vl tr ac ca pa bk ix cL cH im tl tk dr ld gk gb ge mn cu og vl_ tp ce lN lC skR hV hs => ⟨upd skR e (skR e + skR (e + 1)), hs_up (fun j hj => hs j (by omega)) (by rw [(hs e (by omega)), (hs (e + 1) (by omega))]), fun post hp => cs_ex3 hp32 ho hd post hp⟩⟩
  · by_cases h : d < 2
    · exact Or.inl (fun cp pr ph gc gp ml cl ol vl tr ac ca pa bk ix cL cH im tl tk dr ld gk gb ge mn cu og vl_ tp ce lN lC skR post hp => cs_exF4 hp32 ho h post hp)
    · obtain ⟨e, rfl⟩ : ∃ e, d = e + 2 := ⟨d - 2, by omega⟩
      exact Or.inr ⟨p + 1, e + 1, upd sk e (sk e - sk (e + 1)), hp1, by omega, fun cp pr ph gc gp ml cl ol vl tr ac ca pa bk ix cL cH im tl tk dr ld gk gb ge mn cu og vl_ tp ce lN lC skR hV hs => ⟨upd skR e (skR e - skR (e + 1)), hs_up (fun j hj => hs j (by omega)) (by rw [(hs e (by omega)), (hs (e + 1) (by omega))]), fun post hp => cs_ex4 hp32 ho hd post hp⟩⟩
  · by_cases h : d < 2
    · exact Or.inl (fun cp pr ph gc gp ml cl ol vl tr ac ca pa bk ix cL cH im tl tk dr ld gk gb ge mn cu og vl_ tp ce lN lC skR post hp => cs_exF5 hp32 ho h post hp)
    · obtain ⟨e, rfl⟩ : ∃ e, d = e + 2 := ⟨d - 2, by omega⟩
      exact Or.inr ⟨p + 1, e + 1, upd sk e (sk e * sk (e + 1)), hp1, by omega, fun cp pr ph gc gp ml cl ol vl tr ac ca pa bk ix cL cH im tl tk dr ld gk gb ge mn cu og vl_ tp ce lN lC skR hV hs => ⟨upd skR e (skR e * skR (e + 1)), hs_up (fun j hj => hs j (by omega)) (by rw [(hs e (by omega)), (hs (e + 1) (by omega))]), fun post hp => cs_ex5 hp32 ho hd post hp⟩⟩
  · by_cases h : d < 2
    · exact Or.inl (fun cp pr ph gc gp ml cl ol vl tr ac ca pa bk ix cL cH im tl tk dr ld gk gb ge mn cu og vl_ tp ce lN lC skR post hp => cs_exF6 hp32 ho h post hp)
    · obtain ⟨e, rfl⟩ : ∃ e, d = e + 2 := ⟨d - 2, by omega⟩
      exact Or.inr ⟨p + 1, e + 1, upd sk e (if sk (e + 1) ≤ sk e then 0 else 1), hp1, by omega, fun cp pr ph gc gp ml cl ol vl tr ac ca pa bk ix cL cH im tl tk dr ld gk gb ge mn cu og vl_ tp ce lN lC skR hV hs => ⟨upd skR e (if skR (e + 1) ≤ skR e then 0 else 1), hs_up (fun j hj => hs j (by omega)) (by rw [(hs e (by omega)), (hs (e + 1) (by omega))]), fun post hp => cs_ex6 hp32 ho hd post hp⟩⟩
  · by_cases h : d < 2
    · exact Or.inl (fun cp pr ph gc gp ml cl ol vl tr ac ca pa bk ix cL cH im tl tk dr ld gk gb ge mn cu og vl_ tp ce lN lC skR post hp => cs_exF7 hp32 ho h post hp)
    · obtain ⟨e, rfl⟩ : ∃ e, d = e + 2 := ⟨d - 2, by omega⟩
      exact Or.inr ⟨p + 1, e + 1, upd sk e (if sk e = sk (e + 1) then 1 else 0), hp1, by omega, fun cp pr ph gc gp ml cl ol vl tr ac ca pa bk ix cL cH im tl tk dr ld gk gb ge mn cu og vl_ tp ce lN lC skR hV hs => ⟨upd skR e (if skR e = skR (e + 1) then 1 else 0), hs_up (fun j hj => hs j (by omega)) (by rw [(hs e (by omega)), (hs (e + 1) (by omega))]), fun post hp => cs_ex7 hp32 ho hd post hp⟩⟩
  · by_cases h : d < 1
    · exact Or.inl (fun cp pr ph gc gp ml cl ol vl tr ac ca pa bk ix cL cH im tl tk dr ld gk gb ge mn cu og vl_ tp ce lN lC skR post hp => cs_exF8 hp32 ho h post hp)
    · obtain ⟨e, rfl⟩ : ∃ e, d = e + 1 := ⟨d - 1, by omega⟩
      exact Or.inr ⟨p + 1, e + 1, upd sk e (if sk e = 0 then 1 else 0), hp1, by omega, fun cp pr ph gc gp ml cl ol vl tr ac ca pa bk ix cL cH im tl tk dr ld gk gb ge mn cu og vl_ tp ce lN lC skR hV hs => ⟨upd skR e (if skR e = 0 then 1 else 0), hs_up (fun j hj => hs j (by omega)) (by rw [(hs e (by omega))]), fun post hp => cs_ex8 hp32 ho hd post hp⟩⟩
  · by_cases h : d < 1
    · exact Or.inl (fun cp pr ph gc gp ml cl ol vl tr ac ca pa bk ix cL cH im tl tk dr ld gk gb ge mn cu og vl_ tp ce lN lC skR post hp => cs_exF9 hp32 ho h post hp)
    · obtain ⟨e, rfl⟩ : ∃ e, d = e + 1 := ⟨d - 1, by omega⟩
      by_cases h16 : e + 1 < 16
      · exact Or.inr ⟨p + 1, e + 1 + 1, upd sk (e + 1) (sk e), hp1, by omega, fun cp pr ph gc gp ml cl ol vl tr ac ca pa bk ix cL cH im tl tk dr ld gk gb ge mn cu og vl_ tp ce lN lC skR hV hs => ⟨upd skR (e + 1) (skR e), hs_up hs (hs e (by omega)), fun post hp => cs_ex9 hp32 ho h16 post hp⟩⟩
      · have z : e + 1 = 16 := by omega
        rw [z]
        exact Or.inl (fun cp pr ph gc gp ml cl ol vl tr ac ca pa bk ix cL cH im tl tk dr ld gk gb ge mn cu og vl_ tp ce lN lC skR post hp => cs_exG9 hp32 ho post hp)
  · by_cases h : d < 2
    · exact Or.inl (fun cp pr ph gc gp ml cl ol vl tr ac ca pa bk ix cL cH im tl tk dr ld gk gb ge mn cu og vl_ tp ce lN lC skR post hp => cs_exF10 hp32 ho h post hp)
    · obtain ⟨e, rfl⟩ : ∃ e, d = e + 2 := ⟨d - 2, by omega⟩
      exact Or.inr ⟨p + 1, e + 2, upd (upd sk (e + 1) (sk e)) e (sk (e + 1)), hp1, by omega, fun cp pr ph gc gp ml cl ol vl tr ac ca pa bk ix cL cH im tl tk dr ld gk gb ge mn cu og vl_ tp ce lN lC skR hV hs => ⟨upd (upd skR (e + 1) (skR e)) e (skR (e + 1)), (fun j hj => by
        by_cases z : j = e
        · rw [z, pk_us, pk_us]
          exact hs (e + 1) (by omega)
        · rw [pk_un z, pk_un z]
          exact hs_up (fun j hj => hs j (by omega)) (hs e (by omega)) j hj), fun post hp => cs_ex10 hp32 ho hd post hp⟩⟩
  · by_cases h : d < 1
    · exact Or.inl (fun cp pr ph gc gp ml cl ol vl tr ac ca pa bk ix cL cH im tl tk dr ld gk gb ge mn cu og vl_ tp ce lN lC skR post hp => cs_exF11 hp32 ho h post hp)
    · obtain ⟨e, rfl⟩ : ∃ e, d = e + 1 := ⟨d - 1, by omega⟩
      exact Or.inr ⟨p + 1, e, sk, hp1, by omega, fun cp pr ph gc gp ml cl ol vl tr ac ca pa bk ix cL cH im tl tk dr ld gk gb ge mn cu og vl_ tp ce lN lC skR hV hs => ⟨skR, fun j hj => hs j (by omega), fun post hp => cs_ex11 hp32 ho hd post hp⟩⟩
  · by_cases h : d < 2
    · exact Or.inl (fun cp pr ph gc gp ml cl ol vl tr ac ca pa bk ix cL cH im tl tk dr ld gk gb ge mn cu og vl_ tp ce lN lC skR post hp => cs_exF12 hp32 ho h post hp)
    · obtain ⟨e, rfl⟩ : ∃ e, d = e + 2 := ⟨d - 2, by omega⟩
      by_cases h16 : e + 2 < 16
      · exact Or.inr ⟨p + 1, e + 2 + 1, upd sk (e + 2) (sk e), hp1, by omega, fun cp pr ph gc gp ml cl ol vl tr ac ca pa bk ix cL cH im tl tk dr ld gk gb ge mn cu og vl_ tp ce lN lC skR hV hs => ⟨upd skR (e + 2) (skR e), hs_up hs (hs e (by omega)), fun post hp => cs_ex12 hp32 ho h16 post hp⟩⟩
      · have z : e + 2 = 16 := by omega
        rw [z]
        exact Or.inl (fun cp pr ph gc gp ml cl ol vl tr ac ca pa bk ix cL cH im tl tk dr ld gk gb ge mn cu og vl_ tp ce lN lC skR post hp => cs_exG12 hp32 ho post hp)
  · by_cases h : d < 1
    · exact Or.inl (fun cp pr ph gc gp ml cl ol vl tr ac ca pa bk ix cL cH im tl tk dr ld gk gb ge mn cu og vl_ tp ce lN lC skR post hp => cs_exF13 hp32 ho h post hp)
    · obtain ⟨e, rfl⟩ : ∃ e, d = e + 1 := ⟨d - 1, by omega⟩
      obtain ⟨a, ha, ea⟩ := hB (Or.inl rfl)
      by_cases z : sk e = 0
      · exact Or.inr ⟨a, e, sk, ha, by omega, fun cp pr ph gc gp ml cl ol vl tr ac ca pa bk ix cL cH im tl tk dr ld gk gb ge mn cu og vl_ tp ce lN lC skR hV hs => ⟨skR, fun j hj => hs j (by omega), fun post hp => cs_ex13 hp32 ho hd post (by rw [if_pos ((hs e (by omega)).trans z), ea]; exact hp)⟩⟩
      · exact Or.inr ⟨p + 1, e, sk, hp1, by omega, fun cp pr ph gc gp ml cl ol vl tr ac ca pa bk ix cL cH im tl tk dr ld gk gb ge mn cu og vl_ tp ce lN lC skR hV hs => ⟨skR, fun j hj => hs j (by omega), fun post hp => cs_ex13 hp32 ho hd post (by rw [if_neg (fun w => z ((hs e (by omega)).symm.trans w))]; exact hp)⟩⟩
  · obtain ⟨a, ha, ea⟩ := hB (Or.inr rfl)
    exact Or.inr ⟨a, d, sk, ha, hd, fun cp pr ph gc gp ml cl ol vl tr ac ca pa bk ix cL cH im tl tk dr ld gk gb ge mn cu og vl_ tp ce lN lC skR hV hs => ⟨skR, hs, fun post hp => cs_ex14 hp32 ho hd post (by rw [ea]; exact hp)⟩⟩
theorem hs_pe {sk : Nat → Int32} {d : Nat} (hd : d ≤ 16) : ∃ r : Int32, (r = 0 ∨ r = 1) ∧ ∀ (cp pr ph gc gp ml cl ol vl tr ac ca pa bk ix cL cH im tl tk dr ld : Int32) (gk gb ge mn cu og vl_ tp ce lN lC po oa skR : Nat → Int32) (p m L : Nat) (post : Int32 → St2 → Prop), (∀ j, j < d → skR j = sk j) → m ≤ p → p ≤ 32 → post r (cp, pr, ph, gc, gp, nI m, ml, cl, ol, vl, tr, ac, ca, pa, bk, ix, cL, cH, im, tl, tk, dr, nI L, ld, nI d, gk, gb, ge, po, oa, mn, cu, og, vl_, tp, ce, lN, lC, skR) → wX_propertyHolds_41 post (nI p) cp pr ph gc gp (nI m) ml cl ol vl tr ac ca pa bk ix cL cH im tl tk dr (nI L) ld (nI d) gk gb ge po oa mn cu og vl_ tp ce lN lC skR := by
  by_cases d0 : d = 0
  · subst d0
    exact ⟨0, Or.inl rfl, fun cp pr ph gc gp ml cl ol vl tr ac ca pa bk ix cL cH im tl tk dr ld gk gb ge mn cu og vl_ tp ce lN lC po oa skR p m L post hs h1 h2 hp => br_f (nI_nlt h1 (by omega)) (br_t (by decide) hp)⟩
  · obtain ⟨e, rfl⟩ : ∃ e, d = e + 1 := ⟨d - 1, by omega⟩
    have ee : (nI (e + 1) - 1).toNatClampNeg = e := by rw [nI_pred, nI_clamp (by omega)]
    have hv : vp_in (nI (e + 1) - 1) 16 := by rw [nI_pred]; exact vp_in_nI (by omega) (by omega)
    have h0 : ¬ nI (e + 1) ≤ 0 := nI_nle (by omega) (by omega)
    by_cases z : sk e = 0
    · exact ⟨0, Or.inl rfl, fun cp pr ph gc gp ml cl ol vl tr ac ca pa bk ix cL cH im tl tk dr ld gk gb ge mn cu og vl_ tp ce lN lC po oa skR p m L post hs h1 h2 hp => br_f (nI_nlt h1 (by omega)) (br_f h0 ⟨hv, br_t (by rw [ee, hs e (by omega)]; exact z) hp⟩)⟩
    · exact ⟨1, Or.inr rfl, fun cp pr ph gc gp ml cl ol vl tr ac ca pa bk ix cL cH im tl tk dr ld gk gb ge mn cu og vl_ tp ce lN lC po oa skR p m L post hs h1 h2 hp => br_f (nI_nlt h1 (by omega)) (br_f h0 ⟨hv, br_f (by rw [ee, hs e (by omega)]; exact z) hp⟩)⟩
def hs_P (po oa : Nat → Int32) (m L : Nat) (V : Nat → Int32) (r : Int32) : Prop :=
  ∀ (cp pr ph gc gp ml cl ol vl tr ac ca pa bk ix cL cH im tl tk dr ld sd : Int32) (gk gb ge mn cu og vl_ tp ce lN lC sk : Nat → Int32) (post : Int32 → St2 → Prop), (∀ j, j < L → ce j = V j) → (∀ (sd' : Int32) (sk' : Nat → Int32), post r (cp, pr, ph, gc, gp, nI m, ml, cl, ol, vl, tr, ac, ca, pa, bk, ix, cL, cH, im, tl, tk, dr, nI L, ld, sd', gk, gb, ge, po, oa, mn, cu, og, vl_, tp, ce, lN, lC, sk')) → wpX_propertyHolds post (cp, pr, ph, gc, gp, nI m, ml, cl, ol, vl, tr, ac, ca, pa, bk, ix, cL, cH, im, tl, tk, dr, nI L, ld, sd, gk, gb, ge, po, oa, mn, cu, og, vl_, tp, ce, lN, lC, sk)
theorem hs_l {po oa V : Nat → Int32} {L m : Nat} (hm : m ≤ 32) (hL : L ≤ 32) (H : ∀ j, j < m → (∃ o : Nat, o ≤ 14 ∧ po j = nI o ∧ ((o = 13 ∨ o = 14) → ∃ a : Nat, a ≤ 32 ∧ oa j = nI a))) :
    ∀ (c p d s : Nat) (sk : Nat → Int32), s + c = 256 → p ≤ 32 → d ≤ 16 → ∃ r : Int32, (r = 0 ∨ r = 1) ∧ ∀ (cp pr ph gc gp ml cl ol vl tr ac ca pa bk ix cL cH im tl tk dr ld : Int32) (gk gb ge mn cu og vl_ tp ce lN lC skR : Nat → Int32) (post : Int32 → St2 → Prop) (fuel : Nat), c + 1 < fuel → (∀ j, j < L → ce j = V j) → (∀ j, j < d → skR j = sk j) → (∀ (sd' : Int32) (sk' : Nat → Int32), post r (cp, pr, ph, gc, gp, nI m, ml, cl, ol, vl, tr, ac, ca, pa, bk, ix, cL, cH, im, tl, tk, dr, nI L, ld, sd', gk, gb, ge, po, oa, mn, cu, og, vl_, tp, ce, lN, lC, sk')) → wX_propertyHolds_9 post fuel (nI p) (nI s) cp pr ph gc gp (nI m) ml cl ol vl tr ac ca pa bk ix cL cH im tl tk dr (nI L) ld (nI d) gk gb ge po oa mn cu og vl_ tp ce lN lC skR := by
  intro c
  induction c with
  | zero =>
    intro p d s sk hs hp32 hd
    have z : s = 256 := by omega
    subst z
    by_cases h : p < m
    · refine ⟨0, Or.inl rfl, fun cp pr ph gc gp ml cl ol vl tr ac ca pa bk ix cL cH im tl tk dr ld gk gb ge mn cu og vl_ tp ce lN lC skR post fuel hf hV hk hp => ?_⟩
      obtain ⟨f, rfl⟩ : ∃ f, fuel = f + 1 := ⟨fuel - 1, by omega⟩
      exact br_t (by decide) (br_t (nI_lt h (by omega)) (hp _ _))
    · obtain ⟨r, hr, hX⟩ := hs_pe (sk := sk) hd
      refine ⟨r, hr, fun cp pr ph gc gp ml cl ol vl tr ac ca pa bk ix cL cH im tl tk dr ld gk gb ge mn cu og vl_ tp ce lN lC skR post fuel hf hV hk hp => ?_⟩
      obtain ⟨f, rfl⟩ : ∃ f, fuel = f + 1 := ⟨fuel - 1, by omega⟩
      exact br_t (by decide) (hX cp pr ph gc gp ml cl ol vl tr ac ca pa bk ix cL cH im tl tk dr ld gk gb ge mn cu og vl_ tp ce lN lC po oa skR p m L post hk (by omega) hp32 (hp _ _))
  | succ c ih =>
    intro p d s sk hs hp32 hd
    by_cases h : p < m
    · rcases hs_exe (po := po) (oa := oa) (V := V) (sk := sk) hm h hd hL (H p h) with hX | ⟨p', d', sk', h1, h2, hX⟩
      · refine ⟨0, Or.inl rfl, fun cp pr ph gc gp ml cl ol vl tr ac ca pa bk ix cL cH im tl tk dr ld gk gb ge mn cu og vl_ tp ce lN lC skR post fuel hf hV hk hp => ?_⟩
        obtain ⟨f, rfl⟩ : ∃ f, fuel = f + 1 + 1 := ⟨fuel - 2, by omega⟩
        exact br_f (nI_ge (b := 256) (by omega) (by decide)) (br_f (cs_nm1 (by omega)) (br_f (nI_ge h (by omega)) (hX cp pr ph gc gp ml cl ol vl tr ac ca pa bk ix cL cH im tl tk dr ld gk gb ge mn cu og vl_ tp ce lN lC skR _ (nm_r (nI_1 s) (cs_xpF hm (by omega) post (hp _ _))))))
      · obtain ⟨r, hr, HX⟩ := ih p' d' (s + 1) sk' (by omega) h1 h2
        refine ⟨r, hr, fun cp pr ph gc gp ml cl ol vl tr ac ca pa bk ix cL cH im tl tk dr ld gk gb ge mn cu og vl_ tp ce lN lC skR post fuel hf hV hk hp => ?_⟩
        obtain ⟨f, rfl⟩ : ∃ f, fuel = f + 1 := ⟨fuel - 1, by omega⟩
        obtain ⟨skR', hk', hE⟩ := hX cp pr ph gc gp ml cl ol vl tr ac ca pa bk ix cL cH im tl tk dr ld gk gb ge mn cu og vl_ tp ce lN lC skR hV hk
        exact br_f (nI_ge (b := 256) (by omega) (by decide)) (br_f (cs_nm1 (by omega)) (br_f (nI_ge h (by omega)) (hE _ (nm_r (nI_1 s) (HX cp pr ph gc gp ml cl ol vl tr ac ca pa bk ix cL cH im tl tk dr ld gk gb ge mn cu og vl_ tp ce lN lC skR' post f (by omega) hV hk' hp)))))
    · obtain ⟨r, hr, hX⟩ := hs_pe (sk := sk) hd
      refine ⟨r, hr, fun cp pr ph gc gp ml cl ol vl tr ac ca pa bk ix cL cH im tl tk dr ld gk gb ge mn cu og vl_ tp ce lN lC skR post fuel hf hV hk hp => ?_⟩
      obtain ⟨f, rfl⟩ : ∃ f, fuel = f + 1 := ⟨fuel - 1, by omega⟩
      exact br_f (nI_ge (b := 256) (by omega) (by decide)) (br_f (cs_nm1 (by omega)) (br_t (nI_le (by omega) (by omega)) (hX cp pr ph gc gp ml cl ol vl tr ac ca pa bk ix cL cH im tl tk dr ld gk gb ge mn cu og vl_ tp ce lN lC po oa skR p m L post hk (by omega) hp32 (hp _ _))))
theorem hs_ex {po oa V : Nat → Int32} {L m : Nat} (hm : m ≤ 32) (hL : L ≤ 32) (H : ∀ j, j < m → (∃ o : Nat, o ≤ 14 ∧ po j = nI o ∧ ((o = 13 ∨ o = 14) → ∃ a : Nat, a ≤ 32 ∧ oa j = nI a))) : ∃ r : Int32, (r = 0 ∨ r = 1) ∧ hs_P po oa m L V r := by
  obtain ⟨r, hr, h⟩ := hs_l (V := V) hm hL H 256 0 0 0 (fun _ => 0) (by omega) (by omega) (by omega)
  exact ⟨r, hr, fun cp pr ph gc gp ml cl ol vl tr ac ca pa bk ix cL cH im tl tk dr ld sd gk gb ge mn cu og vl_ tp ce lN lC sk post hV hp => ⟨258, h cp pr ph gc gp ml cl ol vl tr ac ca pa bk ix cL cH im tl tk dr ld gk gb ge mn cu og vl_ tp ce lN lC sk post 258 (by omega) hV (fun j hj => absurd hj (by omega)) hp⟩⟩
