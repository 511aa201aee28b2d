def pb_ (gk gb : Nat → Int32) (en : Nat → Nat) (gn : Nat) (po oa : Nat → Int32) (m c : Nat)  (u : St2) : Prop :=
  ∃ (pr ph ml cl ol vl tr ac ca pa bk ix cL cH im tl tk dr cc ld sd : Int32) (ge mn cu og vl_ tp ce lN lC sk : Nat → Int32), u = (nI c, pr, ph, nI gn, 0, nI m, ml, cl, ol, vl, tr, ac, ca, pa, bk, ix, cL, cH, im, tl, tk, dr, cc, ld, sd, gk, gb, ge, po, oa, mn, cu, og, vl_, tp, ce, lN, lC, sk) ∧ (∀ j, j < gn → ge j = nI (en j))
theorem pb_i {gk gb : Nat → Int32} {en : Nat → Nat} {gn : Nat} {po oa : Nat → Int32} {m c : Nat}  {pr ph ml cl ol vl tr ac ca pa bk ix cL cH im tl tk dr cc ld sd : Int32} {ge mn cu og vl_ tp ce lN lC sk : Nat → Int32} (h1 : ∀ j, j < gn → ge j = nI (en j)) : pb_ gk gb en gn po oa m c  (nI c, pr, ph, nI gn, 0, nI m, ml, cl, ol, vl, tr, ac, ca, pa, bk, ix, cL, cH, im, tl, tk, dr, cc, ld, sd, gk, gb, ge, po, oa, mn, cu, og, vl_, tp, ce, lN, lC, sk) :=
  ⟨pr, ph, ml, cl, ol, vl, tr, ac, ca, pa, bk, ix, cL, cH, im, tl, tk, dr, cc, ld, sd, ge, mn, cu, og, vl_, tp, ce, lN, lC, sk, rfl, h1⟩
theorem pb_e {gk gb : Nat → Int32} {en : Nat → Nat} {gn : Nat} {po oa : Nat → Int32} {m c : Nat}  {u : St2} {P : St2 → Prop} (I : pb_ gk gb en gn po oa m c  u) (hh : ∀ (pr ph ml cl ol vl tr ac ca pa bk ix cL cH im tl tk dr cc ld sd : Int32) (ge mn cu og vl_ tp ce lN lC sk : Nat → Int32), (∀ j, j < gn → ge j = nI (en j)) → P (nI c, pr, ph, nI gn, 0, nI m, ml, cl, ol, vl, tr, ac, ca, pa, bk, ix, cL, cH, im, tl, tk, dr, cc, ld, sd, gk, gb, ge, po, oa, mn, cu, og, vl_, tp, ce, lN, lC, sk)) : P u := by
  obtain ⟨pr, ph, ml, cl, ol, vl, tr, ac, ca, pa, bk, ix, cL, cH, im, tl, tk, dr, cc, ld, sd, ge, mn, cu, og, vl_, tp, ce, lN, lC, sk, rfl, h1⟩ := I
  exact hh pr ph ml cl ol vl tr ac ca pa bk ix cL cH im tl tk dr cc ld sd ge mn cu og vl_ tp ce lN lC sk h1
def pi_ (gk gb : Nat → Int32) (en : Nat → Nat) (gn : Nat) (po oa : Nat → Int32) (m c : Nat)  (u : St2) : Prop :=
  ∃ (pr ml cl ol vl tr ac ca pa bk ix cL cH im tl tk dr cc ld sd : Int32) (ge mn cu og vl_ tp ce lN lC sk : Nat → Int32), u = (nI c, pr, 0, nI gn, 0, nI m, ml, cl, ol, vl, tr, ac, ca, pa, bk, ix, cL, cH, im, tl, tk, dr, cc, ld, sd, gk, gb, ge, po, oa, mn, cu, og, vl_, tp, ce, lN, lC, sk) ∧ (∀ j, j < gn → ge j = nI (en j))
theorem pi_i {gk gb : Nat → Int32} {en : Nat → Nat} {gn : Nat} {po oa : Nat → Int32} {m c : Nat}  {pr ml cl ol vl tr ac ca pa bk ix cL cH im tl tk dr cc ld sd : Int32} {ge mn cu og vl_ tp ce lN lC sk : Nat → Int32} (h1 : ∀ j, j < gn → ge j = nI (en j)) : pi_ gk gb en gn po oa m c  (nI c, pr, 0, nI gn, 0, nI m, ml, cl, ol, vl, tr, ac, ca, pa, bk, ix, cL, cH, im, tl, tk, dr, cc, ld, sd, gk, gb, ge, po, oa, mn, cu, og, vl_, tp, ce, lN, lC, sk) :=
  ⟨pr, ml, cl, ol, vl, tr, ac, ca, pa, bk, ix, cL, cH, im, tl, tk, dr, cc, ld, sd, ge, mn, cu, og, vl_, tp, ce, lN, lC, sk, rfl, h1⟩
theorem pi_e {gk gb : Nat → Int32} {en : Nat → Nat} {gn : Nat} {po oa : Nat → Int32} {m c : Nat}  {u : St2} {P : St2 → Prop} (I : pi_ gk gb en gn po oa m c  u) (hh : ∀ (pr ml cl ol vl tr ac ca pa bk ix cL cH im tl tk dr cc ld sd : Int32) (ge mn cu og vl_ tp ce lN lC sk : Nat → Int32), (∀ j, j < gn → ge j = nI (en j)) → P (nI c, pr, 0, nI gn, 0, nI m, ml, cl, ol, vl, tr, ac, ca, pa, bk, ix, cL, cH, im, tl, tk, dr, cc, ld, sd, gk, gb, ge, po, oa, mn, cu, og, vl_, tp, ce, lN, lC, sk)) : P u := by
  obtain ⟨pr, ml, cl, ol, vl, tr, ac, ca, pa, bk, ix, cL, cH, im, tl, tk, dr, cc, ld, sd, ge, mn, cu, og, vl_, tp, ce, lN, lC, sk, rfl, h1⟩ := I
  exact hh pr ml cl ol vl tr ac ca pa bk ix cL cH im tl tk dr cc ld sd ge mn cu og vl_ tp ce lN lC sk h1
def pq_ (gk gb : Nat → Int32) (en : Nat → Nat) (gn : Nat) (po oa : Nat → Int32) (m c : Nat) (C : Nat → Int32) (q : Nat) (u : St2) : Prop :=
  ∃ (pr cl ol vl tr ac ca pa bk ix cL cH im tl tk dr cc ld sd : Int32) (ge mn cu og vl_ tp ce lN lC sk : Nat → Int32), u = (nI c, pr, 0, nI gn, 0, nI m, nI q, cl, ol, vl, tr, ac, ca, pa, bk, ix, cL, cH, im, tl, tk, dr, cc, ld, sd, gk, gb, ge, po, oa, mn, cu, og, vl_, tp, ce, lN, lC, sk) ∧ (∀ j, j < gn → ge j = nI (en j)) ∧ ∀ j, j < q → mn j = C j
theorem pq_i {gk gb : Nat → Int32} {en : Nat → Nat} {gn : Nat} {po oa : Nat → Int32} {m c : Nat} {C : Nat → Int32} {q : Nat} {pr cl ol vl tr ac ca pa bk ix cL cH im tl tk dr cc ld sd : Int32} {ge mn cu og vl_ tp ce lN lC sk : Nat → Int32} (h1 : ∀ j, j < gn → ge j = nI (en j)) (h2 : ∀ j, j < q → mn j = C j) : pq_ gk gb en gn po oa m c C q (nI c, pr, 0, nI gn, 0, nI m, nI q, cl, ol, vl, tr, ac, ca, pa, bk, ix, cL, cH, im, tl, tk, dr, cc, ld, sd, gk, gb, ge, po, oa, mn, cu, og, vl_, tp, ce, lN, lC, sk) :=
  ⟨pr, cl, ol, vl, tr, ac, ca, pa, bk, ix, cL, cH, im, tl, tk, dr, cc, ld, sd, ge, mn, cu, og, vl_, tp, ce, lN, lC, sk, rfl, h1, h2⟩
theorem pq_e {gk gb : Nat → Int32} {en : Nat → Nat} {gn : Nat} {po oa : Nat → Int32} {m c : Nat} {C : Nat → Int32} {q : Nat} {u : St2} {P : St2 → Prop} (I : pq_ gk gb en gn po oa m c C q u) (hh : ∀ (pr cl ol vl tr ac ca pa bk ix cL cH im tl tk dr cc ld sd : Int32) (ge mn cu og vl_ tp ce lN lC sk : Nat → Int32), (∀ j, j < gn → ge j = nI (en j)) → (∀ j, j < q → mn j = C j) → P (nI c, pr, 0, nI gn, 0, nI m, nI q, cl, ol, vl, tr, ac, ca, pa, bk, ix, cL, cH, im, tl, tk, dr, cc, ld, sd, gk, gb, ge, po, oa, mn, cu, og, vl_, tp, ce, lN, lC, sk)) : P u := by
  obtain ⟨pr, cl, ol, vl, tr, ac, ca, pa, bk, ix, cL, cH, im, tl, tk, dr, cc, ld, sd, ge, mn, cu, og, vl_, tp, ce, lN, lC, sk, rfl, h1, h2⟩ := I
  exact hh pr cl ol vl tr ac ca pa bk ix cL cH im tl tk dr cc ld sd ge mn cu og vl_ tp ce lN lC sk h1 h2
def pf_ (gk gb : Nat → Int32) (en : Nat → Nat) (gn : Nat) (po oa : Nat → Int32) (m c : Nat) (C : Nat → Int32) (t : Nat) (V : Nat → Int32) (L : Nat) (u : St2) : Prop :=
  ∃ (pr ph ml ol tr ac ca pa bk ix cL cH im tl tk dr cc ld sd : Int32) (ge mn cu og vl_ tp ce lN lC sk : Nat → Int32), u = (nI c, pr, ph, nI gn, 0, nI m, ml, nI t, ol, nI L, tr, ac, ca, pa, bk, ix, cL, cH, im, tl, tk, dr, cc, ld, sd, gk, gb, ge, po, oa, mn, cu, og, vl_, tp, ce, lN, lC, sk) ∧ (∀ j, j < gn → ge j = nI (en j)) ∧ (∀ j, j < t → cu j = C j) ∧ (∀ j, j < L → vl_ j = V j)
theorem pf_i {gk gb : Nat → Int32} {en : Nat → Nat} {gn : Nat} {po oa : Nat → Int32} {m c : Nat} {C : Nat → Int32} {t : Nat} {V : Nat → Int32} {L : Nat} {pr ph ml ol tr ac ca pa bk ix cL cH im tl tk dr cc ld sd : Int32} {ge mn cu og vl_ tp ce lN lC sk : Nat → Int32} (h1 : ∀ j, j < gn → ge j = nI (en j)) (h2 : (∀ j, j < t → cu j = C j) ∧ (∀ j, j < L → vl_ j = V j)) : pf_ gk gb en gn po oa m c C t V L (nI c, pr, ph, nI gn, 0, nI m, ml, nI t, ol, nI L, tr, ac, ca, pa, bk, ix, cL, cH, im, tl, tk, dr, cc, ld, sd, gk, gb, ge, po, oa, mn, cu, og, vl_, tp, ce, lN, lC, sk) :=
  ⟨pr, ph, ml, ol, tr, ac, ca, pa, bk, ix, cL, cH, im, tl, tk, dr, cc, ld, sd, ge, mn, cu, og, vl_, tp, ce, lN, lC, sk, rfl, h1, h2⟩
theorem pf_e {gk gb : Nat → Int32} {en : Nat → Nat} {gn : Nat} {po oa : Nat → Int32} {m c : Nat} {C : Nat → Int32} {t : Nat} {V : Nat → Int32} {L : Nat} {u : St2} {P : St2 → Prop} (I : pf_ gk gb en gn po oa m c C t V L u) (hh : ∀ (pr ph ml ol tr ac ca pa bk ix cL cH im tl tk dr cc ld sd : Int32) (ge mn cu og vl_ tp ce lN lC sk : Nat → Int32), (∀ j, j < gn → ge j = nI (en j)) → ((∀ j, j < t → cu j = C j) ∧ (∀ j, j < L → vl_ j = V j)) → P (nI c, pr, ph, nI gn, 0, nI m, ml, nI t, ol, nI L, tr, ac, ca, pa, bk, ix, cL, cH, im, tl, tk, dr, cc, ld, sd, gk, gb, ge, po, oa, mn, cu, og, vl_, tp, ce, lN, lC, sk)) : P u := by
  obtain ⟨pr, ph, ml, ol, tr, ac, ca, pa, bk, ix, cL, cH, im, tl, tk, dr, cc, ld, sd, ge, mn, cu, og, vl_, tp, ce, lN, lC, sk, rfl, h1, h2⟩ := I
  exact hh pr ph ml ol tr ac ca pa bk ix cL cH im tl tk dr cc ld sd ge mn cu og vl_ tp ce lN lC sk h1 h2
theorem md_ {gk gb : Nat → Int32} {en : Nat → Nat} {gn : Nat} {po oa : Nat → Int32} {m c : Nat} {C : Nat → Int32} {u : St2} (I : pb_ gk gb en gn po oa m c u) (post : St2 → Prop) (hp : ∀ u', pq_ gk gb en gn po oa m c C 0 u' → post u') : wpX_discard post u := by
  refine pb_e (P := fun u => wpX_discard post u) I ?_
  intro pr ph ml cl ol vl tr ac ca pa bk ix cL cH im tl tk dr cc ld sd ge mn cu og vl_ tp ce lN lC sk hge
  exact hp _ (pq_i (C := C) (q := 0) hge (fun j hj => absurd hj (by omega)))
theorem mp_ {gk gb : Nat → Int32} {en : Nat → Nat} {gn : Nat} {po oa : Nat → Int32} {m c : Nat} {C : Nat → Int32} {q b : Nat} {u : St2} (I : pq_ gk gb en gn po oa m c C q u) (hq : q < c) (hc : c ≤ 32) (hb : b < 256) (e : C q = nI b) (post : Int32 → St2 → Prop) (hp : ∀ u', pq_ gk gb en gn po oa m c C (q + 1) u' → post (nI (q + 1)) u') : wpX_pushChoice post u (nI b) := by
  refine pq_e (P := fun u => wpX_pushChoice post u (nI b)) I ?_
  intro pr cl ol vl tr ac ca pa bk ix cL cH im tl tk dr cc ld sd ge mn cu og vl_ tp ce lN lC sk hge hC
  refine br_f (nI_pos (by omega)) (br_f (nI_nlt (a := 255) (by omega) (by decide)) (br_t (nI_lt hq (by omega)) ⟨vp_in_nI (by omega) (by omega), nm_r (e' := upd mn q (nI b)) (by rw [nI_clamp (by omega)]) (nm_r (nI_1 q) (hp _ (pq_i (C := C) (q := q + 1) hge (fun j hj => ?_))))⟩))
  by_cases z : j = q
  · rw [z, pk_us, e]
  · rw [pk_un z]
    exact hC j (by omega)
theorem mr_ {gk gb : Nat → Int32} {en : Nat → Nat} {gn : Nat} {po oa : Nat → Int32} {m c : Nat} {C V : Nat → Int32} {q t L oo : Nat} {u : St2} (I : pq_ gk gb en gn po oa m c C q u) (hq : q ≤ c) (hc : c ≤ 32) (hm0 : 0 < m) (hm : m ≤ 32) (ho : oo ≤ 2) (hos : os_O gk gb en gn po oa m q q 0 0 C oo t L C V) (hb : oo ≠ 2 → t ≤ q ∧ L ≤ 32) (post : Int32 → St2 → Prop) (h1 : oo ≠ 1 → ∀ u', pi_ gk gb en gn po oa m c u' → post (nI oo) u') (h2 : oo = 1 → ∀ u', pf_ gk gb en gn po oa m c C t V L u' → post 1 u') : wpX_replay post u := by
  refine pq_e (P := fun u => wpX_replay post u) I ?_
  intro pr cl ol vl tr ac ca pa bk ix cL cH im tl tk dr cc ld sd ge mn cu og vl_ tp ce lN lC sk hge hC
  unfold wpX_replay
  refine cs_xrdy1 hm0 hm rfl _ (br_f (by decide) ?_)
  refine ks_copy (by omega) _ ?_
  refine hos (nI c) 0 0 (nI q) cl ol vl tr ac ca pa bk ix cL cH im pr tk cc ld sd dr ge mn cu og vl_ (cs_cp mn tp q) ce lN lC sk _ hge (fun j hj => (cs_cpl hj).trans (hC j hj)) (fun z => absurd rfl z) ⟨fun z pr' tk' cc' ld' sd' tp' ce' lN' lC' sk' => ?_, fun z pr' ld' sd' tp' ce' lN' lC' sk' x1 x2 => ?_⟩
  · subst z
    exact br_f (by decide) (h1 (by decide) _ (pi_i hge))
  · obtain ⟨b1, b2⟩ := hb z
    obtain rfl | rfl : oo = 0 ∨ oo = 1 := by omega
    · exact br_f (by decide) (h1 (by decide) _ (pi_i hge))
    · exact br_t rfl (cs_xfind (by omega) b2 _ (h2 rfl _ (pf_i (C := C) (t := t) (V := V) (L := L) hge ⟨fun j hj => (cs_cpl hj).trans (x1 j hj), fun j hj => (cs_cpl hj).trans (x2 j hj)⟩)))
theorem ma_ {gk gb : Nat → Int32} {en : Nat → Nat} {gn : Nat} {po oa : Nat → Int32} {m c : Nat} (G : cs_G gk en gn) (hgb : ∀ j, j < gn → ∃ b : Nat, b < 256 ∧ gb j = nI b) (hm : m ≤ 32) (H : ∀ j, j < m → (∃ o : Nat, o ≤ 14 ∧ po j = nI o ∧ ((o = 13 ∨ o = 14) → ∃ a : Nat, a ≤ 32 ∧ oa j = nI a))) {C : Nat → Int32} {q : Nat} {u : St2} (I : pq_ gk gb en gn po oa m c C q u) (hq : q ≤ c) (hc : c ≤ 32) (hm0 : 0 < m) (hbC : cs_by C q) (post : Int32 → St2 → Prop) (h1 : ∀ r u', pi_ gk gb en gn po oa m c u' → post r u') (h2 : ∀ r u' og o, pz_ gk gb en gn po oa m c og o u' → post r u') : wpX_replay post u := by
  obtain ⟨oo, t, L, T2, V, ho, hos, hrep⟩ := os_ex (gb := gb) (dr := 0) (pr := 0) (T0 := C) G hgb hm H ⟨Nat.zero_le q, by omega, Or.inl ⟨rfl, hbC⟩⟩
  rw [gs_ag0] at hos
  refine pq_e (P := fun u => wpX_replay post u) I ?_
  intro pr cl ol vl tr ac ca pa bk ix cL cH im tl tk dr cc ld sd ge mn cu og vl_ tp ce lN lC sk hge hC
  unfold wpX_replay
  refine cs_xrdy1 hm0 hm rfl _ (br_f (by decide) ?_)
  refine ks_copy (by omega) _ ?_
  refine hos (nI c) 0 0 (nI q) cl ol vl tr ac ca pa bk ix cL cH im pr tk cc ld sd dr ge mn cu og vl_ (cs_cp mn tp q) ce lN lC sk _ hge (fun j hj => (cs_cpl hj).trans (hC j hj)) (fun z => absurd rfl z) ⟨fun z pr' tk' cc' ld' sd' tp' ce' lN' lC' sk' => ?_, fun z pr' ld' sd' tp' ce' lN' lC' sk' x1 x2 => ?_⟩
  · exact br_f (by decide) (h1 _ _ (pi_i hge))
  · obtain ⟨a1, a2, a3, a4, a5⟩ := hrep z
    obtain rfl | rfl : oo = 0 ∨ oo = 1 := by omega
    · exact br_f (by decide) (h1 _ _ (pi_i hge))
    · have e := a4 rfl
      subst e
      exact br_t rfl (cs_xfind (by omega) a2 _ (h2 _ _ _ t (pz_i (p := 0) (k := 0) (i := 0) (l := 0) (h := 0) hge ⟨by omega, hc, by omega, a2, cs_byc a3 (fun j hj => (cs_cpl hj).trans (x1 j hj)), Or.inr ⟨rfl, fun j hj => (cs_cpl hj).trans (cs_cpl hj).symm⟩, os_c (a5 0 t (Nat.le_refl t) (by omega)) (fun j hj => (cs_cpl hj).trans (x1 j hj)) (fun j hj => (cs_cpl hj).trans (x1 j hj)) (fun j hj => (cs_cpl hj).trans (x2 j hj))⟩ rfl)))
def rx_ (post : Int32 → St2 → Prop) (x2 : Int32) (fuel : Nat) (x3 : Int32) (u : St2) : Prop := match u with
  | (cp, pr, ph, gc, gp, oc, ml, cl, ol, vl, tr, ac, ca, pa, bk, ix, cL, cH, im, tl, tk, dr, cc, ld, sd, gk, gb, ge, po, oa, mn, cu, og, vl_, tp, ce, lN, lC, sk) => wX_run_19 post x2 fuel x3 cp pr ph gc gp oc ml cl ol vl tr ac ca pa bk ix cL cH im tl tk dr cc ld sd gk gb ge po oa mn cu og vl_ tp ce lN lC sk
theorem ru_l {gk gb : Nat → Int32} {en : Nat → Nat} {gn : Nat} {po oa : Nat → Int32} {m c : Nat} (G : cs_G gk en gn) (hgb : ∀ j, j < gn → ∃ b : Nat, b < 256 ∧ gb j = nI b) (hm : m ≤ 32) (H : ∀ j, j < m → (∃ o : Nat, o ≤ 14 ∧ po j = nI o ∧ ((o = 13 ∨ o = 14) → ∃ a : Nat, a ≤ 32 ∧ oa j = nI a))) {last : Nat} (hc : c ≤ 32) (hl : last ≤ 16) : ∀ (q j : Nat) (u : St2), j + q = last + 1 → pi_ gk gb en gn po oa m c u → ∀ (post : Int32 → St2 → Prop) (fuel : Nat), q < fuel → (∀ r u', pi_ gk gb en gn po oa m c u' → post r u') → (∀ r u' og o, pz_ gk gb en gn po oa m c og o u' → post r u') → rx_ post (nI last) fuel (nI j) u := by
  intro q
  induction q with
  | zero =>
    intro j u hj hu post fuel hf h1 h2
    obtain ⟨f, rfl⟩ : ∃ f, fuel = f + 1 := ⟨fuel - 1, by omega⟩
    refine pi_e (P := fun u => rx_ post (nI last) (f + 1) (nI j) u) hu ?_
    intro pr ml cl ol vl tr ac ca pa bk ix cL cH im tl tk dr cc ld sd ge mn cu og vl_ tp ce lN lC sk hge
    exact br_t (nI_lt (by omega) (by omega)) (h1 _ _ (pi_i hge))
  | succ q ih =>
    intro j u hj hu post fuel hf h1 h2
    obtain ⟨f, rfl⟩ : ∃ f, fuel = f + 1 := ⟨fuel - 1, by omega⟩
    refine pi_e (P := fun u => rx_ post (nI last) (f + 1) (nI j) u) hu ?_
    intro pr ml cl ol vl tr ac ca pa bk ix cL cH im tl tk dr cc ld sd ge mn cu og vl_ tp ce lN lC sk hge
    obtain ⟨oo, t, L, T2, V, ho, hos, hrep⟩ := os_ex (gb := gb) (dr := 1) (pr := pr) (T0 := fun _ => 0) (lim := c) G hgb hm H ⟨Nat.zero_le c, hc, Or.inr ⟨rfl, cs_by0 _⟩⟩
    rw [gs_ag1] at hos
    refine br_f (nI_nlt (by omega) (by omega)) (nm_e (hos (nI c) 0 0 ml cl ol vl tr ac (ca + 1) pa bk ix cL cH im pr tk cc ld sd dr ge mn cu og vl_ tp ce lN lC sk _ hge (fun j hj => absurd hj (by omega)) (fun _ => rfl) ⟨fun z pr' tk' cc' ld' sd' tp' ce' lN' lC' sk' => ?_, fun z pr' ld' sd' tp' ce' lN' lC' sk' x1 x2 => ?_⟩))
    · exact br_f (by decide) (nm_r (nI_1 j) (ih (j + 1) _ (by omega) (pi_i hge) post f (by omega) h1 h2))
    · obtain ⟨a1, a2, a3, a4, a5⟩ := hrep z
      obtain rfl | rfl : oo = 0 ∨ oo = 1 := by omega
      · exact br_f (by decide) (nm_r (nI_1 j) (ih (j + 1) _ (by omega) (pi_i hge) post f (by omega) h1 h2))
      · exact br_t rfl (cs_xfind (by omega) a2 _ (h2 _ _ _ t (pz_i (p := 0) (k := 0) (i := 0) (l := 0) (h := 0) hge ⟨by omega, hc, by omega, a2, cs_byc a3 (fun j hj => (cs_cpl hj).trans (x1 j hj)), Or.inr ⟨rfl, fun j hj => (cs_cpl hj).trans (cs_cpl hj).symm⟩, os_c (a5 0 t (Nat.le_refl t) (by omega)) (fun j hj => (cs_cpl hj).trans (x1 j hj)) (fun j hj => (cs_cpl hj).trans (x1 j hj)) (fun j hj => (cs_cpl hj).trans (x2 j hj))⟩ rfl)))
theorem ru_ {gk gb : Nat → Int32} {en : Nat → Nat} {gn : Nat} {po oa : Nat → Int32} {m c : Nat} (G : cs_G gk en gn) (hgb : ∀ j, j < gn → ∃ b : Nat, b < 256 ∧ gb j = nI b) (hm : m ≤ 32) (H : ∀ j, j < m → (∃ o : Nat, o ≤ 14 ∧ po j = nI o ∧ ((o = 13 ∨ o = 14) → ∃ a : Nat, a ≤ 32 ∧ oa j = nI a))) {u : St2} (x : Int32) (I : pi_ gk gb en gn po oa m c u) (hc : c ≤ 32) (hm0 : 0 < m) (post : Int32 → St2 → Prop) (h1 : ∀ r u', pi_ gk gb en gn po oa m c u' → post r u') (h2 : ∀ r u' og o, pz_ gk gb en gn po oa m c og o u' → post r u') : wpX_run post u x := by
  obtain ⟨last, l1, l16, hC, _⟩ := cs_clamp (x := x) 1 16 (by omega) (by omega)
  have g := ru_l G hgb hm H (last := last) hc l16 last 1 u (by omega) I post (last + 1) (by omega) h1 h2
  revert g
  refine pi_e (P := fun u => rx_ post (nI last) (last + 1) (nI 1) u → wpX_run post u x) I ?_
  intro pr ml cl ol vl tr ac ca pa bk ix cL cH im tl tk dr cc ld sd ge mn cu og vl_ tp ce lN lC sk hge g
  unfold wpX_run
  exact cs_xrdy1 hm0 hm rfl _ (br_f (by decide) (hC _ ⟨last + 1, g⟩))
