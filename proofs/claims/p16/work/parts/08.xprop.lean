section
variable {cp pr ph gc gp oc ml cl ol vl tr ac ca pa bk ix cL cH im tl tk dr cc ld sd : Int32} {gk gb ge po oa mn cu og vl_ tp ce lN lC sk ou : Nat → Int32}
theorem cs_xpush {d : Nat} {x : Int32} (hd : d < 16) (post : St2 → Prop) (hp : post (cp, pr, ph, gc, gp, oc, ml, cl, ol, vl, tr, ac, ca, pa, bk, ix, cL, cH, im, tl, tk, dr, cc, ld, nI (d + 1), gk, gb, ge, po, oa, mn, cu, og, vl_, tp, ce, lN, lC, upd sk d x)) : wpX_push post (cp, pr, ph, gc, gp, oc, ml, cl, ol, vl, tr, ac, ca, pa, bk, ix, cL, cH, im, tl, tk, dr, cc, ld, nI d, gk, gb, ge, po, oa, mn, cu, og, vl_, tp, ce, lN, lC, sk) x :=
  ⟨vp_in_nI hd (by omega), nm_r (e' := upd sk d x) (by rw [nI_clamp (by omega)]) (nm_r (nI_1 d) hp)⟩
theorem cs_ex0 {p d : Nat} (hp32 : p < 32) (ho : po p = nI 0) (hd : d < 16) (post : Int32 → St2 → Prop) (hp : post (nI (p + 1)) (cp, pr, ph, gc, gp, oc, ml, cl, ol, vl, tr, ac, ca, pa, bk, ix, cL, cH, im, tl, tk, dr, cc, ld, nI (d + 1), gk, gb, ge, po, oa, mn, cu, og, vl_, tp, ce, lN, lC, upd sk d (oa p))) : wpX_execute post (cp, pr, ph, gc, gp, oc, ml, cl, ol, vl, tr, ac, ca, pa, bk, ix, cL, cH, im, tl, tk, dr, cc, ld, nI (d), gk, gb, ge, po, oa, mn, cu, og, vl_, tp, ce, lN, lC, sk) (nI p) := by
  have ep : (nI p).toNatClampNeg = p := nI_clamp (by omega)
  have hv : vp_in (nI p) 32 := vp_in_nI hp32 (by omega)
  refine ⟨hv, nm_r (e' := nI 0) (by rw [ep, ho]) ⟨hv, nm_r (e' := oa p) (by rw [ep]) (nm_e (nm_e (br_f (by decide) (br_f (by decide) (br_t rfl (br_f (nI_nlt (b := 0) (by omega) (by omega)) (br_t rfl (br_f (by decide) (br_t (nI_lt (b := 16) hd (by decide)) (br_f (by decide) (br_f (by decide) (br_t rfl (cs_xpush hd _ ?_)))))))))))))⟩⟩
  rw [nI_1]
  exact hp
theorem cs_ex1 {p e : Nat} (hp32 : p < 32) (ho : po p = nI 1) (hd : e + 1 ≤ 16) {w : Int32} (hw : ∀ q : Int32 → Prop, q w → wpX_cellOrZero q (cp, pr, ph, gc, gp, oc, ml, cl, ol, vl, tr, ac, ca, pa, bk, ix, cL, cH, im, tl, tk, dr, cc, ld, nI (e + 1), gk, gb, ge, po, oa, mn, cu, og, vl_, tp, ce, lN, lC, sk) (sk e)) (post : Int32 → St2 → Prop) (hp : post (nI (p + 1)) (cp, pr, ph, gc, gp, oc, ml, cl, ol, vl, tr, ac, ca, pa, bk, ix, cL, cH, im, tl, tk, dr, cc, ld, nI (e + 1), gk, gb, ge, po, oa, mn, cu, og, vl_, tp, ce, lN, lC, upd sk e w)) : wpX_execute post (cp, pr, ph, gc, gp, oc, ml, cl, ol, vl, tr, ac, ca, pa, bk, ix, cL, cH, im, tl, tk, dr, cc, ld, nI (e + 1), gk, gb, ge, po, oa, mn, cu, og, vl_, tp, ce, lN, lC, sk) (nI p) := by
  have ep : (nI p).toNatClampNeg = p := nI_clamp (by omega)
  have hv : vp_in (nI p) 32 := vp_in_nI hp32 (by omega)
  have ee : (nI e).toNatClampNeg = e := nI_clamp (by omega)
  have he : vp_in (nI e) 16 := vp_in_nI (by omega) (by omega)
  refine ⟨hv, nm_r (e' := nI 1) (by rw [ep, ho]) ⟨hv, nm_r (e' := oa p) (by rw [ep]) (nm_r (nI_pred e) (nm_e (br_f (by decide) (br_f (by decide) (br_f (by decide) (br_t rfl (br_f (nI_nlt (b := 1) (by omega) (by omega)) (br_f (by decide) (br_f (by decide) (br_f (by decide) (br_f (by decide) (br_t rfl (br_f (by decide) (br_f (by decide) (br_f (by decide) (br_t rfl (⟨he, ?_⟩)))))))))))))))))⟩⟩
  rw [ee]
  refine hw _ ⟨he, nm_e ?_⟩
  rw [nI_1]
  exact hp
theorem cs_ex2 {p d : Nat}  {L : Nat}(hp32 : p < 32) (ho : po p = nI 2) (hd : d < 16) (post : Int32 → St2 → Prop) (hp : post (nI (p + 1)) (cp, pr, ph, gc, gp, oc, ml, cl, ol, vl, tr, ac, ca, pa, bk, ix, cL, cH, im, tl, tk, dr, nI L, ld, nI (d + 1), gk, gb, ge, po, oa, mn, cu, og, vl_, tp, ce, lN, lC, upd sk d (nI L))) : wpX_execute post (cp, pr, ph, gc, gp, oc, ml, cl, ol, vl, tr, ac, ca, pa, bk, ix, cL, cH, im, tl, tk, dr, nI L, ld, nI (d), gk, gb, ge, po, oa, mn, cu, og, vl_, tp, ce, lN, lC, sk) (nI p) := by
  have ep : (nI p).toNatClampNeg = p := nI_clamp (by omega)
  have hv : vp_in (nI p) 32 := vp_in_nI hp32 (by omega)
  refine ⟨hv, nm_r (e' := nI 2) (by rw [ep, ho]) ⟨hv, nm_r (e' := oa p) (by rw [ep]) (nm_e (nm_e (br_f (by decide) (br_f (by decide) (br_f (by decide) (br_f (by decide) (br_t rfl (br_f (nI_nlt (b := 0) (by omega) (by omega)) (br_f (by decide) (br_t rfl (br_f (by decide) (br_t (nI_lt (b := 16) hd (by decide)) (br_f (by decide) (br_f (by decide) (br_f (by decide) (br_f (by decide) (br_t rfl (cs_xpush hd _ ?_))))))))))))))))))⟩⟩
  rw [nI_1]
  exact hp
theorem cs_ex3 {p e : Nat} (hp32 : p < 32) (ho : po p = nI 3) (hd : e + 2 ≤ 16) (post : Int32 → St2 → Prop) (hp : post (nI (p + 1)) (cp, pr, ph, gc, gp, oc, ml, cl, ol, vl, tr, ac, ca, pa, bk, ix, cL, cH, im, tl, tk, dr, cc, ld, nI (e + 1), gk, gb, ge, po, oa, mn, cu, og, vl_, tp, ce, lN, lC, upd sk e (sk e + sk (e + 1)))) : wpX_execute post (cp, pr, ph, gc, gp, oc, ml, cl, ol, vl, tr, ac, ca, pa, bk, ix, cL, cH, im, tl, tk, dr, cc, ld, nI (e + 2), gk, gb, ge, po, oa, mn, cu, og, vl_, tp, ce, lN, lC, sk) (nI p) := by
  have ep : (nI p).toNatClampNeg = p := nI_clamp (by omega)
  have hv : vp_in (nI p) 32 := vp_in_nI hp32 (by omega)
  have ee : (nI e).toNatClampNeg = e := nI_clamp (by omega)
  have he : vp_in (nI e) 16 := vp_in_nI (by omega) (by omega)
  have ee1 : (nI (e + 1)).toNatClampNeg = e + 1 := nI_clamp (by omega)
  have he1 : vp_in (nI (e + 1)) 16 := vp_in_nI (by omega) (by omega)
  have h2 : nI (e + 2) - 2 = nI e := (pk_sub (a := e + 2) (b := 2) (by omega)).trans (congrArg nI (by omega))
  refine ⟨hv, nm_r (e' := nI 3) (by rw [ep, ho]) ⟨hv, nm_r (e' := oa p) (by rw [ep]) (nm_r (nI_pred (e + 1)) (nm_r h2 (br_f (by decide) (br_f (by decide) (br_f (by decide) (br_f (by decide) (br_f (by decide) (br_t rfl (br_f (nI_nlt (b := 2) (by omega) (by omega)) (br_f (by decide) (br_f (by decide) (br_f (by decide) (br_f (by decide) (br_t rfl (br_f (by decide) (br_f (by decide) (br_f (by decide) (br_f (by decide) (br_f (by decide) (br_t rfl (⟨he, he1, ?_⟩)))))))))))))))))))))⟩⟩
  rw [ee, ee1]
  refine br_f (by decide) (br_f (by decide) (br_t rfl ⟨he, nm_e ?_⟩))
  rw [nI_1]
  exact hp
theorem cs_ex4 {p e : Nat} (hp32 : p < 32) (ho : po p = nI 4) (hd : e + 2 ≤ 16) (post : Int32 → St2 → Prop) (hp : post (nI (p + 1)) (cp, pr, ph, gc, gp, oc, ml, cl, ol, vl, tr, ac, ca, pa, bk, ix, cL, cH, im, tl, tk, dr, cc, ld, nI (e + 1), gk, gb, ge, po, oa, mn, cu, og, vl_, tp, ce, lN, lC, upd sk e (sk e - sk (e + 1)))) : wpX_execute post (cp, pr, ph, gc, gp, oc, ml, cl, ol, vl, tr, ac, ca, pa, bk, ix, cL, cH, im, tl, tk, dr, cc, ld, nI (e + 2), gk, gb, ge, po, oa, mn, cu, og, vl_, tp, ce, lN, lC, sk) (nI p) := by
  have ep : (nI p).toNatClampNeg = p := nI_clamp (by omega)
  have hv : vp_in (nI p) 32 := vp_in_nI hp32 (by omega)
  have ee : (nI e).toNatClampNeg = e := nI_clamp (by omega)
  have he : vp_in (nI e) 16 := vp_in_nI (by omega) (by omega)
  have ee1 : (nI (e + 1)).toNatClampNeg = e + 1 := nI_clamp (by omega)
  have he1 : vp_in (nI (e + 1)) 16 := vp_in_nI (by omega) (by omega)
  have h2 : nI (e + 2) - 2 = nI e := (pk_sub (a := e + 2) (b := 2) (by omega)).trans (congrArg nI (by omega))
  refine ⟨hv, nm_r (e' := nI 4) (by rw [ep, ho]) ⟨hv, nm_r (e' := oa p) (by rw [ep]) (nm_r (nI_pred (e + 1)) (nm_r h2 (br_f (by decide) (br_f (by decide) (br_f (by decide) (br_f (by decide) (br_f (by decide) (br_f (by decide) (br_t rfl (br_f (nI_nlt (b := 2) (by omega) (by omega)) (br_f (by decide) (br_f (by decide) (br_f (by decide) (br_f (by decide) (br_t rfl (br_f (by decide) (br_f (by decide) (br_f (by decide) (br_f (by decide) (br_f (by decide) (br_f (by decide) (br_t rfl (⟨he, he1, ?_⟩)))))))))))))))))))))))⟩⟩
  rw [ee, ee1]
  refine br_f (by decide) (br_f (by decide) (br_f (by decide) (br_t rfl ⟨he, nm_e ?_⟩)))
  rw [nI_1]
  exact hp
theorem cs_ex5 {p e : Nat} (hp32 : p < 32) (ho : po p = nI 5) (hd : e + 2 ≤ 16) (post : Int32 → St2 → Prop) (hp : post (nI (p + 1)) (cp, pr, ph, gc, gp, oc, ml, cl, ol, vl, tr, ac, ca, pa, bk, ix, cL, cH, im, tl, tk, dr, cc, ld, nI (e + 1), gk, gb, ge, po, oa, mn, cu, og, vl_, tp, ce, lN, lC, upd sk e (sk e * sk (e + 1)))) : wpX_execute post (cp, pr, ph, gc, gp, oc, ml, cl, ol, vl, tr, ac, ca, pa, bk, ix, cL, cH, im, tl, tk, dr, cc, ld, nI (e + 2), gk, gb, ge, po, oa, mn, cu, og, vl_, tp, ce, lN, lC, sk) (nI p) := by
  have ep : (nI p).toNatClampNeg = p := nI_clamp (by omega)
  have hv : vp_in (nI p) 32 := vp_in_nI hp32 (by omega)
  have ee : (nI e).toNatClampNeg = e := nI_clamp (by omega)
  have he : vp_in (nI e) 16 := vp_in_nI (by omega) (by omega)
  have ee1 : (nI (e + 1)).toNatClampNeg = e + 1 := nI_clamp (by omega)
  have he1 : vp_in (nI (e + 1)) 16 := vp_in_nI (by omega) (by omega)
  have h2 : nI (e + 2) - 2 = nI e := (pk_sub (a := e + 2) (b := 2) (by omega)).trans (congrArg nI (by omega))
  refine ⟨hv, nm_r (e' := nI 5) (by rw [ep, ho]) ⟨hv, nm_r (e' := oa p) (by rw [ep]) (nm_r (nI_pred (e + 1)) (nm_r h2 (br_f (by decide) (br_f (by decide) (br_f (by decide) (br_f (by decide) (br_f (by decide) (br_f (by decide) (br_f (by decide) (br_t rfl (br_f (nI_nlt (b := 2) (by omega) (by omega)) (br_f (by decide) (br_f (by decide) (br_f (by decide) (br_f (by decide) (br_t rfl (br_f (by decide) (br_f (by decide) (br_f (by decide) (br_f (by decide) (br_f (by decide) (br_f (by decide) (br_f (by decide) (br_t rfl (⟨he, he1, ?_⟩)))))))))))))))))))))))))⟩⟩
  rw [ee, ee1]
  refine br_f (by decide) (br_f (by decide) (br_f (by decide) (br_f (by decide) (br_t rfl ⟨he, nm_e ?_⟩))))
  rw [nI_1]
  exact hp
theorem cs_ex6 {p e : Nat} (hp32 : p < 32) (ho : po p = nI 6) (hd : e + 2 ≤ 16) (post : Int32 → St2 → Prop) (hp : post (nI (p + 1)) (cp, pr, ph, gc, gp, oc, ml, cl, ol, vl, tr, ac, ca, pa, bk, ix, cL, cH, im, tl, tk, dr, cc, ld, nI (e + 1), gk, gb, ge, po, oa, mn, cu, og, vl_, tp, ce, lN, lC, upd sk e ((if sk (e + 1) ≤ sk e then 0 else 1)))) : wpX_execute post (cp, pr, ph, gc, gp, oc, ml, cl, ol, vl, tr, ac, ca, pa, bk, ix, cL, cH, im, tl, tk, dr, cc, ld, nI (e + 2), gk, gb, ge, po, oa, mn, cu, og, vl_, tp, ce, lN, lC, sk) (nI p) := by
  have ep : (nI p).toNatClampNeg = p := nI_clamp (by omega)
  have hv : vp_in (nI p) 32 := vp_in_nI hp32 (by omega)
  have ee : (nI e).toNatClampNeg = e := nI_clamp (by omega)
  have he : vp_in (nI e) 16 := vp_in_nI (by omega) (by omega)
  have ee1 : (nI (e + 1)).toNatClampNeg = e + 1 := nI_clamp (by omega)
  have he1 : vp_in (nI (e + 1)) 16 := vp_in_nI (by omega) (by omega)
  have h2 : nI (e + 2) - 2 = nI e := (pk_sub (a := e + 2) (b := 2) (by omega)).trans (congrArg nI (by omega))
  refine ⟨hv, nm_r (e' := nI 6) (by rw [ep, ho]) ⟨hv, nm_r (e' := oa p) (by rw [ep]) (nm_r (nI_pred (e + 1)) (nm_r h2 (br_f (by decide) (br_f (by decide) (br_f (by decide) (br_f (by decide) (br_f (by decide) (br_f (by decide) (br_f (by decide) (br_f (by decide) (br_t rfl (br_f (nI_nlt (b := 2) (by omega) (by omega)) (br_f (by decide) (br_f (by decide) (br_f (by decide) (br_f (by decide) (br_t rfl (br_f (by decide) (br_f (by decide) (br_f (by decide) (br_f (by decide) (br_f (by decide) (br_f (by decide) (br_f (by decide) (br_f (by decide) (br_t rfl (⟨he, he1, ?_⟩)))))))))))))))))))))))))))⟩⟩
  rw [ee, ee1]
  by_cases z : sk (e + 1) ≤ sk e
  · rw [if_pos z] at hp
    refine br_f (by decide) (br_f (by decide) (br_f (by decide) (br_f (by decide) (br_f (by decide) (br_t rfl (br_t z ⟨he, nm_e ?_⟩))))))
    rw [nI_1]
    exact hp
  · rw [if_neg z] at hp
    refine br_f (by decide) (br_f (by decide) (br_f (by decide) (br_f (by decide) (br_f (by decide) (br_t rfl (br_f z ⟨he, nm_e ?_⟩))))))
    rw [nI_1]
    exact hp
theorem cs_ex7 {p e : Nat} (hp32 : p < 32) (ho : po p = nI 7) (hd : e + 2 ≤ 16) (post : Int32 → St2 → Prop) (hp : post (nI (p + 1)) (cp, pr, ph, gc, gp, oc, ml, cl, ol, vl, tr, ac, ca, pa, bk, ix, cL, cH, im, tl, tk, dr, cc, ld, nI (e + 1), gk, gb, ge, po, oa, mn, cu, og, vl_, tp, ce, lN, lC, upd sk e ((if sk e = sk (e + 1) then 1 else 0)))) : wpX_execute post (cp, pr, ph, gc, gp, oc, ml, cl, ol, vl, tr, ac, ca, pa, bk, ix, cL, cH, im, tl, tk, dr, cc, ld, nI (e + 2), gk, gb, ge, po, oa, mn, cu, og, vl_, tp, ce, lN, lC, sk) (nI p) := by
  have ep : (nI p).toNatClampNeg = p := nI_clamp (by omega)
  have hv : vp_in (nI p) 32 := vp_in_nI hp32 (by omega)
  have ee : (nI e).toNatClampNeg = e := nI_clamp (by omega)
  have he : vp_in (nI e) 16 := vp_in_nI (by omega) (by omega)
  have ee1 : (nI (e + 1)).toNatClampNeg = e + 1 := nI_clamp (by omega)
  have he1 : vp_in (nI (e + 1)) 16 := vp_in_nI (by omega) (by omega)
  have h2 : nI (e + 2) - 2 = nI e := (pk_sub (a := e + 2) (b := 2) (by omega)).trans (congrArg nI (by omega))
  refine ⟨hv, nm_r (e' := nI 7) (by rw [ep, ho]) ⟨hv, nm_r (e' := oa p) (by rw [ep]) (nm_r (nI_pred (e + 1)) (nm_r h2 (br_f (by decide) (br_f (by decide) (br_f (by decide) (br_f (by decide) (br_f (by decide) (br_f (by decide) (br_f (by decide) (br_f (by decide) (br_f (by decide) (br_t rfl (br_f (nI_nlt (b := 2) (by omega) (by omega)) (br_f (by decide) (br_f (by decide) (br_f (by decide) (br_f (by decide) (br_t rfl (br_f (by decide) (br_f (by decide) (br_f (by decide) (br_f (by decide) (br_f (by decide) (br_f (by decide) (br_f (by decide) (br_f (by decide) (br_f (by decide) (br_t rfl (⟨he, he1, ?_⟩)))))))))))))))))))))))))))))⟩⟩
  rw [ee, ee1]
  by_cases z : sk e = sk (e + 1)
  · rw [if_pos z] at hp
    refine br_f (by decide) (br_t (by decide) (br_t z ⟨he, nm_e ?_⟩))
    rw [nI_1]
    exact hp
  · rw [if_neg z] at hp
    refine br_f (by decide) (br_t (by decide) (br_f z ⟨he, nm_e ?_⟩))
    rw [nI_1]
    exact hp
theorem cs_ex8 {p e : Nat} (hp32 : p < 32) (ho : po p = nI 8) (hd : e + 1 ≤ 16) (post : Int32 → St2 → Prop) (hp : post (nI (p + 1)) (cp, pr, ph, gc, gp, oc, ml, cl, ol, vl, tr, ac, ca, pa, bk, ix, cL, cH, im, tl, tk, dr, cc, ld, nI (e + 1), gk, gb, ge, po, oa, mn, cu, og, vl_, tp, ce, lN, lC, upd sk e (if sk e = 0 then 1 else 0))) : wpX_execute post (cp, pr, ph, gc, gp, oc, ml, cl, ol, vl, tr, ac, ca, pa, bk, ix, cL, cH, im, tl, tk, dr, cc, ld, nI (e + 1), gk, gb, ge, po, oa, mn, cu, og, vl_, tp, ce, lN, lC, sk) (nI p) := by
  have ep : (nI p).toNatClampNeg = p := nI_clamp (by omega)
  have hv : vp_in (nI p) 32 := vp_in_nI hp32 (by omega)
  have ee : (nI e).toNatClampNeg = e := nI_clamp (by omega)
  have he : vp_in (nI e) 16 := vp_in_nI (by omega) (by omega)
  refine ⟨hv, nm_r (e' := nI 8) (by rw [ep, ho]) ⟨hv, nm_r (e' := oa p) (by rw [ep]) (nm_r (nI_pred e) (nm_e (br_f (by decide) (br_f (by decide) (br_f (by decide) (br_f (by decide) (br_f (by decide) (br_f (by decide) (br_f (by decide) (br_f (by decide) (br_f (by decide) (br_f (by decide) (br_t rfl (br_f (nI_nlt (b := 1) (by omega) (by omega)) (br_f (by decide) (br_f (by decide) (br_f (by decide) (br_f (by decide) (br_t rfl (br_f (by decide) (br_f (by decide) (br_f (by decide) (br_f (by decide) (br_f (by decide) (br_f (by decide) (br_f (by decide) (br_f (by decide) (br_f (by decide) (br_f (by decide) (br_t rfl (⟨he, ?_⟩)))))))))))))))))))))))))))))))⟩⟩
  by_cases z : sk e = 0
  · rw [if_pos z] at hp
    refine br_t (by rw [ee]; exact z) ⟨he, nm_r (e' := upd sk e 1) (by rw [ee]) ?_⟩
    rw [nI_1]
    exact hp
  · rw [if_neg z] at hp
    refine br_f (by rw [ee]; exact z) ⟨he, nm_r (e' := upd sk e 0) (by rw [ee]) ?_⟩
    rw [nI_1]
    exact hp
theorem cs_ex9 {p e : Nat} (hp32 : p < 32) (ho : po p = nI 9) (hd : e + 1 < 16) (post : Int32 → St2 → Prop) (hp : post (nI (p + 1)) (cp, pr, ph, gc, gp, oc, ml, cl, ol, vl, tr, ac, ca, pa, bk, ix, cL, cH, im, tl, tk, dr, cc, ld, nI (e + 1 + 1), gk, gb, ge, po, oa, mn, cu, og, vl_, tp, ce, lN, lC, upd sk (e + 1) (sk e))) : wpX_execute post (cp, pr, ph, gc, gp, oc, ml, cl, ol, vl, tr, ac, ca, pa, bk, ix, cL, cH, im, tl, tk, dr, cc, ld, nI (e + 1), gk, gb, ge, po, oa, mn, cu, og, vl_, tp, ce, lN, lC, sk) (nI p) := by
  have ep : (nI p).toNatClampNeg = p := nI_clamp (by omega)
  have hv : vp_in (nI p) 32 := vp_in_nI hp32 (by omega)
  have ee : (nI e).toNatClampNeg = e := nI_clamp (by omega)
  have he : vp_in (nI e) 16 := vp_in_nI (by omega) (by omega)
  refine ⟨hv, nm_r (e' := nI 9) (by rw [ep, ho]) ⟨hv, nm_r (e' := oa p) (by rw [ep]) (nm_r (nI_pred e) (nm_e (br_f (by decide) (br_f (by decide) (br_f (by decide) (br_f (by decide) (br_f (by decide) (br_f (by decide) (br_f (by decide) (br_f (by decide) (br_f (by decide) (br_f (by decide) (br_f (by decide) (br_t rfl (br_f (nI_nlt (b := 1) (by omega) (by omega)) (br_f (by decide) (br_f (by decide) (br_t rfl (br_f (by decide) (br_t (nI_lt (b := 16) hd (by decide)) (br_f (by decide) (br_f (by decide) (br_f (by decide) (br_f (by decide) (br_f (by decide) (br_f (by decide) (br_f (by decide) (br_f (by decide) (br_f (by decide) (br_f (by decide) (br_f (by decide) (br_t rfl (⟨he, ?_⟩)))))))))))))))))))))))))))))))))⟩⟩
  rw [ee]
  refine cs_xpush hd _ ?_
  rw [nI_1]
  exact hp
theorem cs_ex10 {p e : Nat} (hp32 : p < 32) (ho : po p = nI 10) (hd : e + 2 ≤ 16) (post : Int32 → St2 → Prop) (hp : post (nI (p + 1)) (cp, pr, ph, gc, gp, oc, ml, cl, ol, vl, tr, ac, ca, pa, bk, ix, cL, cH, im, tl, tk, dr, cc, ld, nI (e + 2), gk, gb, ge, po, oa, mn, cu, og, vl_, tp, ce, lN, lC, upd (upd sk (e + 1) (sk e)) e (sk (e + 1)))) : wpX_execute post (cp, pr, ph, gc, gp, oc, ml, cl, ol, vl, tr, ac, ca, pa, bk, ix, cL, cH, im, tl, tk, dr, cc, ld, nI (e + 2), gk, gb, ge, po, oa, mn, cu, og, vl_, tp, ce, lN, lC, sk) (nI p) := by
  have ep : (nI p).toNatClampNeg = p := nI_clamp (by omega)
  have hv : vp_in (nI p) 32 := vp_in_nI hp32 (by omega)
  have ee : (nI e).toNatClampNeg = e := nI_clamp (by omega)
  have he : vp_in (nI e) 16 := vp_in_nI (by omega) (by omega)
  have ee1 : (nI (e + 1)).toNatClampNeg = e + 1 := nI_clamp (by omega)
  have he1 : vp_in (nI (e + 1)) 16 := vp_in_nI (by omega) (by omega)
  have h2 : nI (e + 2) - 2 = nI e := (pk_sub (a := e + 2) (b := 2) (by omega)).trans (congrArg nI (by omega))
  refine ⟨hv, nm_r (e' := nI 10) (by rw [ep, ho]) ⟨hv, nm_r (e' := oa p) (by rw [ep]) (nm_r (nI_pred (e + 1)) (nm_r h2 (br_f (by decide) (br_f (by decide) (br_f (by decide) (br_f (by decide) (br_f (by decide) (br_f (by decide) (br_f (by decide) (br_f (by decide) (br_f (by decide) (br_f (by decide) (br_f (by decide) (br_f (by decide) (br_t rfl (br_f (nI_nlt (b := 2) (by omega) (by omega)) (br_f (by decide) (br_f (by decide) (br_f (by decide) (br_f (by decide) (br_t rfl (br_f (by decide) (br_f (by decide) (br_f (by decide) (br_f (by decide) (br_f (by decide) (br_f (by decide) (br_f (by decide) (br_f (by decide) (br_f (by decide) (br_f (by decide) (br_f (by decide) (br_f (by decide) (br_t rfl (⟨he1, nm_r (e' := sk (e + 1)) (by rw [ee1]) ⟨he, he1, nm_r (e' := upd sk (e + 1) (sk e)) (by rw [ee1, ee]) ⟨he, nm_r (e' := upd (upd sk (e + 1) (sk e)) e (sk (e + 1))) (by rw [ee]) ?_⟩⟩⟩)))))))))))))))))))))))))))))))))))⟩⟩
  rw [nI_1]
  exact hp
theorem cs_ex11 {p e : Nat} (hp32 : p < 32) (ho : po p = nI 11) (hd : e + 1 ≤ 16) (post : Int32 → St2 → Prop) (hp : post (nI (p + 1)) (cp, pr, ph, gc, gp, oc, ml, cl, ol, vl, tr, ac, ca, pa, bk, ix, cL, cH, im, tl, tk, dr, cc, ld, nI (e), gk, gb, ge, po, oa, mn, cu, og, vl_, tp, ce, lN, lC, sk)) : wpX_execute post (cp, pr, ph, gc, gp, oc, ml, cl, ol, vl, tr, ac, ca, pa, bk, ix, cL, cH, im, tl, tk, dr, cc, ld, nI (e + 1), gk, gb, ge, po, oa, mn, cu, og, vl_, tp, ce, lN, lC, sk) (nI p) := by
  have ep : (nI p).toNatClampNeg = p := nI_clamp (by omega)
  have hv : vp_in (nI p) 32 := vp_in_nI hp32 (by omega)
  have ee : (nI e).toNatClampNeg = e := nI_clamp (by omega)
  have he : vp_in (nI e) 16 := vp_in_nI (by omega) (by omega)
  refine ⟨hv, nm_r (e' := nI 11) (by rw [ep, ho]) ⟨hv, nm_r (e' := oa p) (by rw [ep]) (nm_r (nI_pred e) (nm_e (br_f (by decide) (br_f (by decide) (br_f (by decide) (br_f (by decide) (br_f (by decide) (br_f (by decide) (br_f (by decide) (br_f (by decide) (br_f (by decide) (br_f (by decide) (br_f (by decide) (br_f (by decide) (br_f (by decide) (br_t rfl (br_f (nI_nlt (b := 1) (by omega) (by omega)) (br_f (by decide) (br_f (by decide) (br_f (by decide) (br_f (by decide) (br_t rfl (br_f (by decide) (br_f (by decide) (br_f (by decide) (br_f (by decide) (br_f (by decide) (br_f (by decide) (br_f (by decide) (br_f (by decide) (br_f (by decide) (br_f (by decide) (br_f (by decide) (br_f (by decide) (br_f (by decide) (br_t rfl (?_)))))))))))))))))))))))))))))))))))))⟩⟩
  rw [nI_1]
  exact hp
theorem cs_ex12 {p e : Nat} (hp32 : p < 32) (ho : po p = nI 12) (hd : e + 2 < 16) (post : Int32 → St2 → Prop) (hp : post (nI (p + 1)) (cp, pr, ph, gc, gp, oc, ml, cl, ol, vl, tr, ac, ca, pa, bk, ix, cL, cH, im, tl, tk, dr, cc, ld, nI (e + 2 + 1), gk, gb, ge, po, oa, mn, cu, og, vl_, tp, ce, lN, lC, upd sk (e + 2) (sk e))) : wpX_execute post (cp, pr, ph, gc, gp, oc, ml, cl, ol, vl, tr, ac, ca, pa, bk, ix, cL, cH, im, tl, tk, dr, cc, ld, nI (e + 2), gk, gb, ge, po, oa, mn, cu, og, vl_, tp, ce, lN, lC, sk) (nI p) := by
  have ep : (nI p).toNatClampNeg = p := nI_clamp (by omega)
  have hv : vp_in (nI p) 32 := vp_in_nI hp32 (by omega)
  have ee : (nI e).toNatClampNeg = e := nI_clamp (by omega)
  have he : vp_in (nI e) 16 := vp_in_nI (by omega) (by omega)
  have ee1 : (nI (e + 1)).toNatClampNeg = e + 1 := nI_clamp (by omega)
  have he1 : vp_in (nI (e + 1)) 16 := vp_in_nI (by omega) (by omega)
  have h2 : nI (e + 2) - 2 = nI e := (pk_sub (a := e + 2) (b := 2) (by omega)).trans (congrArg nI (by omega))
  refine ⟨hv, nm_r (e' := nI 12) (by rw [ep, ho]) ⟨hv, nm_r (e' := oa p) (by rw [ep]) (nm_r (nI_pred (e + 1)) (nm_r h2 (br_f (by decide) (br_f (by decide) (br_f (by decide) (br_f (by decide) (br_f (by decide) (br_f (by decide) (br_f (by decide) (br_f (by decide) (br_f (by decide) (br_f (by decide) (br_f (by decide) (br_f (by decide) (br_f (by decide) (br_f (by decide) (br_t rfl (br_f (nI_nlt (b := 2) (by omega) (by omega)) (br_f (by decide) (br_f (by decide) (br_f (by decide) (br_t rfl (br_f (by decide) (br_t (nI_lt (b := 16) hd (by decide)) (br_f (by decide) (br_f (by decide) (br_f (by decide) (br_f (by decide) (br_f (by decide) (br_f (by decide) (br_f (by decide) (br_f (by decide) (br_f (by decide) (br_f (by decide) (br_f (by decide) (br_f (by decide) (br_f (by decide) (br_f (by decide) (br_t rfl (⟨he, ?_⟩))))))))))))))))))))))))))))))))))))))))⟩⟩
  rw [ee]
  refine cs_xpush hd _ ?_
  rw [nI_1]
  exact hp
theorem cs_ex13 {p e : Nat} (hp32 : p < 32) (ho : po p = nI 13) (hd : e + 1 ≤ 16) (post : Int32 → St2 → Prop) (hp : post ((if sk e = 0 then oa p else nI (p + 1))) (cp, pr, ph, gc, gp, oc, ml, cl, ol, vl, tr, ac, ca, pa, bk, ix, cL, cH, im, tl, tk, dr, cc, ld, nI (e), gk, gb, ge, po, oa, mn, cu, og, vl_, tp, ce, lN, lC, sk)) : wpX_execute post (cp, pr, ph, gc, gp, oc, ml, cl, ol, vl, tr, ac, ca, pa, bk, ix, cL, cH, im, tl, tk, dr, cc, ld, nI (e + 1), gk, gb, ge, po, oa, mn, cu, og, vl_, tp, ce, lN, lC, sk) (nI p) := by
  have ep : (nI p).toNatClampNeg = p := nI_clamp (by omega)
  have hv : vp_in (nI p) 32 := vp_in_nI hp32 (by omega)
  have ee : (nI e).toNatClampNeg = e := nI_clamp (by omega)
  have he : vp_in (nI e) 16 := vp_in_nI (by omega) (by omega)
  refine ⟨hv, nm_r (e' := nI 13) (by rw [ep, ho]) ⟨hv, nm_r (e' := oa p) (by rw [ep]) (nm_r (nI_pred e) (nm_e (br_f (by decide) (br_f (by decide) (br_f (by decide) (br_f (by decide) (br_f (by decide) (br_f (by decide) (br_f (by decide) (br_f (by decide) (br_f (by decide) (br_f (by decide) (br_f (by decide) (br_f (by decide) (br_f (by decide) (br_f (by decide) (br_f (by decide) (br_t rfl (br_f (nI_nlt (b := 1) (by omega) (by omega)) (br_f (by decide) (br_f (by decide) (br_f (by decide) (br_f (by decide) (br_t rfl (br_f (by decide) (br_f (by decide) (br_f (by decide) (br_f (by decide) (br_f (by decide) (br_f (by decide) (br_f (by decide) (br_f (by decide) (br_f (by decide) (br_f (by decide) (br_f (by decide) (br_f (by decide) (br_f (by decide) (br_f (by decide) (br_f (by decide) (br_t rfl (⟨he, ?_⟩)))))))))))))))))))))))))))))))))))))))))⟩⟩
  by_cases z : sk e = 0
  · rw [if_pos z] at hp
    exact br_t (by rw [ee]; exact z) hp
  · rw [if_neg z] at hp
    refine br_f (by rw [ee]; exact z) ?_
    rw [nI_1]
    exact hp
theorem cs_ex14 {p d : Nat} (hp32 : p < 32) (ho : po p = nI 14) (hd : d ≤ 16) (post : Int32 → St2 → Prop) (hp : post (oa p) (cp, pr, ph, gc, gp, oc, ml, cl, ol, vl, tr, ac, ca, pa, bk, ix, cL, cH, im, tl, tk, dr, cc, ld, nI (d), gk, gb, ge, po, oa, mn, cu, og, vl_, tp, ce, lN, lC, sk)) : wpX_execute post (cp, pr, ph, gc, gp, oc, ml, cl, ol, vl, tr, ac, ca, pa, bk, ix, cL, cH, im, tl, tk, dr, cc, ld, nI (d), gk, gb, ge, po, oa, mn, cu, og, vl_, tp, ce, lN, lC, sk) (nI p) := by
  have ep : (nI p).toNatClampNeg = p := nI_clamp (by omega)
  have hv : vp_in (nI p) 32 := vp_in_nI hp32 (by omega)
  exact ⟨hv, nm_r (e' := nI 14) (by rw [ep, ho]) ⟨hv, nm_r (e' := oa p) (by rw [ep]) (nm_e (nm_e (br_f (by decide) (br_f (by decide) (br_f (by decide) (br_f (by decide) (br_f (by decide) (br_f (by decide) (br_f (by decide) (br_f (by decide) (br_f (by decide) (br_f (by decide) (br_f (by decide) (br_f (by decide) (br_f (by decide) (br_f (by decide) (br_f (by decide) (br_f (by decide) (br_t rfl (br_f (nI_nlt (b := 0) (by omega) (by omega)) (br_f (by decide) (br_f (by decide) (br_f (by decide) (br_f (by decide) (br_t rfl (br_f (by decide) (br_f (by decide) (br_f (by decide) (br_f (by decide) (br_f (by decide) (br_f (by decide) (br_f (by decide) (br_f (by decide) (br_f (by decide) (br_f (by decide) (br_f (by decide) (br_f (by decide) (br_f (by decide) (br_f (by decide) (br_f (by decide) (br_f (by decide) (br_t rfl (hp)))))))))))))))))))))))))))))))))))))))))))⟩⟩
theorem cs_exG0 {p : Nat} (hp32 : p < 32) (ho : po p = nI 0) (post : Int32 → St2 → Prop) (hp : post (-1) (cp, pr, ph, gc, gp, oc, ml, cl, ol, vl, tr, ac, ca, pa, bk, ix, cL, cH, im, tl, tk, dr, cc, ld, nI 16, gk, gb, ge, po, oa, mn, cu, og, vl_, tp, ce, lN, lC, sk)) : wpX_execute post (cp, pr, ph, gc, gp, oc, ml, cl, ol, vl, tr, ac, ca, pa, bk, ix, cL, cH, im, tl, tk, dr, cc, ld, nI 16, gk, gb, ge, po, oa, mn, cu, og, vl_, tp, ce, lN, lC, sk) (nI p) := by
  have ep : (nI p).toNatClampNeg = p := nI_clamp (by omega)
  have hv : vp_in (nI p) 32 := vp_in_nI hp32 (by omega)
  exact ⟨hv, nm_r (e' := nI 0) (by rw [ep, ho]) ⟨hv, nm_r (e' := oa p) (by rw [ep]) (nm_e (nm_e (br_f (by decide) (br_f (by decide) (br_t rfl (br_f (by decide) (br_t rfl (br_f (by decide) (br_f (by decide) hp)))))))))⟩⟩
theorem cs_exF1 {p d : Nat} (hp32 : p < 32) (ho : po p = nI 1) (hd : d < 1) (post : Int32 → St2 → Prop) (hp : post (-1) (cp, pr, ph, gc, gp, oc, ml, cl, ol, vl, tr, ac, ca, pa, bk, ix, cL, cH, im, tl, tk, dr, cc, ld, nI d, gk, gb, ge, po, oa, mn, cu, og, vl_, tp, ce, lN, lC, sk)) : wpX_execute post (cp, pr, ph, gc, gp, oc, ml, cl, ol, vl, tr, ac, ca, pa, bk, ix, cL, cH, im, tl, tk, dr, cc, ld, nI d, gk, gb, ge, po, oa, mn, cu, og, vl_, tp, ce, lN, lC, sk) (nI p) := by
  have ep : (nI p).toNatClampNeg = p := nI_clamp (by omega)
  have hv : vp_in (nI p) 32 := vp_in_nI hp32 (by omega)
  exact ⟨hv, nm_r (e' := nI 1) (by rw [ep, ho]) ⟨hv, nm_r (e' := oa p) (by rw [ep]) (nm_e (nm_e (br_f (by decide) (br_f (by decide) (br_f (by decide) (br_t rfl (br_t (nI_lt (b := 1) hd (by decide)) hp)))))))⟩⟩
theorem cs_exG2 {p : Nat} (hp32 : p < 32) (ho : po p = nI 2) (post : Int32 → St2 → Prop) (hp : post (-1) (cp, pr, ph, gc, gp, oc, ml, cl, ol, vl, tr, ac, ca, pa, bk, ix, cL, cH, im, tl, tk, dr, cc, ld, nI 16, gk, gb, ge, po, oa, mn, cu, og, vl_, tp, ce, lN, lC, sk)) : wpX_execute post (cp, pr, ph, gc, gp, oc, ml, cl, ol, vl, tr, ac, ca, pa, bk, ix, cL, cH, im, tl, tk, dr, cc, ld, nI 16, gk, gb, ge, po, oa, mn, cu, og, vl_, tp, ce, lN, lC, sk) (nI p) := by
  have ep : (nI p).toNatClampNeg = p := nI_clamp (by omega)
  have hv : vp_in (nI p) 32 := vp_in_nI hp32 (by omega)
  exact ⟨hv, nm_r (e' := nI 2) (by rw [ep, ho]) ⟨hv, nm_r (e' := oa p) (by rw [ep]) (nm_e (nm_e (br_f (by decide) (br_f (by decide) (br_f (by decide) (br_f (by decide) (br_t rfl (br_f (by decide) (br_f (by decide) (br_t rfl (br_f (by decide) (br_f (by decide) hp))))))))))))⟩⟩
theorem cs_exF3 {p d : Nat} (hp32 : p < 32) (ho : po p = nI 3) (hd : d < 2) (post : Int32 → St2 → Prop) (hp : post (-1) (cp, pr, ph, gc, gp, oc, ml, cl, ol, vl, tr, ac, ca, pa, bk, ix, cL, cH, im, tl, tk, dr, cc, ld, nI d, gk, gb, ge, po, oa, mn, cu, og, vl_, tp, ce, lN, lC, sk)) : wpX_execute post (cp, pr, ph, gc, gp, oc, ml, cl, ol, vl, tr, ac, ca, pa, bk, ix, cL, cH, im, tl, tk, dr, cc, ld, nI d, gk, gb, ge, po, oa, mn, cu, og, vl_, tp, ce, lN, lC, sk) (nI p) := by
  have ep : (nI p).toNatClampNeg = p := nI_clamp (by omega)
  have hv : vp_in (nI p) 32 := vp_in_nI hp32 (by omega)
  exact ⟨hv, nm_r (e' := nI 3) (by rw [ep, ho]) ⟨hv, nm_r (e' := oa p) (by rw [ep]) (nm_e (nm_e (br_f (by decide) (br_f (by decide) (br_f (by decide) (br_f (by decide) (br_f (by decide) (br_t rfl (br_t (nI_lt (b := 2) hd (by decide)) hp)))))))))⟩⟩
theorem cs_exF4 {p d : Nat} (hp32 : p < 32) (ho : po p = nI 4) (hd : d < 2) (post : Int32 → St2 → Prop) (hp : post (-1) (cp, pr, ph, gc, gp, oc, ml, cl, ol, vl, tr, ac, ca, pa, bk, ix, cL, cH, im, tl, tk, dr, cc, ld, nI d, gk, gb, ge, po, oa, mn, cu, og, vl_, tp, ce, lN, lC, sk)) : wpX_execute post (cp, pr, ph, gc, gp, oc, ml, cl, ol, vl, tr, ac, ca, pa, bk, ix, cL, cH, im, tl, tk, dr, cc, ld, nI d, gk, gb, ge, po, oa, mn, cu, og, vl_, tp, ce, lN, lC, sk) (nI p) := by
  have ep : (nI p).toNatClampNeg = p := nI_clamp (by omega)
  have hv : vp_in (nI p) 32 := vp_in_nI hp32 (by omega)
  exact ⟨hv, nm_r (e' := nI 4) (by rw [ep, ho]) ⟨hv, nm_r (e' := oa p) (by rw [ep]) (nm_e (nm_e (br_f (by decide) (br_f (by decide) (br_f (by decide) (br_f (by decide) (br_f (by decide) (br_f (by decide) (br_t rfl (br_t (nI_lt (b := 2) hd (by decide)) hp))))))))))⟩⟩
theorem cs_exF5 {p d : Nat} (hp32 : p < 32) (ho : po p = nI 5) (hd : d < 2) (post : Int32 → St2 → Prop) (hp : post (-1) (cp, pr, ph, gc, gp, oc, ml, cl, ol, vl, tr, ac, ca, pa, bk, ix, cL, cH, im, tl, tk, dr, cc, ld, nI d, gk, gb, ge, po, oa, mn, cu, og, vl_, tp, ce, lN, lC, sk)) : wpX_execute post (cp, pr, ph, gc, gp, oc, ml, cl, ol, vl, tr, ac, ca, pa, bk, ix, cL, cH, im, tl, tk, dr, cc, ld, nI d, gk, gb, ge, po, oa, mn, cu, og, vl_, tp, ce, lN, lC, sk) (nI p) := by
  have ep : (nI p).toNatClampNeg = p := nI_clamp (by omega)
  have hv : vp_in (nI p) 32 := vp_in_nI hp32 (by omega)
  exact ⟨hv, nm_r (e' := nI 5) (by rw [ep, ho]) ⟨hv, nm_r (e' := oa p) (by rw [ep]) (nm_e (nm_e (br_f (by decide) (br_f (by decide) (br_f (by decide) (br_f (by decide) (br_f (by decide) (br_f (by decide) (br_f (by decide) (br_t rfl (br_t (nI_lt (b := 2) hd (by decide)) hp)))))))))))⟩⟩
theorem cs_exF6 {p d : Nat} (hp32 : p < 32) (ho : po p = nI 6) (hd : d < 2) (post : Int32 → St2 → Prop) (hp : post (-1) (cp, pr, ph, gc, gp, oc, ml, cl, ol, vl, tr, ac, ca, pa, bk, ix, cL, cH, im, tl, tk, dr, cc, ld, nI d, gk, gb, ge, po, oa, mn, cu, og, vl_, tp, ce, lN, lC, sk)) : wpX_execute post (cp, pr, ph, gc, gp, oc, ml, cl, ol, vl, tr, ac, ca, pa, bk, ix, cL, cH, im, tl, tk, dr, cc, ld, nI d, gk, gb, ge, po, oa, mn, cu, og, vl_, tp, ce, lN, lC, sk) (nI p) := by
  have ep : (nI p).toNatClampNeg = p := nI_clamp (by omega)
  have hv : vp_in (nI p) 32 := vp_in_nI hp32 (by omega)
  exact ⟨hv, nm_r (e' := nI 6) (by rw [ep, ho]) ⟨hv, nm_r (e' := oa p) (by rw [ep]) (nm_e (nm_e (br_f (by decide) (br_f (by decide) (br_f (by decide) (br_f (by decide) (br_f (by decide) (br_f (by decide) (br_f (by decide) (br_f (by decide) (br_t rfl (br_t (nI_lt (b := 2) hd (by decide)) hp))))))))))))⟩⟩
theorem cs_exF7 {p d : Nat} (hp32 : p < 32) (ho : po p = nI 7) (hd : d < 2) (post : Int32 → St2 → Prop) (hp : post (-1) (cp, pr, ph, gc, gp, oc, ml, cl, ol, vl, tr, ac, ca, pa, bk, ix, cL, cH, im, tl, tk, dr, cc, ld, nI d, gk, gb, ge, po, oa, mn, cu, og, vl_, tp, ce, lN, lC, sk)) : wpX_execute post (cp, pr, ph, gc, gp, oc, ml, cl, ol, vl, tr, ac, ca, pa, bk, ix, cL, cH, im, tl, tk, dr, cc, ld, nI d, gk, gb, ge, po, oa, mn, cu, og, vl_, tp, ce, lN, lC, sk) (nI p) := by
  have ep : (nI p).toNatClampNeg = p := nI_clamp (by omega)
  have hv : vp_in (nI p) 32 := vp_in_nI hp32 (by omega)
  exact ⟨hv, nm_r (e' := nI 7) (by rw [ep, ho]) ⟨hv, nm_r (e' := oa p) (by rw [ep]) (nm_e (nm_e (br_f (by decide) (br_f (by decide) (br_f (by decide) (br_f (by decide) (br_f (by decide) (br_f (by decide) (br_f (by decide) (br_f (by decide) (br_f (by decide) (br_t rfl (br_t (nI_lt (b := 2) hd (by decide)) hp)))))))))))))⟩⟩
theorem cs_exF8 {p d : Nat} (hp32 : p < 32) (ho : po p = nI 8) (hd : d < 1) (post : Int32 → St2 → Prop) (hp : post (-1) (cp, pr, ph, gc, gp, oc, ml, cl, ol, vl, tr, ac, ca, pa, bk, ix, cL, cH, im, tl, tk, dr, cc, ld, nI d, gk, gb, ge, po, oa, mn, cu, og, vl_, tp, ce, lN, lC, sk)) : wpX_execute post (cp, pr, ph, gc, gp, oc, ml, cl, ol, vl, tr, ac, ca, pa, bk, ix, cL, cH, im, tl, tk, dr, cc, ld, nI d, gk, gb, ge, po, oa, mn, cu, og, vl_, tp, ce, lN, lC, sk) (nI p) := by
  have ep : (nI p).toNatClampNeg = p := nI_clamp (by omega)
  have hv : vp_in (nI p) 32 := vp_in_nI hp32 (by omega)
  exact ⟨hv, nm_r (e' := nI 8) (by rw [ep, ho]) ⟨hv, nm_r (e' := oa p) (by rw [ep]) (nm_e (nm_e (br_f (by decide) (br_f (by decide) (br_f (by decide) (br_f (by decide) (br_f (by decide) (br_f (by decide) (br_f (by decide) (br_f (by decide) (br_f (by decide) (br_f (by decide) (br_t rfl (br_t (nI_lt (b := 1) hd (by decide)) hp))))))))))))))⟩⟩
theorem cs_exF9 {p d : Nat} (hp32 : p < 32) (ho : po p = nI 9) (hd : d < 1) (post : Int32 → St2 → Prop) (hp : post (-1) (cp, pr, ph, gc, gp, oc, ml, cl, ol, vl, tr, ac, ca, pa, bk, ix, cL, cH, im, tl, tk, dr, cc, ld, nI d, gk, gb, ge, po, oa, mn, cu, og, vl_, tp, ce, lN, lC, sk)) : wpX_execute post (cp, pr, ph, gc, gp, oc, ml, cl, ol, vl, tr, ac, ca, pa, bk, ix, cL, cH, im, tl, tk, dr, cc, ld, nI d, gk, gb, ge, po, oa, mn, cu, og, vl_, tp, ce, lN, lC, sk) (nI p) := by
  have ep : (nI p).toNatClampNeg = p := nI_clamp (by omega)
  have hv : vp_in (nI p) 32 := vp_in_nI hp32 (by omega)
  exact ⟨hv, nm_r (e' := nI 9) (by rw [ep, ho]) ⟨hv, nm_r (e' := oa p) (by rw [ep]) (nm_e (nm_e (br_f (by decide) (br_f (by decide) (br_f (by decide) (br_f (by decide) (br_f (by decide) (br_f (by decide) (br_f (by decide) (br_f (by decide) (br_f (by decide) (br_f (by decide) (br_f (by decide) (br_t rfl (br_t (nI_lt (b := 1) hd (by decide)) hp)))))))))))))))⟩⟩
theorem cs_exG9 {p : Nat} (hp32 : p < 32) (ho : po p = nI 9) (post : Int32 → St2 → Prop) (hp : post (-1) (cp, pr, ph, gc, gp, oc, ml, cl, ol, vl, tr, ac, ca, pa, bk, ix, cL, cH, im, tl, tk, dr, cc, ld, nI 16, gk, gb, ge, po, oa, mn, cu, og, vl_, tp, ce, lN, lC, sk)) : wpX_execute post (cp, pr, ph, gc, gp, oc, ml, cl, ol, vl, tr, ac, ca, pa, bk, ix, cL, cH, im, tl, tk, dr, cc, ld, nI 16, gk, gb, ge, po, oa, mn, cu, og, vl_, tp, ce, lN, lC, sk) (nI p) := by
  have ep : (nI p).toNatClampNeg = p := nI_clamp (by omega)
  have hv : vp_in (nI p) 32 := vp_in_nI hp32 (by omega)
  exact ⟨hv, nm_r (e' := nI 9) (by rw [ep, ho]) ⟨hv, nm_r (e' := oa p) (by rw [ep]) (nm_e (nm_e (br_f (by decide) (br_f (by decide) (br_f (by decide) (br_f (by decide) (br_f (by decide) (br_f (by decide) (br_f (by decide) (br_f (by decide) (br_f (by decide) (br_f (by decide) (br_f (by decide) (br_t rfl (br_f (by decide) (br_f (by decide) (br_f (by decide) (br_t rfl (br_f (by decide) (br_f (by decide) hp))))))))))))))))))))⟩⟩
theorem cs_exF10 {p d : Nat} (hp32 : p < 32) (ho : po p = nI 10) (hd : d < 2) (post : Int32 → St2 → Prop) (hp : post (-1) (cp, pr, ph, gc, gp, oc, ml, cl, ol, vl, tr, ac, ca, pa, bk, ix, cL, cH, im, tl, tk, dr, cc, ld, nI d, gk, gb, ge, po, oa, mn, cu, og, vl_, tp, ce, lN, lC, sk)) : wpX_execute post (cp, pr, ph, gc, gp, oc, ml, cl, ol, vl, tr, ac, ca, pa, bk, ix, cL, cH, im, tl, tk, dr, cc, ld, nI d, gk, gb, ge, po, oa, mn, cu, og, vl_, tp, ce, lN, lC, sk) (nI p) := by
  have ep : (nI p).toNatClampNeg = p := nI_clamp (by omega)
  have hv : vp_in (nI p) 32 := vp_in_nI hp32 (by omega)
  exact ⟨hv, nm_r (e' := nI 10) (by rw [ep, ho]) ⟨hv, nm_r (e' := oa p) (by rw [ep]) (nm_e (nm_e (br_f (by decide) (br_f (by decide) (br_f (by decide) (br_f (by decide) (br_f (by decide) (br_f (by decide) (br_f (by decide) (br_f (by decide) (br_f (by decide) (br_f (by decide) (br_f (by decide) (br_f (by decide) (br_t rfl (br_t (nI_lt (b := 2) hd (by decide)) hp))))))))))))))))⟩⟩
theorem cs_exF11 {p d : Nat} (hp32 : p < 32) (ho : po p = nI 11) (hd : d < 1) (post : Int32 → St2 → Prop) (hp : post (-1) (cp, pr, ph, gc, gp, oc, ml, cl, ol, vl, tr, ac, ca, pa, bk, ix, cL, cH, im, tl, tk, dr, cc, ld, nI d, gk, gb, ge, po, oa, mn, cu, og, vl_, tp, ce, lN, lC, sk)) : wpX_execute post (cp, pr, ph, gc, gp, oc, ml, cl, ol, vl, tr, ac, ca, pa, bk, ix, cL, cH, im, tl, tk, dr, cc, ld, nI d, gk, gb, ge, po, oa, mn, cu, og, vl_, tp, ce, lN, lC, sk) (nI p) := by
  have ep : (nI p).toNatClampNeg = p := nI_clamp (by omega)
  have hv : vp_in (nI p) 32 := vp_in_nI hp32 (by omega)
  exact ⟨hv, nm_r (e' := nI 11) (by rw [ep, ho]) ⟨hv, nm_r (e' := oa p) (by rw [ep]) (nm_e (nm_e (br_f (by decide) (br_f (by decide) (br_f (by decide) (br_f (by decide) (br_f (by decide) (br_f (by decide) (br_f (by decide) (br_f (by decide) (br_f (by decide) (br_f (by decide) (br_f (by decide) (br_f (by decide) (br_f (by decide) (br_t rfl (br_t (nI_lt (b := 1) hd (by decide)) hp)))))))))))))))))⟩⟩
theorem cs_exF12 {p d : Nat} (hp32 : p < 32) (ho : po p = nI 12) (hd : d < 2) (post : Int32 → St2 → Prop) (hp : post (-1) (cp, pr, ph, gc, gp, oc, ml, cl, ol, vl, tr, ac, ca, pa, bk, ix, cL, cH, im, tl, tk, dr, cc, ld, nI d, gk, gb, ge, po, oa, mn, cu, og, vl_, tp, ce, lN, lC, sk)) : wpX_execute post (cp, pr, ph, gc, gp, oc, ml, cl, ol, vl, tr, ac, ca, pa, bk, ix, cL, cH, im, tl, tk, dr, cc, ld, nI d, gk, gb, ge, po, oa, mn, cu, og, vl_, tp, ce, lN, lC, sk) (nI p) := by
  have ep : (nI p).toNatClampNeg = p := nI_clamp (by omega)
  have hv : vp_in (nI p) 32 := vp_in_nI hp32 (by omega)
  exact ⟨hv, nm_r (e' := nI 12) (by rw [ep, ho]) ⟨hv, nm_r (e' := oa p) (by rw [ep]) (nm_e (nm_e (br_f (by decide) (br_f (by decide) (br_f (by decide) (br_f (by decide) (br_f (by decide) (br_f (by decide) (br_f (by decide) (br_f (by decide) (br_f (by decide) (br_f (by decide) (br_f (by decide) (br_f (by decide) (br_f (by decide) (br_f (by decide) (br_t rfl (br_t (nI_lt (b := 2) hd (by decide)) hp))))))))))))))))))⟩⟩
theorem cs_exG12 {p : Nat} (hp32 : p < 32) (ho : po p = nI 12) (post : Int32 → St2 → Prop) (hp : post (-1) (cp, pr, ph, gc, gp, oc, ml, cl, ol, vl, tr, ac, ca, pa, bk, ix, cL, cH, im, tl, tk, dr, cc, ld, nI 16, gk, gb, ge, po, oa, mn, cu, og, vl_, tp, ce, lN, lC, sk)) : wpX_execute post (cp, pr, ph, gc, gp, oc, ml, cl, ol, vl, tr, ac, ca, pa, bk, ix, cL, cH, im, tl, tk, dr, cc, ld, nI 16, gk, gb, ge, po, oa, mn, cu, og, vl_, tp, ce, lN, lC, sk) (nI p) := by
  have ep : (nI p).toNatClampNeg = p := nI_clamp (by omega)
  have hv : vp_in (nI p) 32 := vp_in_nI hp32 (by omega)
  exact ⟨hv, nm_r (e' := nI 12) (by rw [ep, ho]) ⟨hv, nm_r (e' := oa p) (by rw [ep]) (nm_e (nm_e (br_f (by decide) (br_f (by decide) (br_f (by decide) (br_f (by decide) (br_f (by decide) (br_f (by decide) (br_f (by decide) (br_f (by decide) (br_f (by decide) (br_f (by decide) (br_f (by decide) (br_f (by decide) (br_f (by decide) (br_f (by decide) (br_t rfl (br_f (by decide) (br_f (by decide) (br_f (by decide) (br_f (by decide) (br_t rfl (br_f (by decide) (br_f (by decide) hp))))))))))))))))))))))))⟩⟩
theorem cs_exF13 {p d : Nat} (hp32 : p < 32) (ho : po p = nI 13) (hd : d < 1) (post : Int32 → St2 → Prop) (hp : post (-1) (cp, pr, ph, gc, gp, oc, ml, cl, ol, vl, tr, ac, ca, pa, bk, ix, cL, cH, im, tl, tk, dr, cc, ld, nI d, gk, gb, ge, po, oa, mn, cu, og, vl_, tp, ce, lN, lC, sk)) : wpX_execute post (cp, pr, ph, gc, gp, oc, ml, cl, ol, vl, tr, ac, ca, pa, bk, ix, cL, cH, im, tl, tk, dr, cc, ld, nI d, gk, gb, ge, po, oa, mn, cu, og, vl_, tp, ce, lN, lC, sk) (nI p) := by
  have ep : (nI p).toNatClampNeg = p := nI_clamp (by omega)
  have hv : vp_in (nI p) 32 := vp_in_nI hp32 (by omega)
  exact ⟨hv, nm_r (e' := nI 13) (by rw [ep, ho]) ⟨hv, nm_r (e' := oa p) (by rw [ep]) (nm_e (nm_e (br_f (by decide) (br_f (by decide) (br_f (by decide) (br_f (by decide) (br_f (by decide) (br_f (by decide) (br_f (by decide) (br_f (by decide) (br_f (by decide) (br_f (by decide) (br_f (by decide) (br_f (by decide) (br_f (by decide) (br_f (by decide) (br_f (by decide) (br_t rfl (br_t (nI_lt (b := 1) hd (by decide)) hp)))))))))))))))))))⟩⟩
end
section
variable {cp pr ph gc gp oc ml cl ol vl tr ac ca pa bk ix cL cH im tl tk dr cc ld sd : Int32} {gk gb ge po oa mn cu og vl_ tp ce lN lC sk ou : Nat → Int32}
theorem cs_xcz {L : Nat} {x : Int32} (hL : L ≤ 32) (hco : ∀ j, j < L → ce j = ou j) (q : Int32 → Prop) (hq : q (if x < 0 then 0 else if nI L ≤ x then 0 else ou x.toNatClampNeg)) : wpX_cellOrZero q (cp, pr, ph, gc, gp, oc, ml, cl, ol, vl, tr, ac, ca, pa, bk, ix, cL, cH, im, tl, tk, dr, nI L, ld, sd, gk, gb, ge, po, oa, mn, cu, og, vl_, tp, ce, lN, lC, sk) x := by
  by_cases z : x < 0
  · rw [if_pos z] at hq
    exact br_t z hq
  · rw [if_neg z] at hq
    by_cases z2 : nI L ≤ x
    · rw [if_pos z2] at hq
      exact br_f z (br_t z2 hq)
    · rw [if_neg z2] at hq
      obtain ⟨j, hj, ej⟩ := nI_of z
      have hjL : j < L := by
        rw [ej, nI_leI (by omega) hj] at z2
        omega
      have ec : x.toNatClampNeg = j := by rw [ej, nI_clamp hj]
      refine br_f z (br_f z2 ⟨by rw [ej]; exact vp_in_nI (by omega) (by omega), ?_⟩)
      rw [ec, hco j hjL, ← ec]
      exact hq
theorem cs_n1m {m : Nat} (h : m < 2 ^ 31) : (-1 : Int32) < nI m := by
  rw [Int32.lt_iff_toInt_lt, nI_toInt h, show (-1 : Int32).toInt = -1 from by decide]
  omega
theorem cs_xpF {s m fuel : Nat} (hm : m ≤ 32) (hs : s ≤ 256) (post : Int32 → St2 → Prop) (hp : post 0 (cp, pr, ph, gc, gp, nI m, ml, cl, ol, vl, tr, ac, ca, pa, bk, ix, cL, cH, im, tl, tk, dr, cc, ld, sd, gk, gb, ge, po, oa, mn, cu, og, vl_, tp, ce, lN, lC, sk)) : wX_propertyHolds_9 post (fuel + 1) (-1) (nI s) cp pr ph gc gp (nI m) ml cl ol vl tr ac ca pa bk ix cL cH im tl tk dr cc ld sd gk gb ge po oa mn cu og vl_ tp ce lN lC sk :=
  br_c (fun _ => br_t (cs_n1m (by omega)) hp) (fun _ => br_t rfl (br_t (cs_n1m (by omega)) hp))
end
