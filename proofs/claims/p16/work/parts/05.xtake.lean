def cs_rn (pr : Int32) : Nat := ((pr.toUInt32 >>> ((16 : Int32).toUInt32 &&& Int32.toUInt32 31)).toInt32).toBitVec.toNat % 256
theorem cs_rn1 (pr : Int32) : ((pr.toUInt32 >>> ((16 : Int32).toUInt32 &&& Int32.toUInt32 31)).toInt32) &&& 255 = nI (cs_rn pr) := pk_and _ 8 (by decide)
theorem cs_rn2 (pr : Int32) : cs_rn pr < 256 := Nat.mod_lt _ (by decide)
section
variable {cp pr ph gc gp oc ml cl ol vl tr ac ca pa bk ix cL cH im tl tk dr cc ld sd : Int32} {gk gb ge po oa mn cu og vl_ tp ce lN lC sk ou : Nat → Int32}
theorem cs_xt0 {t lim : Nat} (ht : lim ≤ t) (hl : t ≤ 32) (w : Int32) (post : Int32 → St2 → Prop) (hp : post (-1) (cp, pr, ph, gc, gp, oc, ml, cl, ol, vl, tr, ac, ca, pa, bk, ix, cL, cH, im, nI lim, nI t, dr, cc, ld, sd, gk, gb, ge, po, oa, mn, cu, og, vl_, tp, ce, lN, lC, sk)) : wpX_take post (cp, pr, ph, gc, gp, oc, ml, cl, ol, vl, tr, ac, ca, pa, bk, ix, cL, cH, im, nI lim, nI t, dr, cc, ld, sd, gk, gb, ge, po, oa, mn, cu, og, vl_, tp, ce, lN, lC, sk) w :=
  br_f (nI_nlt ht (by omega)) hp
theorem cs_xtr {t lim : Nat} (ht : t < lim) (hl : lim ≤ 32) (w : Int32) (post : Int32 → St2 → Prop) (hp : post (tp t) (cp, pr, ph, gc, gp, oc, ml, cl, ol, vl, tr, ac, ca, pa, bk, ix, cL, cH, im, nI lim, nI (t + 1), 0, cc, ld, sd, gk, gb, ge, po, oa, mn, cu, og, vl_, tp, ce, lN, lC, sk)) : wpX_take post (cp, pr, ph, gc, gp, oc, ml, cl, ol, vl, tr, ac, ca, pa, bk, ix, cL, cH, im, nI lim, nI t, 0, cc, ld, sd, gk, gb, ge, po, oa, mn, cu, og, vl_, tp, ce, lN, lC, sk) w := by
  refine br_t (nI_lt ht (by omega)) (br_t rfl (nm_r (nI_1 t) ⟨?_, ?_⟩))
  · rw [nI_pred]
    exact vp_in_nI (by omega) (by omega)
  · rw [nI_pred, nI_clamp (by omega)]
    exact hp
theorem cs_xtd {t lim w : Nat} (ht : t < lim) (hl : lim ≤ 32) (hw : 0 < w) (hw2 : w ≤ 256) (post : Int32 → St2 → Prop) (hp : post (nI (cs_rn (pr * 1103515245 + 12345) % w)) (cp, pr * 1103515245 + 12345, ph, gc, gp, oc, ml, cl, ol, vl, tr, ac, ca, pa, bk, ix, cL, cH, im, nI lim, nI (t + 1), 1, cc, ld, sd, gk, gb, ge, po, oa, mn, cu, og, vl_, upd tp t (nI (cs_rn (pr * 1103515245 + 12345) % w)), ce, lN, lC, sk)) : wpX_take post (cp, pr, ph, gc, gp, oc, ml, cl, ol, vl, tr, ac, ca, pa, bk, ix, cL, cH, im, nI lim, nI t, 1, cc, ld, sd, gk, gb, ge, po, oa, mn, cu, og, vl_, tp, ce, lN, lC, sk) (nI w) := by
  have e : ((pr * 1103515245 + 12345).toUInt32 >>> ((16 : Int32).toUInt32 &&& Int32.toUInt32 31)).toInt32 &&& 255 = nI (cs_rn (pr * 1103515245 + 12345)) := cs_rn1 _
  have l := cs_rn2 (pr * 1103515245 + 12345)
  refine br_t (nI_lt ht (by omega)) (br_f (by decide) (nm_e ⟨nI_ne0 hw (by omega), vp_in_nI (by omega) (by omega), nm_r (e' := upd tp t (nI (cs_rn (pr * 1103515245 + 12345) % w))) ?_ (nm_r (nI_1 t) ⟨?_, ?_⟩)⟩))
  · rw [nI_clamp (by omega), e, pk_rem (by omega) hw (by omega)]
  · rw [nI_pred]
    exact vp_in_nI (by omega) (by omega)
  · rw [nI_pred, nI_clamp (by omega), pk_us]
    exact hp
theorem cs_xe0 (x : Int32) (post : Int32 → St2 → Prop) (hp : post 0 (cp, pr, ph, gc, gp, oc, ml, cl, ol, vl, tr, ac, ca, pa, bk, ix, cL, cH, im, tl, tk, dr, nI 32, ld, sd, gk, gb, ge, po, oa, mn, cu, og, vl_, tp, ce, lN, lC, sk)) : wpX_emit post (cp, pr, ph, gc, gp, oc, ml, cl, ol, vl, tr, ac, ca, pa, bk, ix, cL, cH, im, tl, tk, dr, nI 32, ld, sd, gk, gb, ge, po, oa, mn, cu, og, vl_, tp, ce, lN, lC, sk) x :=
  br_f (by decide) hp
theorem cs_xe1 {L : Nat} (hL : L < 32) (x : Int32) (post : Int32 → St2 → Prop) (hp : post 1 (cp, pr, ph, gc, gp, oc, ml, cl, ol, vl, tr, ac, ca, pa, bk, ix, cL, cH, im, tl, tk, dr, nI (L + 1), ld, sd, gk, gb, ge, po, oa, mn, cu, og, vl_, tp, upd ce L x, lN, lC, sk)) : wpX_emit post (cp, pr, ph, gc, gp, oc, ml, cl, ol, vl, tr, ac, ca, pa, bk, ix, cL, cH, im, tl, tk, dr, nI L, ld, sd, gk, gb, ge, po, oa, mn, cu, og, vl_, tp, ce, lN, lC, sk) x := by
  refine br_t (nI_lt (b := 32) hL (by decide)) ⟨vp_in_nI hL (by decide), nm_r (e' := upd ce L x) ?_ (nm_r (nI_1 L) hp)⟩
  rw [nI_clamp (by omega)]
end
