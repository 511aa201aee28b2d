section
variable {cp pr ph gc gp oc ml cl ol vl tr ac ca pa bk ix cL cH im tl tk dr cc ld sd yn yl yt yr yo : Int32} {gk gb ge po oa mn cu og vl_ tp ce lN lC sk yA cd ou sN sS sQ sM : Nat → Int32}
theorem cs_ey0 {p s i m fuel : Nat} {d : Nat} (hd : d < 16) (hm : m ≤ 32) (hpm : p < m) (ho : po p = nI 0) (hs : s < 256) (hi : i < 300) (post : Int32 → SY → Prop) (hp : wY_holds_9 post pr cp ph gc gp (nI m) ml cl ol vl tr ac ca pa bk ix cL cH im yn yl yt yr yo fuel (nI (d + 1)) (nI (p + 1)) (nI (s + 1)) (nI (i + 1)) gk gb po yA mn cu og vl_ cd ou sN sS sQ sM (upd sk d (yA p))) : wY_holds_9 post pr cp ph gc gp (nI m) ml cl ol vl tr ac ca pa bk ix cL cH im yn yl yt yr yo (fuel + 1) (nI (d)) (nI p) (nI s) (nI i) gk gb po yA mn cu og vl_ cd ou sN sS sQ sM sk := by
  have ep : (nI p).toNatClampNeg = p := nI_clamp (by omega)
  have hv : vp_in (nI p) 32 := vp_in_nI (by omega) (by omega)
  have hs256 : ¬ nI s = 256 := fun z => absurd ((nI_eq (b := 256) (by omega) (by decide)).mp z) (by omega)
  have ee : (nI d).toNatClampNeg = d := nI_clamp (by omega)
  exact br_f (nI_ge (b := 300) hi (by decide)) (br_t (nI_lt hpm (by omega)) (br_f hs256 (nm_r (nI_1 s) ⟨hv, nm_r (e' := nI 0) (by rw [ep, ho]) (nm_r (nI_1 p) (br_t rfl (br_t (nI_lt (b := 16) hd (by decide)) ⟨hv, vp_in_nI hd (by omega), nm_r (e' := upd sk d (yA p)) (by rw [ee, ep]) (br_f (by decide) (nm_r (nI_1 d) (nm_r (nI_1 i) hp)))⟩)))⟩)))
theorem cs_ey1 {p s i m fuel : Nat} {e L : Nat} (hd : e + 1 ≤ 16) (hL : L ≤ 32) (hm : m ≤ 32) (hpm : p < m) (ho : po p = nI 1) (hs : s < 256) (hi : i < 300) (post : Int32 → SY → Prop) (hp : wY_holds_9 post pr cp ph gc gp (nI m) ml cl ol vl tr ac ca pa bk ix cL cH im yn yl yt yr (nI L) fuel (nI (e + 1)) (nI (p + 1)) (nI (s + 1)) (nI (i + 1)) gk gb po yA mn cu og vl_ cd ou sN sS sQ sM (upd sk e (if sk e < 0 then 0 else if nI L ≤ sk e then 0 else ou (sk e).toNatClampNeg))) : wY_holds_9 post pr cp ph gc gp (nI m) ml cl ol vl tr ac ca pa bk ix cL cH im yn yl yt yr (nI L) (fuel + 1) (nI (e + 1)) (nI p) (nI s) (nI i) gk gb po yA mn cu og vl_ cd ou sN sS sQ sM sk := by
  have ep : (nI p).toNatClampNeg = p := nI_clamp (by omega)
  have hv : vp_in (nI p) 32 := vp_in_nI (by omega) (by omega)
  have hs256 : ¬ nI s = 256 := fun z => absurd ((nI_eq (b := 256) (by omega) (by decide)).mp z) (by omega)
  have ee : (nI e).toNatClampNeg = e := nI_clamp (by omega)
  have he : vp_in (nI e) 16 := vp_in_nI (by omega) (by omega)
  have hx : nI (e + 1) - 1 = nI e := nI_pred e
  refine br_f (nI_ge (b := 300) hi (by decide)) (br_t (nI_lt hpm (by omega)) (br_f hs256 (nm_r (nI_1 s) ⟨hv, nm_r (e' := nI 1) (by rw [ep, ho]) (nm_r (nI_1 p) (br_f (by decide) (br_f (by decide) (br_t rfl (br_t (nI_le (a := 1) (by omega) (by omega)) ⟨(by rw [hx]; exact he), nm_r (e' := sk e) (by rw [hx, ee]) ⟨(by rw [hx]; exact he), nm_r (e' := upd sk e 0) (by rw [hx, ee]) ?_⟩⟩)))))⟩)))
  by_cases z : sk e < 0
  · rw [if_pos z] at hp
    exact br_t z (nm_r (nI_1 i) hp)
  · rw [if_neg z] at hp
    by_cases z2 : nI L ≤ sk e
    · rw [if_pos z2] at hp
      exact br_f z (br_t z2 (nm_r (nI_1 i) hp))
    · rw [if_neg z2] at hp
      obtain ⟨j, hj, ej⟩ := nI_of z
      have hjL : j < L := by
        rw [ej, nI_leI (by omega) hj] at z2
        omega
      exact br_f z (br_f z2 ⟨by rw [ej]; exact vp_in_nI (by omega) (by omega), (by rw [hx]; exact he), nm_r (e' := upd sk e (ou (sk e).toNatClampNeg)) (by rw [hx, ee, cs_uu]) (nm_r (nI_1 i) hp)⟩)
theorem cs_ey2 {p s i m fuel : Nat} {d : Nat} {L : Nat} (hd : d < 16) (hm : m ≤ 32) (hpm : p < m) (ho : po p = nI 2) (hs : s < 256) (hi : i < 300) (post : Int32 → SY → Prop) (hp : wY_holds_9 post pr cp ph gc gp (nI m) ml cl ol vl tr ac ca pa bk ix cL cH im yn yl yt yr (nI L) fuel (nI (d + 1)) (nI (p + 1)) (nI (s + 1)) (nI (i + 1)) gk gb po yA mn cu og vl_ cd ou sN sS sQ sM (upd sk d (nI L))) : wY_holds_9 post pr cp ph gc gp (nI m) ml cl ol vl tr ac ca pa bk ix cL cH im yn yl yt yr (nI L) (fuel + 1) (nI (d)) (nI p) (nI s) (nI i) gk gb po yA mn cu og vl_ cd ou sN sS sQ sM sk := by
  have ep : (nI p).toNatClampNeg = p := nI_clamp (by omega)
  have hv : vp_in (nI p) 32 := vp_in_nI (by omega) (by omega)
  have hs256 : ¬ nI s = 256 := fun z => absurd ((nI_eq (b := 256) (by omega) (by decide)).mp z) (by omega)
  have ee : (nI d).toNatClampNeg = d := nI_clamp (by omega)
  exact br_f (nI_ge (b := 300) hi (by decide)) (br_t (nI_lt hpm (by omega)) (br_f hs256 (nm_r (nI_1 s) ⟨hv, nm_r (e' := nI 2) (by rw [ep, ho]) (nm_r (nI_1 p) (br_f (by decide) (br_t rfl (br_t (nI_lt (b := 16) hd (by decide)) ⟨hv, vp_in_nI hd (by omega), nm_r (e' := upd sk d (yA p)) (by rw [ee, ep]) (br_t rfl ⟨vp_in_nI hd (by omega), nm_r (e' := upd sk d (nI L)) (by rw [ee, cs_uu]) (nm_r (nI_1 d) (nm_r (nI_1 i) hp))⟩)⟩))))⟩)))
theorem cs_ey3 {p s i m fuel : Nat} {e : Nat} (hd : e + 2 ≤ 16) (hm : m ≤ 32) (hpm : p < m) (ho : po p = nI 3) (hs : s < 256) (hi : i < 300) (post : Int32 → SY → Prop) (hp : wY_holds_9 post pr cp ph gc gp (nI m) ml cl ol vl tr ac ca pa bk ix cL cH im yn yl yt yr yo fuel (nI (e + 1)) (nI (p + 1)) (nI (s + 1)) (nI (i + 1)) gk gb po yA mn cu og vl_ cd ou sN sS sQ sM (upd sk e (sk e + sk (e + 1)))) : wY_holds_9 post pr cp ph gc gp (nI m) ml cl ol vl tr ac ca pa bk ix cL cH im yn yl yt yr yo (fuel + 1) (nI (e + 2)) (nI p) (nI s) (nI i) gk gb po yA mn cu og vl_ cd ou sN sS sQ sM sk := by
  have ep : (nI p).toNatClampNeg = p := nI_clamp (by omega)
  have hv : vp_in (nI p) 32 := vp_in_nI (by omega) (by omega)
  have hs256 : ¬ nI s = 256 := fun z => absurd ((nI_eq (b := 256) (by omega) (by decide)).mp z) (by omega)
  have ee : (nI e).toNatClampNeg = e := nI_clamp (by omega)
  have he : vp_in (nI e) 16 := vp_in_nI (by omega) (by omega)
  have ee1 : (nI (e + 1)).toNatClampNeg = e + 1 := nI_clamp (by omega)
  have he1 : vp_in (nI (e + 1)) 16 := vp_in_nI (by omega) (by omega)
  have h2 : nI (e + 2) - 2 = nI e := (pk_sub (a := e + 2) (b := 2) (by omega)).trans (congrArg nI (by omega))
  have hx : nI (e + 2) - 1 = nI (e + 1) := nI_pred (e + 1)
  exact br_f (nI_ge (b := 300) hi (by decide)) (br_t (nI_lt hpm (by omega)) (br_f hs256 (nm_r (nI_1 s) ⟨hv, nm_r (e' := nI 3) (by rw [ep, ho]) (nm_r (nI_1 p) (br_f (by decide) (br_f (by decide) (br_f (by decide) (br_f (by decide) (br_f (by decide) (br_t (nI_le (a := 2) (by omega) (by omega)) ⟨(by rw [hx]; exact he1), nm_r (e' := sk (e + 1)) (by rw [hx, ee1]) ⟨(by rw [h2]; exact he), nm_r (e' := sk e) (by rw [h2, ee]) (nm_e (br_f (by decide) (br_f (by decide) (br_f (by decide) (br_f (by decide) (nm_r (pk_m1 (e + 1)) ⟨by rw [nI_pred]; exact he, nm_r (e' := upd sk e (sk e + sk (e + 1))) (by rw [nI_pred, ee]) (nm_r (nI_1 i) hp)⟩))))))⟩⟩)))))))⟩)))
theorem cs_ey4 {p s i m fuel : Nat} {e : Nat} (hd : e + 2 ≤ 16) (hm : m ≤ 32) (hpm : p < m) (ho : po p = nI 4) (hs : s < 256) (hi : i < 300) (post : Int32 → SY → Prop) (hp : wY_holds_9 post pr cp ph gc gp (nI m) ml cl ol vl tr ac ca pa bk ix cL cH im yn yl yt yr yo fuel (nI (e + 1)) (nI (p + 1)) (nI (s + 1)) (nI (i + 1)) gk gb po yA mn cu og vl_ cd ou sN sS sQ sM (upd sk e (sk e - sk (e + 1)))) : wY_holds_9 post pr cp ph gc gp (nI m) ml cl ol vl tr ac ca pa bk ix cL cH im yn yl yt yr yo (fuel + 1) (nI (e + 2)) (nI p) (nI s) (nI i) gk gb po yA mn cu og vl_ cd ou sN sS sQ sM sk := by
  have ep : (nI p).toNatClampNeg = p := nI_clamp (by omega)
  have hv : vp_in (nI p) 32 := vp_in_nI (by omega) (by omega)
  have hs256 : ¬ nI s = 256 := fun z => absurd ((nI_eq (b := 256) (by omega) (by decide)).mp z) (by omega)
  have ee : (nI e).toNatClampNeg = e := nI_clamp (by omega)
  have he : vp_in (nI e) 16 := vp_in_nI (by omega) (by omega)
  have ee1 : (nI (e + 1)).toNatClampNeg = e + 1 := nI_clamp (by omega)
  have he1 : vp_in (nI (e + 1)) 16 := vp_in_nI (by omega) (by omega)
  have h2 : nI (e + 2) - 2 = nI e := (pk_sub (a := e + 2) (b := 2) (by omega)).trans (congrArg nI (by omega))
  have hx : nI (e + 2) - 1 = nI (e + 1) := nI_pred (e + 1)
  exact br_f (nI_ge (b := 300) hi (by decide)) (br_t (nI_lt hpm (by omega)) (br_f hs256 (nm_r (nI_1 s) ⟨hv, nm_r (e' := nI 4) (by rw [ep, ho]) (nm_r (nI_1 p) (br_f (by decide) (br_f (by decide) (br_f (by decide) (br_f (by decide) (br_f (by decide) (br_t (nI_le (a := 2) (by omega) (by omega)) ⟨(by rw [hx]; exact he1), nm_r (e' := sk (e + 1)) (by rw [hx, ee1]) ⟨(by rw [h2]; exact he), nm_r (e' := sk e) (by rw [h2, ee]) (nm_e (br_t rfl (nm_e (br_f (by decide) (br_f (by decide) (br_f (by decide) (nm_r (pk_m1 (e + 1)) ⟨by rw [nI_pred]; exact he, nm_r (e' := upd sk e (sk e - sk (e + 1))) (by rw [nI_pred, ee]) (nm_r (nI_1 i) hp)⟩)))))))⟩⟩)))))))⟩)))
theorem cs_ey5 {p s i m fuel : Nat} {e : Nat} (hd : e + 2 ≤ 16) (hm : m ≤ 32) (hpm : p < m) (ho : po p = nI 5) (hs : s < 256) (hi : i < 300) (post : Int32 → SY → Prop) (hp : wY_holds_9 post pr cp ph gc gp (nI m) ml cl ol vl tr ac ca pa bk ix cL cH im yn yl yt yr yo fuel (nI (e + 1)) (nI (p + 1)) (nI (s + 1)) (nI (i + 1)) gk gb po yA mn cu og vl_ cd ou sN sS sQ sM (upd sk e (sk e * sk (e + 1)))) : wY_holds_9 post pr cp ph gc gp (nI m) ml cl ol vl tr ac ca pa bk ix cL cH im yn yl yt yr yo (fuel + 1) (nI (e + 2)) (nI p) (nI s) (nI i) gk gb po yA mn cu og vl_ cd ou sN sS sQ sM sk := by
  have ep : (nI p).toNatClampNeg = p := nI_clamp (by omega)
  have hv : vp_in (nI p) 32 := vp_in_nI (by omega) (by omega)
  have hs256 : ¬ nI s = 256 := fun z => absurd ((nI_eq (b := 256) (by omega) (by decide)).mp z) (by omega)
  have ee : (nI e).toNatClampNeg = e := nI_clamp (by omega)
  have he : vp_in (nI e) 16 := vp_in_nI (by omega) (by omega)
  have ee1 : (nI (e + 1)).toNatClampNeg = e + 1 := nI_clamp (by omega)
  have he1 : vp_in (nI (e + 1)) 16 := vp_in_nI (by omega) (by omega)
  have h2 : nI (e + 2) - 2 = nI e := (pk_sub (a := e + 2) (b := 2) (by omega)).trans (congrArg nI (by omega))
  have hx : nI (e + 2) - 1 = nI (e + 1) := nI_pred (e + 1)
  exact br_f (nI_ge (b := 300) hi (by decide)) (br_t (nI_lt hpm (by omega)) (br_f hs256 (nm_r (nI_1 s) ⟨hv, nm_r (e' := nI 5) (by rw [ep, ho]) (nm_r (nI_1 p) (br_f (by decide) (br_f (by decide) (br_f (by decide) (br_f (by decide) (br_f (by decide) (br_t (nI_le (a := 2) (by omega) (by omega)) ⟨(by rw [hx]; exact he1), nm_r (e' := sk (e + 1)) (by rw [hx, ee1]) ⟨(by rw [h2]; exact he), nm_r (e' := sk e) (by rw [h2, ee]) (nm_e (br_f (by decide) (br_t rfl (nm_e (br_f (by decide) (br_f (by decide) (nm_r (pk_m1 (e + 1)) ⟨by rw [nI_pred]; exact he, nm_r (e' := upd sk e (sk e * sk (e + 1))) (by rw [nI_pred, ee]) (nm_r (nI_1 i) hp)⟩)))))))⟩⟩)))))))⟩)))
theorem cs_ey6 {p s i m fuel : Nat} {e : Nat} (hd : e + 2 ≤ 16) (hm : m ≤ 32) (hpm : p < m) (ho : po p = nI 6) (hs : s < 256) (hi : i < 300) (post : Int32 → SY → Prop) (hp : wY_holds_9 post pr cp ph gc gp (nI m) ml cl ol vl tr ac ca pa bk ix cL cH im yn yl yt yr yo fuel (nI (e + 1)) (nI (p + 1)) (nI (s + 1)) (nI (i + 1)) gk gb po yA mn cu og vl_ cd ou sN sS sQ sM (upd sk e ((if sk (e + 1) ≤ sk e then 0 else 1)))) : wY_holds_9 post pr cp ph gc gp (nI m) ml cl ol vl tr ac ca pa bk ix cL cH im yn yl yt yr yo (fuel + 1) (nI (e + 2)) (nI p) (nI s) (nI i) gk gb po yA mn cu og vl_ cd ou sN sS sQ sM sk := by
  have ep : (nI p).toNatClampNeg = p := nI_clamp (by omega)
  have hv : vp_in (nI p) 32 := vp_in_nI (by omega) (by omega)
  have hs256 : ¬ nI s = 256 := fun z => absurd ((nI_eq (b := 256) (by omega) (by decide)).mp z) (by omega)
  have ee : (nI e).toNatClampNeg = e := nI_clamp (by omega)
  have he : vp_in (nI e) 16 := vp_in_nI (by omega) (by omega)
  have ee1 : (nI (e + 1)).toNatClampNeg = e + 1 := nI_clamp (by omega)
  have he1 : vp_in (nI (e + 1)) 16 := vp_in_nI (by omega) (by omega)
  have h2 : nI (e + 2) - 2 = nI e := (pk_sub (a := e + 2) (b := 2) (by omega)).trans (congrArg nI (by omega))
  have hx : nI (e + 2) - 1 = nI (e + 1) := nI_pred (e + 1)
  refine br_f (nI_ge (b := 300) hi (by decide)) (br_t (nI_lt hpm (by omega)) (br_f hs256 (nm_r (nI_1 s) ⟨hv, nm_r (e' := nI 6) (by rw [ep, ho]) (nm_r (nI_1 p) (br_f (by decide) (br_f (by decide) (br_f (by decide) (br_f (by decide) (br_f (by decide) (br_t (nI_le (a := 2) (by omega) (by omega)) ⟨(by rw [hx]; exact he1), nm_r (e' := sk (e + 1)) (by rw [hx, ee1]) ⟨(by rw [h2]; exact he), nm_r (e' := sk e) (by rw [h2, ee]) (nm_e (br_f (by decide) (br_f (by decide) (br_t rfl ?_))))⟩⟩)))))))⟩)))
  by_cases z : sk (e + 1) ≤ sk e
  · rw [if_pos z] at hp
    exact br_t z (br_f (by decide) (nm_r (pk_m1 (e + 1)) ⟨by rw [nI_pred]; exact he, nm_r (e' := upd sk e (0)) (by rw [nI_pred, ee]) (nm_r (nI_1 i) hp)⟩))
  · rw [if_neg z] at hp
    exact br_f z (br_f (by decide) (nm_r (pk_m1 (e + 1)) ⟨by rw [nI_pred]; exact he, nm_r (e' := upd sk e (1)) (by rw [nI_pred, ee]) (nm_r (nI_1 i) hp)⟩))
theorem cs_ey7 {p s i m fuel : Nat} {e : Nat} (hd : e + 2 ≤ 16) (hm : m ≤ 32) (hpm : p < m) (ho : po p = nI 7) (hs : s < 256) (hi : i < 300) (post : Int32 → SY → Prop) (hp : wY_holds_9 post pr cp ph gc gp (nI m) ml cl ol vl tr ac ca pa bk ix cL cH im yn yl yt yr yo fuel (nI (e + 1)) (nI (p + 1)) (nI (s + 1)) (nI (i + 1)) gk gb po yA mn cu og vl_ cd ou sN sS sQ sM (upd sk e ((if sk e = sk (e + 1) then 1 else 0)))) : wY_holds_9 post pr cp ph gc gp (nI m) ml cl ol vl tr ac ca pa bk ix cL cH im yn yl yt yr yo (fuel + 1) (nI (e + 2)) (nI p) (nI s) (nI i) gk gb po yA mn cu og vl_ cd ou sN sS sQ sM sk := by
  have ep : (nI p).toNatClampNeg = p := nI_clamp (by omega)
  have hv : vp_in (nI p) 32 := vp_in_nI (by omega) (by omega)
  have hs256 : ¬ nI s = 256 := fun z => absurd ((nI_eq (b := 256) (by omega) (by decide)).mp z) (by omega)
  have ee : (nI e).toNatClampNeg = e := nI_clamp (by omega)
  have he : vp_in (nI e) 16 := vp_in_nI (by omega) (by omega)
  have ee1 : (nI (e + 1)).toNatClampNeg = e + 1 := nI_clamp (by omega)
  have he1 : vp_in (nI (e + 1)) 16 := vp_in_nI (by omega) (by omega)
  have h2 : nI (e + 2) - 2 = nI e := (pk_sub (a := e + 2) (b := 2) (by omega)).trans (congrArg nI (by omega))
  have hx : nI (e + 2) - 1 = nI (e + 1) := nI_pred (e + 1)
  refine br_f (nI_ge (b := 300) hi (by decide)) (br_t (nI_lt hpm (by omega)) (br_f hs256 (nm_r (nI_1 s) ⟨hv, nm_r (e' := nI 7) (by rw [ep, ho]) (nm_r (nI_1 p) (br_f (by decide) (br_f (by decide) (br_f (by decide) (br_f (by decide) (br_f (by decide) (br_t (nI_le (a := 2) (by omega) (by omega)) ⟨(by rw [hx]; exact he1), nm_r (e' := sk (e + 1)) (by rw [hx, ee1]) ⟨(by rw [h2]; exact he), nm_r (e' := sk e) (by rw [h2, ee]) (nm_e (br_f (by decide) (br_f (by decide) (br_f (by decide) (br_t rfl ?_)))))⟩⟩)))))))⟩)))
  by_cases z : sk e = sk (e + 1)
  · rw [if_pos z] at hp
    exact br_t z (nm_r (pk_m1 (e + 1)) ⟨by rw [nI_pred]; exact he, nm_r (e' := upd sk e (1)) (by rw [nI_pred, ee]) (nm_r (nI_1 i) hp)⟩)
  · rw [if_neg z] at hp
    exact br_f z (nm_r (pk_m1 (e + 1)) ⟨by rw [nI_pred]; exact he, nm_r (e' := upd sk e (0)) (by rw [nI_pred, ee]) (nm_r (nI_1 i) hp)⟩)
theorem cs_ey8 {p s i m fuel : Nat} {e : Nat} (hd : e + 1 ≤ 16) (hm : m ≤ 32) (hpm : p < m) (ho : po p = nI 8) (hs : s < 256) (hi : i < 300) (post : Int32 → SY → Prop) (hp : wY_holds_9 post pr cp ph gc gp (nI m) ml cl ol vl tr ac ca pa bk ix cL cH im yn yl yt yr yo fuel (nI (e + 1)) (nI (p + 1)) (nI (s + 1)) (nI (i + 1)) gk gb po yA mn cu og vl_ cd ou sN sS sQ sM (upd sk e (if sk e = 0 then 1 else 0))) : wY_holds_9 post pr cp ph gc gp (nI m) ml cl ol vl tr ac ca pa bk ix cL cH im yn yl yt yr yo (fuel + 1) (nI (e + 1)) (nI p) (nI s) (nI i) gk gb po yA mn cu og vl_ cd ou sN sS sQ sM sk := by
  have ep : (nI p).toNatClampNeg = p := nI_clamp (by omega)
  have hv : vp_in (nI p) 32 := vp_in_nI (by omega) (by omega)
  have hs256 : ¬ nI s = 256 := fun z => absurd ((nI_eq (b := 256) (by omega) (by decide)).mp z) (by omega)
  have ee : (nI e).toNatClampNeg = e := nI_clamp (by omega)
  have he : vp_in (nI e) 16 := vp_in_nI (by omega) (by omega)
  have hx : nI (e + 1) - 1 = nI e := nI_pred e
  refine br_f (nI_ge (b := 300) hi (by decide)) (br_t (nI_lt hpm (by omega)) (br_f hs256 (nm_r (nI_1 s) ⟨hv, nm_r (e' := nI 8) (by rw [ep, ho]) (nm_r (nI_1 p) (br_f (by decide) (br_f (by decide) (br_f (by decide) (br_f (by decide) (br_t (by decide) (br_t rfl (br_t (nI_le (a := 1) (by omega) (by omega)) ⟨(by rw [hx]; exact he), ?_⟩))))))))⟩)))
  by_cases z : sk e = 0
  · rw [if_pos z] at hp
    exact br_t (by rw [hx, ee]; exact z) ⟨(by rw [hx]; exact he), nm_r (e' := upd sk e 1) (by rw [hx, ee]) (nm_r (nI_1 i) hp)⟩
  · rw [if_neg z] at hp
    exact br_f (by rw [hx, ee]; exact z) ⟨(by rw [hx]; exact he), nm_r (e' := upd sk e 0) (by rw [hx, ee]) (nm_r (nI_1 i) hp)⟩
theorem cs_ey9 {p s i m fuel : Nat} {e : Nat} (hd : e + 1 < 16) (hm : m ≤ 32) (hpm : p < m) (ho : po p = nI 9) (hs : s < 256) (hi : i < 300) (post : Int32 → SY → Prop) (hp : wY_holds_9 post pr cp ph gc gp (nI m) ml cl ol vl tr ac ca pa bk ix cL cH im yn yl yt yr yo fuel (nI (e + 1 + 1)) (nI (p + 1)) (nI (s + 1)) (nI (i + 1)) gk gb po yA mn cu og vl_ cd ou sN sS sQ sM (upd sk (e + 1) (sk e))) : wY_holds_9 post pr cp ph gc gp (nI m) ml cl ol vl tr ac ca pa bk ix cL cH im yn yl yt yr yo (fuel + 1) (nI (e + 1)) (nI p) (nI s) (nI i) gk gb po yA mn cu og vl_ cd ou sN sS sQ sM sk := by
  have ep : (nI p).toNatClampNeg = p := nI_clamp (by omega)
  have hv : vp_in (nI p) 32 := vp_in_nI (by omega) (by omega)
  have hs256 : ¬ nI s = 256 := fun z => absurd ((nI_eq (b := 256) (by omega) (by decide)).mp z) (by omega)
  have ee : (nI e).toNatClampNeg = e := nI_clamp (by omega)
  have he : vp_in (nI e) 16 := vp_in_nI (by omega) (by omega)
  have hx : nI (e + 1) - 1 = nI e := nI_pred e
  exact br_f (nI_ge (b := 300) hi (by decide)) (br_t (nI_lt hpm (by omega)) (br_f hs256 (nm_r (nI_1 s) ⟨hv, nm_r (e' := nI 9) (by rw [ep, ho]) (nm_r (nI_1 p) (br_f (by decide) (br_f (by decide) (br_f (by decide) (br_f (by decide) (br_t (by decide) (br_f (by decide) (br_t rfl (br_f (by decide) (br_f (nI_nlt (b := 1) (by omega) (by omega)) (br_t (nI_lt (b := 16) hd (by decide)) ⟨(by rw [hx]; exact he), vp_in_nI hd (by omega), nm_r (e' := upd sk (e + 1) (sk e)) (by rw [hx, ee, nI_clamp (n := e + 1) (by omega)]) (nm_r (nI_1 (e + 1)) (nm_r (nI_1 i) hp))⟩)))))))))))⟩)))
theorem cs_ey10 {p s i m fuel : Nat} {e : Nat} (hd : e + 2 ≤ 16) (hm : m ≤ 32) (hpm : p < m) (ho : po p = nI 10) (hs : s < 256) (hi : i < 300) (post : Int32 → SY → Prop) (hp : wY_holds_9 post pr cp ph gc gp (nI m) ml cl ol vl tr ac ca pa bk ix cL cH im yn yl yt yr yo fuel (nI (e + 2)) (nI (p + 1)) (nI (s + 1)) (nI (i + 1)) gk gb po yA mn cu og vl_ cd ou sN sS sQ sM (upd (upd sk (e + 1) (sk e)) e (sk (e + 1)))) : wY_holds_9 post pr cp ph gc gp (nI m) ml cl ol vl tr ac ca pa bk ix cL cH im yn yl yt yr yo (fuel + 1) (nI (e + 2)) (nI p) (nI s) (nI i) gk gb po yA mn cu og vl_ cd ou sN sS sQ sM sk := by
  have ep : (nI p).toNatClampNeg = p := nI_clamp (by omega)
  have hv : vp_in (nI p) 32 := vp_in_nI (by omega) (by omega)
  have hs256 : ¬ nI s = 256 := fun z => absurd ((nI_eq (b := 256) (by omega) (by decide)).mp z) (by omega)
  have ee : (nI e).toNatClampNeg = e := nI_clamp (by omega)
  have he : vp_in (nI e) 16 := vp_in_nI (by omega) (by omega)
  have ee1 : (nI (e + 1)).toNatClampNeg = e + 1 := nI_clamp (by omega)
  have he1 : vp_in (nI (e + 1)) 16 := vp_in_nI (by omega) (by omega)
  have h2 : nI (e + 2) - 2 = nI e := (pk_sub (a := e + 2) (b := 2) (by omega)).trans (congrArg nI (by omega))
  have hx : nI (e + 2) - 1 = nI (e + 1) := nI_pred (e + 1)
  exact br_f (nI_ge (b := 300) hi (by decide)) (br_t (nI_lt hpm (by omega)) (br_f hs256 (nm_r (nI_1 s) ⟨hv, nm_r (e' := nI 10) (by rw [ep, ho]) (nm_r (nI_1 p) (br_f (by decide) (br_f (by decide) (br_f (by decide) (br_f (by decide) (br_t (by decide) (br_f (by decide) (br_f (by decide) (br_f (by decide) (br_t rfl (br_t (nI_le (a := 2) (by omega) (by omega)) ⟨(by rw [hx]; exact he1), nm_r (e' := sk (e + 1)) (by rw [hx, ee1]) ⟨(by rw [h2]; exact he), (by rw [hx]; exact he1), nm_r (e' := upd sk (e + 1) (sk e)) (by rw [hx, h2, ee, ee1]) ⟨(by rw [h2]; exact he), nm_r (e' := upd (upd sk (e + 1) (sk e)) e (sk (e + 1))) (by rw [h2, ee]) (nm_r (nI_1 i) hp)⟩⟩⟩)))))))))))⟩)))
theorem cs_ey11 {p s i m fuel : Nat} {e : Nat} (hd : e + 1 ≤ 16) (hm : m ≤ 32) (hpm : p < m) (ho : po p = nI 11) (hs : s < 256) (hi : i < 300) (post : Int32 → SY → Prop) (hp : wY_holds_9 post pr cp ph gc gp (nI m) ml cl ol vl tr ac ca pa bk ix cL cH im yn yl yt yr yo fuel (nI (e)) (nI (p + 1)) (nI (s + 1)) (nI (i + 1)) gk gb po yA mn cu og vl_ cd ou sN sS sQ sM sk) : wY_holds_9 post pr cp ph gc gp (nI m) ml cl ol vl tr ac ca pa bk ix cL cH im yn yl yt yr yo (fuel + 1) (nI (e + 1)) (nI p) (nI s) (nI i) gk gb po yA mn cu og vl_ cd ou sN sS sQ sM sk := by
  have ep : (nI p).toNatClampNeg = p := nI_clamp (by omega)
  have hv : vp_in (nI p) 32 := vp_in_nI (by omega) (by omega)
  have hs256 : ¬ nI s = 256 := fun z => absurd ((nI_eq (b := 256) (by omega) (by decide)).mp z) (by omega)
  have ee : (nI e).toNatClampNeg = e := nI_clamp (by omega)
  have he : vp_in (nI e) 16 := vp_in_nI (by omega) (by omega)
  have hx : nI (e + 1) - 1 = nI e := nI_pred e
  exact br_f (nI_ge (b := 300) hi (by decide)) (br_t (nI_lt hpm (by omega)) (br_f hs256 (nm_r (nI_1 s) ⟨hv, nm_r (e' := nI 11) (by rw [ep, ho]) (nm_r (nI_1 p) (br_f (by decide) (br_f (by decide) (br_f (by decide) (br_f (by decide) (br_t (by decide) (br_f (by decide) (br_f (by decide) (br_f (by decide) (br_f (by decide) (br_t rfl (br_t (nI_le (a := 1) (by omega) (by omega)) (nm_r (pk_m1 e) (br_f (by decide) (nm_r (nI_1 i) hp)))))))))))))))⟩)))
theorem cs_ey12 {p s i m fuel : Nat} {e : Nat} (hd : e + 2 < 16) (hm : m ≤ 32) (hpm : p < m) (ho : po p = nI 12) (hs : s < 256) (hi : i < 300) (post : Int32 → SY → Prop) (hp : wY_holds_9 post pr cp ph gc gp (nI m) ml cl ol vl tr ac ca pa bk ix cL cH im yn yl yt yr yo fuel (nI (e + 2 + 1)) (nI (p + 1)) (nI (s + 1)) (nI (i + 1)) gk gb po yA mn cu og vl_ cd ou sN sS sQ sM (upd sk (e + 2) (sk e))) : wY_holds_9 post pr cp ph gc gp (nI m) ml cl ol vl tr ac ca pa bk ix cL cH im yn yl yt yr yo (fuel + 1) (nI (e + 2)) (nI p) (nI s) (nI i) gk gb po yA mn cu og vl_ cd ou sN sS sQ sM sk := by
  have ep : (nI p).toNatClampNeg = p := nI_clamp (by omega)
  have hv : vp_in (nI p) 32 := vp_in_nI (by omega) (by omega)
  have hs256 : ¬ nI s = 256 := fun z => absurd ((nI_eq (b := 256) (by omega) (by decide)).mp z) (by omega)
  have ee : (nI e).toNatClampNeg = e := nI_clamp (by omega)
  have he : vp_in (nI e) 16 := vp_in_nI (by omega) (by omega)
  have ee1 : (nI (e + 1)).toNatClampNeg = e + 1 := nI_clamp (by omega)
  have he1 : vp_in (nI (e + 1)) 16 := vp_in_nI (by omega) (by omega)
  have h2 : nI (e + 2) - 2 = nI e := (pk_sub (a := e + 2) (b := 2) (by omega)).trans (congrArg nI (by omega))
  have hx : nI (e + 2) - 1 = nI (e + 1) := nI_pred (e + 1)
  exact br_f (nI_ge (b := 300) hi (by decide)) (br_t (nI_lt hpm (by omega)) (br_f hs256 (nm_r (nI_1 s) ⟨hv, nm_r (e' := nI 12) (by rw [ep, ho]) (nm_r (nI_1 p) (br_f (by decide) (br_f (by decide) (br_f (by decide) (br_f (by decide) (br_t (by decide) (br_f (by decide) (br_f (by decide) (br_t rfl (br_t rfl (br_f (nI_nlt (b := 2) (by omega) (by omega)) (br_t (nI_lt (b := 16) hd (by decide)) ⟨(by rw [h2]; exact he), vp_in_nI hd (by omega), nm_r (e' := upd sk (e + 2) (sk e)) (by rw [h2, ee, nI_clamp (n := e + 2) (by omega)]) (nm_r (nI_1 (e + 2)) (nm_r (nI_1 i) hp))⟩))))))))))))⟩)))
theorem cs_ey13 {p s i m fuel : Nat} {e : Nat} (hd : e + 1 ≤ 16) (hm : m ≤ 32) (hpm : p < m) (ho : po p = nI 13) (hs : s < 256) (hi : i < 300) (post : Int32 → SY → Prop) (hp : wY_holds_9 post pr cp ph gc gp (nI m) ml cl ol vl tr ac ca pa bk ix cL cH im yn yl yt yr yo fuel (nI (e)) ((if sk e = 0 then yA p else nI (p + 1))) (nI (s + 1)) (nI (i + 1)) gk gb po yA mn cu og vl_ cd ou sN sS sQ sM sk) : wY_holds_9 post pr cp ph gc gp (nI m) ml cl ol vl tr ac ca pa bk ix cL cH im yn yl yt yr yo (fuel + 1) (nI (e + 1)) (nI p) (nI s) (nI i) gk gb po yA mn cu og vl_ cd ou sN sS sQ sM sk := by
  have ep : (nI p).toNatClampNeg = p := nI_clamp (by omega)
  have hv : vp_in (nI p) 32 := vp_in_nI (by omega) (by omega)
  have hs256 : ¬ nI s = 256 := fun z => absurd ((nI_eq (b := 256) (by omega) (by decide)).mp z) (by omega)
  have ee : (nI e).toNatClampNeg = e := nI_clamp (by omega)
  have he : vp_in (nI e) 16 := vp_in_nI (by omega) (by omega)
  have hx : nI (e + 1) - 1 = nI e := nI_pred e
  refine br_f (nI_ge (b := 300) hi (by decide)) (br_t (nI_lt hpm (by omega)) (br_f hs256 (nm_r (nI_1 s) ⟨hv, nm_r (e' := nI 13) (by rw [ep, ho]) (nm_r (nI_1 p) (br_f (by decide) (br_f (by decide) (br_f (by decide) (br_f (by decide) (br_t (by decide) (br_f (by decide) (br_f (by decide) (br_f (by decide) (br_f (by decide) (br_f (by decide) (br_t rfl (br_t (nI_le (a := 1) (by omega) (by omega)) (nm_r (pk_m1 e) (br_t rfl ⟨he, ?_⟩)))))))))))))))⟩)))
  by_cases z : sk e = 0
  · rw [if_pos z] at hp
    exact br_t (by rw [ee]; exact z) ⟨hv, nm_r (e' := yA p) (by rw [ep]) (nm_r (nI_1 i) hp)⟩
  · rw [if_neg z] at hp
    exact br_f (by rw [ee]; exact z) (nm_r (nI_1 i) hp)
theorem cs_ey14 {p s i m fuel : Nat} {d : Nat} (hd : d ≤ 16) (hm : m ≤ 32) (hpm : p < m) (ho : po p = nI 14) (hs : s < 256) (hi : i < 300) (post : Int32 → SY → Prop) (hp : wY_holds_9 post pr cp ph gc gp (nI m) ml cl ol vl tr ac ca pa bk ix cL cH im yn yl yt yr yo fuel (nI (d)) (yA p) (nI (s + 1)) (nI (i + 1)) gk gb po yA mn cu og vl_ cd ou sN sS sQ sM sk) : wY_holds_9 post pr cp ph gc gp (nI m) ml cl ol vl tr ac ca pa bk ix cL cH im yn yl yt yr yo (fuel + 1) (nI (d)) (nI p) (nI s) (nI i) gk gb po yA mn cu og vl_ cd ou sN sS sQ sM sk := by
  have ep : (nI p).toNatClampNeg = p := nI_clamp (by omega)
  have hv : vp_in (nI p) 32 := vp_in_nI (by omega) (by omega)
  have hs256 : ¬ nI s = 256 := fun z => absurd ((nI_eq (b := 256) (by omega) (by decide)).mp z) (by omega)
  have ee : (nI d).toNatClampNeg = d := nI_clamp (by omega)
  exact br_f (nI_ge (b := 300) hi (by decide)) (br_t (nI_lt hpm (by omega)) (br_f hs256 (nm_r (nI_1 s) ⟨hv, nm_r (e' := nI 14) (by rw [ep, ho]) (nm_r (nI_1 p) (br_f (by decide) (br_f (by decide) (br_f (by decide) (br_f (by decide) (br_t (by decide) (br_f (by decide) (br_f (by decide) (br_f (by decide) (br_f (by decide) (br_f (by decide) (br_f (by decide) (⟨hv, nm_r (e' := yA p) (by rw [ep]) (nm_r (nI_1 i) hp)⟩)))))))))))))⟩)))
theorem cs_eyG0 {p s i m fuel : Nat} (hm : m ≤ 32) (hpm : p < m) (ho : po p = nI 0) (hs : s < 256) (hi : i < 300) (post : Int32 → SY → Prop) (hp : post 0 (pr, cp, ph, gc, gp, nI m, ml, cl, ol, vl, tr, ac, ca, pa, bk, ix, cL, cH, im, yn, yl, yt, yr, yo, gk, gb, po, yA, mn, cu, og, vl_, cd, ou, sN, sS, sQ, sM, sk)) : wY_holds_9 post pr cp ph gc gp (nI m) ml cl ol vl tr ac ca pa bk ix cL cH im yn yl yt yr yo (fuel + 1) (nI (16)) (nI p) (nI s) (nI i) gk gb po yA mn cu og vl_ cd ou sN sS sQ sM sk := by
  have ep : (nI p).toNatClampNeg = p := nI_clamp (by omega)
  have hv : vp_in (nI p) 32 := vp_in_nI (by omega) (by omega)
  have hs256 : ¬ nI s = 256 := fun z => absurd ((nI_eq (b := 256) (by omega) (by decide)).mp z) (by omega)
  exact br_f (nI_ge (b := 300) hi (by decide)) (br_t (nI_lt hpm (by omega)) (br_f hs256 (nm_r (nI_1 s) ⟨hv, nm_r (e' := nI 0) (by rw [ep, ho]) (nm_r (nI_1 p) (br_t rfl (br_f (by decide) hp)))⟩)))
theorem cs_eyF1 {p s i m fuel : Nat} {d : Nat} (hd : d < 1) (hm : m ≤ 32) (hpm : p < m) (ho : po p = nI 1) (hs : s < 256) (hi : i < 300) (post : Int32 → SY → Prop) (hp : post 0 (pr, cp, ph, gc, gp, nI m, ml, cl, ol, vl, tr, ac, ca, pa, bk, ix, cL, cH, im, yn, yl, yt, yr, yo, gk, gb, po, yA, mn, cu, og, vl_, cd, ou, sN, sS, sQ, sM, sk)) : wY_holds_9 post pr cp ph gc gp (nI m) ml cl ol vl tr ac ca pa bk ix cL cH im yn yl yt yr yo (fuel + 1) (nI (d)) (nI p) (nI s) (nI i) gk gb po yA mn cu og vl_ cd ou sN sS sQ sM sk := by
  have ep : (nI p).toNatClampNeg = p := nI_clamp (by omega)
  have hv : vp_in (nI p) 32 := vp_in_nI (by omega) (by omega)
  have hs256 : ¬ nI s = 256 := fun z => absurd ((nI_eq (b := 256) (by omega) (by decide)).mp z) (by omega)
  exact br_f (nI_ge (b := 300) hi (by decide)) (br_t (nI_lt hpm (by omega)) (br_f hs256 (nm_r (nI_1 s) ⟨hv, nm_r (e' := nI 1) (by rw [ep, ho]) (nm_r (nI_1 p) (br_f (by decide) (br_f (by decide) (br_t rfl (br_f (nI_ge (b := 1) hd (by decide)) hp)))))⟩)))
theorem cs_eyG2 {p s i m fuel : Nat} (hm : m ≤ 32) (hpm : p < m) (ho : po p = nI 2) (hs : s < 256) (hi : i < 300) (post : Int32 → SY → Prop) (hp : post 0 (pr, cp, ph, gc, gp, nI m, ml, cl, ol, vl, tr, ac, ca, pa, bk, ix, cL, cH, im, yn, yl, yt, yr, yo, gk, gb, po, yA, mn, cu, og, vl_, cd, ou, sN, sS, sQ, sM, sk)) : wY_holds_9 post pr cp ph gc gp (nI m) ml cl ol vl tr ac ca pa bk ix cL cH im yn yl yt yr yo (fuel + 1) (nI (16)) (nI p) (nI s) (nI i) gk gb po yA mn cu og vl_ cd ou sN sS sQ sM sk := by
  have ep : (nI p).toNatClampNeg = p := nI_clamp (by omega)
  have hv : vp_in (nI p) 32 := vp_in_nI (by omega) (by omega)
  have hs256 : ¬ nI s = 256 := fun z => absurd ((nI_eq (b := 256) (by omega) (by decide)).mp z) (by omega)
  exact br_f (nI_ge (b := 300) hi (by decide)) (br_t (nI_lt hpm (by omega)) (br_f hs256 (nm_r (nI_1 s) ⟨hv, nm_r (e' := nI 2) (by rw [ep, ho]) (nm_r (nI_1 p) (br_f (by decide) (br_t rfl (br_f (by decide) hp))))⟩)))
theorem cs_eyF3 {p s i m fuel : Nat} {d : Nat} (hd : d < 2) (hm : m ≤ 32) (hpm : p < m) (ho : po p = nI 3) (hs : s < 256) (hi : i < 300) (post : Int32 → SY → Prop) (hp : post 0 (pr, cp, ph, gc, gp, nI m, ml, cl, ol, vl, tr, ac, ca, pa, bk, ix, cL, cH, im, yn, yl, yt, yr, yo, gk, gb, po, yA, mn, cu, og, vl_, cd, ou, sN, sS, sQ, sM, sk)) : wY_holds_9 post pr cp ph gc gp (nI m) ml cl ol vl tr ac ca pa bk ix cL cH im yn yl yt yr yo (fuel + 1) (nI (d)) (nI p) (nI s) (nI i) gk gb po yA mn cu og vl_ cd ou sN sS sQ sM sk := by
  have ep : (nI p).toNatClampNeg = p := nI_clamp (by omega)
  have hv : vp_in (nI p) 32 := vp_in_nI (by omega) (by omega)
  have hs256 : ¬ nI s = 256 := fun z => absurd ((nI_eq (b := 256) (by omega) (by decide)).mp z) (by omega)
  exact br_f (nI_ge (b := 300) hi (by decide)) (br_t (nI_lt hpm (by omega)) (br_f hs256 (nm_r (nI_1 s) ⟨hv, nm_r (e' := nI 3) (by rw [ep, ho]) (nm_r (nI_1 p) (br_f (by decide) (br_f (by decide) (br_f (by decide) (br_f (by decide) (br_f (by decide) (br_f (nI_ge (b := 2) hd (by decide)) hp)))))))⟩)))
theorem cs_eyF4 {p s i m fuel : Nat} {d : Nat} (hd : d < 2) (hm : m ≤ 32) (hpm : p < m) (ho : po p = nI 4) (hs : s < 256) (hi : i < 300) (post : Int32 → SY → Prop) (hp : post 0 (pr, cp, ph, gc, gp, nI m, ml, cl, ol, vl, tr, ac, ca, pa, bk, ix, cL, cH, im, yn, yl, yt, yr, yo, gk, gb, po, yA, mn, cu, og, vl_, cd, ou, sN, sS, sQ, sM, sk)) : wY_holds_9 post pr cp ph gc gp (nI m) ml cl ol vl tr ac ca pa bk ix cL cH im yn yl yt yr yo (fuel + 1) (nI (d)) (nI p) (nI s) (nI i) gk gb po yA mn cu og vl_ cd ou sN sS sQ sM sk := by
  have ep : (nI p).toNatClampNeg = p := nI_clamp (by omega)
  have hv : vp_in (nI p) 32 := vp_in_nI (by omega) (by omega)
  have hs256 : ¬ nI s = 256 := fun z => absurd ((nI_eq (b := 256) (by omega) (by decide)).mp z) (by omega)
  exact br_f (nI_ge (b := 300) hi (by decide)) (br_t (nI_lt hpm (by omega)) (br_f hs256 (nm_r (nI_1 s) ⟨hv, nm_r (e' := nI 4) (by rw [ep, ho]) (nm_r (nI_1 p) (br_f (by decide) (br_f (by decide) (br_f (by decide) (br_f (by decide) (br_f (by decide) (br_f (nI_ge (b := 2) hd (by decide)) hp)))))))⟩)))
theorem cs_eyF5 {p s i m fuel : Nat} {d : Nat} (hd : d < 2) (hm : m ≤ 32) (hpm : p < m) (ho : po p = nI 5) (hs : s < 256) (hi : i < 300) (post : Int32 → SY → Prop) (hp : post 0 (pr, cp, ph, gc, gp, nI m, ml, cl, ol, vl, tr, ac, ca, pa, bk, ix, cL, cH, im, yn, yl, yt, yr, yo, gk, gb, po, yA, mn, cu, og, vl_, cd, ou, sN, sS, sQ, sM, sk)) : wY_holds_9 post pr cp ph gc gp (nI m) ml cl ol vl tr ac ca pa bk ix cL cH im yn yl yt yr yo (fuel + 1) (nI (d)) (nI p) (nI s) (nI i) gk gb po yA mn cu og vl_ cd ou sN sS sQ sM sk := by
  have ep : (nI p).toNatClampNeg = p := nI_clamp (by omega)
  have hv : vp_in (nI p) 32 := vp_in_nI (by omega) (by omega)
  have hs256 : ¬ nI s = 256 := fun z => absurd ((nI_eq (b := 256) (by omega) (by decide)).mp z) (by omega)
  exact br_f (nI_ge (b := 300) hi (by decide)) (br_t (nI_lt hpm (by omega)) (br_f hs256 (nm_r (nI_1 s) ⟨hv, nm_r (e' := nI 5) (by rw [ep, ho]) (nm_r (nI_1 p) (br_f (by decide) (br_f (by decide) (br_f (by decide) (br_f (by decide) (br_f (by decide) (br_f (nI_ge (b := 2) hd (by decide)) hp)))))))⟩)))
theorem cs_eyF6 {p s i m fuel : Nat} {d : Nat} (hd : d < 2) (hm : m ≤ 32) (hpm : p < m) (ho : po p = nI 6) (hs : s < 256) (hi : i < 300) (post : Int32 → SY → Prop) (hp : post 0 (pr, cp, ph, gc, gp, nI m, ml, cl, ol, vl, tr, ac, ca, pa, bk, ix, cL, cH, im, yn, yl, yt, yr, yo, gk, gb, po, yA, mn, cu, og, vl_, cd, ou, sN, sS, sQ, sM, sk)) : wY_holds_9 post pr cp ph gc gp (nI m) ml cl ol vl tr ac ca pa bk ix cL cH im yn yl yt yr yo (fuel + 1) (nI (d)) (nI p) (nI s) (nI i) gk gb po yA mn cu og vl_ cd ou sN sS sQ sM sk := by
  have ep : (nI p).toNatClampNeg = p := nI_clamp (by omega)
  have hv : vp_in (nI p) 32 := vp_in_nI (by omega) (by omega)
  have hs256 : ¬ nI s = 256 := fun z => absurd ((nI_eq (b := 256) (by omega) (by decide)).mp z) (by omega)
  exact br_f (nI_ge (b := 300) hi (by decide)) (br_t (nI_lt hpm (by omega)) (br_f hs256 (nm_r (nI_1 s) ⟨hv, nm_r (e' := nI 6) (by rw [ep, ho]) (nm_r (nI_1 p) (br_f (by decide) (br_f (by decide) (br_f (by decide) (br_f (by decide) (br_f (by decide) (br_f (nI_ge (b := 2) hd (by decide)) hp)))))))⟩)))
theorem cs_eyF7 {p s i m fuel : Nat} {d : Nat} (hd : d < 2) (hm : m ≤ 32) (hpm : p < m) (ho : po p = nI 7) (hs : s < 256) (hi : i < 300) (post : Int32 → SY → Prop) (hp : post 0 (pr, cp, ph, gc, gp, nI m, ml, cl, ol, vl, tr, ac, ca, pa, bk, ix, cL, cH, im, yn, yl, yt, yr, yo, gk, gb, po, yA, mn, cu, og, vl_, cd, ou, sN, sS, sQ, sM, sk)) : wY_holds_9 post pr cp ph gc gp (nI m) ml cl ol vl tr ac ca pa bk ix cL cH im yn yl yt yr yo (fuel + 1) (nI (d)) (nI p) (nI s) (nI i) gk gb po yA mn cu og vl_ cd ou sN sS sQ sM sk := by
  have ep : (nI p).toNatClampNeg = p := nI_clamp (by omega)
  have hv : vp_in (nI p) 32 := vp_in_nI (by omega) (by omega)
  have hs256 : ¬ nI s = 256 := fun z => absurd ((nI_eq (b := 256) (by omega) (by decide)).mp z) (by omega)
  exact br_f (nI_ge (b := 300) hi (by decide)) (br_t (nI_lt hpm (by omega)) (br_f hs256 (nm_r (nI_1 s) ⟨hv, nm_r (e' := nI 7) (by rw [ep, ho]) (nm_r (nI_1 p) (br_f (by decide) (br_f (by decide) (br_f (by decide) (br_f (by decide) (br_f (by decide) (br_f (nI_ge (b := 2) hd (by decide)) hp)))))))⟩)))
theorem cs_eyF8 {p s i m fuel : Nat} {d : Nat} (hd : d < 1) (hm : m ≤ 32) (hpm : p < m) (ho : po p = nI 8) (hs : s < 256) (hi : i < 300) (post : Int32 → SY → Prop) (hp : post 0 (pr, cp, ph, gc, gp, nI m, ml, cl, ol, vl, tr, ac, ca, pa, bk, ix, cL, cH, im, yn, yl, yt, yr, yo, gk, gb, po, yA, mn, cu, og, vl_, cd, ou, sN, sS, sQ, sM, sk)) : wY_holds_9 post pr cp ph gc gp (nI m) ml cl ol vl tr ac ca pa bk ix cL cH im yn yl yt yr yo (fuel + 1) (nI (d)) (nI p) (nI s) (nI i) gk gb po yA mn cu og vl_ cd ou sN sS sQ sM sk := by
  have ep : (nI p).toNatClampNeg = p := nI_clamp (by omega)
  have hv : vp_in (nI p) 32 := vp_in_nI (by omega) (by omega)
  have hs256 : ¬ nI s = 256 := fun z => absurd ((nI_eq (b := 256) (by omega) (by decide)).mp z) (by omega)
  exact br_f (nI_ge (b := 300) hi (by decide)) (br_t (nI_lt hpm (by omega)) (br_f hs256 (nm_r (nI_1 s) ⟨hv, nm_r (e' := nI 8) (by rw [ep, ho]) (nm_r (nI_1 p) (br_f (by decide) (br_f (by decide) (br_f (by decide) (br_f (by decide) (br_t (by decide) (br_t rfl (br_f (nI_ge (b := 1) hd (by decide)) hp))))))))⟩)))
theorem cs_eyF9 {p s i m fuel : Nat} {d : Nat} (hd : d < 1) (hm : m ≤ 32) (hpm : p < m) (ho : po p = nI 9) (hs : s < 256) (hi : i < 300) (post : Int32 → SY → Prop) (hp : post 0 (pr, cp, ph, gc, gp, nI m, ml, cl, ol, vl, tr, ac, ca, pa, bk, ix, cL, cH, im, yn, yl, yt, yr, yo, gk, gb, po, yA, mn, cu, og, vl_, cd, ou, sN, sS, sQ, sM, sk)) : wY_holds_9 post pr cp ph gc gp (nI m) ml cl ol vl tr ac ca pa bk ix cL cH im yn yl yt yr yo (fuel + 1) (nI (d)) (nI p) (nI s) (nI i) gk gb po yA mn cu og vl_ cd ou sN sS sQ sM sk := by
  have ep : (nI p).toNatClampNeg = p := nI_clamp (by omega)
  have hv : vp_in (nI p) 32 := vp_in_nI (by omega) (by omega)
  have hs256 : ¬ nI s = 256 := fun z => absurd ((nI_eq (b := 256) (by omega) (by decide)).mp z) (by omega)
  exact br_f (nI_ge (b := 300) hi (by decide)) (br_t (nI_lt hpm (by omega)) (br_f hs256 (nm_r (nI_1 s) ⟨hv, nm_r (e' := nI 9) (by rw [ep, ho]) (nm_r (nI_1 p) (br_f (by decide) (br_f (by decide) (br_f (by decide) (br_f (by decide) (br_t (by decide) (br_f (by decide) (br_t rfl (br_f (by decide) (br_t (nI_lt (b := 1) hd (by decide)) hp))))))))))⟩)))
theorem cs_eyG9 {p s i m fuel : Nat} (hm : m ≤ 32) (hpm : p < m) (ho : po p = nI 9) (hs : s < 256) (hi : i < 300) (post : Int32 → SY → Prop) (hp : post 0 (pr, cp, ph, gc, gp, nI m, ml, cl, ol, vl, tr, ac, ca, pa, bk, ix, cL, cH, im, yn, yl, yt, yr, yo, gk, gb, po, yA, mn, cu, og, vl_, cd, ou, sN, sS, sQ, sM, sk)) : wY_holds_9 post pr cp ph gc gp (nI m) ml cl ol vl tr ac ca pa bk ix cL cH im yn yl yt yr yo (fuel + 1) (nI (16)) (nI p) (nI s) (nI i) gk gb po yA mn cu og vl_ cd ou sN sS sQ sM sk := by
  have ep : (nI p).toNatClampNeg = p := nI_clamp (by omega)
  have hv : vp_in (nI p) 32 := vp_in_nI (by omega) (by omega)
  have hs256 : ¬ nI s = 256 := fun z => absurd ((nI_eq (b := 256) (by omega) (by decide)).mp z) (by omega)
  exact br_f (nI_ge (b := 300) hi (by decide)) (br_t (nI_lt hpm (by omega)) (br_f hs256 (nm_r (nI_1 s) ⟨hv, nm_r (e' := nI 9) (by rw [ep, ho]) (nm_r (nI_1 p) (br_f (by decide) (br_f (by decide) (br_f (by decide) (br_f (by decide) (br_t (by decide) (br_f (by decide) (br_t rfl (br_f (by decide) (br_f (by decide) (br_f (by decide) hp)))))))))))⟩)))
theorem cs_eyF10 {p s i m fuel : Nat} {d : Nat} (hd : d < 2) (hm : m ≤ 32) (hpm : p < m) (ho : po p = nI 10) (hs : s < 256) (hi : i < 300) (post : Int32 → SY → Prop) (hp : post 0 (pr, cp, ph, gc, gp, nI m, ml, cl, ol, vl, tr, ac, ca, pa, bk, ix, cL, cH, im, yn, yl, yt, yr, yo, gk, gb, po, yA, mn, cu, og, vl_, cd, ou, sN, sS, sQ, sM, sk)) : wY_holds_9 post pr cp ph gc gp (nI m) ml cl ol vl tr ac ca pa bk ix cL cH im yn yl yt yr yo (fuel + 1) (nI (d)) (nI p) (nI s) (nI i) gk gb po yA mn cu og vl_ cd ou sN sS sQ sM sk := by
  have ep : (nI p).toNatClampNeg = p := nI_clamp (by omega)
  have hv : vp_in (nI p) 32 := vp_in_nI (by omega) (by omega)
  have hs256 : ¬ nI s = 256 := fun z => absurd ((nI_eq (b := 256) (by omega) (by decide)).mp z) (by omega)
  exact br_f (nI_ge (b := 300) hi (by decide)) (br_t (nI_lt hpm (by omega)) (br_f hs256 (nm_r (nI_1 s) ⟨hv, nm_r (e' := nI 10) (by rw [ep, ho]) (nm_r (nI_1 p) (br_f (by decide) (br_f (by decide) (br_f (by decide) (br_f (by decide) (br_t (by decide) (br_f (by decide) (br_f (by decide) (br_f (by decide) (br_t rfl (br_f (nI_ge (b := 2) hd (by decide)) hp)))))))))))⟩)))
theorem cs_eyF11 {p s i m fuel : Nat} {d : Nat} (hd : d < 1) (hm : m ≤ 32) (hpm : p < m) (ho : po p = nI 11) (hs : s < 256) (hi : i < 300) (post : Int32 → SY → Prop) (hp : post 0 (pr, cp, ph, gc, gp, nI m, ml, cl, ol, vl, tr, ac, ca, pa, bk, ix, cL, cH, im, yn, yl, yt, yr, yo, gk, gb, po, yA, mn, cu, og, vl_, cd, ou, sN, sS, sQ, sM, sk)) : wY_holds_9 post pr cp ph gc gp (nI m) ml cl ol vl tr ac ca pa bk ix cL cH im yn yl yt yr yo (fuel + 1) (nI (d)) (nI p) (nI s) (nI i) gk gb po yA mn cu og vl_ cd ou sN sS sQ sM sk := by
  have ep : (nI p).toNatClampNeg = p := nI_clamp (by omega)
  have hv : vp_in (nI p) 32 := vp_in_nI (by omega) (by omega)
  have hs256 : ¬ nI s = 256 := fun z => absurd ((nI_eq (b := 256) (by omega) (by decide)).mp z) (by omega)
  exact br_f (nI_ge (b := 300) hi (by decide)) (br_t (nI_lt hpm (by omega)) (br_f hs256 (nm_r (nI_1 s) ⟨hv, nm_r (e' := nI 11) (by rw [ep, ho]) (nm_r (nI_1 p) (br_f (by decide) (br_f (by decide) (br_f (by decide) (br_f (by decide) (br_t (by decide) (br_f (by decide) (br_f (by decide) (br_f (by decide) (br_f (by decide) (br_t rfl (br_f (nI_ge (b := 1) hd (by decide)) hp))))))))))))⟩)))
theorem cs_eyF12 {p s i m fuel : Nat} {d : Nat} (hd : d < 2) (hm : m ≤ 32) (hpm : p < m) (ho : po p = nI 12) (hs : s < 256) (hi : i < 300) (post : Int32 → SY → Prop) (hp : post 0 (pr, cp, ph, gc, gp, nI m, ml, cl, ol, vl, tr, ac, ca, pa, bk, ix, cL, cH, im, yn, yl, yt, yr, yo, gk, gb, po, yA, mn, cu, og, vl_, cd, ou, sN, sS, sQ, sM, sk)) : wY_holds_9 post pr cp ph gc gp (nI m) ml cl ol vl tr ac ca pa bk ix cL cH im yn yl yt yr yo (fuel + 1) (nI (d)) (nI p) (nI s) (nI i) gk gb po yA mn cu og vl_ cd ou sN sS sQ sM sk := by
  have ep : (nI p).toNatClampNeg = p := nI_clamp (by omega)
  have hv : vp_in (nI p) 32 := vp_in_nI (by omega) (by omega)
  have hs256 : ¬ nI s = 256 := fun z => absurd ((nI_eq (b := 256) (by omega) (by decide)).mp z) (by omega)
  exact br_f (nI_ge (b := 300) hi (by decide)) (br_t (nI_lt hpm (by omega)) (br_f hs256 (nm_r (nI_1 s) ⟨hv, nm_r (e' := nI 12) (by rw [ep, ho]) (nm_r (nI_1 p) (br_f (by decide) (br_f (by decide) (br_f (by decide) (br_f (by decide) (br_t (by decide) (br_f (by decide) (br_f (by decide) (br_t rfl (br_t rfl (br_t (nI_lt (b := 2) hd (by decide)) hp)))))))))))⟩)))
theorem cs_eyG12 {p s i m fuel : Nat} (hm : m ≤ 32) (hpm : p < m) (ho : po p = nI 12) (hs : s < 256) (hi : i < 300) (post : Int32 → SY → Prop) (hp : post 0 (pr, cp, ph, gc, gp, nI m, ml, cl, ol, vl, tr, ac, ca, pa, bk, ix, cL, cH, im, yn, yl, yt, yr, yo, gk, gb, po, yA, mn, cu, og, vl_, cd, ou, sN, sS, sQ, sM, sk)) : wY_holds_9 post pr cp ph gc gp (nI m) ml cl ol vl tr ac ca pa bk ix cL cH im yn yl yt yr yo (fuel + 1) (nI (16)) (nI p) (nI s) (nI i) gk gb po yA mn cu og vl_ cd ou sN sS sQ sM sk := by
  have ep : (nI p).toNatClampNeg = p := nI_clamp (by omega)
  have hv : vp_in (nI p) 32 := vp_in_nI (by omega) (by omega)
  have hs256 : ¬ nI s = 256 := fun z => absurd ((nI_eq (b := 256) (by omega) (by decide)).mp z) (by omega)
  exact br_f (nI_ge (b := 300) hi (by decide)) (br_t (nI_lt hpm (by omega)) (br_f hs256 (nm_r (nI_1 s) ⟨hv, nm_r (e' := nI 12) (by rw [ep, ho]) (nm_r (nI_1 p) (br_f (by decide) (br_f (by decide) (br_f (by decide) (br_f (by decide) (br_t (by decide) (br_f (by decide) (br_f (by decide) (br_t rfl (br_t rfl (br_f (by decide) (br_f (by decide) hp))))))))))))⟩)))
theorem cs_eyF13 {p s i m fuel : Nat} {d : Nat} (hd : d < 1) (hm : m ≤ 32) (hpm : p < m) (ho : po p = nI 13) (hs : s < 256) (hi : i < 300) (post : Int32 → SY → Prop) (hp : post 0 (pr, cp, ph, gc, gp, nI m, ml, cl, ol, vl, tr, ac, ca, pa, bk, ix, cL, cH, im, yn, yl, yt, yr, yo, gk, gb, po, yA, mn, cu, og, vl_, cd, ou, sN, sS, sQ, sM, sk)) : wY_holds_9 post pr cp ph gc gp (nI m) ml cl ol vl tr ac ca pa bk ix cL cH im yn yl yt yr yo (fuel + 1) (nI (d)) (nI p) (nI s) (nI i) gk gb po yA mn cu og vl_ cd ou sN sS sQ sM sk := by
  have ep : (nI p).toNatClampNeg = p := nI_clamp (by omega)
  have hv : vp_in (nI p) 32 := vp_in_nI (by omega) (by omega)
  have hs256 : ¬ nI s = 256 := fun z => absurd ((nI_eq (b := 256) (by omega) (by decide)).mp z) (by omega)
  exact br_f (nI_ge (b := 300) hi (by decide)) (br_t (nI_lt hpm (by omega)) (br_f hs256 (nm_r (nI_1 s) ⟨hv, nm_r (e' := nI 13) (by rw [ep, ho]) (nm_r (nI_1 p) (br_f (by decide) (br_f (by decide) (br_f (by decide) (br_f (by decide) (br_t (by decide) (br_f (by decide) (br_f (by decide) (br_f (by decide) (br_f (by decide) (br_f (by decide) (br_t rfl (br_f (nI_ge (b := 1) hd (by decide)) hp)))))))))))))⟩)))
end
