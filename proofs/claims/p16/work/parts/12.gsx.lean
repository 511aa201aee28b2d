def gs_ag (dr : Int32) (lim t : Nat) : Nat := if dr = 0 then lim else t
theorem gs_ag0 (lim t : Nat) : gs_ag 0 lim t = lim := if_pos rfl
theorem gs_ag1 (lim t : Nat) : gs_ag 1 lim t = t := if_neg (by decide)
def gs_or (dr : Int32) (lim t : Nat) (T : Nat → Int32) : Prop := t ≤ lim ∧ lim ≤ 32 ∧ ((dr = 0 ∧ cs_by T lim) ∨ (dr = 1 ∧ cs_by T t))
theorem gs_agle {dr : Int32} {lim t : Nat} {T : Nat → Int32} (h : gs_or dr lim t T) : t ≤ gs_ag dr lim t := by
  obtain ⟨a, b, ⟨rfl, _⟩ | ⟨rfl, _⟩⟩ := h
  · rw [gs_ag0]
    exact a
  · rw [gs_ag1]
    exact Nat.le_refl t
theorem gs_take {n lim t w : Nat} {dr pr : Int32} {T : Nat → Int32} (h : gs_or dr lim t T) (ht : t < lim) (hw : 0 < w) (hw2 : w ≤ 256) : ∃ (c : Nat) (pr1 : Int32) (T1 : Nat → Int32), c < 256 ∧ gs_or dr lim (t + 1) T1 ∧ T1 t = nI c ∧ (∀ j, j < t → T1 j = T j) ∧ (dr = 0 → T1 = T) ∧ gs_tk n lim (gs_ag dr lim t) dr t pr T w c (gs_ag dr lim (t + 1)) pr1 T1 := by
  obtain ⟨a, b, ⟨rfl, hb⟩ | ⟨rfl, hb⟩⟩ := h
  · obtain ⟨c, hc, e⟩ := hb t ht
    refine ⟨c, pr, T, hc, ⟨by omega, b, Or.inl ⟨rfl, hb⟩⟩, e, fun j _ => rfl, fun _ => rfl, ?_⟩
    rw [gs_ag0, gs_ag0]
    exact gs_tkr ht b ht e
  · have l : cs_rn (pr * 1103515245 + 12345) % w < w := Nat.mod_lt _ hw
    refine ⟨cs_rn (pr * 1103515245 + 12345) % w, pr * 1103515245 + 12345, upd T t (nI (cs_rn (pr * 1103515245 + 12345) % w)), by omega, ⟨by omega, b, Or.inr ⟨rfl, ?_⟩⟩, pk_us, fun j hj => pk_un (by omega), fun z => absurd z (by decide), ?_⟩
    · exact cs_bys (cs_byc hb (fun j hj => pk_un (by omega))) (by omega) pk_us
    · rw [gs_ag1, gs_ag1]
      exact gs_tkd ht b hw hw2
def gs_con (gk gb : Nat → Int32) (en : Nat → Nat) (n lim : Nat) (dr : Int32) (M : Nat) (F : List cs_Fr) (t L : Nat) (pr : Int32) (T ce : Nat → Int32) : Prop :=
  ∃ (ok : Bool) (t' L' : Nat) (T' V : Nat → Int32), gs_go gk gb en n lim (gs_ag dr lim t) dr M F t L pr T ce ok t' L' T' V ∧
  (ok = true → t ≤ t' ∧ t' ≤ lim ∧ L' ≤ 32 ∧ cs_by T' t' ∧ (∀ j, j < t → T' j = T j) ∧ (dr = 0 → T' = T) ∧ ∀ (prx : Int32) (lim2 : Nat), t' ≤ lim2 → lim2 ≤ 32 → gs_go gk gb en n lim2 t' 0 M F t L prx T' ce true t' L' T' V)
theorem gs_all {gk gb : Nat → Int32} {en : Nat → Nat} {n lim : Nat} {dr : Int32} (G : cs_G gk en n) (hgb : ∀ j, j < n → ∃ b : Nat, b < 256 ∧ gb j = nI b) :
    ∀ (M : Nat) (F : List cs_Fr) (t L : Nat) (pr : Int32) (T ce ou sN sS sQ sM lg cg : Nat → Int32), cs_mu gk en n lim t F < M → cs_S gk en n F L ce ou sN sS sQ sM lg cg → L ≤ 32 → gs_or dr lim t T → gs_con gk gb en n lim dr M F t L pr T ce := by
  intro M
  induction M with
  | zero => intro F t L pr T ce ou sN sS sQ sM lg cg hmu; omega
  | succ M ih =>
    intro F t L pr T ce ou sN sS sQ sM lg cg hmu hS hL hO
    have hl := hO.2.1
    have htl := hO.1
    cases F with
    | nil =>
      refine ⟨true, t, L, T, ce, gs_end G ⟨rfl, rfl⟩ (fun j _ => rfl) (gs_agle hO) (fun j _ => rfl), fun _ => ⟨Nat.le_refl t, htl, hL, ?_, fun j _ => rfl, fun _ => rfl, fun prx lim2 h1 h2 => gs_end G ⟨rfl, rfl⟩ (fun j _ => rfl) (Nat.le_refl t) (fun j _ => rfl)⟩⟩
      obtain ⟨a, b, ⟨rfl, hb⟩ | ⟨rfl, hb⟩⟩ := hO
      · exact cs_bym hb a
      · exact hb
    | cons fr fs =>
      obtain ⟨nd, s, q, m⟩ := fr
      obtain ⟨hn, _, _, _, hst⟩ := cs_tf G hS
      have hk := (G.2.2.2 nd hn).2.2
      by_cases s0 : s = 0
      · subst s0
        rcases hk with k | k | k
        · obtain ⟨b, hb2, hb⟩ := hgb nd hn
          by_cases ht : t = lim
          · exact ⟨false, 0, 0, T, ce, gs_int0 G k hb ht hl hS, fun z => absurd z (by decide)⟩
          · obtain ⟨c, pr1, T1, hc, hO1, eT, e1, e2, hk1⟩ := gs_take (n := n) (pr := pr) (w := b + 1) hO (by omega) (by omega) (by omega)
            by_cases hL2 : L < 32
            · obtain ⟨S', m', p'⟩ := cs_t1 G k hS (nI (c % (b + 1))) lim t (by omega)
              obtain ⟨ok, t', L', T', V, hgo, hrep⟩ := ih fs (t + 1) (L + 1) pr1 T1 _ _ _ _ _ _ _ _ (by omega) S' (by omega) hO1
              refine ⟨ok, t', L', T', V, gs_int G k hb hb2 hc hL2 hS hk1 hgo p', fun h => ?_⟩
              obtain ⟨a1, a2, a3, a4, a5, a6, a7⟩ := hrep h
              have hTt : T' t = nI c := (a5 t (by omega)).trans eT
              exact ⟨by omega, a2, a3, a4, fun j hj => (a5 j (by omega)).trans (e1 j hj), fun z => (a6 z).trans (e2 z), fun prx lim2 h1 h2 => gs_int G k hb hb2 hc hL2 hS (gs_tkr (by omega) h2 (by omega) hTt) (a7 prx lim2 h1 h2) p'⟩
            · exact ⟨false, 0, 0, T, ce, gs_int1 G k hb hb2 hc (by omega) hS hk1, fun z => absurd z (by decide)⟩
        · by_cases hL2 : L < 32
          · obtain ⟨S', m'⟩ := cs_t5 G k hS lim t
            obtain ⟨ok, t', L', T', V, hgo, hrep⟩ := ih _ t (L + 1) pr T _ _ _ _ _ _ _ _ (by omega) S' (by omega) hO
            refine ⟨ok, t', L', T', V, gs_open G k hL2 hS hgo, fun h => ?_⟩
            obtain ⟨a1, a2, a3, a4, a5, a6, a7⟩ := hrep h
            exact ⟨a1, a2, a3, a4, a5, a6, fun prx lim2 h1 h2 => gs_open G k hL2 hS (a7 prx lim2 h1 h2)⟩
          · exact ⟨false, 0, 0, T, ce, gs_open0 G k (by omega) hS, fun z => absurd z (by decide)⟩
        · obtain ⟨S', m', p'⟩ := cs_t2 G k hS lim t
          obtain ⟨ok, t', L', T', V, hgo, hrep⟩ := ih _ t L pr T _ _ _ _ _ _ _ _ (by omega) S' hL hO
          refine ⟨ok, t', L', T', V, gs_pair G k hS hgo, fun h => ?_⟩
          obtain ⟨a1, a2, a3, a4, a5, a6, a7⟩ := hrep h
          exact ⟨a1, a2, a3, a4, a5, a6, fun prx lim2 h1 h2 => gs_pair G k hS (a7 prx lim2 h1 h2)⟩
      · obtain ⟨k | k, rfl | rfl⟩ := hst.resolve_left s0
        · obtain ⟨S', m', p1, p2⟩ := cs_t3 G k hS lim t
          have e3 : cs_L gk ((en (nd + 1), 0, 0, 0) :: (nd, 2, q, m) :: fs) = cs_L gk ((nd, 1, q, m) :: fs) := ((cs_L0 gk _ 0 0 _).trans (cs_L3 k 2 q m fs)).trans (cs_L3 k 1 q m fs).symm
          obtain ⟨ok, t', L', T', V, hgo, hrep⟩ := ih _ t L pr T _ _ _ _ _ _ _ _ (by omega) S' hL hO
          refine ⟨ok, t', L', T', V, gs_still hgo p2 e3, fun h => ?_⟩
          obtain ⟨a1, a2, a3, a4, a5, a6, a7⟩ := hrep h
          exact ⟨a1, a2, a3, a4, a5, a6, fun prx lim2 h1 h2 => gs_still (a7 prx lim2 h1 h2) p2 e3⟩
        · obtain ⟨S', m', p2⟩ := cs_t4 G k hS lim t
          have e3 : cs_L gk fs = cs_L gk ((nd, 2, q, m) :: fs) := (cs_L3 k 2 q m fs).symm
          obtain ⟨ok, t', L', T', V, hgo, hrep⟩ := ih _ t L pr T _ _ _ _ _ _ _ _ (by omega) S' hL hO
          refine ⟨ok, t', L', T', V, gs_still hgo p2 e3, fun h => ?_⟩
          obtain ⟨a1, a2, a3, a4, a5, a6, a7⟩ := hrep h
          exact ⟨a1, a2, a3, a4, a5, a6, fun prx lim2 h1 h2 => gs_still (a7 prx lim2 h1 h2) p2 e3⟩
        · by_cases h8 : m = 8
          · obtain ⟨S', m', p'⟩ := cs_t7 G k hS lim t t (Nat.le_refl t)
            obtain ⟨ok, t', L', T', V, hgo, hrep⟩ := ih fs t L pr T _ _ _ _ _ _ _ _ (by omega) S' hL hO
            refine ⟨ok, t', L', T', V, gs_l8 G k hL h8 hS hgo p', fun h => ?_⟩
            obtain ⟨a1, a2, a3, a4, a5, a6, a7⟩ := hrep h
            exact ⟨a1, a2, a3, a4, a5, a6, fun prx lim2 h1 h2 => gs_l8 G k hL h8 hS (a7 prx lim2 h1 h2) p'⟩
          · by_cases ht : t = lim
            · exact ⟨false, 0, 0, T, ce, gs_lF G k hL h8 ht hl hS, fun z => absurd z (by decide)⟩
            · obtain ⟨c, pr1, T1, hc, hO1, eT, e1, e2, hk1⟩ := gs_take (n := n) (pr := pr) (w := 4) hO (by omega) (by omega) (by omega)
              by_cases hc0 : c = 0
              · subst hc0
                obtain ⟨S', m', p'⟩ := cs_t7 G k hS lim t (t + 1) (by omega)
                obtain ⟨ok, t', L', T', V, hgo, hrep⟩ := ih fs (t + 1) L pr1 T1 _ _ _ _ _ _ _ _ (by omega) S' hL hO1
                refine ⟨ok, t', L', T', V, gs_l0 G k hL h8 hS hk1 hgo p', fun h => ?_⟩
                obtain ⟨a1, a2, a3, a4, a5, a6, a7⟩ := hrep h
                have hTt : T' t = nI 0 := (a5 t (by omega)).trans eT
                exact ⟨by omega, a2, a3, a4, fun j hj => (a5 j (by omega)).trans (e1 j hj), fun z => (a6 z).trans (e2 z), fun prx lim2 h1 h2 => gs_l0 G k hL h8 hS (gs_tkr (by omega) h2 (by omega) hTt) (a7 prx lim2 h1 h2) p'⟩
              · obtain ⟨S', m', p'⟩ := cs_t8 G k hS h8 lim t (by omega)
                obtain ⟨ok, t', L', T', V, hgo, hrep⟩ := ih _ (t + 1) L pr1 T1 _ _ _ _ _ _ _ _ (by omega) S' hL hO1
                refine ⟨ok, t', L', T', V, gs_l1 G k hL h8 hc hc0 hS hk1 hgo, fun h => ?_⟩
                obtain ⟨a1, a2, a3, a4, a5, a6, a7⟩ := hrep h
                have hTt : T' t = nI c := (a5 t (by omega)).trans eT
                exact ⟨by omega, a2, a3, a4, fun j hj => (a5 j (by omega)).trans (e1 j hj), fun z => (a6 z).trans (e2 z), fun prx lim2 h1 h2 => gs_l1 G k hL h8 hc hc0 hS (gs_tkr (by omega) h2 (by omega) hTt) (a7 prx lim2 h1 h2)⟩
        · obtain ⟨S', m', p2⟩ := cs_t6 G k hS lim t
          have e3 : cs_L gk ((nd, 1, q, m + 1) :: fs) = cs_L gk ((nd, 2, q, m) :: fs) := (cs_L2 k 0 q (m + 1) fs).trans (cs_L2 k 1 q m fs).symm
          obtain ⟨ok, t', L', T', V, hgo, hrep⟩ := ih _ t L pr T _ _ _ _ _ _ _ _ (by omega) S' hL hO
          refine ⟨ok, t', L', T', V, gs_still hgo p2 e3, fun h => ?_⟩
          obtain ⟨a1, a2, a3, a4, a5, a6, a7⟩ := hrep h
          exact ⟨a1, a2, a3, a4, a5, a6, fun prx lim2 h1 h2 => gs_still (a7 prx lim2 h1 h2) p2 e3⟩
