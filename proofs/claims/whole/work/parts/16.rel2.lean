theorem i_vc_drop {k : Nat} {u : SX} {v : SY} (I : i_Rel k u v) (hk : k + 4 ≤ 2048) : wpX_drop (fun r u' => wpY_drop (fun r' v' => r' = r ∧ i_Rel (k + 4) u' v') v) u := by
  obtain ⟨T, P, aW, aP, aD, aC, aK, aS, aR, aX, fk, bK, bP, bD, bC, bS, bR, bX, bT, rfl, rfl, G, A, B, hf⟩ := I
  have hT := G.1
  cases T with
  | zero => exact br_t rfl (br_t rfl ⟨rfl, rl_mk G A B hf⟩)
  | succ s =>
    have hn : ¬ nI (s + 1) = 0 := nI_ne0 (by omega) (by omega)
    refine br_f hn (nm_r (nI_pred s) (br_f hn (nm_r (nI_pred s) ⟨rfl, rl_mk (dt_G_drp G) ⟨fun t ht => A.1 t (by omega), A.2⟩ B (Or.inl rfl)⟩)))
theorem i_vc_unrule {k : Nat} {u : SX} {v : SY} (I : i_Rel k u v) (hk : k + 4 ≤ 2048) (v1 : Int32) : wpX_unrule (fun r u' => wpY_unrule (fun r' v' => r' = r ∧ i_Rel (k + 4) u' v') v v1) u v1 := by
  obtain ⟨T, P, aW, aP, aD, aC, aK, aS, aR, aX, fk, bK, bP, bD, bC, bS, bR, bX, bT, rfl, rfl, G, A, B, hf⟩ := I
  have hT := G.1
  rcases dn_ix v1 T (by omega) with h | ⟨t, ht, rfl⟩
  · unfold wpX_unrule
    refine lx_ta_n h (br_t rfl ?_)
    unfold wpY_unrule
    exact ly_ta_n G.1 h (br_t rfl ⟨rfl, rl_mk G A B hf⟩)
  · by_cases hn : P 3 t = 0
    · unfold wpX_unrule
      refine lx_ta_y G.1 ht (br_f (by decide) ⟨vp_in_nI (by omega) (by decide), br_t ?_ ?_⟩)
      · rw [dn_rd A.2.2.2.1 rfl (by omega), hn]; rfl
      · unfold wpY_unrule
        refine ly_ta_y G.1 ht (br_f (by decide) ⟨vp_in_nI (by omega) (by decide), br_t ?_ ⟨rfl, rl_mk G A B hf⟩⟩)
        rw [dn_rd B.2.2.2.1 rfl (by omega), hn]; rfl
    · exact lx_ur G A ht hn (fun aC' A' => ly_ur G B ht hn (fun bC' B' => ⟨rfl, rl_mk (dt_G_unl G t) A' B' (Or.inl rfl)⟩))
theorem i_vc_rule {k : Nat} {u : SX} {v : SY} (I : i_Rel k u v) (hk : k + 4 ≤ 2048) (v1 : Int32) (v2 : Int32) (v3 : Int32) : wpX_rule (fun r u' => wpY_rule (fun r' v' => r' = r ∧ i_Rel (k + 4) u' v') v v1 v2 v3) u v1 v2 v3 := by
  obtain ⟨T, P, aW, aP, aD, aC, aK, aS, aR, aX, fk, bK, bP, bD, bC, bS, bR, bX, bT, rfl, rfl, G, A, B, hf⟩ := I
  have hT := G.1
  rcases dn_ix v1 T (by omega) with h | ⟨t, ht, rfl⟩
  · unfold wpX_rule
    refine lx_ta_n h (br_t rfl ?_)
    unfold wpY_rule
    exact ly_ta_n G.1 h (br_t rfl ⟨rfl, rl_mk G A B hf⟩)
  · have h8 := G.2.2.2.2.1 t
    have hcX : aC (nI t).toNatClampNeg = nI (P 3 t) := dn_rd A.2.2.2.1 rfl (by omega)
    have hcY : bC (nI t).toNatClampNeg = nI (P 3 t) := dn_rd B.2.2.2.1 rfl (by omega)
    by_cases hn : P 3 t = 8
    · unfold wpX_rule
      refine lx_ta_y G.1 ht (br_f (by decide) ⟨vp_in_nI (by omega) (by decide), br_t (by rw [hcX, hn]; rfl) ?_⟩)
      unfold wpY_rule
      exact ly_ta_y G.1 ht (br_f (by decide) ⟨vp_in_nI (by omega) (by decide), br_t (by rw [hcY, hn]; rfl) ⟨rfl, rl_mk G A B hf⟩⟩)
    · have nX : ¬ aC (nI t).toNatClampNeg = 8 := by rw [hcX]; exact fun z => hn ((nI_eq (b := 8) (by omega) (by decide)).mp z)
      have nY : ¬ bC (nI t).toNatClampNeg = 8 := by rw [hcY]; exact fun z => hn ((nI_eq (b := 8) (by omega) (by decide)).mp z)
      rcases dn_ix v2 16777216 (by decide) with h | ⟨s, hs, rfl⟩
      · have yb : wpY_rule (fun r' v' => r' = -1 ∧ i_Rel (k + 4) (nI T, aW, aP, aD, aC, aK, aS, aR, aX) v') (nI T, fk, bK, bP, bD, bC, bS, bR, bX, bT) (nI t) v2 v3 := by
          unfold wpY_rule
          exact ly_ta_y G.1 ht (br_f (by decide) ⟨vp_in_nI (by omega) (by decide), br_f nY (ly_in_n (b := 16777215) (by decide) h (br_t rfl ⟨rfl, rl_mk G A B hf⟩))⟩)
        unfold wpX_rule
        refine lx_ta_y G.1 ht (br_f (by decide) ⟨vp_in_nI (by omega) (by decide), br_f nX ?_⟩)
        by_cases z : v2 < 0
        · exact br_t z yb
        · exact br_f z (br_t (Int32.lt_of_lt_of_le (nI_lt (a := 16777215) (by decide) (by decide)) (h.resolve_left z)) yb)
      · rcases dn_ix v3 8 (by decide) with h | ⟨r, hr, rfl⟩
        · unfold wpX_rule
          refine lx_ta_y G.1 ht (br_f (by decide) ⟨vp_in_nI (by omega) (by decide), br_f nX (br_f (nI_pos (by omega)) (br_f (nI_nlt (a := 16777215) (by omega) (by decide)) (lx_vl_n h (br_t rfl ?_))))⟩)
          unfold wpY_rule
          exact ly_ta_y G.1 ht (br_f (by decide) ⟨vp_in_nI (by omega) (by decide), br_f nY (ly_in_y (b := 16777215) (by decide) (by omega) (br_f (by decide) (ly_in_n (b := 7) (by decide) h (br_t rfl ⟨rfl, rl_mk G A B hf⟩))))⟩)
        · exact lx_ru G A ht hn hs hr (fun aC' aS' aR' A' => ly_ru G B ht hn hs hr (fun bC' bS' bR' B' => ⟨rfl, rl_mk (dt_G_rul G hn (by omega) hr) A' B' (Or.inl rfl)⟩))
theorem i_vc_table {k : Nat} {u : SX} {v : SY} (I : i_Rel k u v) (hk : k + 4 ≤ 2048) (v1 : Int32) (v2 : Int32) (v3 : Int32) : wpX_table (fun r u' => wpY_table (fun r' v' => r' = r ∧ i_Rel (k + 4) u' v') v v1 v2 v3) u v1 v2 v3 := by
  obtain ⟨T, P, aW, aP, aD, aC, aK, aS, aR, aX, fk, bK, bP, bD, bC, bS, bR, bX, bT, rfl, rfl, G, A, B, hf⟩ := I
  have hT := G.1
  by_cases h5 : T = 5
  · subst h5
    exact br_t rfl (br_t rfl ⟨rfl, rl_mk G A B hf⟩)
  · have n5 : ¬ nI T = 5 := fun z => h5 ((nI_eq (b := 5) (by omega) (by decide)).mp z)
    rcases dn_ix v1 1000 (by decide) with h | ⟨c, hc, rfl⟩
    · have yb : wpY_table (fun r' v' => r' = -1 ∧ i_Rel (k + 4) (nI T, aW, aP, aD, aC, aK, aS, aR, aX) v') (nI T, fk, bK, bP, bD, bC, bS, bR, bX, bT) v1 v2 v3 := by
        unfold wpY_table
        exact br_f n5 (ly_in_n (b := 999) (by decide) h (br_t rfl ⟨rfl, rl_mk G A B hf⟩))
      unfold wpX_table
      refine br_f n5 ?_
      by_cases z : v1 < 0
      · exact br_t z yb
      · exact br_f z (br_f (Int32.not_le.mpr (Int32.lt_of_lt_of_le (nI_lt (a := 999) (by decide) (by decide)) (h.resolve_left z))) yb)
    · have p1 : ¬ nI c < 0 := nI_pos (by omega)
      have p2 : nI c ≤ 999 := nI_le (b := 999) (by omega) (by decide)
      rcases dn_ix v2 6 (by decide) with h | ⟨p, hp, rfl⟩
      · have yb : wpY_table (fun r' v' => r' = -1 ∧ i_Rel (k + 4) (nI T, aW, aP, aD, aC, aK, aS, aR, aX) v') (nI T, fk, bK, bP, bD, bC, bS, bR, bX, bT) (nI c) v2 v3 := by
          refine ly_tb (by omega) hc (fun _ => ⟨rfl, rl_mk G A B hf⟩) (fun _ => ?_)
          unfold wY_table_135
          exact ly_in_n (b := 5) (by decide) h (br_t rfl ⟨rfl, rl_mk G A B hf⟩)
        unfold wpX_table
        refine br_f n5 (br_f p1 (br_t p2 ?_))
        by_cases z : v2 < 0
        · exact br_t z yb
        · exact br_f z (br_t (h.resolve_left z) yb)
      · rcases dn_ix v3 8 (by decide) with h | ⟨d, hd, rfl⟩
        · unfold wpX_table
          refine br_f n5 (br_f p1 (br_t p2 (br_f (nI_pos (by omega)) (br_f (nI_ge (b := 6) hp (by decide)) (lx_vl_n h (br_t rfl ?_))))))
          refine ly_tb (by omega) hc (fun _ => ⟨rfl, rl_mk G A B hf⟩) (fun _ => ?_)
          unfold wY_table_135
          exact ly_in_y (b := 5) (by decide) hp (br_f (by decide) (ly_in_n (b := 7) (by decide) h (br_t rfl ⟨rfl, rl_mk G A B hf⟩)))
        · refine lx_tb G A (by omega) hc hp hd (fun hk' => ?_) (fun hk' aW' aP' aD' aC' aK' A' => ?_)
          · exact ly_tb (by omega) hc (fun _ => ⟨rfl, rl_mk G A B hf⟩) (fun q => absurd q hk')
          · exact ly_tb (by omega) hc (fun q => absurd hk' q) (fun _ => ly_t135 G B (by omega) hp hd (fun bK' bP' bD' bC' B' => ⟨rfl, rl_mk (dt_G_new G (by omega) hc hp hd hk') A' B' (Or.inl rfl)⟩))
