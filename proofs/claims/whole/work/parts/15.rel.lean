/-- one picture of the tables behind both states; what the component wrote last into its values is free, and so is the reference's note of pairs; the reference's values hold whenever it says that they are known -/
def i_Rel (k : Nat) (u : SX) (v : SY) : Prop := ∃ (T : Nat) (P : Nat → Nat → Nat) (aW aP aD aC aK aS aR aX : Nat → Int32) (fk : Int32) (bK bP bD bC bS bR bX bT : Nat → Int32), u = (nI T, aW, aP, aD, aC, aK, aS, aR, aX) ∧ v = (nI T, fk, bK, bP, bD, bC, bS, bR, bX, bT) ∧ dt_G T P ∧ dx_A T P aW aP aD aC aK aS aR ∧ dy_A P bK bP bD bC bS bR ∧ (fk = 0 ∨ (fk = 1 ∧ dy_V T P bX))
theorem rl_mk {k T : Nat} {P : Nat → Nat → Nat} {aW aP aD aC aK aS aR aX : Nat → Int32} {fk : Int32} {bK bP bD bC bS bR bX bT : Nat → Int32} (G : dt_G T P) (A : dx_A T P aW aP aD aC aK aS aR) (B : dy_A P bK bP bD bC bS bR) (hf : fk = 0 ∨ (fk = 1 ∧ dy_V T P bX)) : i_Rel k (nI T, aW, aP, aD, aC, aK, aS, aR, aX) (nI T, fk, bK, bP, bD, bC, bS, bR, bX, bT) :=
  ⟨T, P, aW, aP, aD, aC, aK, aS, aR, aX, fk, bK, bP, bD, bC, bS, bR, bX, bT, rfl, rfl, G, A, B, hf⟩
theorem i_up {k : Nat} {u : SX} {v : SY} (h : i_Rel k u v) : i_Rel (k + 4) u v := h
theorem i_vc0 : wpX_init (fun u => wpY_init (fun v => i_Rel 0 u v)) := by
  refine rl_mk (k := 0) (T := 0) (P := fun _ _ => 0) ⟨by decide, fun _ => Nat.zero_le _, fun _ => Nat.zero_le _, fun _ => Nat.zero_le _, fun _ => Nat.zero_le _, fun _ => Nat.zero_le _, fun _ => Nat.zero_le _, fun t ht => absurd ht (by omega)⟩ ⟨fun t ht => absurd ht (by omega), fun _ => rfl, fun _ => rfl, fun _ => rfl, fun t e he => ?_, fun _ => rfl, fun _ => rfl⟩ ⟨fun _ => rfl, fun _ => rfl, fun _ => rfl, fun _ => rfl, fun _ => rfl, fun _ => rfl⟩ (Or.inl rfl)
  rw [Nat.zero_div]
  rfl
theorem i_vc_value {k : Nat} {u : SX} {v : SY} (I : i_Rel k u v) (hk : k + 4 ≤ 2048) (v1 : Int32) (v2 : Int32) : wpX_value (fun r u' => wpY_value (fun r' v' => r' = r ∧ i_Rel (k + 4) u' v') v v1 v2) u v1 v2 := by
  obtain ⟨T, P, aW, aP, aD, aC, aK, aS, aR, aX, fk, bK, bP, bD, bC, bS, bR, bX, bT, rfl, rfl, G, A, B, hf⟩ := I
  rcases dn_ix v1 8 (by decide) with h | ⟨v, hv, rfl⟩
  · unfold wpX_value
    refine lx_va_n h (br_t rfl ?_)
    unfold wpY_value
    exact ly_in_n (b := 7) (by decide) h (br_t rfl ⟨rfl, rl_mk G A B hf⟩)
  · rcases dn_ix v2 512 (by decide) with h | ⟨m, hm, rfl⟩
    · unfold wpX_value
      refine lx_va_y hv (br_f (by decide) (lx_ca_n h (br_t rfl ?_)))
      unfold wpY_value
      exact ly_in_y (b := 7) (by decide) hv (br_f (by decide) (ly_in_n (b := 511) (by decide) h (br_t rfl ⟨rfl, rl_mk G A B hf⟩)))
    · exact lx_value G A hm hv (fun X' => ly_value G B hf hv hm (fun Y' hY' => ⟨rfl, rl_mk G A B (Or.inr ⟨rfl, hY'⟩)⟩))
theorem i_vc_count {k : Nat} {u : SX} {v : SY} (I : i_Rel k u v) (hk : k + 4 ≤ 2048) (v1 : Int32) (v2 : Int32) : wpX_count (fun r u' => wpY_count (fun r' v' => r' = r ∧ i_Rel (k + 4) u' v') v v1 v2) u v1 v2 := by
  obtain ⟨T, P, aW, aP, aD, aC, aK, aS, aR, aX, fk, bK, bP, bD, bC, bS, bR, bX, bT, rfl, rfl, G, A, B, hf⟩ := I
  rcases dn_ix v1 8 (by decide) with h | ⟨v, hv, rfl⟩
  · unfold wpX_count
    refine lx_va_n h (br_t rfl ?_)
    unfold wpY_count
    exact ly_in_n (b := 7) (by decide) h (br_t rfl ⟨rfl, rl_mk G A B hf⟩)
  · rcases dn_ix v2 8 (by decide) with h | ⟨m, hm, rfl⟩
    · unfold wpX_count
      refine lx_va_y hv (br_f (by decide) (lx_vl_n h (br_t rfl ?_)))
      unfold wpY_count
      exact ly_in_y (b := 7) (by decide) hv (br_f (by decide) (ly_in_n (b := 7) (by decide) h (br_t rfl ⟨rfl, rl_mk G A B hf⟩)))
    · exact lx_cnt G A hv hm (fun X' => ly_cnt G B hf hv hm (fun Y' hY' => ⟨rfl, rl_mk G A B (Or.inr ⟨rfl, hY'⟩)⟩))
theorem i_vc_first {k : Nat} {u : SX} {v : SY} (I : i_Rel k u v) (hk : k + 4 ≤ 2048) (v1 : Int32) (v2 : Int32) : wpX_first (fun r u' => wpY_first (fun r' v' => r' = r ∧ i_Rel (k + 4) u' v') v v1 v2) u v1 v2 := by
  obtain ⟨T, P, aW, aP, aD, aC, aK, aS, aR, aX, fk, bK, bP, bD, bC, bS, bR, bX, bT, rfl, rfl, G, A, B, hf⟩ := I
  rcases dn_ix v1 8 (by decide) with h | ⟨v, hv, rfl⟩
  · unfold wpX_first
    refine lx_va_n h (br_t rfl ?_)
    unfold wpY_first
    exact ly_in_n (b := 7) (by decide) h (br_t rfl ⟨rfl, rl_mk G A B hf⟩)
  · rcases dn_ix v2 8 (by decide) with h | ⟨m, hm, rfl⟩
    · unfold wpX_first
      refine lx_va_y hv (br_f (by decide) (lx_vl_n h (br_t rfl ?_)))
      unfold wpY_first
      exact ly_in_y (b := 7) (by decide) hv (br_f (by decide) (ly_in_n (b := 7) (by decide) h (br_t rfl ⟨rfl, rl_mk G A B hf⟩)))
    · exact lx_fst G A hv hm (fun X' => ly_fst G B hf hv hm (fun Y' hY' => ⟨rfl, rl_mk G A B (Or.inr ⟨rfl, hY'⟩)⟩))
theorem i_vc_same {k : Nat} {u : SX} {v : SY} (I : i_Rel k u v) (hk : k + 4 ≤ 2048) (v1 : Int32) (v2 : Int32) : wpX_same (fun r u' => wpY_same (fun r' v' => r' = r ∧ i_Rel (k + 4) u' v') v v1 v2) u v1 v2 := by
  obtain ⟨T, P, aW, aP, aD, aC, aK, aS, aR, aX, fk, bK, bP, bD, bC, bS, bR, bX, bT, rfl, rfl, G, A, B, hf⟩ := I
  rcases dn_ix v1 8 (by decide) with h | ⟨v, hv, rfl⟩
  · unfold wpX_same
    refine lx_va_n h (br_t rfl ?_)
    unfold wpY_same
    exact ly_in_n (b := 7) (by decide) h (br_t rfl ⟨rfl, rl_mk G A B hf⟩)
  · rcases dn_ix v2 8 (by decide) with h | ⟨m, hm, rfl⟩
    · unfold wpX_same
      refine lx_va_y hv (br_f (by decide) (lx_va_n h (br_t rfl ?_)))
      unfold wpY_same
      exact ly_in_y (b := 7) (by decide) hv (br_f (by decide) (ly_in_n (b := 7) (by decide) h (br_t rfl ⟨rfl, rl_mk G A B hf⟩)))
    · exact lx_sam G A hv hm (fun X' => ly_sam G B hf hv hm (fun Y' hY' => ⟨rfl, rl_mk G A B (Or.inr ⟨rfl, hY'⟩)⟩))
theorem i_vc_rising {k : Nat} {u : SX} {v : SY} (I : i_Rel k u v) (hk : k + 4 ≤ 2048) (v1 : Int32) (v2 : Int32) : wpX_rising (fun r u' => wpY_rising (fun r' v' => r' = r ∧ i_Rel (k + 4) u' v') v v1 v2) u v1 v2 := by
  obtain ⟨T, P, aW, aP, aD, aC, aK, aS, aR, aX, fk, bK, bP, bD, bC, bS, bR, bX, bT, rfl, rfl, G, A, B, hf⟩ := I
  rcases dn_ix v1 8 (by decide) with h | ⟨v, hv, rfl⟩
  · unfold wpX_rising
    refine lx_va_n h (br_t rfl ?_)
    unfold wpY_rising
    exact ly_in_n (b := 7) (by decide) h (br_t rfl ⟨rfl, rl_mk G A B hf⟩)
  · rcases dn_ix v2 3 (by decide) with h | ⟨m, hm, rfl⟩
    · have yb : wpY_rising (fun r' v' => r' = 0 ∧ i_Rel (k + 4) (nI T, aW, aP, aD, aC, aK, aS, aR, aX) v') (nI T, fk, bK, bP, bD, bC, bS, bR, bX, bT) (nI v) v2 := by
        unfold wpY_rising
        exact ly_in_y (b := 7) (by decide) hv (br_f (by decide) (ly_in_n (b := 2) (by decide) h (br_t rfl ⟨rfl, rl_mk G A B hf⟩)))
      unfold wpX_rising
      refine lx_va_y hv (br_f (by decide) ?_)
      by_cases z : v2 < 0
      · exact br_t z yb
      · exact br_f z (br_f (Int32.not_lt.mpr (h.resolve_left z)) yb)
    · exact lx_ris G A hv hm (fun X' => ly_ris G B hf hv hm (fun Y' hY' => ⟨rfl, rl_mk G A B (Or.inr ⟨rfl, hY'⟩)⟩))
theorem i_vc_possible {k : Nat} {u : SX} {v : SY} (I : i_Rel k u v) (hk : k + 4 ≤ 2048) (v1 : Int32) : wpX_possible (fun r u' => wpY_possible (fun r' v' => r' = r ∧ i_Rel (k + 4) u' v') v v1) u v1 := by
  obtain ⟨T, P, aW, aP, aD, aC, aK, aS, aR, aX, fk, bK, bP, bD, bC, bS, bR, bX, bT, rfl, rfl, G, A, B, hf⟩ := I
  rcases dn_ix v1 8 (by decide) with h | ⟨v, hv, rfl⟩
  · unfold wpX_possible
    refine lx_va_n h (br_t rfl ?_)
    unfold wpY_possible
    exact ly_in_n (b := 7) (by decide) h (br_t rfl ⟨rfl, rl_mk G A B hf⟩)
  · exact lx_pos G A hv (fun X' => ly_pos G B hf hv (fun Y' hY' => ⟨rfl, rl_mk G A B (Or.inr ⟨rfl, hY'⟩)⟩))
theorem i_vc_depends {k : Nat} {u : SX} {v : SY} (I : i_Rel k u v) (hk : k + 4 ≤ 2048) (v1 : Int32) : wpX_depends (fun r u' => wpY_depends (fun r' v' => r' = r ∧ i_Rel (k + 4) u' v') v v1) u v1 := by
  obtain ⟨T, P, aW, aP, aD, aC, aK, aS, aR, aX, fk, bK, bP, bD, bC, bS, bR, bX, bT, rfl, rfl, G, A, B, hf⟩ := I
  rcases dn_ix v1 8 (by decide) with h | ⟨v, hv, rfl⟩
  · unfold wpX_depends
    refine lx_va_n h (br_t rfl ?_)
    unfold wpY_depends
    exact ly_in_n (b := 7) (by decide) h (br_t rfl ⟨rfl, rl_mk G A B hf⟩)
  · exact lx_dep G A hv (fun X' => ly_dep G B hf hv (fun Y' hY' => ⟨rfl, rl_mk G A B (Or.inr ⟨rfl, hY'⟩)⟩))
theorem i_vc_gaps {k : Nat} {u : SX} {v : SY} (I : i_Rel k u v) (hk : k + 4 ≤ 2048) (v1 : Int32) : wpX_gaps (fun r => wpY_gaps (fun r' => r' = r ∧ i_Rel (k + 4) u v) v v1) u v1 := by
  obtain ⟨T, P, aW, aP, aD, aC, aK, aS, aR, aX, fk, bK, bP, bD, bC, bS, bR, bX, bT, rfl, rfl, G, A, B, hf⟩ := I
  have hT := G.1
  rcases dn_ix v1 T (by omega) with h | ⟨t, ht, rfl⟩
  · unfold wpX_gaps
    refine lx_ta_n h (br_t rfl ?_)
    unfold wpY_gaps
    exact ly_ta_n G.1 h (br_t rfl ⟨rfl, rl_mk G A B hf⟩)
  · exact lx_gaps G A ht (ly_gaps G B ht ⟨rfl, rl_mk G A B hf⟩)
theorem i_vc_overlaps {k : Nat} {u : SX} {v : SY} (I : i_Rel k u v) (hk : k + 4 ≤ 2048) (v1 : Int32) : wpX_overlaps (fun r => wpY_overlaps (fun r' v' => r' = r ∧ i_Rel (k + 4) u v') v v1) u v1 := by
  obtain ⟨T, P, aW, aP, aD, aC, aK, aS, aR, aX, fk, bK, bP, bD, bC, bS, bR, bX, bT, rfl, rfl, G, A, B, hf⟩ := I
  have hT := G.1
  rcases dn_ix v1 T (by omega) with h | ⟨t, ht, rfl⟩
  · unfold wpX_overlaps
    refine lx_ta_n h (br_t rfl ?_)
    unfold wpY_overlaps
    exact ly_ta_n G.1 h (br_t rfl ⟨rfl, rl_mk G A B hf⟩)
  · exact lx_over G A ht (ly_over G B ht (fun T' => ⟨rfl, rl_mk G A B hf⟩))
theorem i_vc_needless {k : Nat} {u : SX} {v : SY} (I : i_Rel k u v) (hk : k + 4 ≤ 2048) (v1 : Int32) : wpX_needless (fun r => wpY_needless (fun r' => r' = r ∧ i_Rel (k + 4) u v) v v1) u v1 := by
  obtain ⟨T, P, aW, aP, aD, aC, aK, aS, aR, aX, fk, bK, bP, bD, bC, bS, bR, bX, bT, rfl, rfl, G, A, B, hf⟩ := I
  have hT := G.1
  rcases dn_ix v1 T (by omega) with h | ⟨t, ht, rfl⟩
  · unfold wpX_needless
    refine lx_ta_n h (br_t rfl ?_)
    unfold wpY_needless
    exact ly_ta_n G.1 h (br_t rfl ⟨rfl, rl_mk G A B hf⟩)
  · exact lx_need G A ht (ly_need G B ht ⟨rfl, rl_mk G A B hf⟩)
theorem i_vc_unreached {k : Nat} {u : SX} {v : SY} (I : i_Rel k u v) (hk : k + 4 ≤ 2048) (v1 : Int32) : wpX_unreached (fun r u' => wpY_unreached (fun r' v' => r' = r ∧ i_Rel (k + 4) u' v') v v1) u v1 := by
  obtain ⟨T, P, aW, aP, aD, aC, aK, aS, aR, aX, fk, bK, bP, bD, bC, bS, bR, bX, bT, rfl, rfl, G, A, B, hf⟩ := I
  have hT := G.1
  rcases dn_ix v1 T (by omega) with h | ⟨t, ht, rfl⟩
  · unfold wpX_unreached
    refine lx_ta_n h (br_t rfl ?_)
    unfold wpY_unreached
    exact ly_ta_n G.1 h (br_t rfl ⟨rfl, rl_mk G A B hf⟩)
  · exact lx_unr G A ht (fun X' => ly_unr G B hf ht (fun fk' Y' hY' => ⟨rfl, rl_mk G A B hY'⟩))
theorem i_vc_fires {k : Nat} {u : SX} {v : SY} (I : i_Rel k u v) (hk : k + 4 ≤ 2048) (v1 : Int32) (v2 : Int32) : wpX_fires (fun r u' => wpY_fires (fun r' v' => r' = r ∧ i_Rel (k + 4) u' v') v v1 v2) u v1 v2 := by
  obtain ⟨T, P, aW, aP, aD, aC, aK, aS, aR, aX, fk, bK, bP, bD, bC, bS, bR, bX, bT, rfl, rfl, G, A, B, hf⟩ := I
  have hT := G.1
  rcases dn_ix v1 T (by omega) with h | ⟨t, ht, rfl⟩
  · unfold wpX_fires
    refine lx_ta_n h (br_t rfl ?_)
    unfold wpY_fires
    exact ly_ta_n G.1 h (br_t rfl ⟨rfl, rl_mk G A B hf⟩)
  · rcases dn_ix v2 512 (by decide) with h | ⟨m, hm, rfl⟩
    · unfold wpX_fires
      refine lx_ta_y G.1 ht (br_f (by decide) (lx_ca_n h (br_t rfl ?_)))
      unfold wpY_fires
      exact ly_ta_y G.1 ht (br_f (by decide) (ly_in_n (b := 511) (by decide) h (br_t rfl ⟨rfl, rl_mk G A B hf⟩)))
    · exact lx_fires G A hm ht (fun X' => ly_fires G B hf ht hm (fun Y' hY' => ⟨rfl, rl_mk G A B (Or.inr ⟨rfl, hY'⟩)⟩))
