section
variable {fT fk : Int32} {bK bP bD bC bS bR bX bT : Nat → Int32} {P : Nat → Nat → Nat} {T t : Nat}
theorem ly_t119 {post : Int32 → SY → Prop} {x1 x2 x3 : Int32} {a b c : Nat} (hb : b < 10) (hc : c < 10) (h1 : a < 3 + T) (h2 : b = 9 ∨ b < 3 + T) (h3 : c = 9 ∨ c < 3 + T) (h4 : a ≠ b) (h5 : a ≠ c) (h6 : b ≠ c ∨ b = 9)
    (K0 : ¬ dt_cok T a b c → post (-1) (nI T, fk, bK, bP, bD, bC, bS, bR, bX, bT)) (K1 : dt_cok T a b c → wY_table_135 post x1 x2 x3 (nI T) fk bK bP bD bC bS bR bX bT) : wY_table_119 post x1 x2 x3 (nI b) (nI c) (nI T) fk bK bP bD bC bS bR bX bT := by
  refine dn_eq c 9 rfl rfl (by omega) (by decide) (fun z => K1 ⟨h1, h2, h3, h4, h5, h6, Or.inr z⟩) (fun z => dn_eq b 9 rfl rfl (by omega) (by decide) (fun y => K0 (fun q => ?_)) (fun y => K1 ⟨h1, h2, h3, h4, h5, h6, Or.inl y⟩))
  have := q.2.2.2.2.2.2
  omega
theorem ly_t91 {post : Int32 → SY → Prop} {x1 x2 x3 : Int32} {a b c : Nat} (ha : a < 10) (hb : b < 10) (hc : c < 10) (h1 : a < 3 + T) (h2 : b = 9 ∨ b < 3 + T) (h3 : c = 9 ∨ c < 3 + T)
    (K0 : ¬ dt_cok T a b c → post (-1) (nI T, fk, bK, bP, bD, bC, bS, bR, bX, bT)) (K1 : dt_cok T a b c → wY_table_135 post x1 x2 x3 (nI T) fk bK bP bD bC bS bR bX bT) : wY_table_91 post x1 x2 x3 (nI a) (nI b) (nI c) (nI T) fk bK bP bD bC bS bR bX bT := by
  refine dn_eq a b rfl rfl (by omega) (by omega) (fun y => K0 (fun q => q.2.2.2.1 y)) (fun y1 => dn_eq a c rfl rfl (by omega) (by omega) (fun y => K0 (fun q => q.2.2.2.2.1 y)) (fun y2 => dn_eq b c rfl rfl (by omega) (by omega) (fun y3 => dn_eq b 9 rfl rfl (by omega) (by decide) (fun y4 => ly_t119 hb hc h1 h2 h3 y1 y2 (Or.inr y4) K0 K1) (fun y4 => K0 (fun q => ?_))) (fun y3 => ly_t119 hb hc h1 h2 h3 y1 y2 (Or.inl y3) K0 K1)))
  have := q.2.2.2.2.2.1
  omega
theorem ly_t75 {post : Int32 → SY → Prop} {x1 x2 x3 : Int32} {a b c : Nat} (hT : T ≤ 5) (ha : a < 10) (hb : b < 10) (hc : c < 10) (h1 : a < 3 + T) (h2 : b = 9 ∨ b < 3 + T)
    (K0 : ¬ dt_cok T a b c → post (-1) (nI T, fk, bK, bP, bD, bC, bS, bR, bX, bT)) (K1 : dt_cok T a b c → wY_table_135 post x1 x2 x3 (nI T) fk bK bP bD bC bS bR bX bT) : wY_table_75 post x1 x2 x3 (nI a) (nI b) (nI c) (nI (3 + T)) (nI T) fk bK bP bD bC bS bR bX bT := by
  refine dn_eq c 9 rfl rfl (by omega) (by decide) (fun z => ly_t91 ha hb hc h1 h2 (Or.inl z) K0 K1) (fun z => dn_lt c (3 + T) rfl rfl (by omega) (by omega) (fun y => ly_t91 ha hb hc h1 h2 (Or.inr y) K0 K1) (fun y => K0 (fun q => ?_)))
  have := q.2.2.1
  omega
theorem ly_tb {post : Int32 → SY → Prop} {v2 v3 : Int32} {c : Nat} (hT : T < 5) (hc : c < 1000)
    (K0 : ¬ dt_cok T (c % 10) (c / 10 % 10) (c / 100) → post (-1) (nI T, fk, bK, bP, bD, bC, bS, bR, bX, bT)) (K1 : dt_cok T (c % 10) (c / 10 % 10) (c / 100) → wY_table_135 post (nI c) v2 v3 (nI T) fk bK bP bD bC bS bR bX bT) : wpY_table post (nI T, fk, bK, bP, bD, bC, bS, bR, bX, bT) (nI c) v2 v3 := by
  unfold wpY_table
  refine dn_eq T 5 rfl rfl (by omega) (by decide) (fun z => absurd z (by omega)) (fun _ => ly_in_y (b := 999) (by decide) hc (br_f (by decide) ⟨by decide, nm_r (dn_r10 (by omega)) ⟨by decide, by decide, nm_r (e' := nI (c / 10 % 10)) ?_ ⟨by decide, nm_r (dn_d100 (by omega)) (nm_r (dn_3p T) (dn_le (3 + T) (c % 10) rfl rfl (by omega) (by omega) (fun z => K0 (fun q => ?_)) (fun z => dn_eq (c / 10 % 10) 9 rfl rfl (by omega) (by decide) (fun y => ly_t75 (by omega) (by omega) (by omega) (by omega) z (Or.inl y) K0 K1) (fun y => dn_le (3 + T) (c / 10 % 10) rfl rfl (by omega) (by omega) (fun w => K0 (fun q => ?_)) (fun w => ly_t75 (by omega) (by omega) (by omega) (by omega) z (Or.inr w) K0 K1)))))⟩⟩⟩))
  · rw [dn_d10 (by omega), dn_r10 (by omega)]
  · have := q.1
    omega
  · have := q.2.1
    omega
theorem ly_t135 {post : Int32 → SY → Prop} (G : dt_G T P) (A : dy_A P bK bP bD bC bS bR) (hT : T < 5) {c p d : Nat} (hp : p < 6) (hd : d < 8)
    (K : ∀ bK bP bD bC : Nat → Int32, dy_A (dt_new P T c p d) bK bP bD bC bS bR → post (nI T) (nI (T + 1), 0, bK, bP, bD, bC, bS, bR, bX, bT)) : wY_table_135 post (nI c) (nI p) (nI d) (nI T) fk bK bP bD bC bS bR bX bT := by
  unfold wY_table_135
  refine ly_in_y (b := 5) (by decide) hp (br_f (by decide) (ly_in_y (b := 7) (by decide) hd (br_f (by decide) ⟨vp_in_nI hT (by decide), nm_e ⟨vp_in_nI hT (by decide), nm_e ⟨vp_in_nI hT (by decide), nm_e ⟨vp_in_nI hT (by decide), nm_e (nm_r (nI_1 T) ?_)⟩⟩⟩⟩)))
  rw [nI_pred]
  exact K _ _ _ _ ⟨dn_uI A.1 rfl (by omega) rfl, dn_uI A.2.1 rfl (by omega) rfl, dn_uI A.2.2.1 rfl (by omega) rfl, dn_uI A.2.2.2.1 rfl (by omega) rfl, A.2.2.2.2⟩
theorem ly_ru {post : Int32 → SY → Prop} (G : dt_G T P) (A : dy_A P bK bP bD bC bS bR) (ht : t < T) (hn : P 3 t ≠ 8) {s r : Nat} (hs : s < 16777216) (hr : r < 8)
    (K : ∀ bC bS bR : Nat → Int32, dy_A (dt_rul P t s r) bK bP bD bC bS bR → post (nI (P 3 t + 1)) (nI T, 0, bK, bP, bD, bC, bS, bR, bX, bT)) : wpY_rule post (nI T, fk, bK, bP, bD, bC, bS, bR, bX, bT) (nI t) (nI s) (nI r) := by
  have hT := G.1
  have h8 := G.2.2.2.2.1 t
  have hc : bC (nI t).toNatClampNeg = nI (P 3 t) := dn_rd A.2.2.2.1 rfl (by omega)
  have hi : 8 * nI t + bC (nI t).toNatClampNeg = nI (8 * t + P 3 t) := by rw [hc, dn_8r]
  unfold wpY_rule
  refine ly_ta_y G.1 ht (br_f (by decide) ⟨vp_in_nI (by omega) (by decide), dn_eq (P 3 t) 8 hc rfl (by omega) (by decide) (fun z => absurd z hn) (fun _ => ly_in_y (b := 16777215) (by decide) (by omega) (br_f (by decide) (ly_in_y (b := 7) (by decide) hr (br_f (by decide) ⟨vp_in_nI (by omega) (by decide), pk_in (8 * t + P 3 t) 40 (by omega) hi, nm_e ⟨vp_in_nI (by omega) (by decide), pk_in (8 * t + P 3 t) 40 (by omega) hi, nm_e ⟨vp_in_nI (by omega) (by decide), vp_in_nI (by omega) (by decide), nm_e ⟨vp_in_nI (by omega) (by decide), ?_⟩⟩⟩⟩))))⟩)
  have hu : ∀ j, upd bC (nI t).toNatClampNeg (bC (nI t).toNatClampNeg + 1) j = nI (dn_up (P 3) t (P 3 t + 1) j) := dn_uI A.2.2.2.1 rfl (by omega) (by rw [hc, nI_1])
  have k := K _ _ _ ⟨A.1, A.2.1, A.2.2.1, hu, dn_uI A.2.2.2.2.1 hi (by omega) rfl, dn_uI A.2.2.2.2.2 hi (by omega) rfl⟩
  have e : upd bC (nI t).toNatClampNeg (bC (nI t).toNatClampNeg + 1) (nI t).toNatClampNeg = nI (P 3 t + 1) := by rw [pk_us, hc, nI_1]
  rw [e]
  exact k
theorem ly_ur {post : Int32 → SY → Prop} (G : dt_G T P) (A : dy_A P bK bP bD bC bS bR) (ht : t < T) (hn : P 3 t ≠ 0)
    (K : ∀ bC : Nat → Int32, dy_A (dt_unl P t) bK bP bD bC bS bR → post (nI (P 3 t - 1)) (nI T, 0, bK, bP, bD, bC, bS, bR, bX, bT)) : wpY_unrule post (nI T, fk, bK, bP, bD, bC, bS, bR, bX, bT) (nI t) := by
  have hT := G.1
  have h8 := G.2.2.2.2.1 t
  have hc : bC (nI t).toNatClampNeg = nI (P 3 t) := dn_rd A.2.2.2.1 rfl (by omega)
  have hm : bC (nI t).toNatClampNeg - 1 = nI (P 3 t - 1) := by rw [hc]; exact pk_sub (b := 1) (by omega)
  unfold wpY_unrule
  refine ly_ta_y G.1 ht (br_f (by decide) ⟨vp_in_nI (by omega) (by decide), dn_eq (P 3 t) 0 hc rfl (by omega) (by decide) (fun z => absurd z hn) (fun _ => ⟨vp_in_nI (by omega) (by decide), vp_in_nI (by omega) (by decide), nm_e ⟨vp_in_nI (by omega) (by decide), ?_⟩⟩)⟩)
  have hu : ∀ j, upd bC (nI t).toNatClampNeg (bC (nI t).toNatClampNeg - 1) j = nI (dn_up (P 3) t (P 3 t - 1) j) := dn_uI A.2.2.2.1 rfl (by omega) hm
  have k := K _ ⟨A.1, A.2.1, A.2.2.1, hu, A.2.2.2.2⟩
  have e : upd bC (nI t).toNatClampNeg (bC (nI t).toNatClampNeg - 1) (nI t).toNatClampNeg = nI (P 3 t - 1) := by rw [pk_us, hm]
  rw [e]
  exact k
end
