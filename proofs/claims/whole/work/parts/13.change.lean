theorem dn_uI {a : Nat → Int32} {g : Nat → Nat} (h : ∀ j, a j = nI (g j)) {y : Int32} {k : Nat} (hy : y = nI k) (hk : k < 2 ^ 31) {x : Int32} {n : Nat} (hx : x = nI n) : ∀ j, upd a y.toNatClampNeg x j = nI (dn_up g k n j) := by
  intro j
  rw [hy, hx, nI_clamp hk]
  by_cases e : j = k
  · subst e; rw [pk_us, dn_ups]
  · rw [pk_un e, dn_upn e]; exact h j
def dt_cok (T a b c : Nat) : Prop := a < 3 + T ∧ (b = 9 ∨ b < 3 + T) ∧ (c = 9 ∨ c < 3 + T) ∧ a ≠ b ∧ a ≠ c ∧ (b ≠ c ∨ b = 9) ∧ (b ≠ 9 ∨ c = 9)
def dt_new (P : Nat → Nat → Nat) (T c p d : Nat) : Nat → Nat → Nat
  | 0 => dn_up (P 0) T c
  | 1 => dn_up (P 1) T p
  | 2 => dn_up (P 2) T d
  | 3 => dn_up (P 3) T 0
  | n + 4 => P (n + 4)
def dt_rul (P : Nat → Nat → Nat) (t s r : Nat) : Nat → Nat → Nat
  | 0 => P 0
  | 1 => P 1
  | 2 => P 2
  | 3 => dn_up (P 3) t (P 3 t + 1)
  | 4 => dn_up (P 4) (8 * t + P 3 t) s
  | 5 => dn_up (P 5) (8 * t + P 3 t) r
  | n + 6 => P (n + 6)
def dt_unl (P : Nat → Nat → Nat) (t : Nat) : Nat → Nat → Nat
  | 0 => P 0
  | 1 => P 1
  | 2 => P 2
  | 3 => dn_up (P 3) t (P 3 t - 1)
  | n + 4 => P (n + 4)
theorem dt_G_new {T : Nat} {P : Nat → Nat → Nat} (G : dt_G T P) (hT : T < 5) {c p d : Nat} (hc : c < 1000) (hp : p < 6) (hd : d < 8) (hk : dt_cok T (c % 10) (c / 10 % 10) (c / 100)) : dt_G (T + 1) (dt_new P T c p d) := by
  obtain ⟨g1, g2, g3, g4, g5, g6, g7, g8⟩ := G
  refine ⟨hT, dn_uple g2 (by omega), dn_uple g3 (by omega), dn_uple g4 (by omega), dn_uple g5 (by omega), g6, g7, ?_⟩
  intro t ht e he
  have e0 : dt_new P T c p d 0 = dn_up (P 0) T c := rfl
  rw [e0] at he ⊢
  by_cases z : t = T
  · subst z
    rw [dn_ups] at he ⊢
    have hw := dt_wd_in c
    obtain ⟨k1, k2, k3, k4, k5, k6, k7⟩ := hk
    have he3 : e < 3 := by omega
    unfold dt_wd at he
    rcases (by omega : e = 0 ∨ e = 1 ∨ e = 2) with rfl | rfl | rfl
    · rw [Nat.pow_zero, Nat.div_one]; exact k1
    · rw [Nat.pow_one]
      by_cases q : c / 100 = 9
      · rw [if_pos q] at he
        by_cases y : c / 10 % 10 = 9
        · rw [if_pos y] at he; omega
        · omega
      · omega
    · rw [show 10 ^ 2 = 100 from rfl]
      by_cases q : c / 100 = 9
      · rw [if_pos q] at he
        by_cases y : c / 10 % 10 = 9
        · rw [if_pos y] at he; omega
        · rw [if_neg y] at he; omega
      · omega
  · rw [dn_upn z] at he ⊢
    exact g8 t (by omega) e he
theorem dt_G_rul {T t : Nat} {P : Nat → Nat → Nat} (G : dt_G T P) {s r : Nat} (hn : P 3 t ≠ 8) (hs : s ≤ 16777215) (hr : r < 8) : dt_G T (dt_rul P t s r) := by
  obtain ⟨g1, g2, g3, g4, g5, g6, g7, g8⟩ := G
  have := g5 t
  exact ⟨g1, g2, g3, g4, dn_uple g5 (by omega), dn_uple g6 hs, dn_uple g7 (by omega), g8⟩
theorem dt_G_unl {T : Nat} {P : Nat → Nat → Nat} (G : dt_G T P) (t : Nat) : dt_G T (dt_unl P t) := by
  obtain ⟨g1, g2, g3, g4, g5, g6, g7, g8⟩ := G
  have := g5 t
  exact ⟨g1, g2, g3, g4, dn_uple g5 (by omega), g6, g7, g8⟩
theorem dt_G_drp {T : Nat} {P : Nat → Nat → Nat} (G : dt_G (T + 1) P) : dt_G T P := by
  obtain ⟨g1, g2, g3, g4, g5, g6, g7, g8⟩ := G
  exact ⟨by omega, g2, g3, g4, g5, g6, g7, fun t ht => g8 t (by omega)⟩
theorem dt_cols {g : Nat → Nat} {aK : Nat → Int32} (h : ∀ t e, e < 3 → aK (3 * t + e) = nI (g t / 10 ^ e % 10)) {T c : Nat} (hT : T < 5) (hc : c < 1000) : ∀ t e, e < 3 → upd (upd (upd aK (3 * nI T).toNatClampNeg (nI (c % 10))) (3 * nI T + 1).toNatClampNeg (nI (c / 10 % 10))) (3 * nI T + 2).toNatClampNeg (nI (c / 100)) (3 * t + e) = nI (dn_up g T c t / 10 ^ e % 10) := by
  intro t e he
  rw [show 3 * nI T + 2 = nI (3 * T + 2) by rw [dn_3]; exact nI_add _ 2, show 3 * nI T + 1 = nI (3 * T + 1) by rw [dn_3]; exact nI_add _ 1, dn_3, nI_clamp (by omega), nI_clamp (by omega), nI_clamp (by omega)]
  by_cases z : t = T
  · subst z
    rw [dn_ups]
    rcases (by omega : e = 0 ∨ e = 1 ∨ e = 2) with rfl | rfl | rfl
    · rw [pk_un (by omega), pk_un (by omega), Nat.add_zero, pk_us, Nat.pow_zero, Nat.div_one]
    · rw [pk_un (by omega), pk_us, Nat.pow_one]
    · rw [pk_us, show 10 ^ 2 = 100 from rfl, show c / 100 % 10 = c / 100 by omega]
  · rw [dn_upn z, pk_un (by omega), pk_un (by omega), pk_un (by omega)]
    exact h t e he
section
variable {fT : Int32} {aW aP aD aC aK aS aR aX : Nat → Int32} {P : Nat → Nat → Nat} {T t : Nat}
theorem lx_ic {post : Int32 → Prop} {x : Nat} (hT : T ≤ 5) (hx : x < 10) (K1 : x = 9 ∨ x < 3 + T → post 1) (K0 : ¬ (x = 9 ∨ x < 3 + T) → post 0) : wpX_isColumn post (nI T, aW, aP, aD, aC, aK, aS, aR, aX) (nI x) :=
  dn_eq x 9 rfl rfl (by omega) (by decide) (fun z => K1 (Or.inl z)) (fun z => dn_le (3 + T) x (dn_3p T) rfl (by omega) (by omega) (fun y => K0 (by omega)) (fun y => K1 (Or.inr y)))
theorem lx_ac2 {post : Int32 → Prop} {a b c : Nat} (hT : T ≤ 5) (ha : a < 10) (hb : b < 10) (hc : c < 10) (h9 : a ≠ 9) (hbc : b ≠ 9 ∨ c = 9) (K1 : dt_cok T a b c → post 1) (K0 : ¬ dt_cok T a b c → post 0) : wX_areColumns_20 post (nI a) (nI b) (nI c) (nI T) aW aP aD aC aK aS aR aX := by
  unfold wX_areColumns_20
  refine lx_ic hT ha (fun za => br_f (by decide) (lx_ic hT hb (fun zb => br_f (by decide) (lx_ic hT hc (fun zc => br_f (by decide) (dn_eq a b rfl rfl (by omega) (by omega) (fun y => K0 (fun q => q.2.2.2.1 y)) (fun y1 => dn_eq a c rfl rfl (by omega) (by omega) (fun y => K0 (fun q => q.2.2.2.2.1 y)) (fun y2 => dn_eq b c rfl rfl (by omega) (by omega) (fun y3 => dn_eq b 9 rfl rfl (by omega) (by decide) (fun y4 => K1 ?_) (fun y4 => K0 ?_)) (fun y3 => K1 ?_))))) (fun zc => br_t rfl (K0 (fun q => zc q.2.2.1))))) (fun zb => br_t rfl (K0 (fun q => zb q.2.1))))) (fun za => br_t rfl (K0 (fun q => za (Or.inr q.1))))
  · exact ⟨by omega, zb, zc, y1, y2, Or.inr y4, hbc⟩
  · intro q
    have := q.2.2.2.2.2.1
    omega
  · exact ⟨by omega, zb, zc, y1, y2, Or.inl y3, hbc⟩
theorem lx_ac {post : Int32 → Prop} {a b c : Nat} (hT : T < 5) (ha : a < 10) (hb : b < 10) (hc : c < 10) (K1 : dt_cok T a b c → post 1) (K0 : ¬ dt_cok T a b c → post 0) : wpX_areColumns post (nI T, aW, aP, aD, aC, aK, aS, aR, aX) (nI a) (nI b) (nI c) := by
  refine dn_eq a 9 rfl rfl (by omega) (by decide) (fun z => K0 (fun q => ?_)) (fun z => dn_eq b 9 rfl rfl (by omega) (by decide) (fun y => dn_eq c 9 rfl rfl (by omega) (by decide) (fun w => lx_ac2 (by omega) ha hb hc z (Or.inr w) K1 K0) (fun w => K0 (fun q => ?_))) (fun y => lx_ac2 (by omega) ha hb hc z (Or.inl y) K1 K0))
  · have := q.1
    omega
  · have := q.2.2.2.2.2.2
    omega
theorem lx_t152 {post : Int32 → SX → Prop} (G : dt_G T P) (A : dx_A T P aW aP aD aC aK aS aR) (hT : T < 5) {c p d w : Nat} (hw : w = dt_wd c) {aK' : Nat → Int32} (hK : ∀ t e, e < 3 → aK' (3 * t + e) = nI (dn_up (P 0) T c t / 10 ^ e % 10))
    (K : ∀ aW aP aD aC aK : Nat → Int32, dx_A (T + 1) (dt_new P T c p d) aW aP aD aC aK aS aR → post (nI T) (nI (T + 1), aW, aP, aD, aC, aK, aS, aR, aX)) : wX_table_152 post (nI p) (nI d) (nI T) (nI w) (nI T) (nI T) aW aP aD aC aK' aS aR aX := by
  refine ⟨vp_in_nI hT (by decide), nm_e ⟨vp_in_nI hT (by decide), nm_e ⟨vp_in_nI hT (by decide), nm_e ⟨vp_in_nI hT (by decide), nm_e (nm_r (nI_1 T) (K _ _ _ _ _ ⟨?_, dn_uI A.2.1 rfl (by omega) rfl, dn_uI A.2.2.1 rfl (by omega) rfl, dn_uI A.2.2.2.1 rfl (by omega) rfl, hK, A.2.2.2.2.2⟩))⟩⟩⟩⟩
  intro t ht
  rw [nI_clamp (by omega)]
  show _ = nI (dt_wd (dn_up (P 0) T c t))
  by_cases z : t = T
  · subst z; rw [pk_us, dn_ups, hw]
  · rw [pk_un z, dn_upn z]; exact A.1 t (by omega)
theorem lx_tb {post : Int32 → SX → Prop} (G : dt_G T P) (A : dx_A T P aW aP aD aC aK aS aR) (hT : T < 5) {c p d : Nat} (hc : c < 1000) (hp : p < 6) (hd : d < 8)
    (K0 : ¬ dt_cok T (c % 10) (c / 10 % 10) (c / 100) → post (-1) (nI T, aW, aP, aD, aC, aK, aS, aR, aX))
    (K : dt_cok T (c % 10) (c / 10 % 10) (c / 100) → ∀ aW aP aD aC aK : Nat → Int32, dx_A (T + 1) (dt_new P T c p d) aW aP aD aC aK aS aR → post (nI T) (nI (T + 1), aW, aP, aD, aC, aK, aS, aR, aX)) : wpX_table post (nI T, aW, aP, aD, aC, aK, aS, aR, aX) (nI c) (nI p) (nI d) := by
  unfold wpX_table
  refine dn_eq T 5 rfl rfl (by omega) (by decide) (fun z => absurd z (by omega)) (fun _ => br_f (nI_pos (by omega)) (br_t (nI_le (b := 999) (by omega) (by decide)) (br_f (nI_pos (by omega)) (br_f (nI_ge (b := 6) hp (by decide)) (lx_vl_y hd (br_f (by decide) ⟨by decide, nm_r (dn_r10 (by omega)) ⟨by decide, by decide, nm_r (e' := nI (c / 10 % 10)) ?_ ⟨by decide, nm_r (dn_d100 (by omega)) (lx_ac hT (by omega) (by omega) (by omega) (fun hk => br_f (by decide) ⟨pk_in (3 * T) 15 (by omega) (dn_3 T), nm_e ⟨pk_in (3 * T + 1) 15 (by omega) ?_, nm_e ⟨pk_in (3 * T + 2) 15 (by omega) ?_, nm_e (dn_eq (c / 10 % 10) 9 rfl rfl (by omega) (by decide) (fun z => ?_) (fun z => dn_eq (c / 100) 9 rfl rfl (by omega) (by decide) (fun y => ?_) (fun y => ?_)))⟩⟩⟩) (fun hk => br_t rfl (K0 hk)))⟩⟩⟩))))))
  · rw [dn_d10 (by omega), dn_r10 (by omega)]
  · rw [dn_3]; exact nI_add _ 1
  · rw [dn_3]; exact nI_add _ 2
  · have h7 := hk.2.2.2.2.2.2
    exact lx_t152 (w := 1) G A hT (by unfold dt_wd; rw [if_pos (by omega), if_pos z]) (dt_cols A.2.2.2.2.1 hT hc) (K hk)
  · exact lx_t152 (w := 2) G A hT (by unfold dt_wd; rw [if_pos y, if_neg z]) (dt_cols A.2.2.2.2.1 hT hc) (K hk)
  · exact lx_t152 (w := 3) G A hT (by unfold dt_wd; rw [if_neg y]) (dt_cols A.2.2.2.2.1 hT hc) (K hk)
theorem lx_ru {post : Int32 → SX → Prop} (G : dt_G T P) (A : dx_A T P aW aP aD aC aK aS aR) (ht : t < T) (hn : P 3 t ≠ 8) {s r : Nat} (hs : s < 16777216) (hr : r < 8)
    (K : ∀ aC aS aR : Nat → Int32, dx_A T (dt_rul P t s r) aW aP aD aC aK aS aR → post (nI (P 3 t + 1)) (nI T, aW, aP, aD, aC, aK, aS, aR, aX)) : wpX_rule post (nI T, aW, aP, aD, aC, aK, aS, aR, aX) (nI t) (nI s) (nI r) := by
  have hT := G.1
  have h8 := G.2.2.2.2.1 t
  have hc : aC (nI t).toNatClampNeg = nI (P 3 t) := dn_rd A.2.2.2.1 rfl (by omega)
  have hi : 8 * nI t + aC (nI t).toNatClampNeg = nI (8 * t + P 3 t) := by rw [hc, dn_8r]
  unfold wpX_rule
  refine lx_ta_y G.1 ht (br_f (by decide) ⟨vp_in_nI (by omega) (by decide), dn_eq (P 3 t) 8 hc rfl (by omega) (by decide) (fun z => absurd z hn) (fun _ => br_f (nI_pos (by omega)) (br_f (nI_nlt (a := 16777215) (by omega) (by decide)) (lx_vl_y hr (br_f (by decide) ⟨vp_in_nI (by omega) (by decide), nm_r hi ⟨vp_in_nI (by omega) (by decide), nm_e ⟨vp_in_nI (by omega) (by decide), nm_e ⟨vp_in_nI (by omega) (by decide), vp_in_nI (by omega) (by decide), nm_e ⟨vp_in_nI (by omega) (by decide), ?_⟩⟩⟩⟩⟩))))⟩)
  have hu : ∀ j, upd aC (nI t).toNatClampNeg (aC (nI t).toNatClampNeg + 1) j = nI (dn_up (P 3) t (P 3 t + 1) j) := dn_uI A.2.2.2.1 rfl (by omega) (by rw [hc, nI_1])
  have k := K _ _ _ ⟨A.1, A.2.1, A.2.2.1, hu, A.2.2.2.2.1, dn_uI A.2.2.2.2.2.1 rfl (by omega) rfl, dn_uI A.2.2.2.2.2.2 rfl (by omega) rfl⟩
  have e : upd aC (nI t).toNatClampNeg (aC (nI t).toNatClampNeg + 1) (nI t).toNatClampNeg = nI (P 3 t + 1) := by rw [pk_us, hc, nI_1]
  rw [e]
  exact k
theorem lx_ur {post : Int32 → SX → Prop} (G : dt_G T P) (A : dx_A T P aW aP aD aC aK aS aR) (ht : t < T) (hn : P 3 t ≠ 0)
    (K : ∀ aC : Nat → Int32, dx_A T (dt_unl P t) aW aP aD aC aK aS aR → post (nI (P 3 t - 1)) (nI T, aW, aP, aD, aC, aK, aS, aR, aX)) : wpX_unrule post (nI T, aW, aP, aD, aC, aK, aS, aR, aX) (nI t) := by
  have hT := G.1
  have h8 := G.2.2.2.2.1 t
  have hc : aC (nI t).toNatClampNeg = nI (P 3 t) := dn_rd A.2.2.2.1 rfl (by omega)
  have hm : aC (nI t).toNatClampNeg - 1 = nI (P 3 t - 1) := by rw [hc]; exact pk_sub (b := 1) (by omega)
  unfold wpX_unrule
  refine lx_ta_y G.1 ht (br_f (by decide) ⟨vp_in_nI (by omega) (by decide), dn_eq (P 3 t) 0 hc rfl (by omega) (by decide) (fun z => absurd z hn) (fun _ => ⟨vp_in_nI (by omega) (by decide), vp_in_nI (by omega) (by decide), nm_e ⟨vp_in_nI (by omega) (by decide), ?_⟩⟩)⟩)
  have hu : ∀ j, upd aC (nI t).toNatClampNeg (aC (nI t).toNatClampNeg - 1) j = nI (dn_up (P 3) t (P 3 t - 1) j) := dn_uI A.2.2.2.1 rfl (by omega) hm
  have k := K _ ⟨A.1, A.2.1, A.2.2.1, hu, A.2.2.2.2⟩
  have e : upd aC (nI t).toNatClampNeg (aC (nI t).toNatClampNeg - 1) (nI t).toNatClampNeg = nI (P 3 t - 1) := by rw [pk_us, hm]
  rw [e]
  exact k
end
