theorem dn_ix (x : Int32) (n : Nat) (hn : n < 2 ^ 31) : (x < 0 ∨ nI n ≤ x) ∨ ∃ j : Nat, j < n ∧ x = nI j := by
  rcases pk_ix x hn with h | h | h
  · exact Or.inl (Or.inl h)
  · exact Or.inl (Or.inr h)
  · exact Or.inr h
theorem dn_e0 {a : Nat} (h : a < 2 ^ 31) : nI a = 0 ↔ a = 0 := nI_eq (b := 0) h (by decide)
theorem dn_all1 {A : Prop} {B : Prop} {x : Bool} (f : x = false → A) (g : x = true → B) : (dn_B x = 0 → A) ∧ (¬ dn_B x = 0 → B) := by
  cases x with
  | false => exact br_t rfl (f rfl)
  | true => exact br_f (by decide) (g rfl)
theorem dn_7 {i : Nat} (hi : i < 3) : (7 : Int32) <<< ((3 * nI i) &&& 31) = nI (7 * 2 ^ (3 * i)) := by
  have h6 : 2 ^ (3 * i) ≤ 2 ^ 6 := dn_pl (by omega)
  rw [dn_3]
  exact dn_shl (n := 7) (by omega) (by omega)
theorem dt_meet_f {a w c : Nat} (hc : c < w) (h : a / 2 ^ (8 * c) % 256 = 0) : dt_meet a w = false := by
  induction w with
  | zero => exact absurd hc (by omega)
  | succ w ih =>
    show (dt_meet a w && decide (a / 2 ^ (8 * w) % 256 ≠ 0)) = false
    by_cases e : c = w
    · subst e
      rw [h, decide_eq_false (fun z => z rfl), Bool.and_false]
    · rw [ih (by omega), Bool.false_and]
section
variable {fT : Int32} {aW aP aD aC aK aS aR aX : Nat → Int32} {P : Nat → Nat → Nat} {T t : Nat}
theorem lx_va_n {post : Int32 → Prop} {x : Int32} (h : x < 0 ∨ nI 8 ≤ x) (K : post 0) : wpX_isVariable post (fT, aW, aP, aD, aC, aK, aS, aR, aX) x := by
  by_cases z : x < 0
  · exact br_t z K
  · exact br_f z (br_t (h.resolve_left z) K)
theorem lx_va_y {post : Int32 → Prop} {j : Nat} (hj : j < 8) (K : post 1) : wpX_isVariable post (fT, aW, aP, aD, aC, aK, aS, aR, aX) (nI j) := br_f (nI_pos (by omega)) (br_f (nI_ge (b := 8) hj (by decide)) K)
theorem lx_vl_n {post : Int32 → Prop} {x : Int32} (h : x < 0 ∨ nI 8 ≤ x) (K : post 0) : wpX_isValue post (fT, aW, aP, aD, aC, aK, aS, aR, aX) x := by
  by_cases z : x < 0
  · exact br_t z K
  · exact br_f z (br_t (h.resolve_left z) K)
theorem lx_vl_y {post : Int32 → Prop} {j : Nat} (hj : j < 8) (K : post 1) : wpX_isValue post (fT, aW, aP, aD, aC, aK, aS, aR, aX) (nI j) := br_f (nI_pos (by omega)) (br_f (nI_ge (b := 8) hj (by decide)) K)
theorem lx_ca_n {post : Int32 → Prop} {x : Int32} (h : x < 0 ∨ nI 512 ≤ x) (K : post 0) : wpX_isCase post (fT, aW, aP, aD, aC, aK, aS, aR, aX) x := by
  by_cases z : x < 0
  · exact br_t z K
  · exact br_f z (br_t (h.resolve_left z) K)
theorem lx_ca_y {post : Int32 → Prop} {j : Nat} (hj : j < 512) (K : post 1) : wpX_isCase post (fT, aW, aP, aD, aC, aK, aS, aR, aX) (nI j) := br_f (nI_pos (by omega)) (br_f (nI_ge (b := 512) hj (by decide)) K)
theorem lx_ta_n {post : Int32 → Prop} {x : Int32} (h : x < 0 ∨ nI T ≤ x) (K : post 0) : wpX_isTable post (nI T, aW, aP, aD, aC, aK, aS, aR, aX) x := by
  by_cases z : x < 0
  · exact br_t z K
  · exact br_f z (br_t (h.resolve_left z) K)
theorem lx_ta_y {post : Int32 → Prop} {j : Nat} (hT : T ≤ 5) (hj : j < T) (K : post 1) : wpX_isTable post (nI T, aW, aP, aD, aC, aK, aS, aR, aX) (nI j) := br_f (nI_pos (by omega)) (br_f (nI_ge hj (by omega)) K)
theorem lx_cb {post : Int32 → Prop} (G : dt_G T P) (A : dx_A T P aW aP aD aC aK aS aR) (ht : t < T) (K : post (nI (2 ^ (3 * dt_wd (P 0 t))))) : wpX_combinationsOf post (fT, aW, aP, aD, aC, aK, aS, aR, aX) (nI t) := by
  have hT := G.1
  have hw := dt_wd_in (P 0 t)
  refine ⟨vp_in_nI (by omega) (by decide), ?_⟩
  rw [nI_clamp (by omega), A.1 t ht, dn_3, dn_one (by omega)]
  exact K
theorem dt_N {P : Nat → Nat → Nat} (t : Nat) : 2 ^ (3 * dt_wd (P 0 t)) ≤ 512 := dn_pl (b := 9) (by have := dt_wd_in (P 0 t); omega)
theorem lx_gaps1 {post : Int32 → Prop} (G : dt_G T P) (A : dx_A T P aW aP aD aC aK aS aR) (ht : t < T) {N : Nat} (hN : N ≤ 512) (K : post (nI (dt_cnt (fun k => decide (dt_F P t k = 0)) N))) :
    ∀ e i, i + e = N → wX_gaps_21 post (nI t) (nI N) fT aW aP aD aC aK aS aR aX (e + 1) (nI (dt_cnt (fun k => decide (dt_F P t k = 0)) i)) (nI i) := by
  intro e
  induction e with
  | zero =>
    intro i hi
    refine br_t (nI_le (by omega) (by omega)) ?_
    rw [show i = N by omega]
    exact K
  | succ e ih =>
    intro i hi
    have h := ih (i + 1) (by omega)
    have hF := dt_F_lt G t i
    refine br_f (nI_ge (by omega) (by omega)) (lx_fa G A ht (by omega) (dn_iff (dn_e0 (by omega)) (fun z => nm_r (nI_1 _) (nm_r (nI_1 i) ?_)) (fun z => nm_r (nI_1 i) ?_)))
    · rw [dt_cnt_y (p := fun k => decide (dt_F P t k = 0)) (decide_eq_true z)] at h
      exact h
    · rw [dt_cnt_n (p := fun k => decide (dt_F P t k = 0)) (fun y => z (of_decide_eq_true y))] at h
      exact h
theorem lx_gaps {post : Int32 → Prop} (G : dt_G T P) (A : dx_A T P aW aP aD aC aK aS aR) (ht : t < T) (K : post (nI (dt_cnt (fun k => decide (dt_F P t k = 0)) (2 ^ (3 * dt_wd (P 0 t)))))) : wpX_gaps post (nI T, aW, aP, aD, aC, aK, aS, aR, aX) (nI t) := by
  unfold wpX_gaps
  exact lx_ta_y G.1 ht (br_f (by decide) (lx_cb G A ht ⟨_, lx_gaps1 G A ht (dt_N t) K _ 0 (Nat.zero_add _)⟩))
theorem lx_me1 {post : Int32 → Prop} (G : dt_G T P) (A : dx_A T P aW aP aD aC aK aS aR) (ht : t < T) {a : Nat} (ha : a < 2 ^ 31) (K : post (dn_B (dt_meet a (dt_wd (P 0 t))))) :
    ∀ e c, c + e = dt_wd (P 0 t) → dt_meet a c = true → wX_meet_28 post (nI t) (nI a) fT aW aP aD aC aK aS aR aX (e + 1) (nI c) := by
  have hT := G.1
  have hw := dt_wd_in (P 0 t)
  have hW : aW (nI t).toNatClampNeg = nI (dt_wd (P 0 t)) := by rw [nI_clamp (by omega)]; exact A.1 t ht
  intro e
  induction e with
  | zero =>
    intro c hc hm
    refine ⟨vp_in_nI (by omega) (by decide), br_t ?_ ?_⟩
    · rw [hW]; exact nI_le (by omega) (by omega)
    · rw [← show c = dt_wd (P 0 t) by omega, hm] at K
      exact K
  | succ e ih =>
    intro c hc hm
    refine ⟨vp_in_nI (by omega) (by decide), br_f ?_ (dn_iff (d := a / 2 ^ (8 * c) % 256 = 0) ?_ (fun z => ?_) (fun z => nm_r (nI_1 c) (ih (c + 1) (by omega) ?_)))⟩
    · rw [hW]; exact nI_ge (by omega) (by omega)
    · rw [dn_8, dn_shr (by omega) ha, dn_m255 (Nat.lt_of_le_of_lt (Nat.div_le_self _ _) ha), dn_e0 (by omega)]
    · rw [dt_meet_f (by omega) z] at K
      exact K
    · show (dt_meet a c && decide (a / 2 ^ (8 * c) % 256 ≠ 0)) = true
      rw [hm, decide_eq_true z]
      rfl
theorem lx_me {post : Int32 → Prop} (G : dt_G T P) (A : dx_A T P aW aP aD aC aK aS aR) (ht : t < T) {r s : Nat} (hr : r < 8) (hs : s < 8) (K : post (dn_B (dt_q P t r s))) : wpX_meet post (fT, aW, aP, aD, aC, aK, aS, aR, aX) (nI t) (nI r) (nI s) := by
  have hT := G.1
  have h1 := G.2.2.2.2.2.1 (8 * t + r)
  refine ⟨pk_in (8 * t + r) 40 (by omega) (dn_8r t r), pk_in (8 * t + s) 40 (by omega) (dn_8r t s), nm_r (e' := nI (P 4 (8 * t + r) &&& P 4 (8 * t + s))) ?_ ⟨_, lx_me1 G A ht (Nat.lt_of_le_of_lt Nat.and_le_left (by omega)) K _ 0 (Nat.zero_add _) rfl⟩⟩
  rw [dn_rd A.2.2.2.2.2.1 (dn_8r t r) (by omega), dn_rd A.2.2.2.2.2.1 (dn_8r t s) (by omega), nx_and]
theorem lx_ov2 {post : Int32 → Prop} (G : dt_G T P) (A : dx_A T P aW aP aD aC aK aS aR) (ht : t < T) {r b : Nat} (hr : r < 8) {J : Int32 → Int32 → Prop} (K : J (nI (b + dt_row (dt_q P t) (P 3 t) r)) (nI (r + 1))) :
    ∀ e s, s + e = P 3 t → r < s → wX_overlaps_29 post J (nI t) (nI r) fT aW aP aD aC aK aS aR aX (e + 1) (nI (b + dt_row (dt_q P t) s r)) (nI s) := by
  have hT := G.1
  have h8 := G.2.2.2.2.1 t
  have hc : aC (nI t).toNatClampNeg = nI (P 3 t) := dn_rd A.2.2.2.1 rfl (by omega)
  intro e
  induction e with
  | zero =>
    intro s hs hrs
    refine ⟨vp_in_nI (by omega) (by decide), br_t ?_ (nm_r (nI_1 r) ?_)⟩
    · rw [hc]; exact nI_le (by omega) (by omega)
    · rw [show s = P 3 t by omega]; exact K
  | succ e ih =>
    intro s hs hrs
    have h := ih (s + 1) (by omega) (by omega)
    refine ⟨vp_in_nI (by omega) (by decide), br_f ?_ (lx_me G A ht hr (by omega) (dn_all1 (fun z => nm_r (nI_1 s) ?_) (fun z => nm_r (nI_1 _) (nm_r (nI_1 s) ?_))))⟩
    · rw [hc]; exact nI_ge (by omega) (by omega)
    · unfold dt_row at h
      rw [dt_cnt_n (by rw [z, Bool.and_false]; exact fun y => nomatch y)] at h
      exact h
    · unfold dt_row at h
      rw [dt_cnt_y (by rw [z, decide_eq_true hrs]; rfl)] at h
      exact h
theorem lx_ov1 {post : Int32 → Prop} (G : dt_G T P) (A : dx_A T P aW aP aD aC aK aS aR) (ht : t < T) (K : post (nI (dt_ovl P t))) :
    ∀ e r, r + e = P 3 t → wX_overlaps_14 post (nI t) fT aW aP aD aC aK aS aR aX (e + 1) (nI (dt_prs (dt_q P t) (P 3 t) r)) (nI r) := by
  have hT := G.1
  have h8 := G.2.2.2.2.1 t
  have hc : aC (nI t).toNatClampNeg = nI (P 3 t) := dn_rd A.2.2.2.1 rfl (by omega)
  intro e
  induction e with
  | zero =>
    intro r hr
    refine ⟨vp_in_nI (by omega) (by decide), br_t ?_ ?_⟩
    · rw [hc]; exact nI_le (by omega) (by omega)
    · rw [show r = P 3 t by omega]; exact K
  | succ e ih =>
    intro r hr
    have h := lx_ov2 (post := post) (fT := fT) (aX := aX) G A ht (b := dt_prs (dt_q P t) (P 3 t) r) (by omega) (ih (r + 1) (by omega)) e (r + 1) (by omega) (by omega)
    rw [dt_row0, Nat.add_zero] at h
    refine ⟨vp_in_nI (by omega) (by decide), br_f ?_ (nm_r (nI_1 r) ⟨e + 1, h⟩)⟩
    rw [hc]; exact nI_ge (by omega) (by omega)
theorem lx_over {post : Int32 → Prop} (G : dt_G T P) (A : dx_A T P aW aP aD aC aK aS aR) (ht : t < T) (K : post (nI (dt_ovl P t))) : wpX_overlaps post (nI T, aW, aP, aD, aC, aK, aS, aR, aX) (nI t) := by
  unfold wpX_overlaps
  exact lx_ta_y G.1 ht (br_f (by decide) ⟨_, lx_ov1 G A ht K _ 0 (Nat.zero_add _)⟩)
theorem lx_nl1 {post : Int32 → Prop} (G : dt_G T P) (A : dx_A T P aW aP aD aC aK aS aR) (ht : t < T) {r N : Nat} (hr : r < 8) (hN : N ≤ 512) (K : post (dn_B (dt_all (dt_np P t r) N))) :
    ∀ e k, k + e = N → (∀ j, j < k → dt_np P t r j = true) → wX_isNeedless_9 post (nI t) (nI r) (nI N) fT aW aP aD aC aK aS aR aX (e + 1) (nI k) := by
  intro e
  induction e with
  | zero =>
    intro k hk hp
    refine br_t (nI_le (by omega) (by omega)) ?_
    rw [dt_all_t (fun i hi => hp i (by omega))] at K
    exact K
  | succ e ih =>
    intro k hk hp
    have hF := dt_F_lt G t k
    have h1 := dt_R_le G t (dt_F P t k)
    have h2 := dt_R_le G t (dn_an (dt_F P t k) (2 ^ r))
    refine br_f (nI_ge (by omega) (by omega)) (lx_fa G A ht (by omega) (lx_ro G A ht (by omega) ?_))
    rw [dn_one (by omega), dn_anI]
    refine lx_ro G A ht (Nat.lt_trans (dn_an_lt (n := 8) _ hF) (by decide)) (dn_eq _ _ rfl rfl (by omega) (by omega) (fun z => nm_r (nI_1 k) (ih (k + 1) (by omega) ?_)) (fun z => ?_))
    · exact lt_s hp (decide_eq_true z)
    · rw [dt_all_f (i := k) (by omega) (fun y => z (of_decide_eq_true y))] at K
      exact K
theorem lx_nl {post : Int32 → Prop} (G : dt_G T P) (A : dx_A T P aW aP aD aC aK aS aR) (ht : t < T) {r : Nat} (hr : r < 8) (K : post (dn_B (dt_all (dt_np P t r) (2 ^ (3 * dt_wd (P 0 t)))))) : wpX_isNeedless post (fT, aW, aP, aD, aC, aK, aS, aR, aX) (nI t) (nI r) := by
  unfold wpX_isNeedless
  exact lx_cb G A ht ⟨_, lx_nl1 G A ht hr (dt_N t) K _ 0 (Nat.zero_add _) lt_0⟩
theorem lx_ne1 {post : Int32 → Prop} (G : dt_G T P) (A : dx_A T P aW aP aD aC aK aS aR) (ht : t < T) (p : Nat → Bool) (hp : p = fun i => dt_all (dt_np P t i) (2 ^ (3 * dt_wd (P 0 t)))) (K : post (nI (dt_bits p (P 3 t)))) :
    ∀ e r, r + e = P 3 t → wX_needless_14 post (nI t) fT aW aP aD aC aK aS aR aX (e + 1) (nI (dt_bits p r)) (nI r) := by
  have hT := G.1
  have h8 := G.2.2.2.2.1 t
  have hc : aC (nI t).toNatClampNeg = nI (P 3 t) := dn_rd A.2.2.2.1 rfl (by omega)
  intro e
  induction e with
  | zero =>
    intro r hr
    refine ⟨vp_in_nI (by omega) (by decide), br_t ?_ ?_⟩
    · rw [hc]; exact nI_le (by omega) (by omega)
    · rw [show r = P 3 t by omega]; exact K
  | succ e ih =>
    intro r hr
    have h := ih (r + 1) (by omega)
    refine ⟨vp_in_nI (by omega) (by decide), br_f ?_ (lx_nl G A ht (by omega) (dn_all1 (fun z => nm_r (nI_1 r) ?_) (fun z => nm_r (e' := nI (dt_bits p (r + 1))) ?_ (nm_r (nI_1 r) h))))⟩
    · rw [hc]; exact nI_ge (by omega) (by omega)
    · rw [← dt_bits_s0 (by rw [hp]; show ¬ dt_all (dt_np P t r) _ = true; rw [z]; exact fun y => nomatch y)] at h
      exact h
    · rw [dn_one (by omega), dn_or, dt_bits_s1 (by rw [hp]; exact z)]
theorem lx_need {post : Int32 → Prop} (G : dt_G T P) (A : dx_A T P aW aP aD aC aK aS aR) (ht : t < T) (K : post (nI (dt_ndl P t))) : wpX_needless post (nI T, aW, aP, aD, aC, aK, aS, aR, aX) (nI t) := by
  unfold wpX_needless
  exact lx_ta_y G.1 ht (br_f (by decide) ⟨_, lx_ne1 G A ht _ rfl K _ 0 (Nat.zero_add _)⟩)
end
