theorem dn_nb1 : vp_nar .boolean 1 = 1 := rfl
theorem dn_nb0 : vp_nar .boolean 0 = 0 := rfl
theorem dn_d8 {c : Nat} (h : c < 2 ^ 31) : nI c / 8 = nI (c / 8) := pk_div (d := 8) h (by decide) (by decide)
theorem dn_r8 {c : Nat} (h : c < 2 ^ 31) : nI c - nI c / 8 * 8 = nI (c % 8) := pk_rem (d := 8) h (by decide) (by decide)
theorem dn_d512 {c : Nat} (h : c < 2 ^ 31) : nI c / 512 = nI (c / 512) := pk_div (d := 512) h (by decide) (by decide)
theorem dn_r512 {c : Nat} (h : c < 2 ^ 31) : nI c - nI c / 512 * 512 = nI (c % 512) := pk_rem (d := 512) h (by decide) (by decide)
section
variable {fT fk : Int32} {bK bP bD bC bS bR bX bT : Nat → Int32} {P : Nat → Nat → Nat} {T t : Nat}
theorem ly_in_n {post : Int32 → Prop} {x : Int32} {b : Nat} (hb : b < 2 ^ 30) (h : x < 0 ∨ nI (b + 1) ≤ x) (K : post 0) : wpY_in post (fT, fk, bK, bP, bD, bC, bS, bR, bX, bT) x 0 (nI b) := by
  by_cases z : x < 0
  · exact br_t z K
  · exact br_f z (br_t (Int32.lt_of_lt_of_le (nI_lt (by omega) (by omega)) (h.resolve_left z)) K)
theorem ly_in_y {post : Int32 → Prop} {j b : Nat} (hb : b < 2 ^ 30) (hj : j < b + 1) (K : post 1) : wpY_in post (fT, fk, bK, bP, bD, bC, bS, bR, bX, bT) (nI j) 0 (nI b) := br_f (nI_pos (by omega)) (br_f (nI_nlt (by omega) (by omega)) K)
theorem ly_ta_n {post : Int32 → Prop} {x : Int32} (hT : T ≤ 5) (h : x < 0 ∨ nI T ≤ x) (K : post 0) : wpY_isTable post (nI T, fk, bK, bP, bD, bC, bS, bR, bX, bT) x := by
  by_cases z : x < 0
  · exact br_t z ⟨rfl, K⟩
  · refine br_f z (br_t ?_ ⟨rfl, K⟩)
    have h2 := h.resolve_left z
    cases T with
    | zero => exact Int32.lt_of_lt_of_le (by decide) h2
    | succ s =>
      rw [nI_pred]
      exact Int32.lt_of_lt_of_le (nI_lt (by omega) (by omega)) h2
theorem ly_ta_y {post : Int32 → Prop} {j : Nat} (hT : T ≤ 5) (hj : j < T) (K : post 1) : wpY_isTable post (nI T, fk, bK, bP, bD, bC, bS, bR, bX, bT) (nI j) := by
  refine br_f (nI_pos (by omega)) (br_f ?_ ⟨rfl, K⟩)
  cases T with
  | zero => exact absurd hj (by omega)
  | succ s =>
    rw [nI_pred]
    exact nI_nlt (by omega) (by omega)
theorem ly_cs {post : Int32 → Prop} (G : dt_G T P) (A : dy_A P bK bP bD bC bS bR) (ht : t < 5) (K : post (nI (2 ^ (3 * dt_wd (P 0 t))))) : wpY_combinations post (fT, fk, bK, bP, bD, bC, bS, bR, bX, bT) (nI t) := by
  have hw := dt_wd_in (P 0 t)
  unfold wpY_combinations
  refine ly_wd G A ht ?_
  rw [dn_3, dn_one (by omega)]
  exact K
theorem ly_value {post : Int32 → SY → Prop} (G : dt_G T P) (A : dy_A P bK bP bD bC bS bR) (hk : fk = 0 ∨ (fk = 1 ∧ dy_V T P bX)) {v m : Nat} (hv : v < 8) (hm : m < 512) (K : ∀ bX : Nat → Int32, dy_V T P bX → post (nI (dt_V P m T v)) (nI T, 1, bK, bP, bD, bC, bS, bR, bX, bT)) : wpY_value post (nI T, fk, bK, bP, bD, bC, bS, bR, bX, bT) (nI v) (nI m) := by
  unfold wpY_value
  refine ly_in_y (b := 7) (by decide) hv (br_f (by decide) (ly_in_y (b := 511) (by decide) hm (br_f (by decide) (ly_wo G A hk (fun X' hX' => ?_)))))
  show vp_in (512 * nI v + nI m) 4096 ∧ _
  refine ⟨pk_in (512 * v + m) 4096 (by omega) (dn_512 v m), ?_⟩
  rw [dy_rd hX' hv hm (dn_512 v m)]
  exact K X' hX'
theorem ly_fires {post : Int32 → SY → Prop} (G : dt_G T P) (A : dy_A P bK bP bD bC bS bR) (hk : fk = 0 ∨ (fk = 1 ∧ dy_V T P bX)) {m : Nat} (ht : t < T) (hm : m < 512) (K : ∀ bX : Nat → Int32, dy_V T P bX → post (nI (dt_rch T P t m)) (nI T, 1, bK, bP, bD, bC, bS, bR, bX, bT)) : wpY_fires post (nI T, fk, bK, bP, bD, bC, bS, bR, bX, bT) (nI t) (nI m) := by
  have hT := G.1
  unfold wpY_fires
  refine ly_ta_y G.1 ht (br_f (by decide) (ly_in_y (b := 511) (by decide) hm (br_f (by decide) (ly_wo G A hk (fun X' hX' => ?_)))))
  exact ly_co (vl := dt_V P m T) G A ht hm (fun v hv => by rw [hX' _ (by omega), show (512 * v + m) % 512 = m by omega, show (512 * v + m) / 512 = v by omega]) (fun v => dt_V_le G m T v) (ly_fi G A (by omega) (Nat.lt_trans (dt_cK G t m T) (by decide)) (K X' hX'))
theorem ly_gaps1 {post : Int32 → Prop} (G : dt_G T P) (A : dy_A P bK bP bD bC bS bR) (ht : t < 5) {N : Nat} (hN : N = 2 ^ (3 * dt_wd (P 0 t))) (K : post (nI (dt_cnt (fun k => decide (dt_F P t k = 0)) N))) :
    ∀ e i, i + e = N → wY_gaps_14 post (nI t) fT fk bK bP bD bC bS bR bX bT (e + 1) (nI (dt_cnt (fun k => decide (dt_F P t k = 0)) i)) (nI i) := by
  have hN2 : N ≤ 512 := by rw [hN]; exact dt_N t
  intro e
  induction e with
  | zero =>
    intro i hi
    rw [wY_gaps_14]
    refine ly_cs G A ht ?_
    rw [← hN]
    refine br_t (nI_le (by omega) (by omega)) ?_
    rw [show i = N by omega]
    exact K
  | succ e ih =>
    intro i hi
    have h := ih (i + 1) (by omega)
    have hF := dt_F_lt G t i
    rw [wY_gaps_14]
    refine ly_cs G A ht ?_
    rw [← hN]
    refine br_f (nI_ge (by omega) (by omega)) (ly_fi G A ht (by omega) (dn_iff (dn_e0 (by omega)) (fun z => nm_r (nI_1 _) (nm_r (nI_1 i) ?_)) (fun z => nm_r (nI_1 i) ?_)))
    · rw [dt_cnt_y (p := fun k => decide (dt_F P t k = 0)) (decide_eq_true z)] at h
      exact h
    · rw [dt_cnt_n (p := fun k => decide (dt_F P t k = 0)) (fun y => z (of_decide_eq_true y))] at h
      exact h
theorem ly_gaps {post : Int32 → Prop} (G : dt_G T P) (A : dy_A P bK bP bD bC bS bR) (ht : t < T) (K : post (nI (dt_cnt (fun k => decide (dt_F P t k = 0)) (2 ^ (3 * dt_wd (P 0 t)))))) : wpY_gaps post (nI T, fk, bK, bP, bD, bC, bS, bR, bX, bT) (nI t) := by
  have hT := G.1
  unfold wpY_gaps
  exact ly_ta_y G.1 ht (br_f (by decide) ⟨_, ly_gaps1 G A (by omega) rfl K _ 0 (Nat.zero_add _)⟩)
/-- a set of firing rules is noted -/
theorem ly_no1 {post : SY → Prop} {F : Nat} (hF : F < 256) {o : Nat → Bool} (K : ∀ bT : Nat → Int32, (∀ j, j < 64 → bT j = dn_B (o j || (F.testBit (j / 8) && F.testBit (j % 8)))) → post (fT, fk, bK, bP, bD, bC, bS, bR, bX, bT)) :
    ∀ e i (bT : Nat → Int32), i + e = 64 → (∀ j, j < 64 → bT j = dn_B (if j < i then o j || (F.testBit (j / 8) && F.testBit (j % 8)) else o j)) → wY_note_2 post (nI F) fT fk (e + 1) (nI i) bK bP bD bC bS bR bX bT := by
  intro e
  induction e with
  | zero =>
    intro i bT hi hB
    refine br_t (nI_le (a := 64) (by omega) (by omega)) (K bT ?_)
    intro j hj
    rw [hB j hj, if_pos (by omega)]
  | succ e ih =>
    intro i bT hi hB
    refine br_f (nI_ge (b := 64) (by omega) (by decide)) ⟨by decide, by decide, dn_iff (d := (F.testBit (i / 8) && F.testBit (i % 8)) = true) ?_ (fun z => ⟨vp_in_nI (by omega) (by decide), nm_e (nm_r (nI_1 i) (ih (i + 1) _ (by omega) ?_))⟩) (fun z => nm_r (nI_1 i) (ih (i + 1) bT (by omega) ?_))⟩
    · rw [dn_r8 (by omega), dn_d8 (by omega), dn_bit2 (by omega) (by omega) (by omega)]
    · intro j hj
      rw [nI_clamp (by omega), dn_nb1]
      by_cases e : j = i
      · subst e
        rw [pk_us, if_pos (by omega), z, Bool.or_true]
        rfl
      · rw [pk_un e, hB j hj]
        by_cases h : j < i
        · rw [if_pos h, if_pos (by omega)]
        · rw [if_neg h, if_neg (by omega)]
    · intro j hj
      rw [hB j hj]
      by_cases e : j = i
      · subst e
        rw [if_neg (by omega), if_pos (by omega), Bool.not_eq_true _ |>.mp z, Bool.or_false]
      · by_cases h : j < i
        · rw [if_pos h, if_pos (by omega)]
        · rw [if_neg h, if_neg (by omega)]
theorem ly_no {post : SY → Prop} {F : Nat} (hF : F < 256) {o : Nat → Bool} (ho : ∀ j, j < 64 → bT j = dn_B (o j)) (K : ∀ bT : Nat → Int32, (∀ j, j < 64 → bT j = dn_B (o j || (F.testBit (j / 8) && F.testBit (j % 8)))) → post (fT, fk, bK, bP, bD, bC, bS, bR, bX, bT)) : wpY_note post (fT, fk, bK, bP, bD, bC, bS, bR, bX, bT) (nI F) :=
  ⟨65, ly_no1 hF K 64 0 bT (Nat.zero_add _) (fun j hj => by rw [if_neg (by omega)]; exact ho j hj)⟩
theorem ly_ov3 {post : Int32 → SY → Prop} {o : Nat → Bool} (ho : ∀ j, j < 64 → bT j = dn_B (o j)) (K : post (nI (dt_cnt (fun j => decide (j / 8 < j % 8) && o j) 64)) (fT, fk, bK, bP, bD, bC, bS, bR, bX, bT)) :
    ∀ e i, i + e = 64 → wY_overlaps_64 post fT fk bK bP bD bC bS bR bX bT (e + 1) (nI (dt_cnt (fun j => decide (j / 8 < j % 8) && o j) i)) (nI i) := by
  intro e
  induction e with
  | zero =>
    intro i hi
    refine br_t (nI_le (a := 64) (by omega) (by omega)) ?_
    rw [show i = 64 by omega]
    exact K
  | succ e ih =>
    intro i hi
    have h := ih (i + 1) (by omega)
    refine br_f (nI_ge (b := 64) (by omega) (by decide)) ⟨by decide, by decide, dn_le (i % 8) (i / 8) (dn_r8 (by omega)) (dn_d8 (by omega)) (by omega) (by omega) (fun z => nm_r (nI_1 i) ?_) (fun z => ⟨vp_in_nI (by omega) (by decide), ?_⟩)⟩
    · rw [dt_cnt_n (by rw [decide_eq_false (Nat.not_lt.mpr z)]; exact fun y => nomatch y)] at h
      exact h
    · rw [nI_clamp (by omega), ho i (by omega)]
      refine dn_all1 (fun y => nm_r (nI_1 i) ?_) (fun y => nm_r (nI_1 _) (nm_r (nI_1 i) ?_))
      · rw [dt_cnt_n (by rw [y, Bool.and_false]; exact fun y => nomatch y)] at h
        exact h
      · rw [dt_cnt_y (by rw [y, decide_eq_true z]; rfl)] at h
        exact h
theorem ly_ov2 {post : Int32 → SY → Prop} (G : dt_G T P) (A : dy_A P bK bP bD bC bS bR) (ht : t < 5) {N : Nat} (hN : N = 2 ^ (3 * dt_wd (P 0 t))) (K : ∀ bT : Nat → Int32, post (nI (dt_ovl P t)) (fT, fk, bK, bP, bD, bC, bS, bR, bX, bT)) :
    ∀ e k (bT : Nat → Int32), k + e = N → (∀ j, j < 64 → bT j = dn_B (dt_ex (dt_tg P t j) k)) → wY_overlaps_33 post (nI t) (e + 1) (nI k) fT fk bK bP bD bC bS bR bX bT := by
  have hN2 : N ≤ 512 := by rw [hN]; exact dt_N t
  intro e
  induction e with
  | zero =>
    intro k bT hk hB
    rw [wY_overlaps_33]
    refine ly_cs G A ht ?_
    rw [← hN]
    refine br_t (nI_le (by omega) (by omega)) ⟨65, ly_ov3 hB ?_ 64 0 (Nat.zero_add _)⟩
    rw [show k = N by omega, hN, dt_ovY G t]
    exact K bT
  | succ e ih =>
    intro k bT hk hB
    rw [wY_overlaps_33]
    refine ly_cs G A ht ?_
    rw [← hN]
    refine br_f (nI_ge (by omega) (by omega)) (ly_fi G A ht (by omega) (ly_no (dt_F_lt G t k) hB (fun T' hT' => ?_)))
    exact nm_r (nI_1 k) (ih (k + 1) T' (by omega) hT')
theorem ly_ov1 {post : Int32 → SY → Prop} (G : dt_G T P) (A : dy_A P bK bP bD bC bS bR) (ht : t < 5) (K : ∀ bT : Nat → Int32, post (nI (dt_ovl P t)) (fT, fk, bK, bP, bD, bC, bS, bR, bX, bT)) :
    ∀ e i (bT : Nat → Int32), i + e = 64 → (∀ j, j < i → bT j = 0) → wY_overlaps_12 post (nI t) fT fk (e + 1) (nI i) bK bP bD bC bS bR bX bT := by
  intro e
  induction e with
  | zero =>
    intro i bT hi hB
    exact br_t (nI_le (a := 64) (by omega) (by omega)) ⟨_, ly_ov2 G A ht rfl K _ 0 bT (Nat.zero_add _) (fun j hj => hB j (by omega))⟩
  | succ e ih =>
    intro i bT hi hB
    refine br_f (nI_ge (b := 64) (by omega) (by decide)) ⟨vp_in_nI (by omega) (by decide), nm_e (nm_r (nI_1 i) (ih (i + 1) _ (by omega) ?_))⟩
    intro j hj
    rw [nI_clamp (by omega), dn_nb0]
    by_cases e : j = i
    · subst e; exact pk_us
    · rw [pk_un e]; exact hB j (by omega)
theorem ly_over {post : Int32 → SY → Prop} (G : dt_G T P) (A : dy_A P bK bP bD bC bS bR) (ht : t < T) (K : ∀ bT : Nat → Int32, post (nI (dt_ovl P t)) (nI T, fk, bK, bP, bD, bC, bS, bR, bX, bT)) : wpY_overlaps post (nI T, fk, bK, bP, bD, bC, bS, bR, bX, bT) (nI t) := by
  have hT := G.1
  unfold wpY_overlaps
  exact ly_ta_y G.1 ht (br_f (by decide) ⟨_, ly_ov1 G A (by omega) K 64 0 bT (Nat.zero_add _) lt_0⟩)
theorem ly_ne2 {post : Int32 → Prop} (G : dt_G T P) (A : dy_A P bK bP bD bC bS bR) (ht : t < 5) {k : Nat} (hk : k < 512) {J : Int32 → Int32 → Prop} (K : J (nI (dt_nY P t k (P 3 t))) (nI (k + 1))) :
    ∀ e r, r + e = P 3 t → wY_needless_52 post J (nI t) (nI k) (nI (dt_F P t k)) (nI (dt_R P t (dt_F P t k))) fT fk bK bP bD bC bS bR bX bT (e + 1) (nI (dt_nY P t k r)) (nI r) := by
  have h8 := G.2.2.2.2.1 t
  have hc : bC (nI t).toNatClampNeg = nI (P 3 t) := dn_rd A.2.2.2.1 rfl (by omega)
  have hF := dt_F_lt G t k
  intro e
  induction e with
  | zero =>
    intro r hr
    refine ⟨vp_in_nI (by omega) (by decide), br_t ?_ (nm_r (nI_1 k) ?_)⟩
    · rw [hc]; exact nI_le (by omega) (by omega)
    · rw [show r = P 3 t by omega]; exact K
  | succ e ih =>
    intro r hr
    have h := ih (r + 1) (by omega)
    have h1 := dt_R_le G t (dt_F P t k)
    have h2 := dt_R_le G t (dn_an (dt_F P t k) (2 ^ r))
    refine ⟨vp_in_nI (by omega) (by decide), br_f ?_ (dn_iff (dn_bit1 (by omega) (by omega)) (fun z => ?_) (fun z => nm_r (nI_1 r) ?_))⟩
    · rw [hc]; exact nI_ge (by omega) (by omega)
    · rw [dn_one (by omega), dn_anI (dt_F P t k)]
      refine ly_re G A ht (dn_an_lt (n := 8) _ hF) (dt_an_hi (dt_F_hi P t k) _) (dn_eq (dt_R P t (dn_an (dt_F P t k) (2 ^ r))) (dt_R P t (dt_F P t k)) rfl rfl (by omega) (by omega) (fun y => nm_r (nI_1 r) ?_) (fun y => nm_r (e' := nI (dt_nY P t k (r + 1))) ?_ (nm_r (nI_1 r) h)))
      · rw [dt_nY_s (show dt_np P t r k = true from decide_eq_true y.symm)] at h
        exact h
      · rw [dn_anI, dt_nY_d (show dt_np P t r k = false from decide_eq_false (fun q => y q.symm))]
    · rw [dt_nY_s (show dt_np P t r k = true from decide_eq_true (by rw [dn_an_n z]))] at h
      exact h
theorem ly_ne1 {post : Int32 → Prop} (G : dt_G T P) (A : dy_A P bK bP bD bC bS bR) (ht : t < 5) {N : Nat} (hN : N = 2 ^ (3 * dt_wd (P 0 t))) (K : post (nI (dt_ndl P t))) :
    ∀ e k, k + e = N → wY_needless_23 post (nI t) fT fk bK bP bD bC bS bR bX bT (e + 1) (nI (dt_nY P t k 0)) (nI k) := by
  have hN2 : N ≤ 512 := by rw [hN]; exact dt_N t
  intro e
  induction e with
  | zero =>
    intro k hk
    rw [wY_needless_23]
    refine ly_cs G A ht ?_
    rw [← hN]
    refine br_t (nI_le (by omega) (by omega)) ?_
    rw [dt_nY_e, show k = N by omega, hN]
    exact K
  | succ e ih =>
    intro k hk
    have h := ih (k + 1) (by omega)
    rw [← dt_nY_n] at h
    rw [wY_needless_23]
    refine ly_cs G A ht ?_
    rw [← hN]
    exact br_f (nI_ge (by omega) (by omega)) (ly_fi G A ht (by omega) (ly_re G A ht (dt_F_lt G t k) (dt_F_hi P t k) ⟨_, ly_ne2 G A ht (by omega) h _ 0 (Nat.zero_add _)⟩))
theorem ly_need {post : Int32 → Prop} (G : dt_G T P) (A : dy_A P bK bP bD bC bS bR) (ht : t < T) (K : post (nI (dt_ndl P t))) : wpY_needless post (nI T, fk, bK, bP, bD, bC, bS, bR, bX, bT) (nI t) := by
  have hT := G.1
  have h8 := G.2.2.2.2.1 t
  unfold wpY_needless
  refine ly_ta_y G.1 ht (br_f (by decide) ⟨vp_in_nI (by omega) (by decide), nm_r (e' := nI (dt_nY P t 0 0)) ?_ ⟨_, ly_ne1 G A (by omega) rfl K _ 0 (Nat.zero_add _)⟩⟩)
  rw [dn_rd A.2.2.2.1 rfl (by omega), dn_one (by omega), dt_nY_0]
  exact pk_sub (b := 1) (Nat.two_pow_pos _)
end
