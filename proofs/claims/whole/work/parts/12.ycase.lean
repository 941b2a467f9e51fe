theorem dt_oth_lt {i k : Nat} (hi : i < 3) (hk : k < 4096) : dt_oth i k < 512 := by
  unfold dt_oth
  refine Nat.or_lt_two_pow (n := 9) (dn_an_lt (n := 9) _ (Nat.mod_lt _ (by decide))) ?_
  have h6 : 2 ^ (3 * i) ≤ 2 ^ 6 := dn_pl (by omega)
  have h7 : k / 512 ≤ 7 := by omega
  have := Nat.mul_le_mul h7 h6
  omega
theorem dn_nn {a b : Nat} (ha : a < 1024) (hb : b < 1024) : 0 ≤ nI a - nI b ↔ ¬ a < b := by
  rw [← dn_subn ha hb, Int32.not_lt]
section
variable {fT fk : Int32} {bK bP bD bC bS bR bX bT : Nat → Int32} {P : Nat → Nat → Nat} {T t : Nat}
theorem ly_un1 {post : Int32 → SY → Prop} (G : dt_G T P) (A : dy_A P bK bP bD bC bS bR) (ht : t < T) {a : Nat} (K : ∀ (fk : Int32) (bX : Nat → Int32), (fk = 0 ∨ (fk = 1 ∧ dy_V T P bX)) → post (nI (dt_sh a (dt_rch T P t) 512)) (nI T, fk, bK, bP, bD, bC, bS, bR, bX, bT)) :
    ∀ e i (fk : Int32) (bX : Nat → Int32), i + e = 512 → (fk = 0 ∨ (fk = 1 ∧ dy_V T P bX)) → wY_unreached_23 post (nI t) (e + 1) (nI (dt_sh a (dt_rch T P t) i)) (nI i) (nI T) fk bK bP bD bC bS bR bX bT := by
  intro e
  induction e with
  | zero =>
    intro i fk bX hi hk
    refine br_t (nI_le (a := 512) (by omega) (by omega)) ?_
    rw [show i = 512 by omega]
    exact K fk bX hk
  | succ e ih =>
    intro i fk bX hi hk
    refine br_f (nI_ge (b := 512) (by omega) (by decide)) (ly_fires G A hk ht (by omega) (fun X' hX' => nm_r (dn_anI _ _) (nm_r (nI_1 i) (ih (i + 1) 1 X' (by omega) (Or.inr ⟨rfl, hX'⟩)))))
theorem ly_unr {post : Int32 → SY → Prop} (G : dt_G T P) (A : dy_A P bK bP bD bC bS bR) (hk : fk = 0 ∨ (fk = 1 ∧ dy_V T P bX)) (ht : t < T) (K : ∀ (fk : Int32) (bX : Nat → Int32), (fk = 0 ∨ (fk = 1 ∧ dy_V T P bX)) → post (nI (dt_unr T P t)) (nI T, fk, bK, bP, bD, bC, bS, bR, bX, bT)) : wpY_unreached post (nI T, fk, bK, bP, bD, bC, bS, bR, bX, bT) (nI t) := by
  have hT := G.1
  have h8 := G.2.2.2.2.1 t
  unfold wpY_unreached
  have e : dt_unr T P t = dt_sh (2 ^ (P 3 t) - 1) (dt_rch T P t) 512 := (dt_sh_e _ _ _).symm
  rw [e] at K
  refine ly_ta_y G.1 ht (br_f (by decide) ⟨vp_in_nI (by omega) (by decide), nm_r (e' := nI (2 ^ (P 3 t) - 1)) ?_ ⟨_, ly_un1 G A ht K 512 0 fk bX (Nat.zero_add _) hk⟩⟩)
  rw [dn_rd A.2.2.2.1 rfl (by omega), dn_one (by omega)]
  exact pk_sub (b := 1) (Nat.two_pow_pos _)
theorem ly_ct1 {post : Int32 → SY → Prop} (G : dt_G T P) (hX : dy_V T P bX) {v x : Nat} (hv : v < 8) (hx : x < 8) (K : post (nI (dt_cnt (fun m => decide (dt_V P m T v = x)) 512)) (fT, fk, bK, bP, bD, bC, bS, bR, bX, bT)) :
    ∀ e i, i + e = 512 → wY_count_33 post (nI v) (nI x) fT fk bK bP bD bC bS bR bX bT (e + 1) (nI (dt_cnt (fun m => decide (dt_V P m T v = x)) i)) (nI i) := by
  intro e
  induction e with
  | zero =>
    intro i hi
    refine br_t (nI_le (a := 512) (by omega) (by omega)) ?_
    rw [show i = 512 by omega]
    exact K
  | succ e ih =>
    intro i hi
    have h7 := dt_V_le G i T v
    have h := ih (i + 1) (by omega)
    refine br_f (nI_ge (b := 512) (by omega) (by decide)) ⟨pk_in (512 * v + i) 4096 (by omega) (dn_512 v i), dn_eq _ _ (dy_rd hX hv (by omega) (dn_512 v i)) rfl (by omega) (by omega) (fun z => nm_r (nI_1 _) (nm_r (nI_1 i) ?_)) (fun z => nm_r (nI_1 i) ?_)⟩
    · rw [dt_cnt_y (p := fun m => decide (dt_V P m T v = x)) (decide_eq_true z)] at h
      exact h
    · rw [dt_cnt_n (p := fun m => decide (dt_V P m T v = x)) (fun y => z (of_decide_eq_true y))] at h
      exact h
theorem ly_cnt {post : Int32 → SY → Prop} (G : dt_G T P) (A : dy_A P bK bP bD bC bS bR) (hk : fk = 0 ∨ (fk = 1 ∧ dy_V T P bX)) {v x : Nat} (hv : v < 8) (hx : x < 8) (K : ∀ bX : Nat → Int32, dy_V T P bX → post (nI (dt_cnt (fun m => decide (dt_V P m T v = x)) 512)) (nI T, 1, bK, bP, bD, bC, bS, bR, bX, bT)) : wpY_count post (nI T, fk, bK, bP, bD, bC, bS, bR, bX, bT) (nI v) (nI x) := by
  unfold wpY_count
  exact ly_in_y (b := 7) (by decide) hv (br_f (by decide) (ly_in_y (b := 7) (by decide) hx (br_f (by decide) (ly_wo G A hk (fun X' hX' => ⟨513, ly_ct1 G hX' hv hx (K X' hX') 512 0 (Nat.zero_add _)⟩)))))
theorem ly_fs1 {post : Int32 → SY → Prop} (G : dt_G T P) (hX : dy_V T P bX) {v x : Nat} (hv : v < 8) (hx : x < 8) :
    ∀ e i, i + e = 512 → post (dt_ff (fun m => decide (dt_V P m T v = x)) e i) (fT, fk, bK, bP, bD, bC, bS, bR, bX, bT) → wY_first_30 post (nI v) (nI x) fT fk bK bP bD bC bS bR bX bT (e + 1) (nI i) := by
  intro e
  induction e with
  | zero =>
    intro i hi K
    exact br_t (nI_le (a := 512) (by omega) (by omega)) K
  | succ e ih =>
    intro i hi K
    have h7 := dt_V_le G i T v
    refine br_f (nI_ge (b := 512) (by omega) (by decide)) ⟨pk_in (512 * v + i) 4096 (by omega) (dn_512 v i), dn_eq _ _ (dy_rd hX hv (by omega) (dn_512 v i)) rfl (by omega) (by omega) (fun z => ?_) (fun z => nm_r (nI_1 i) (ih (i + 1) (by omega) ?_))⟩
    · rw [dt_ff_y (p := fun m => decide (dt_V P m T v = x)) (decide_eq_true z)] at K
      exact K
    · rw [dt_ff_n (p := fun m => decide (dt_V P m T v = x)) (fun y => z (of_decide_eq_true y))] at K
      exact K
theorem ly_fst {post : Int32 → SY → Prop} (G : dt_G T P) (A : dy_A P bK bP bD bC bS bR) (hk : fk = 0 ∨ (fk = 1 ∧ dy_V T P bX)) {v x : Nat} (hv : v < 8) (hx : x < 8) (K : ∀ bX : Nat → Int32, dy_V T P bX → post (dt_ff (fun m => decide (dt_V P m T v = x)) 512 0) (nI T, 1, bK, bP, bD, bC, bS, bR, bX, bT)) : wpY_first post (nI T, fk, bK, bP, bD, bC, bS, bR, bX, bT) (nI v) (nI x) := by
  unfold wpY_first
  exact ly_in_y (b := 7) (by decide) hv (br_f (by decide) (ly_in_y (b := 7) (by decide) hx (br_f (by decide) (ly_wo G A hk (fun X' hX' => ⟨513, ly_fs1 G hX' hv hx 512 0 (Nat.zero_add _) (K X' hX')⟩)))))
theorem ly_po1 {post : Int32 → SY → Prop} (G : dt_G T P) (hX : dy_V T P bX) {v : Nat} (hv : v < 8) (K : post (nI (dt_pos T P v)) (fT, fk, bK, bP, bD, bC, bS, bR, bX, bT)) :
    ∀ e i, i + e = 512 → wY_possible_21 post (nI v) fT fk bK bP bD bC bS bR bX bT (e + 1) (nI (dt_oor (fun m => 2 ^ (dt_V P m T v)) i)) (nI i) := by
  intro e
  induction e with
  | zero =>
    intro i hi
    refine br_t (nI_le (a := 512) (by omega) (by omega)) ?_
    rw [show i = 512 by omega]
    exact K
  | succ e ih =>
    intro i hi
    have h7 := dt_V_le G i T v
    refine br_f (nI_ge (b := 512) (by omega) (by decide)) ⟨pk_in (512 * v + i) 4096 (by omega) (dn_512 v i), nm_r (e' := nI (dt_oor (fun m => 2 ^ (dt_V P m T v)) (i + 1))) ?_ (nm_r (nI_1 i) (ih (i + 1) (by omega)))⟩
    rw [dy_rd hX hv (by omega) (dn_512 v i), dn_one (by omega), dn_or]
    rfl
theorem ly_pos {post : Int32 → SY → Prop} (G : dt_G T P) (A : dy_A P bK bP bD bC bS bR) (hk : fk = 0 ∨ (fk = 1 ∧ dy_V T P bX)) {v : Nat} (hv : v < 8) (K : ∀ bX : Nat → Int32, dy_V T P bX → post (nI (dt_pos T P v)) (nI T, 1, bK, bP, bD, bC, bS, bR, bX, bT)) : wpY_possible post (nI T, fk, bK, bP, bD, bC, bS, bR, bX, bT) (nI v) := by
  unfold wpY_possible
  exact ly_in_y (b := 7) (by decide) hv (br_f (by decide) (ly_wo G A hk (fun X' hX' => ⟨513, ly_po1 G hX' hv (K X' hX') 512 0 (Nat.zero_add _)⟩)))
/-- the reference's search for a change (x3 = 0) or a fall (x3 = 1) -/
theorem ly_ch1 {post : Int32 → Prop} (G : dt_G T P) (hX : dy_V T P bX) {v i : Nat} (hv : v < 8) (hi : i < 3) {x3 : Int32} (p : Nat → Bool) (hp : (x3 = 0 ∧ p = dt_depY (dt_f T P v) i) ∨ (x3 = 1 ∧ p = dt_risY (dt_f T P v) i)) (K : post (dn_B (!dt_all p 4096))) :
    ∀ e k, k + e = 4096 → (∀ j, j < k → p j = true) → wY_changes_3 post (nI v) (nI i) x3 fT fk bK bP bD bC bS bR bX bT (e + 1) (nI k) := by
  intro e
  induction e with
  | zero =>
    intro k hk hq
    refine br_t (nI_le (a := 4096) (by omega) (by omega)) ?_
    rw [dt_all_t (fun j hj => hq j (by omega))] at K
    exact K
  | succ e ih =>
    intro k hk hq
    have hm : k % 512 < 512 := Nat.mod_lt _ (by decide)
    have ho := dt_oth_lt hi (show k < 4096 by omega)
    have h1 := dt_V_le G (k % 512) T v
    have h2 := dt_V_le G (dt_oth i k) T v
    have hx8 := dt_x_lt (k % 512) i
    have hy : k / 512 * 2 ^ (3 * i) < 2 ^ 32 := by
      have h6 : 2 ^ (3 * i) ≤ 2 ^ 6 := dn_pl (by omega)
      have h7 : k / 512 ≤ 7 := by omega
      have := Nat.mul_le_mul h7 h6
      omega
    refine br_f (nI_ge (b := 4096) (by omega) (by decide)) ⟨by decide, nm_r (dn_r512 (by omega)) (nm_r (dn_x (by omega) (by omega)) ⟨by decide, nm_r (dn_d512 (by omega)) (nm_r (e' := nI (dt_oth i k)) ?_ ⟨pk_in (512 * v + dt_oth i k) 4096 (by omega) (dn_512 _ _), pk_in (512 * v + k % 512) 4096 (by omega) (dn_512 _ _), nm_r (e' := nI (dt_f T P v (dt_oth i k)) - nI (dt_f T P v (k % 512))) ?_ (dn_le _ _ rfl rfl (by omega) (by omega) (fun z => nm_r (nI_1 k) (ih (k + 1) (by omega) (lt_s hq ?_))) (fun z => ?_))⟩)⟩)⟩
    · rw [dn_7 hi, dn_anI, dn_3, dn_shl (by omega) hy, dn_or]
      rfl
    · rw [dy_rd hX hv ho (dn_512 _ _), dy_rd hX hv hm (dn_512 _ _)]
      rfl
    · rcases hp with ⟨_, rfl⟩ | ⟨_, rfl⟩
      · unfold dt_depY
        rw [decide_eq_false (Nat.not_lt.mpr z)]
        rfl
      · unfold dt_risY
        rw [decide_eq_false (Nat.not_lt.mpr z)]
        rfl
    · have h1' : dt_f T P v (k % 512) < 1024 := Nat.lt_of_le_of_lt h1 (by decide)
      have h2' : dt_f T P v (dt_oth i k) < 1024 := Nat.lt_of_le_of_lt h2 (by decide)
      rcases hp with ⟨rfl, rfl⟩ | ⟨rfl, rfl⟩
      · refine br_t rfl (dn_iff (dn_sub0 h2' h1') (fun y => nm_r (nI_1 k) (ih (k + 1) (by omega) (lt_s hq ?_))) (fun y => ?_))
        · unfold dt_depY
          rw [decide_eq_true z, decide_eq_false (fun q => q y)]
          rfl
        · rw [dt_all_f (i := k) (by omega) (by unfold dt_depY; rw [decide_eq_true z, decide_eq_true y]; exact fun q => nomatch q)] at K
          exact K
      · refine br_f (by decide) (dn_iff (dn_nn h2' h1') (fun y => nm_r (nI_1 k) (ih (k + 1) (by omega) (lt_s hq ?_))) (fun y => ?_))
        · unfold dt_risY
          rw [decide_eq_true z, decide_eq_false y]
          rfl
        · rw [dt_all_f (i := k) (by omega) (by unfold dt_risY; rw [decide_eq_true z, decide_eq_true (Decidable.not_not.mp y)]; exact fun q => nomatch q)] at K
          exact K
theorem ly_ch {post : Int32 → Prop} (G : dt_G T P) (hX : dy_V T P bX) {v i : Nat} (hv : v < 8) (hi : i < 3) {x3 : Int32} (p : Nat → Bool) (hp : (x3 = 0 ∧ p = dt_depY (dt_f T P v) i) ∨ (x3 = 1 ∧ p = dt_risY (dt_f T P v) i)) (K : post (dn_B (!dt_all p 4096))) : wpY_changes post (fT, fk, bK, bP, bD, bC, bS, bR, bX, bT) (nI v) (nI i) x3 :=
  ⟨4097, ly_ch1 G hX hv hi p hp K 4096 0 (Nat.zero_add _) lt_0⟩
theorem ly_dp1 {post : Int32 → SY → Prop} (G : dt_G T P) (hX : dy_V T P bX) {v : Nat} (hv : v < 8) (K : post (nI (dt_bits (fun i => !dt_all (dt_depX (dt_f T P v) i) 512) 3)) (fT, fk, bK, bP, bD, bC, bS, bR, bX, bT)) :
    ∀ e i, i + e = 3 → wY_depends_21 post (nI v) fT fk bK bP bD bC bS bR bX bT (e + 1) (nI (dt_bits (fun i => !dt_all (dt_depX (dt_f T P v) i) 512) i)) (nI i) := by
  intro e
  induction e with
  | zero =>
    intro i hi
    refine br_t (nI_le (a := 3) (by omega) (by omega)) ?_
    rw [show i = 3 by omega]
    exact K
  | succ e ih =>
    intro i hi
    have h := ih (i + 1) (by omega)
    refine br_f (nI_ge (b := 3) (by omega) (by decide)) (ly_ch G hX hv (by omega) _ (Or.inl ⟨rfl, rfl⟩) ?_)
    rw [← dt_dep _ (by omega)]
    refine dn_all1 (fun z => nm_r (nI_1 i) ?_) (fun z => nm_r (e' := nI (dt_bits (fun i => !dt_all (dt_depX (dt_f T P v) i) 512) (i + 1))) ?_ (nm_r (nI_1 i) h))
    · rw [← dt_bits_s0 (p := fun i => !dt_all (dt_depX (dt_f T P v) i) 512) (by rw [z]; exact fun q => nomatch q)] at h
      exact h
    · rw [dn_one (by omega), dn_or, dt_bits_s1 (p := fun i => !dt_all (dt_depX (dt_f T P v) i) 512) z]
theorem ly_dep {post : Int32 → SY → Prop} (G : dt_G T P) (A : dy_A P bK bP bD bC bS bR) (hk : fk = 0 ∨ (fk = 1 ∧ dy_V T P bX)) {v : Nat} (hv : v < 8) (K : ∀ bX : Nat → Int32, dy_V T P bX → post (nI (dt_bits (fun i => !dt_all (dt_depX (dt_f T P v) i) 512) 3)) (nI T, 1, bK, bP, bD, bC, bS, bR, bX, bT)) : wpY_depends post (nI T, fk, bK, bP, bD, bC, bS, bR, bX, bT) (nI v) := by
  unfold wpY_depends
  exact ly_in_y (b := 7) (by decide) hv (br_f (by decide) (ly_wo G A hk (fun X' hX' => ⟨4, ly_dp1 G hX' hv (K X' hX') 3 0 (Nat.zero_add _)⟩)))
theorem ly_ris {post : Int32 → SY → Prop} (G : dt_G T P) (A : dy_A P bK bP bD bC bS bR) (hk : fk = 0 ∨ (fk = 1 ∧ dy_V T P bX)) {v i : Nat} (hv : v < 8) (hi : i < 3) (K : ∀ bX : Nat → Int32, dy_V T P bX → post (dn_B (dt_all (dt_risX (dt_f T P v) i) 512)) (nI T, 1, bK, bP, bD, bC, bS, bR, bX, bT)) : wpY_rising post (nI T, fk, bK, bP, bD, bC, bS, bR, bX, bT) (nI v) (nI i) := by
  unfold wpY_rising
  refine ly_in_y (b := 7) (by decide) hv (br_f (by decide) (ly_in_y (b := 2) (by decide) hi (br_f (by decide) (ly_wo G A hk (fun X' hX' => ?_)))))
  refine ly_ch G hX' hv hi _ (Or.inr ⟨rfl, rfl⟩) ?_
  rw [← dt_ris _ hi]
  have k2 := K X' hX'
  cases hb : dt_all (dt_risX (dt_f T P v) i) 512 with
  | false =>
    rw [hb] at k2
    exact br_f (by decide) k2
  | true =>
    rw [hb] at k2
    exact br_t rfl k2
theorem ly_sm1 {post : Int32 → SY → Prop} (G : dt_G T P) (hX : dy_V T P bX) {v w : Nat} (hv : v < 8) (hw : w < 8) (K : post (dn_B (dt_all (fun m => decide (dt_V P m T v = dt_V P m T w)) 512)) (fT, fk, bK, bP, bD, bC, bS, bR, bX, bT)) :
    ∀ e m, m + e = 512 → (∀ j, j < m → (fun m => decide (dt_V P m T v = dt_V P m T w)) j = true) → wY_same_30 post (nI v) (nI w) fT fk bK bP bD bC bS bR bX bT (e + 1) (nI m) := by
  intro e
  induction e with
  | zero =>
    intro m hm hp
    refine br_t (nI_le (a := 512) (by omega) (by omega)) ?_
    rw [dt_all_t (fun j hj => hp j (by omega))] at K
    exact K
  | succ e ih =>
    intro m hm hp
    have h7 := dt_V_le G m T v
    have h7' := dt_V_le G m T w
    refine br_f (nI_ge (b := 512) (by omega) (by decide)) ⟨pk_in (512 * v + m) 4096 (by omega) (dn_512 v m), pk_in (512 * w + m) 4096 (by omega) (dn_512 w m), dn_eq _ _ (dy_rd hX hv (by omega) (dn_512 v m)) (dy_rd hX hw (by omega) (dn_512 w m)) (by omega) (by omega) (fun z => nm_r (nI_1 m) (ih (m + 1) (by omega) (lt_s hp (decide_eq_true z)))) (fun z => ?_)⟩
    rw [dt_all_f (i := m) (by omega) (fun y => z (of_decide_eq_true y))] at K
    exact K
theorem ly_sam {post : Int32 → SY → Prop} (G : dt_G T P) (A : dy_A P bK bP bD bC bS bR) (hk : fk = 0 ∨ (fk = 1 ∧ dy_V T P bX)) {v w : Nat} (hv : v < 8) (hw : w < 8) (K : ∀ bX : Nat → Int32, dy_V T P bX → post (dn_B (dt_all (fun m => decide (dt_V P m T v = dt_V P m T w)) 512)) (nI T, 1, bK, bP, bD, bC, bS, bR, bX, bT)) : wpY_same post (nI T, fk, bK, bP, bD, bC, bS, bR, bX, bT) (nI v) (nI w) := by
  unfold wpY_same
  exact ly_in_y (b := 7) (by decide) hv (br_f (by decide) (ly_in_y (b := 7) (by decide) hw (br_f (by decide) (ly_wo G A hk (fun X' hX' => ⟨513, ly_sm1 G hX' hv hw (K X' hX') 512 0 (Nat.zero_add _) lt_0⟩)))))
end
