theorem dt_ff_y {p : Nat → Bool} {d i : Nat} (h : p i = true) : dt_ff p (d + 1) i = nI i := by
  show (if p i = true then nI i else _) = _
  rw [if_pos h]
theorem dt_ff_n {p : Nat → Bool} {d i : Nat} (h : ¬ p i = true) : dt_ff p (d + 1) i = dt_ff p d (i + 1) := by
  show (if p i = true then nI i else _) = _
  rw [if_neg h]
def dt_rch (T : Nat) (P : Nat → Nat → Nat) (t m : Nat) : Nat := dt_F P t (dt_K T P m t)
def dt_unr (T : Nat) (P : Nat → Nat → Nat) (t : Nat) : Nat := dn_an (2 ^ (P 3 t) - 1) (dt_oor (dt_rch T P t) 512)
def dt_pos (T : Nat) (P : Nat → Nat → Nat) (v : Nat) : Nat := dt_oor (fun m => 2 ^ (dt_V P m T v)) 512
def dt_f (T : Nat) (P : Nat → Nat → Nat) (v m : Nat) : Nat := dt_V P m T v
section
variable {fT : Int32} {aW aP aD aC aK aS aR aX : Nat → Int32} {P : Nat → Nat → Nat} {T t : Nat}
theorem lx_value {post : Int32 → SX → Prop} (G : dt_G T P) (A : dx_A T P aW aP aD aC aK aS aR) {m v : Nat} (hm : m < 512) (hv : v < 8) (K : ∀ X' : Nat → Int32, post (nI (dt_V P m T v)) (nI T, aW, aP, aD, aC, aK, aS, aR, X')) : wpX_value post (nI T, aW, aP, aD, aC, aK, aS, aR, aX) (nI v) (nI m) := by
  unfold wpX_value
  exact lx_va_y hv (br_f (by decide) (lx_ca_y hm (br_f (by decide) (lx_vi G A hm hv K))))
theorem lx_fires {post : Int32 → SX → Prop} (G : dt_G T P) (A : dx_A T P aW aP aD aC aK aS aR) {m : Nat} (hm : m < 512) (ht : t < T) (K : ∀ X' : Nat → Int32, post (nI (dt_rch T P t m)) (nI T, aW, aP, aD, aC, aK, aS, aR, X')) : wpX_fires post (nI T, aW, aP, aD, aC, aK, aS, aR, aX) (nI t) (nI m) := by
  unfold wpX_fires
  exact lx_ta_y G.1 ht (br_f (by decide) (lx_ca_y hm (br_f (by decide) (lx_fi G A hm ht K))))
theorem lx_un1 {post : Int32 → SX → Prop} (G : dt_G T P) (A : dx_A T P aW aP aD aC aK aS aR) (ht : t < T) (K : ∀ X' : Nat → Int32, post (nI (dt_unr T P t)) (nI T, aW, aP, aD, aC, aK, aS, aR, X')) :
    ∀ e i (aX : Nat → Int32), i + e = 512 → wX_unreached_14 post (nI t) (e + 1) (nI (dt_oor (dt_rch T P t) i)) (nI i) (nI T) aW aP aD aC aK aS aR aX := by
  have hT := G.1
  have h8 := G.2.2.2.2.1 t
  intro e
  induction e with
  | zero =>
    intro i aX hi
    refine br_t (nI_le (a := 512) (by omega) (by omega)) ⟨vp_in_nI (by omega) (by decide), nm_r (e' := nI (2 ^ (P 3 t) - 1)) ?_ ?_⟩
    · rw [dn_rd A.2.2.2.1 rfl (by omega), dn_one (by omega)]
      exact pk_sub (b := 1) (Nat.two_pow_pos _)
    · rw [dn_anI, show i = 512 by omega]
      exact K aX
  | succ e ih =>
    intro i aX hi
    refine br_f (nI_ge (b := 512) (by omega) (by decide)) (lx_fi G A (by omega) ht (fun X' => nm_r (dn_or _ _) (nm_r (nI_1 i) (ih (i + 1) X' (by omega)))))
theorem lx_unr {post : Int32 → SX → Prop} (G : dt_G T P) (A : dx_A T P aW aP aD aC aK aS aR) (ht : t < T) (K : ∀ X' : Nat → Int32, post (nI (dt_unr T P t)) (nI T, aW, aP, aD, aC, aK, aS, aR, X')) : wpX_unreached post (nI T, aW, aP, aD, aC, aK, aS, aR, aX) (nI t) := by
  unfold wpX_unreached
  exact lx_ta_y G.1 ht (br_f (by decide) ⟨_, lx_un1 G A ht K 512 0 aX (Nat.zero_add _)⟩)
theorem lx_ct1 {post : Int32 → SX → Prop} (G : dt_G T P) (A : dx_A T P aW aP aD aC aK aS aR) {v x : Nat} (hv : v < 8) (hx : x < 8) (K : ∀ X' : Nat → Int32, post (nI (dt_cnt (fun m => decide (dt_V P m T v = x)) 512)) (nI T, aW, aP, aD, aC, aK, aS, aR, X')) :
    ∀ e i (aX : Nat → Int32), i + e = 512 → wX_count_23 post (nI v) (nI x) (e + 1) (nI (dt_cnt (fun m => decide (dt_V P m T v = x)) i)) (nI i) (nI T) aW aP aD aC aK aS aR aX := by
  intro e
  induction e with
  | zero =>
    intro i aX hi
    refine br_t (nI_le (a := 512) (by omega) (by omega)) ?_
    rw [show i = 512 by omega]
    exact K aX
  | succ e ih =>
    intro i aX hi
    have h7 := dt_V_le G i T v
    refine br_f (nI_ge (b := 512) (by omega) (by decide)) (lx_vi G A (by omega) hv (fun X' => ?_))
    have h := ih (i + 1) X' (by omega)
    refine dn_eq _ _ rfl rfl (by omega) (by omega) (fun z => nm_r (nI_1 _) (nm_r (nI_1 i) ?_)) (fun z => nm_r (nI_1 i) ?_)
    · rw [dt_cnt_y (p := fun m => decide (dt_V P m T v = x)) (decide_eq_true z)] at h
      exact h
    · rw [dt_cnt_n (p := fun m => decide (dt_V P m T v = x)) (fun y => z (of_decide_eq_true y))] at h
      exact h
theorem lx_cnt {post : Int32 → SX → Prop} (G : dt_G T P) (A : dx_A T P aW aP aD aC aK aS aR) {v x : Nat} (hv : v < 8) (hx : x < 8) (K : ∀ X' : Nat → Int32, post (nI (dt_cnt (fun m => decide (dt_V P m T v = x)) 512)) (nI T, aW, aP, aD, aC, aK, aS, aR, X')) : wpX_count post (nI T, aW, aP, aD, aC, aK, aS, aR, aX) (nI v) (nI x) := by
  unfold wpX_count
  exact lx_va_y hv (br_f (by decide) (lx_vl_y hx (br_f (by decide) ⟨_, lx_ct1 G A hv hx K 512 0 aX (Nat.zero_add _)⟩)))
theorem lx_fs1 {post : Int32 → SX → Prop} (G : dt_G T P) (A : dx_A T P aW aP aD aC aK aS aR) {v x : Nat} (hv : v < 8) (hx : x < 8) :
    ∀ e i (aX : Nat → Int32), i + e = 512 → (∀ X' : Nat → Int32, post (dt_ff (fun m => decide (dt_V P m T v = x)) e i) (nI T, aW, aP, aD, aC, aK, aS, aR, X')) → wX_first_20 post (nI v) (nI x) (e + 1) (nI i) (nI T) aW aP aD aC aK aS aR aX := by
  intro e
  induction e with
  | zero =>
    intro i aX hi K
    exact br_t (nI_le (a := 512) (by omega) (by omega)) (K aX)
  | succ e ih =>
    intro i aX hi K
    have h7 := dt_V_le G i T v
    refine br_f (nI_ge (b := 512) (by omega) (by decide)) (lx_vi G A (by omega) hv (fun X' => ?_))
    refine dn_eq _ _ rfl rfl (by omega) (by omega) (fun z => ?_) (fun z => nm_r (nI_1 i) (ih (i + 1) X' (by omega) ?_))
    · rw [dt_ff_y (p := fun m => decide (dt_V P m T v = x)) (decide_eq_true z)] at K
      exact K X'
    · rw [dt_ff_n (p := fun m => decide (dt_V P m T v = x)) (fun y => z (of_decide_eq_true y))] at K
      exact K
theorem lx_fst {post : Int32 → SX → Prop} (G : dt_G T P) (A : dx_A T P aW aP aD aC aK aS aR) {v x : Nat} (hv : v < 8) (hx : x < 8) (K : ∀ X' : Nat → Int32, post (dt_ff (fun m => decide (dt_V P m T v = x)) 512 0) (nI T, aW, aP, aD, aC, aK, aS, aR, X')) : wpX_first post (nI T, aW, aP, aD, aC, aK, aS, aR, aX) (nI v) (nI x) := by
  unfold wpX_first
  exact lx_va_y hv (br_f (by decide) (lx_vl_y hx (br_f (by decide) ⟨_, lx_fs1 G A hv hx 512 0 aX (Nat.zero_add _) K⟩)))
theorem lx_po1 {post : Int32 → SX → Prop} (G : dt_G T P) (A : dx_A T P aW aP aD aC aK aS aR) {v : Nat} (hv : v < 8) (K : ∀ X' : Nat → Int32, post (nI (dt_pos T P v)) (nI T, aW, aP, aD, aC, aK, aS, aR, X')) :
    ∀ e i (aX : Nat → Int32), i + e = 512 → wX_possible_14 post (nI v) (e + 1) (nI (dt_oor (fun m => 2 ^ (dt_V P m T v)) i)) (nI i) (nI T) aW aP aD aC aK aS aR aX := by
  intro e
  induction e with
  | zero =>
    intro i aX hi
    refine br_t (nI_le (a := 512) (by omega) (by omega)) ?_
    rw [show i = 512 by omega]
    exact K aX
  | succ e ih =>
    intro i aX hi
    have h7 := dt_V_le G i T v
    refine br_f (nI_ge (b := 512) (by omega) (by decide)) (lx_vi G A (by omega) hv (fun X' => nm_r (e' := nI (dt_oor (fun m => 2 ^ (dt_V P m T v)) (i + 1))) ?_ (nm_r (nI_1 i) (ih (i + 1) X' (by omega)))))
    rw [dn_one (by omega), dn_or]
    rfl
theorem lx_pos {post : Int32 → SX → Prop} (G : dt_G T P) (A : dx_A T P aW aP aD aC aK aS aR) {v : Nat} (hv : v < 8) (K : ∀ X' : Nat → Int32, post (nI (dt_pos T P v)) (nI T, aW, aP, aD, aC, aK, aS, aR, X')) : wpX_possible post (nI T, aW, aP, aD, aC, aK, aS, aR, aX) (nI v) := by
  unfold wpX_possible
  exact lx_va_y hv (br_f (by decide) ⟨_, lx_po1 G A hv K 512 0 aX (Nat.zero_add _)⟩)
theorem lx_dp2 {post : Int32 → SX → Prop} (G : dt_G T P) (A : dx_A T P aW aP aD aC aK aS aR) {v i b : Nat} (hv : v < 8) (hi : i < 3) {J : Int32 → Int32 → Int32 → (Nat → Int32) → (Nat → Int32) → (Nat → Int32) → (Nat → Int32) → (Nat → Int32) → (Nat → Int32) → (Nat → Int32) → (Nat → Int32) → Prop}
    (K : ∀ aX : Nat → Int32, J (nI (b ||| (if dt_all (dt_depX (dt_f T P v) i) 512 = true then 0 else 2 ^ i))) (nI (i + 1)) (nI T) aW aP aD aC aK aS aR aX) :
    ∀ e m (aX : Nat → Int32), m + e = 512 → wX_depends_22 post J (nI v) (nI i) (e + 1) (nI (b ||| (if dt_all (dt_depX (dt_f T P v) i) m = true then 0 else 2 ^ i))) (nI m) (nI T) aW aP aD aC aK aS aR aX := by
  intro e
  induction e with
  | zero =>
    intro m aX hm
    refine br_t (nI_le (a := 512) (by omega) (by omega)) (nm_r (nI_1 i) ?_)
    rw [show m = 512 by omega]
    exact K aX
  | succ e ih =>
    intro m aX hm
    have h7 := dt_V_le G m T v
    have h7' := dt_V_le G (dn_an m (7 * 2 ^ (3 * i))) T v
    have hl : dn_an m (7 * 2 ^ (3 * i)) < 512 := dn_an_lt (n := 9) _ (by omega)
    refine br_f (nI_ge (b := 512) (by omega) (by decide)) (lx_vi G A (by omega) hv (fun X' => ?_))
    show wpX_valueIn _ _ (nI v) (nI m &&& (((7 : Int32) <<< ((3 * nI i) &&& 31)) ^^^ (-1)))
    rw [dn_7 hi, dn_anI]
    refine lx_vi G A hl hv (fun X' => ?_)
    have h := ih (m + 1) X' (by omega)
    have ea : dt_all (dt_depX (dt_f T P v) i) (m + 1) = (dt_all (dt_depX (dt_f T P v) i) m && dt_depX (dt_f T P v) i m) := rfl
    refine dn_eq _ _ rfl rfl (by omega) (by omega) (fun z => nm_r (nI_1 m) ?_) (fun z => nm_r (e' := nI (b ||| 2 ^ i)) ?_ (nm_r (nI_1 m) ?_))
    · rw [ea, show dt_depX (dt_f T P v) i m = true from decide_eq_true z, Bool.and_true] at h
      exact h
    · rw [dn_one (by omega), dn_or, Nat.or_assoc]
      by_cases y : dt_all (dt_depX (dt_f T P v) i) m = true
      · rw [if_pos y, Nat.zero_or]
      · rw [if_neg y, Nat.or_self]
    · rw [ea, show dt_depX (dt_f T P v) i m = false from decide_eq_false z, Bool.and_false, if_neg (fun y => nomatch y)] at h
      exact h
theorem lx_dp1 {post : Int32 → SX → Prop} (G : dt_G T P) (A : dx_A T P aW aP aD aC aK aS aR) {v : Nat} (hv : v < 8) (K : ∀ X' : Nat → Int32, post (nI (dt_bits (fun i => !dt_all (dt_depX (dt_f T P v) i) 512) 3)) (nI T, aW, aP, aD, aC, aK, aS, aR, X')) :
    ∀ e i (aX : Nat → Int32), i + e = 3 → wX_depends_14 post (nI v) (e + 1) (nI (dt_bits (fun i => !dt_all (dt_depX (dt_f T P v) i) 512) i)) (nI i) (nI T) aW aP aD aC aK aS aR aX := by
  intro e
  induction e with
  | zero =>
    intro i aX hi
    refine br_t (nI_le (a := 3) (by omega) (by omega)) ?_
    rw [show i = 3 by omega]
    exact K aX
  | succ e ih =>
    intro i aX hi
    have h := lx_dp2 (post := post) (J := wX_depends_14 post (nI v) (e + 1)) (b := dt_bits (fun i => !dt_all (dt_depX (dt_f T P v) i) 512) i) G A hv (show i < 3 by omega) (fun X' => ?_) 512 0 aX (Nat.zero_add _)
    · refine br_f (nI_ge (b := 3) (by omega) (by decide)) ⟨512 + 1, ?_⟩
      rw [show dt_all (dt_depX (dt_f T P v) i) 0 = true from rfl, if_pos rfl, Nat.or_zero] at h
      exact h
    · have h2 := ih (i + 1) X' (by omega)
      have eb : dt_bits (fun i => !dt_all (dt_depX (dt_f T P v) i) 512) (i + 1) = dt_bits (fun i => !dt_all (dt_depX (dt_f T P v) i) 512) i ||| (if (!dt_all (dt_depX (dt_f T P v) i) 512) = true then 2 ^ i else 0) := rfl
      rw [eb] at h2
      cases hb : dt_all (dt_depX (dt_f T P v) i) 512 with
      | false =>
        rw [hb] at h2
        exact h2
      | true =>
        rw [hb] at h2
        exact h2
theorem lx_dep {post : Int32 → SX → Prop} (G : dt_G T P) (A : dx_A T P aW aP aD aC aK aS aR) {v : Nat} (hv : v < 8) (K : ∀ X' : Nat → Int32, post (nI (dt_bits (fun i => !dt_all (dt_depX (dt_f T P v) i) 512) 3)) (nI T, aW, aP, aD, aC, aK, aS, aR, X')) : wpX_depends post (nI T, aW, aP, aD, aC, aK, aS, aR, aX) (nI v) := by
  unfold wpX_depends
  exact lx_va_y hv (br_f (by decide) ⟨_, lx_dp1 G A hv K 3 0 aX (Nat.zero_add _)⟩)
theorem lx_rs1 {post : Int32 → SX → Prop} (G : dt_G T P) (A : dx_A T P aW aP aD aC aK aS aR) {v i : Nat} (hv : v < 8) (hi : i < 3) (K : ∀ X' : Nat → Int32, post (dn_B (dt_all (dt_risX (dt_f T P v) i) 512)) (nI T, aW, aP, aD, aC, aK, aS, aR, X')) :
    ∀ e m (aX : Nat → Int32), m + e = 512 → (∀ j, j < m → dt_risX (dt_f T P v) i j = true) → wX_rising_21 post (nI v) (nI i) (e + 1) (nI m) (nI T) aW aP aD aC aK aS aR aX := by
  intro e
  induction e with
  | zero =>
    intro m aX hm hp
    refine br_t (nI_le (a := 512) (by omega) (by omega)) ?_
    rw [dt_all_t (fun j hj => hp j (by omega))] at K
    exact K aX
  | succ e ih =>
    intro m aX hm hp
    have h8 := dt_x_lt m i
    refine br_f (nI_ge (b := 512) (by omega) (by decide)) ?_
    show ((nI m >>> ((3 * nI i) &&& 31)) &&& 7 ≤ 0 → _) ∧ (¬ (nI m >>> ((3 * nI i) &&& 31)) &&& 7 ≤ 0 → _)
    refine dn_le (dt_x m i) 0 (dn_x (by omega) (by omega)) rfl (by omega) (by decide) (fun z => nm_r (nI_1 m) (ih (m + 1) aX (by omega) (lt_s hp ?_))) (fun z => lx_vi G A (by omega) hv (fun X' => ?_))
    · unfold dt_risX
      rw [decide_eq_false (p := 0 < dt_x m i) (by omega)]
      rfl
    · have hw := (dt_Wi hi m (by omega)).2.2.1 z
      have h7 := dt_V_le G m T v
      have h7' := dt_V_le G (m - 2 ^ (3 * i)) T v
      show wpX_valueIn _ _ (nI v) (nI m - ((1 : Int32) <<< ((3 * nI i) &&& 31)))
      rw [dn_3, dn_one (by omega), pk_sub hw.1]
      refine lx_vi G A (Nat.lt_of_le_of_lt (Nat.sub_le _ _) (by omega)) hv (fun X' => ?_)
      refine dn_le _ _ rfl rfl (by omega) (by omega) (fun y => nm_r (nI_1 m) (ih (m + 1) X' (by omega) (lt_s hp ?_))) (fun y => ?_)
      · unfold dt_risX dt_f
        rw [decide_eq_true z, decide_eq_false (Nat.not_lt.mpr y)]
        rfl
      · rw [dt_all_f (i := m) (by omega) (by unfold dt_risX dt_f; rw [decide_eq_true z, decide_eq_true y]; exact fun q => nomatch q)] at K
        exact K X'
theorem lx_ris {post : Int32 → SX → Prop} (G : dt_G T P) (A : dx_A T P aW aP aD aC aK aS aR) {v i : Nat} (hv : v < 8) (hi : i < 3) (K : ∀ X' : Nat → Int32, post (dn_B (dt_all (dt_risX (dt_f T P v) i) 512)) (nI T, aW, aP, aD, aC, aK, aS, aR, X')) : wpX_rising post (nI T, aW, aP, aD, aC, aK, aS, aR, aX) (nI v) (nI i) := by
  unfold wpX_rising
  exact lx_va_y hv (br_f (by decide) (br_f (nI_pos (by omega)) (br_t (nI_lt (b := 3) hi (by decide)) ⟨_, lx_rs1 G A hv hi K 512 0 aX (Nat.zero_add _) lt_0⟩)))
theorem lx_sm1 {post : Int32 → SX → Prop} (G : dt_G T P) (A : dx_A T P aW aP aD aC aK aS aR) {v w : Nat} (hv : v < 8) (hw : w < 8) (K : ∀ X' : Nat → Int32, post (dn_B (dt_all (fun m => decide (dt_V P m T v = dt_V P m T w)) 512)) (nI T, aW, aP, aD, aC, aK, aS, aR, X')) :
    ∀ e m (aX : Nat → Int32), m + e = 512 → (∀ j, j < m → (fun m => decide (dt_V P m T v = dt_V P m T w)) j = true) → wX_same_20 post (nI v) (nI w) (e + 1) (nI m) (nI T) aW aP aD aC aK aS aR aX := by
  intro e
  induction e with
  | zero =>
    intro m aX hm hp
    refine br_t (nI_le (a := 512) (by omega) (by omega)) ?_
    rw [dt_all_t (fun j hj => hp j (by omega))] at K
    exact K aX
  | succ e ih =>
    intro m aX hm hp
    have h7 := dt_V_le G m T v
    have h7' := dt_V_le G m T w
    refine br_f (nI_ge (b := 512) (by omega) (by decide)) (lx_se G A (by omega) (fun X' hX' => ?_))
    show vp_in (nI v) 8 ∧ (vp_in (nI w) 8 ∧ _)
    refine ⟨vp_in_nI hv (by decide), vp_in_nI hw (by decide), dn_eq (dt_V P m T v) (dt_V P m T w) ?_ ?_ (by omega) (by omega) (fun z => nm_r (nI_1 m) (ih (m + 1) X' (by omega) (lt_s hp (decide_eq_true z)))) (fun z => ?_)⟩
    · rw [nI_clamp (by omega)]; exact hX' v hv
    · rw [nI_clamp (by omega)]; exact hX' w hw
    · rw [dt_all_f (i := m) (by omega) (fun y => z (of_decide_eq_true y))] at K
      exact K X'
theorem lx_sam {post : Int32 → SX → Prop} (G : dt_G T P) (A : dx_A T P aW aP aD aC aK aS aR) {v w : Nat} (hv : v < 8) (hw : w < 8) (K : ∀ X' : Nat → Int32, post (dn_B (dt_all (fun m => decide (dt_V P m T v = dt_V P m T w)) 512)) (nI T, aW, aP, aD, aC, aK, aS, aR, X')) : wpX_same post (nI T, aW, aP, aD, aC, aK, aS, aR, aX) (nI v) (nI w) := by
  unfold wpX_same
  exact lx_va_y hv (br_f (by decide) (lx_va_y hw (br_f (by decide) ⟨_, lx_sm1 G A hv hw K 512 0 aX (Nat.zero_add _) lt_0⟩)))
end
