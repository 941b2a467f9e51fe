theorem dn_rd {a : Nat → Int32} {g : Nat → Nat} (h : ∀ j, a j = nI (g j)) {x : Int32} {n : Nat} (hx : x = nI n) (hn : n < 2 ^ 31) : a x.toNatClampNeg = nI (g n) := by
  rw [hx, nI_clamp hn]
  exact h n
theorem dn_8 (a : Nat) : 8 * nI a = nI (8 * a) := pk_mul 8 a
theorem dn_3 (a : Nat) : 3 * nI a = nI (3 * a) := pk_mul 3 a
theorem dn_8r (a b : Nat) : 8 * nI a + nI b = nI (8 * a + b) := by rw [dn_8, nI_add]
theorem dn_3c (a b : Nat) : 3 * nI a + nI b = nI (3 * a + b) := by rw [dn_3, nI_add]
theorem dn_512 (a b : Nat) : 512 * nI a + nI b = nI (512 * a + b) := by rw [show 512 * nI a = nI (512 * a) from pk_mul 512 a, nI_add]
theorem dn_3p (a : Nat) : 3 + nI a = nI (3 + a) := nI_add 3 a
theorem dn_x {k c : Nat} (hk : k < 2 ^ 31) (hc : c < 10) : (nI k >>> ((3 * nI c) &&& 31)) &&& 7 = nI (dt_x k c) := by
  rw [dn_3, dn_shr (by omega) hk, dn_m7 (Nat.lt_of_le_of_lt (Nat.div_le_self _ _) hk)]
  rfl
def dx_A (T : Nat) (P : Nat → Nat → Nat) (aW aP aD aC aK aS aR : Nat → Int32) : Prop :=
  (∀ t, t < T → aW t = nI (dt_wd (P 0 t))) ∧ (∀ j, aP j = nI (P 1 j)) ∧ (∀ j, aD j = nI (P 2 j)) ∧ (∀ j, aC j = nI (P 3 j)) ∧ (∀ t e, e < 3 → aK (3 * t + e) = nI (P 0 t / 10 ^ e % 10)) ∧ (∀ j, aS j = nI (P 4 j)) ∧ (∀ j, aR j = nI (P 5 j))
section
variable {fT : Int32} {aW aP aD aC aK aS aR aX : Nat → Int32} {P : Nat → Nat → Nat} {T t : Nat}
theorem lx_fa2 {post : Int32 → Prop} (G : dt_G T P) (A : dx_A T P aW aP aD aC aK aS aR) (ht : t < T) {k w : Nat} (hw : w ≤ 3)
    (K : post (nI (dt_bits (fun r => dt_ok (P 4 (8 * t + r)) k w) (P 3 t)))) : ∀ e i, i + e = P 3 t → wX_firingAt_52 post (nI t) (nI (dt_need k w)) fT aW aP aD aC aK aS aR aX (e + 1) (nI (dt_bits (fun r => dt_ok (P 4 (8 * t + r)) k w) i)) (nI i) := by
  have hT := G.1
  have h8 := G.2.2.2.2.1 t
  have hc : aC (nI t).toNatClampNeg = nI (P 3 t) := dn_rd A.2.2.2.1 rfl (by omega)
  intro e
  induction e with
  | zero =>
    intro i hi
    refine ⟨vp_in_nI (by omega) (by decide), br_t ?_ ?_⟩
    · rw [hc]; exact nI_le (by omega) (by omega)
    · rw [show i = P 3 t by omega]; exact K
  | succ e ih =>
    intro i hi
    have hN : dt_need k w < 2 ^ 31 := Nat.lt_of_lt_of_le (dt_need_lt k w) (dn_pl (by omega))
    have hS := G.2.2.2.2.2.1 (8 * t + i)
    have hq : ((aS (8 * nI t + nI i).toNatClampNeg) &&& nI (dt_need k w) = nI (dt_need k w)) ↔ dt_ok (P 4 (8 * t + i)) k w = true := by
      rw [dn_rd A.2.2.2.2.2.1 (dn_8r t i) (by omega), nx_and, nI_eq (Nat.lt_of_le_of_lt Nat.and_le_right hN) hN, dt_need_ok]
    refine ⟨vp_in_nI (by omega) (by decide), br_f ?_ ⟨pk_in (8 * t + i) 40 (by omega) (dn_8r t i), dn_iff hq (fun z => nm_r (e' := nI (dt_bits (fun r => dt_ok (P 4 (8 * t + r)) k w) (i + 1))) ?_ (nm_r (nI_1 i) ?_)) (fun z => nm_r (nI_1 i) ?_)⟩⟩
    · rw [hc]; exact nI_ge (by omega) (by omega)
    · rw [dn_one (by omega), dn_or, dt_bits_s1 (p := fun r => dt_ok (P 4 (8 * t + r)) k w) z]
    · exact ih (i + 1) (by omega)
    · have h := ih (i + 1) (by omega)
      rw [← dt_bits_s0 (p := fun r => dt_ok (P 4 (8 * t + r)) k w) z] at h
      exact h
theorem lx_fa1 {post : Int32 → Prop} (G : dt_G T P) (A : dx_A T P aW aP aD aC aK aS aR) (ht : t < T) {k : Nat} (hk : k < 2 ^ 31)
    (K : post (nI (dt_F P t k))) : ∀ e c, c + e = dt_wd (P 0 t) → wX_firingAt_5 post (nI t) (nI k) fT aW aP aD aC aK aS aR aX (e + 1) (nI (dt_need k c)) (nI c) := by
  have hT := G.1
  have hw := dt_wd_in (P 0 t)
  have hW : aW (nI t).toNatClampNeg = nI (dt_wd (P 0 t)) := by rw [nI_clamp (by omega)]; exact A.1 t ht
  intro e
  induction e with
  | zero =>
    intro c hc
    refine ⟨vp_in_nI (by omega) (by decide), br_t ?_ ⟨P 3 t + 1, ?_⟩⟩
    · rw [hW]; exact nI_le (by omega) (by omega)
    · rw [show c = dt_wd (P 0 t) by omega]
      exact lx_fa2 G A ht hw.2 K (P 3 t) 0 (by omega)
  | succ e ih =>
    intro c hc
    have hx := dt_x_lt k c
    refine ⟨vp_in_nI (by omega) (by decide), br_f ?_ (nm_r (dn_x hk (by omega)) (nm_r (e' := nI (dt_need k (c + 1))) ?_ (nm_r (nI_1 c) ?_)))⟩
    · rw [hW]; exact nI_ge (by omega) (by omega)
    · rw [dn_8r, dn_one (by omega), dn_or]
      rfl
    · exact ih (c + 1) (by omega)
theorem lx_fa {post : Int32 → Prop} (G : dt_G T P) (A : dx_A T P aW aP aD aC aK aS aR) (ht : t < T) {k : Nat} (hk : k < 2 ^ 31)
    (K : post (nI (dt_F P t k))) : wpX_firingAt post (fT, aW, aP, aD, aC, aK, aS, aR, aX) (nI t) (nI k) := ⟨dt_wd (P 0 t) + 1, lx_fa1 G A ht hk K (dt_wd (P 0 t)) 0 (by omega)⟩
theorem lx_jo {post : Int32 → Prop} (G : dt_G T P) (A : dx_A T P aW aP aD aC aK aS aR) (ht : t < T) {a b : Nat} (ha : a ≤ 7) (hb : b ≤ 7)
    (K : post (nI (dt_join (P 1 t) (P 2 t) a b))) : wpX_joined post (fT, aW, aP, aD, aC, aK, aS, aR, aX) (nI t) (nI a) (nI b) := by
  have hT := G.1
  have hp := G.2.2.1 t
  refine ⟨vp_in_nI (by omega) (by decide), nm_r (dn_rd A.2.1 rfl (by omega)) ?_⟩
  generalize P 1 t = q at *
  rcases (by omega : q = 0 ∨ q = 1 ∨ q = 2 ∨ q = 3 ∨ q = 4 ∨ q = 5) with rfl | rfl | rfl | rfl | rfl | rfl
  · exact br_f (by decide) (br_f (by decide) (br_t (by decide) K))
  · exact br_f (by decide) (br_f (by decide) (br_f (by decide) (br_t (by decide) K)))
  · refine br_f (by decide) (br_f (by decide) (br_f (by decide) (br_f (by decide) (br_t (by decide) (dn_le a b rfl rfl (by omega) (by omega) (fun z => ?_) (fun z => ?_))))))
    · have e : dt_join 2 (P 2 t) a b = if b < a then b else a := rfl
      rw [e, if_neg (by omega)] at K
      exact K
    · have e : dt_join 2 (P 2 t) a b = if b < a then b else a := rfl
      rw [e, if_pos z] at K
      exact K
  · refine br_f (by decide) (br_f (by decide) (br_f (by decide) (br_f (by decide) (br_f (by decide) (br_t (by decide) (dn_le b a rfl rfl (by omega) (by omega) (fun z => ?_) (fun z => ?_)))))))
    · have e : dt_join 3 (P 2 t) a b = if a < b then b else a := rfl
      rw [e, if_neg (by omega)] at K
      exact K
    · have e : dt_join 3 (P 2 t) a b = if a < b then b else a := rfl
      rw [e, if_pos z] at K
      exact K
  · refine br_f (by decide) (br_f (by decide) (br_f (by decide) (br_f (by decide) (br_f (by decide) (br_f (by decide) (br_t (by decide) (dn_le (a + b) 7 (nI_add a b) rfl (by omega) (by omega) (fun z => ?_) (fun z => ?_))))))))
    · have e : dt_join 4 (P 2 t) a b = if 7 < a + b then 7 else a + b := rfl
      rw [e, if_neg (by omega)] at K
      rw [nI_add]
      exact K
    · have e : dt_join 4 (P 2 t) a b = if 7 < a + b then 7 else a + b := rfl
      rw [e, if_pos z] at K
      exact K
  · refine br_f (by decide) (br_t (by decide) ⟨vp_in_nI (by omega) (by decide), ?_⟩)
    rw [dn_rd A.2.2.1 rfl (by omega)]
    exact K
theorem lx_ro1 {post : Int32 → Prop} (G : dt_G T P) (A : dx_A T P aW aP aD aC aK aS aR) (ht : t < T) {F : Nat} (hF : F < 2 ^ 31)
    (K : post (nI (dt_R P t F))) : ∀ e i, i + e = P 3 t → wX_resultOf_13 post (nI t) (nI F) fT aW aP aD aC aK aS aR aX (e + 1) (nI (dt_res (P 1 t) (P 2 t) (fun r => P 5 (8 * t + r)) F i).1) (dn_B (dt_res (P 1 t) (P 2 t) (fun r => P 5 (8 * t + r)) F i).2) (nI i) := by
  have hT := G.1
  have h8 := G.2.2.2.2.1 t
  have hc : aC (nI t).toNatClampNeg = nI (P 3 t) := dn_rd A.2.2.2.1 rfl (by omega)
  intro e
  induction e with
  | zero =>
    intro i hi
    refine ⟨vp_in_nI (by omega) (by decide), br_t ?_ ?_⟩
    · rw [hc]; exact nI_le (by omega) (by omega)
    · rw [show i = P 3 t by omega]; exact K
  | succ e ih =>
    intro i hi
    have h5 := G.2.2.2.2.2.2.1 (8 * t + i)
    have hr := dt_res_le (p := P 1 t) (G.2.2.2.1 t) (g := fun r => P 5 (8 * t + r)) (fun j => G.2.2.2.2.2.2.1 _) F i
    have h := ih (i + 1) (by omega)
    refine ⟨vp_in_nI (by omega) (by decide), br_f ?_ (dn_iff (dn_bit1 (by omega) hF) (fun z => ⟨pk_in (8 * t + i) 40 (by omega) (dn_8r t i), nm_r (dn_rd A.2.2.2.2.2.2 (dn_8r t i) (by omega)) ?_⟩) (fun z => nm_r (nI_1 i) ?_))⟩
    · rw [hc]; exact nI_ge (by omega) (by omega)
    · rw [dt_res_y z] at h
      cases hb : (dt_res (P 1 t) (P 2 t) (fun r => P 5 (8 * t + r)) F i).2 with
      | false =>
        rw [hb] at h
        exact br_t rfl (nm_r (nI_1 i) h)
      | true =>
        rw [hb] at h
        exact br_f (by decide) (lx_jo G A ht hr h5 (nm_r (nI_1 i) h))
    · rw [dt_res_n z] at h
      exact h
theorem lx_ro {post : Int32 → Prop} (G : dt_G T P) (A : dx_A T P aW aP aD aC aK aS aR) (ht : t < T) {F : Nat} (hF : F < 2 ^ 31)
    (K : post (nI (dt_R P t F))) : wpX_resultOf post (fT, aW, aP, aD, aC, aK, aS, aR, aX) (nI t) (nI F) := by
  have hT := G.1
  exact ⟨vp_in_nI (by omega) (by decide), nm_r (dn_rd A.2.2.1 rfl (by omega)) ⟨P 3 t + 1, lx_ro1 G A ht hF K (P 3 t) 0 (by omega)⟩⟩
theorem lx_cn1 {post : Int32 → Prop} (G : dt_G T P) (A : dx_A T P aW aP aD aC aK aS aR) (ht : t < T) {vl : Nat → Nat} (hX : ∀ v, v < 3 + t → aX v = nI (vl v)) (hv : ∀ v, vl v ≤ 7)
    (K : post (nI (dt_comb (P 0 t) vl (dt_wd (P 0 t))))) : ∀ e c, c + e = dt_wd (P 0 t) → wX_combinationNow_4 post (nI t) fT aW aP aD aC aK aS aR aX (e + 1) (nI (dt_comb (P 0 t) vl c)) (nI c) := by
  have hT := G.1
  have hw := dt_wd_in (P 0 t)
  have hW : aW (nI t).toNatClampNeg = nI (dt_wd (P 0 t)) := by rw [nI_clamp (by omega)]; exact A.1 t ht
  intro e
  induction e with
  | zero =>
    intro c hc
    refine ⟨vp_in_nI (by omega) (by decide), br_t ?_ ?_⟩
    · rw [hW]; exact nI_le (by omega) (by omega)
    · rw [show c = dt_wd (P 0 t) by omega]; exact K
  | succ e ih =>
    intro c hc
    have hk : aK (3 * nI t + nI c).toNatClampNeg = nI (P 0 t / 10 ^ c % 10) := by rw [dn_3c, nI_clamp (by omega)]; exact A.2.2.2.2.1 t c (by omega)
    have hd := G.2.2.2.2.2.2.2 t ht c (by omega)
    have h7 := hv (P 0 t / 10 ^ c % 10)
    refine ⟨vp_in_nI (by omega) (by decide), br_f ?_ ⟨pk_in (3 * t + c) 15 (by omega) (dn_3c t c), ?_, nm_r (e' := nI (dt_comb (P 0 t) vl (c + 1))) ?_ (nm_r (nI_1 c) ?_)⟩⟩
    · rw [hW]; exact nI_ge (by omega) (by omega)
    · rw [hk]; exact vp_in_nI (by omega) (by decide)
    · have h3 : vl (P 0 t / 10 ^ c % 10) * 2 ^ (3 * c) < 2 ^ 32 := by
        have h6 : 2 ^ (3 * c) ≤ 2 ^ 6 := dn_pl (by omega)
        have := Nat.mul_le_mul h7 h6
        omega
      rw [hk, nI_clamp (by omega), hX _ hd, dn_3, dn_shl (by omega) h3, dn_or]
      rfl
    · exact ih (c + 1) (by omega)
theorem lx_cn {post : Int32 → Prop} (G : dt_G T P) (A : dx_A T P aW aP aD aC aK aS aR) (ht : t < T) {vl : Nat → Nat} (hX : ∀ v, v < 3 + t → aX v = nI (vl v)) (hv : ∀ v, vl v ≤ 7)
    (K : post (nI (dt_comb (P 0 t) vl (dt_wd (P 0 t))))) : wpX_combinationNow post (fT, aW, aP, aD, aC, aK, aS, aR, aX) (nI t) := ⟨dt_wd (P 0 t) + 1, lx_cn1 G A ht hX hv K (dt_wd (P 0 t)) 0 (by omega)⟩
theorem lx_s3 {post : SX → Prop} {Vf : Nat → Nat} {b : Nat} (h0 : ∀ v, b ≤ v → Vf v = 0) : ∀ e i (aX : Nat → Int32), i + e = 8 → b ≤ i → (∀ v, v < i → aX v = nI (Vf v)) → (∀ X' : Nat → Int32, (∀ v, v < 8 → X' v = nI (Vf v)) → post (fT, aW, aP, aD, aC, aK, aS, aR, X')) → wX_settle_77 post fT (e + 1) (nI i) aW aP aD aC aK aS aR aX := by
  intro e
  induction e with
  | zero =>
    intro i aX hi hb hX K
    refine br_t (nI_le (a := 8) (by omega) (by omega)) (K aX ?_)
    rw [show i = 8 by omega] at hX
    exact hX
  | succ e ih =>
    intro i aX hi hb hX K
    refine br_f (nI_ge (b := 8) (by omega) (by decide)) ⟨vp_in_nI (by omega) (by decide), nm_e (nm_r (nI_1 i) (ih (i + 1) _ (by omega) (by omega) ?_ K))⟩
    intro v hv
    rw [nI_clamp (by omega)]
    by_cases e : v = i
    · subst e
      rw [pk_us, h0 v hb]
      rfl
    · rw [pk_un e]
      exact hX v (by omega)
theorem lx_s2 {post : SX → Prop} (G : dt_G T P) (A : dx_A T P aW aP aD aC aK aS aR) (m : Nat) (K : ∀ X' : Nat → Int32, (∀ v, v < 8 → X' v = nI (dt_V P m T v)) → post (nI T, aW, aP, aD, aC, aK, aS, aR, X')) :
    ∀ e i (aX : Nat → Int32), i + e = T → (∀ v, v < 3 + i → aX v = nI (dt_V P m i v)) → wX_settle_27 post (nI T) (e + 1) (nI i) aW aP aD aC aK aS aR aX := by
  have hT := G.1
  intro e
  induction e with
  | zero =>
    intro i aX hi hX
    refine br_t (nI_le (by omega) (by omega)) (nm_r (dn_3p T) ⟨8 - (3 + T) + 1, lx_s3 (Vf := dt_V P m T) (b := 3 + T) (dt_V_0 P m T) (8 - (3 + T)) (3 + T) aX (by omega) (Nat.le_refl _) ?_ K⟩)
    rw [show i = T by omega] at hX
    exact hX
  | succ e ih =>
    intro i aX hi hX
    refine br_f (nI_ge (by omega) (by omega)) (lx_cn G A (by omega) hX (fun v => dt_V_le G m i v) (lx_fa G A (by omega) (Nat.lt_trans (dt_cK G i m i) (by decide)) (lx_ro G A (by omega) (Nat.lt_trans (dt_F_lt G i _) (by decide)) ⟨pk_in (3 + i) 8 (by omega) (dn_3p i), nm_e (nm_r (nI_1 i) (ih (i + 1) _ (by omega) ?_))⟩)))
    intro v hv
    rw [dn_3p, nI_clamp (by omega)]
    by_cases e : v = 3 + i
    · subst e
      rw [pk_us]
      show _ = nI (if 3 + i = 3 + i then _ else _)
      rw [if_pos rfl]
    · rw [pk_un e]
      show _ = nI (if v = 3 + i then _ else _)
      rw [if_neg e]
      exact hX v (by omega)
theorem lx_s1 {post : SX → Prop} (G : dt_G T P) (A : dx_A T P aW aP aD aC aK aS aR) {m : Nat} (hm : m < 512) (K : ∀ X' : Nat → Int32, (∀ v, v < 8 → X' v = nI (dt_V P m T v)) → post (nI T, aW, aP, aD, aC, aK, aS, aR, X')) :
    ∀ e i (aX : Nat → Int32), i + e = 3 → (∀ v, v < i → aX v = nI (dt_V P m 0 v)) → wX_settle_2 post (nI m) (nI T) (e + 1) (nI i) aW aP aD aC aK aS aR aX := by
  intro e
  induction e with
  | zero =>
    intro i aX hi hX
    rw [show i = 3 by omega] at hX
    exact br_t (nI_le (a := 3) (by omega) (by omega)) ⟨T + 1, lx_s2 G A m K T 0 aX (by omega) hX⟩
  | succ e ih =>
    intro i aX hi hX
    refine br_f (nI_ge (b := 3) (by omega) (by decide)) ?_
    show vp_in (nI i) 8 ∧ _
    refine ⟨vp_in_nI (by omega) (by decide), nm_e (nm_r (nI_1 i) (ih (i + 1) _ (by omega) ?_))⟩
    intro v hv
    rw [nI_clamp (by omega), dn_x (by omega) (by omega)]
    by_cases e : v = i
    · subst e
      rw [pk_us]
      show _ = nI (if v < 3 then _ else _)
      rw [if_pos (by omega)]
    · rw [pk_un e]
      exact hX v (by omega)
theorem lx_se {post : SX → Prop} (G : dt_G T P) (A : dx_A T P aW aP aD aC aK aS aR) {m : Nat} (hm : m < 512) (K : ∀ X' : Nat → Int32, (∀ v, v < 8 → X' v = nI (dt_V P m T v)) → post (nI T, aW, aP, aD, aC, aK, aS, aR, X')) :
    wpX_settle post (nI T, aW, aP, aD, aC, aK, aS, aR, aX) (nI m) := ⟨4, lx_s1 G A hm K 3 0 aX (by omega) (fun v hv => absurd hv (by omega))⟩
theorem lx_vi {post : Int32 → SX → Prop} (G : dt_G T P) (A : dx_A T P aW aP aD aC aK aS aR) {m v : Nat} (hm : m < 512) (hv : v < 8) (K : ∀ X' : Nat → Int32, post (nI (dt_V P m T v)) (nI T, aW, aP, aD, aC, aK, aS, aR, X')) :
    wpX_valueIn post (nI T, aW, aP, aD, aC, aK, aS, aR, aX) (nI v) (nI m) := by
  unfold wpX_valueIn
  refine lx_se G A hm (fun X' hX' => ?_)
  show vp_in (nI v) 8 ∧ _
  refine ⟨vp_in_nI hv (by decide), ?_⟩
  rw [nI_clamp (by omega), hX' v hv]
  exact K X'
theorem lx_fi {post : Int32 → SX → Prop} (G : dt_G T P) (A : dx_A T P aW aP aD aC aK aS aR) {m : Nat} (hm : m < 512) (ht : t < T) (K : ∀ X' : Nat → Int32, post (nI (dt_F P t (dt_K T P m t))) (nI T, aW, aP, aD, aC, aK, aS, aR, X')) :
    wpX_firingIn post (nI T, aW, aP, aD, aC, aK, aS, aR, aX) (nI t) (nI m) := by
  unfold wpX_firingIn
  have hT := G.1
  refine lx_se G A hm (fun X' hX' => ?_)
  exact lx_cn (vl := dt_V P m T) G A ht (fun v hv => hX' v (by omega)) (fun v => dt_V_le G m T v) (lx_fa G A ht (Nat.lt_trans (dt_cK G t m T) (by decide)) (K X'))
end
