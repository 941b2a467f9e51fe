theorem dn_d100 {c : Nat} (h : c < 2 ^ 31) : nI c / 100 = nI (c / 100) := pk_div (d := 100) h (by decide) (by decide)
theorem dn_d10 {c : Nat} (h : c < 2 ^ 31) : nI c / 10 = nI (c / 10) := pk_div (d := 10) h (by decide) (by decide)
theorem dn_r10 {c : Nat} (h : c < 2 ^ 31) : nI c - nI c / 10 * 10 = nI (c % 10) := pk_rem (d := 10) h (by decide) (by decide)
def dy_A (P : Nat → Nat → Nat) (bK bP bD bC bS bR : Nat → Int32) : Prop :=
  (∀ j, bK j = nI (P 0 j)) ∧ (∀ j, bP j = nI (P 1 j)) ∧ (∀ j, bD j = nI (P 2 j)) ∧ (∀ j, bC j = nI (P 3 j)) ∧ (∀ j, bS j = nI (P 4 j)) ∧ (∀ j, bR j = nI (P 5 j))
def dy_V (T : Nat) (P : Nat → Nat → Nat) (bX : Nat → Int32) : Prop := ∀ j, j < 4096 → bX j = nI (dt_V P (j % 512) T (j / 512))
section
variable {fT fk : Int32} {bK bP bD bC bS bR bX bT : Nat → Int32} {P : Nat → Nat → Nat} {T t : Nat}
theorem ly_wd {post : Int32 → Prop} (G : dt_G T P) (A : dy_A P bK bP bD bC bS bR) (ht : t < 5) (K : post (nI (dt_wd (P 0 t)))) : wpY_width post (fT, fk, bK, bP, bD, bC, bS, bR, bX, bT) (nI t) := by
  have h9 := G.2.1 t
  have e := dn_rd A.1 (x := nI t) rfl (by omega)
  refine ⟨vp_in_nI (by omega) (by decide), by decide, dn_eq (P 0 t / 100) 9 (by rw [e, dn_d100 (by omega)]) rfl (by omega) (by decide) (fun z => ⟨vp_in_nI (by omega) (by decide), by decide, by decide, dn_eq (P 0 t / 10 % 10) 9 (by rw [e, dn_d10 (by omega), dn_r10 (by omega)]) rfl (by omega) (by decide) (fun y => ?_) (fun y => ?_)⟩) (fun z => ?_)⟩
  · have w : dt_wd (P 0 t) = 1 := by unfold dt_wd; rw [if_pos z, if_pos y]
    rw [w] at K
    exact K
  · have w : dt_wd (P 0 t) = 2 := by unfold dt_wd; rw [if_pos z, if_neg y]
    rw [w] at K
    exact K
  · have w : dt_wd (P 0 t) = 3 := by unfold dt_wd; rw [if_neg z]
    rw [w] at K
    exact K
theorem ly_f2 {post : Int32 → Prop} (G : dt_G T P) (A : dy_A P bK bP bD bC bS bR) (ht : t < 5) {k w r : Nat} {J : Int32 → Int32 → Prop} {x3 : Int32} (hk : k < 2 ^ 31) (hw : w ≤ 3) (hr : r < 8)
    (K0 : ¬ dt_ok (P 4 (8 * t + r)) k w = true → J x3 (nI (r + 1))) (K1 : dt_ok (P 4 (8 * t + r)) k w = true → J (x3 ||| ((1 : Int32) <<< (nI r &&& 31))) (nI (r + 1))) :
    ∀ e c, c + e = w → wY_firing_29 post J (nI t) (nI k) x3 (nI w) (nI r) fT fk bK bP bD bC bS bR bX bT (e + 1) (dn_B (dt_ok (P 4 (8 * t + r)) k c)) (nI c) := by
  intro e
  induction e with
  | zero =>
    intro c hc
    refine br_t (nI_le (by omega) (by omega)) ?_
    rw [show c = w by omega]
    cases hb : dt_ok (P 4 (8 * t + r)) k w with
    | false => exact br_t rfl (nm_r (nI_1 r) (K0 (by rw [hb]; exact fun z => nomatch z)))
    | true => exact br_f (by decide) (nm_e (nm_r (nI_1 r) (K1 hb)))
  | succ e ih =>
    intro c hc
    have hx := dt_x_lt k c
    have hS := G.2.2.2.2.2.1 (8 * t + r)
    have h := ih (c + 1) (by omega)
    have eq : dt_ok (P 4 (8 * t + r)) k (c + 1) = (dt_ok (P 4 (8 * t + r)) k c && (P 4 (8 * t + r)).testBit (8 * c + dt_x k c)) := rfl
    refine br_f (nI_ge (by omega) (by omega)) (nm_r (dn_x hk (by omega)) ⟨pk_in (8 * t + r) 40 (by omega) (dn_8r t r), dn_iff (d := (P 4 (8 * t + r)).testBit (8 * c + dt_x k c) = false) ?_ (fun z => nm_r (nI_1 c) ?_) (fun z => nm_r (nI_1 c) ?_)⟩)
    · rw [dn_rd A.2.2.2.2.1 (dn_8r t r) (by omega), dn_8r, dn_bit0 (by omega) (by omega)]
    · rw [eq, z, Bool.and_false] at h
      exact h
    · rw [eq, Bool.not_eq_false _ |>.mp z, Bool.and_true] at h
      exact h
theorem ly_f1 {post : Int32 → Prop} (G : dt_G T P) (A : dy_A P bK bP bD bC bS bR) (ht : t < 5) {k w : Nat} (hk : k < 2 ^ 31) (hw : w ≤ 3)
    (K : post (nI (dt_bits (fun r => dt_ok (P 4 (8 * t + r)) k w) (P 3 t)))) : ∀ e i, i + e = P 3 t → wY_firing_12 post (nI t) (nI k) (nI w) fT fk bK bP bD bC bS bR bX bT (e + 1) (nI (dt_bits (fun r => dt_ok (P 4 (8 * t + r)) k w) i)) (nI i) := by
  have h8 := G.2.2.2.2.1 t
  have hc : bC (nI t).toNatClampNeg = nI (P 3 t) := dn_rd A.2.2.2.1 rfl (by omega)
  intro e
  induction e with
  | zero =>
    intro i hi
    refine ⟨vp_in_nI (by omega) (by decide), br_t ?_ ?_⟩
    · rw [hc]; exact nI_le (by omega) (by omega)
    · rw [show i = P 3 t by omega]; exact K
  | succ e ih =>
    intro i hi
    refine ⟨vp_in_nI (by omega) (by decide), br_f ?_ ⟨w + 1, ly_f2 G A ht hk hw (by omega) (fun z => ?_) (fun z => ?_) w 0 (by omega)⟩⟩
    · rw [hc]; exact nI_ge (by omega) (by omega)
    · have h := ih (i + 1) (by omega)
      rw [← dt_bits_s0 (p := fun r => dt_ok (P 4 (8 * t + r)) k w) z] at h
      exact h
    · have h := ih (i + 1) (by omega)
      rw [← dt_bits_s1 (p := fun r => dt_ok (P 4 (8 * t + r)) k w) z, ← dn_or, ← dn_one (by omega)] at h
      exact h
theorem ly_fi {post : Int32 → Prop} (G : dt_G T P) (A : dy_A P bK bP bD bC bS bR) (ht : t < 5) {k : Nat} (hk : k < 2 ^ 31)
    (K : post (nI (dt_F P t k))) : wpY_firing post (fT, fk, bK, bP, bD, bC, bS, bR, bX, bT) (nI t) (nI k) := by
  unfold wpY_firing
  exact ly_wd G A ht ⟨P 3 t + 1, ly_f1 G A ht hk (dt_wd_in (P 0 t)).2 K (P 3 t) 0 (by omega)⟩
theorem ly_r92 {post : Int32 → Prop} {J : Int32 → Int32 → Int32 → Int32 → Int32 → Int32 → Prop} {x1 x2 x3 x4 x5 x6 x7 x8 x9 x10 y7 : Int32} (hy : (x7 < x10 ∧ y7 = x10) ∨ (¬ x7 < x10 ∧ y7 = x7)) (K : J x4 x5 x6 y7 (x8 + x10) (x9 + 1)) : wY_result_92 post J x1 x2 x3 x4 x5 x6 x7 x8 x9 x10 fT fk bK bP bD bC bS bR bX bT := by
  rcases hy with ⟨h, rfl⟩ | ⟨h, rfl⟩
  · exact br_f (fun z => Int32.not_lt.mpr z h) (nm_e (nm_e K))
  · exact br_t (Int32.not_lt.mp h) (nm_e (nm_e K))
theorem ly_r77 {post : Int32 → Prop} {J : Int32 → Int32 → Int32 → Int32 → Int32 → Int32 → Prop} {x1 x2 x3 x4 x6 x7 x8 x9 x10 y6 y7 : Int32} (h6 : (x10 < x6 ∧ y6 = x10) ∨ (¬ x10 < x6 ∧ y6 = x6)) (hy : (x7 < x10 ∧ y7 = x10) ∨ (¬ x7 < x10 ∧ y7 = x7)) (K : J x4 x10 y6 y7 (x8 + x10) (x9 + 1)) : wY_result_77 post J x1 x2 x3 x4 x6 x7 x8 x9 x10 fT fk bK bP bD bC bS bR bX bT := by
  rcases h6 with ⟨h, rfl⟩ | ⟨h, rfl⟩
  · exact br_f (fun z => Int32.not_lt.mpr z h) (ly_r92 hy K)
  · exact br_t (Int32.not_lt.mp h) (ly_r92 hy K)
theorem ly_re1 {post : Int32 → Prop} (G : dt_G T P) (A : dy_A P bK bP bD bC bS bR) (ht : t < 5) {F : Nat} (hF : F < 256) (h0 : F ≠ 0) (hh : ∀ i, P 3 t ≤ i → F.testBit i = false) (g : Nat → Nat) (hg : g = fun r => P 5 (8 * t + r))
    (K : post (nI (dt_R P t F))) : ∀ e i, i + e = 8 → wY_result_37 post (nI t) (nI F) (nI (P 1 t)) fT fk bK bP bD bC bS bR bX bT (e + 1) (dr_fi (P 2 t) g F i) (dr_la (P 2 t) g F i) (dr_le (P 2 t) g F i) (dr_mo (P 2 t) g F i) (nI (dt_sm g F i)) (nI i) := by
  have h7 : ∀ j, g j ≤ 7 := by rw [hg]; exact fun j => G.2.2.2.2.2.2.1 _
  have hd := G.2.2.2.1 t
  have hp := G.2.2.1 t
  intro e
  induction e with
  | zero =>
    intro i hi
    rw [show i = 8 by omega]
    refine br_t (nI_le (a := 8) (by decide) (by decide)) ?_
    obtain ⟨f5, f0, f1, f2, f3, f4⟩ := dt_fin G hF h0 hh g hg
    have hsm := dt_sm_le h7 F 8
    rcases (by omega : P 1 t = 5 ∨ P 1 t = 0 ∨ P 1 t = 1 ∨ P 1 t = 2 ∨ P 1 t = 3 ∨ P 1 t = 4) with q | q | q | q | q | q
    · rw [q]
      refine br_t (by decide) (dn_iff (d := F &&& (F - 1) = 0) ?_ (fun z => ?_) (fun z => ⟨vp_in_nI (by omega) (by decide), ?_⟩))
      · rw [show nI F - 1 = nI (F - 1) from pk_sub (b := 1) (by omega), nx_and]
        exact nI_eq (b := 0) (Nat.lt_of_le_of_lt Nat.and_le_left (by omega)) (by decide)
      · rw [(f5 q).1 z]; exact K
      · rw [dn_rd A.2.2.1 rfl (by omega), (f5 q).2 z]; exact K
    · rw [q, f0 q]
      exact br_f (by decide) (br_t (by decide) K)
    · rw [q, f1 q]
      exact br_f (by decide) (br_f (by decide) (br_t (by decide) K))
    · rw [q, f2 q]
      exact br_f (by decide) (br_f (by decide) (br_f (by decide) (br_t (by decide) K)))
    · rw [q, f3 q]
      exact br_f (by decide) (br_f (by decide) (br_f (by decide) (br_f (by decide) (br_t (by decide) K))))
    · rw [q]
      refine br_f (by decide) (br_f (by decide) (br_f (by decide) (br_f (by decide) (br_f (by decide) (dn_le (dt_sm g F 8) 7 rfl rfl (by omega) (by decide) (fun z => ?_) (fun z => ?_))))))
      · rw [(f4 q).2 z]; exact K
      · have k2 := K
        rw [← (f4 q).1 z] at k2
        exact k2
  | succ e ih =>
    intro i hi
    have h := ih (i + 1) (by omega)
    refine br_f (nI_ge (b := 8) (by omega) (by decide)) (dn_iff (dn_bit1 (by omega) (by omega)) (fun z => ⟨pk_in (8 * t + i) 40 (by omega) (dn_8r t i), nm_r (e' := nI (g i)) ?_ ?_⟩) (fun z => nm_r (nI_1 i) ?_))
    · rw [hg]; exact dn_rd A.2.2.2.2.2 (dn_8r t i) (by omega)
    · rw [dr_la_y z, dt_sm_y z, ← nI_add, ← nI_1] at h
      rcases dr_fi_y hd h7 z with ⟨a, b⟩ | ⟨a, b⟩
      · rw [b] at h
        exact br_f (fun y => Int32.not_lt.mpr y a) (ly_r77 (dr_le_y hd h7 z) (dr_mo_y hd h7 z) h)
      · rw [b] at h
        exact br_t (Int32.not_lt.mp a) (ly_r77 (dr_le_y hd h7 z) (dr_mo_y hd h7 z) h)
    · obtain ⟨n1, n2, n3, n4, n5⟩ := dr_no (d := P 2 t) (g := g) z
      rw [n1, n2, n3, n4, n5] at h
      exact h
theorem ly_re {post : Int32 → Prop} (G : dt_G T P) (A : dy_A P bK bP bD bC bS bR) (ht : t < 5) {F : Nat} (hF : F < 256) (hh : ∀ i, P 3 t ≤ i → F.testBit i = false)
    (K : post (nI (dt_R P t F))) : wpY_result post (fT, fk, bK, bP, bD, bC, bS, bR, bX, bT) (nI t) (nI F) := by
  refine dn_eq F 0 rfl rfl (by omega) (by decide) (fun z => ⟨vp_in_nI (by omega) (by decide), ?_⟩) (fun z => ⟨vp_in_nI (by omega) (by decide), nm_r (dn_rd A.2.1 rfl (by omega)) ⟨9, ly_re1 G A ht hF z hh _ rfl K 8 0 (by omega)⟩⟩)
  subst z
  rw [dt_R0 G t] at K
  rw [dn_rd A.2.2.1 rfl (by omega)]
  exact K
theorem ly_co1 {post : Int32 → Prop} (G : dt_G T P) (A : dy_A P bK bP bD bC bS bR) (ht : t < T) {m : Nat} (hm : m < 512) {vl : Nat → Nat} (hX : ∀ v, v < 8 → bX (512 * v + m) = nI (vl v)) (hv : ∀ v, vl v ≤ 7)
    (K : post (nI (dt_comb (P 0 t) vl (dt_wd (P 0 t))))) : ∀ e c, c + e = dt_wd (P 0 t) → wY_combination_13 post (nI t) (nI m) fT fk bK bP bD bC bS bR bX bT (e + 1) (nI (P 0 t / 10 ^ c)) (nI (dt_comb (P 0 t) vl c)) (nI c) := by
  have hT := G.1
  have hw := dt_wd_in (P 0 t)
  have h9 := G.2.1 t
  intro e
  induction e with
  | zero =>
    intro c hc
    rw [wY_combination_13]
    refine ly_wd G A (t := t) (by omega) (br_t (nI_le (by omega) (by omega)) ?_)
    rw [show c = dt_wd (P 0 t) by omega]
    exact K
  | succ e ih =>
    intro c hc
    have hd := G.2.2.2.2.2.2.2 t ht c (by omega)
    have hq : P 0 t / 10 ^ c ≤ 999 := Nat.le_trans (Nat.div_le_self _ _) h9
    have hi : 512 * (nI (P 0 t / 10 ^ c) - nI (P 0 t / 10 ^ c) / 10 * 10) + nI m = nI (512 * (P 0 t / 10 ^ c % 10) + m) := by rw [dn_r10 (by omega), dn_512]
    have h7 := hv (P 0 t / 10 ^ c % 10)
    rw [wY_combination_13]
    refine ly_wd G A (t := t) (by omega) (br_f (nI_ge (by omega) (by omega)) ⟨by decide, pk_in (512 * (P 0 t / 10 ^ c % 10) + m) 4096 (by omega) hi, nm_r (e' := nI (dt_comb (P 0 t) vl (c + 1))) ?_ ⟨by decide, nm_r (e' := nI (P 0 t / 10 ^ (c + 1))) ?_ (nm_r (nI_1 c) (ih (c + 1) (by omega)))⟩⟩)
    · have h3 : vl (P 0 t / 10 ^ c % 10) * 2 ^ (3 * c) < 2 ^ 32 := by
        have h6 : 2 ^ (3 * c) ≤ 2 ^ 6 := dn_pl (by omega)
        have := Nat.mul_le_mul h7 h6
        omega
      rw [hi, nI_clamp (by omega), hX _ (by omega), dn_3, dn_shl (by omega) h3, dn_or]
      rfl
    · rw [dn_d10 (by omega), Nat.div_div_eq_div_mul, Nat.pow_succ]
theorem ly_co {post : Int32 → Prop} (G : dt_G T P) (A : dy_A P bK bP bD bC bS bR) (ht : t < T) {m : Nat} (hm : m < 512) {vl : Nat → Nat} (hX : ∀ v, v < 8 → bX (512 * v + m) = nI (vl v)) (hv : ∀ v, vl v ≤ 7)
    (K : post (nI (dt_comb (P 0 t) vl (dt_wd (P 0 t))))) : wpY_combination post (fT, fk, bK, bP, bD, bC, bS, bR, bX, bT) (nI t) (nI m) := by
  have hT := G.1
  refine ⟨vp_in_nI (by omega) (by decide), nm_r (e' := nI (P 0 t / 10 ^ 0)) ?_ ⟨dt_wd (P 0 t) + 1, ly_co1 G A ht hm hX hv K (dt_wd (P 0 t)) 0 (by omega)⟩⟩
  rw [dn_rd A.1 rfl (by omega), Nat.pow_zero, Nat.div_one]
/-- the first filling -/
theorem ly_w4 {post : SY → Prop} {J : Int32 → (Nat → Int32) → (Nat → Int32) → (Nat → Int32) → (Nat → Int32) → (Nat → Int32) → (Nat → Int32) → (Nat → Int32) → (Nat → Int32) → Prop} {v : Nat} (hv : v < 8)
    (K : ∀ bX : Nat → Int32, (∀ j, j < 512 * v + 512 → bX j = nI (dt_V P (j % 512) 0 (j / 512))) → J (nI (v + 1)) bK bP bD bC bS bR bX bT) :
    ∀ e m (bX : Nat → Int32), m + e = 512 → (∀ j, j < 512 * v + m → bX j = nI (dt_V P (j % 512) 0 (j / 512))) → wY_workOut_23 post J (nI v) fT fk (e + 1) (nI m) bK bP bD bC bS bR bX bT := by
  intro e
  induction e with
  | zero =>
    intro m bX hm hX
    rw [show m = 512 by omega] at hX
    exact br_t (nI_le (a := 512) (by omega) (by omega)) (nm_r (nI_1 v) (K bX hX))
  | succ e ih =>
    intro m bX hm hX
    have key : ∀ x : Int32, x = nI (dt_V P m 0 v) → ∀ j, j < 512 * v + (m + 1) → upd bX (512 * nI v + nI m).toNatClampNeg x j = nI (dt_V P (j % 512) 0 (j / 512)) := by
      intro x hx j hj
      rw [dn_512, nI_clamp (by omega)]
      by_cases e : j = 512 * v + m
      · subst e
        rw [pk_us, hx, show (512 * v + m) % 512 = m by omega, show (512 * v + m) / 512 = v by omega]
      · rw [pk_un e]
        exact hX j (by omega)
    refine br_f (nI_ge (b := 512) (by omega) (by decide)) (dn_le 3 v rfl rfl (by decide) (by omega) (fun z => ⟨pk_in (512 * v + m) 4096 (by omega) (dn_512 v m), nm_e (nm_r (nI_1 m) (ih (m + 1) _ (by omega) (key _ ?_)))⟩) (fun z => ⟨pk_in (512 * v + m) 4096 (by omega) (dn_512 v m), nm_e (nm_r (nI_1 m) (ih (m + 1) _ (by omega) (key _ ?_)))⟩))
    · show _ = nI (if v < 3 then _ else _)
      rw [if_neg (by omega)]
      rfl
    · show _ = nI (if v < 3 then _ else _)
      rw [if_pos (by omega), dn_x (by omega) (by omega)]
theorem ly_w2 {post : SY → Prop} {J : Int32 → (Nat → Int32) → (Nat → Int32) → (Nat → Int32) → (Nat → Int32) → (Nat → Int32) → (Nat → Int32) → (Nat → Int32) → (Nat → Int32) → Prop} (G : dt_G T P) (A : dy_A P bK bP bD bC bS bR) (ht : t < T)
    (K : ∀ bX : Nat → Int32, dy_V (t + 1) P bX → J (nI (t + 1)) bK bP bD bC bS bR bX bT) :
    ∀ e m (bX : Nat → Int32), m + e = 512 → (∀ j, j < 4096 → bX j = nI (if j % 512 < m then dt_V P (j % 512) (t + 1) (j / 512) else dt_V P (j % 512) t (j / 512))) → wY_workOut_83 post J (nI t) fT fk (e + 1) (nI m) bK bP bD bC bS bR bX bT := by
  have hT := G.1
  intro e
  induction e with
  | zero =>
    intro m bX hm hX
    refine br_t (nI_le (a := 512) (by omega) (by omega)) (nm_r (nI_1 t) (K bX ?_))
    intro j hj
    rw [hX j hj, if_pos (by omega)]
  | succ e ih =>
    intro m bX hm hX
    have hR : ∀ v, v < 8 → bX (512 * v + m) = nI (dt_V P m t v) := by
      intro v hv
      rw [hX _ (by omega), if_neg (by omega), show (512 * v + m) % 512 = m by omega, show (512 * v + m) / 512 = v by omega]
    have hI : 512 * (3 + nI t) + nI m = nI (512 * (3 + t) + m) := by rw [dn_3p, dn_512]
    refine br_f (nI_ge (b := 512) (by omega) (by decide)) (ly_co G A ht (by omega) hR (fun v => dt_V_le G m t v) (ly_fi G A (by omega) (Nat.lt_trans (dt_cK G t m t) (by decide)) (ly_re G A (by omega) (dt_F_lt G t _) (dt_F_hi P t _) ⟨pk_in (512 * (3 + t) + m) 4096 (by omega) hI, nm_e (nm_r (nI_1 m) (ih (m + 1) _ (by omega) ?_))⟩)))
    intro j hj
    rw [hI, nI_clamp (by omega)]
    by_cases e : j = 512 * (3 + t) + m
    · subst e
      rw [pk_us, if_pos (by omega), show (512 * (3 + t) + m) % 512 = m by omega, show (512 * (3 + t) + m) / 512 = 3 + t by omega]
      show _ = nI (if 3 + t = 3 + t then _ else _)
      rw [if_pos rfl]
    · rw [pk_un e, hX j hj]
      by_cases h1 : j % 512 < m
      · rw [if_pos h1, if_pos (by omega)]
      · rw [if_neg h1]
        by_cases h2 : j % 512 < m + 1
        · rw [if_pos h2]
          show _ = nI (if j / 512 = 3 + t then _ else _)
          rw [if_neg (by omega)]
        · rw [if_neg h2]
theorem ly_w1 {post : SY → Prop} (G : dt_G T P) (A : dy_A P bK bP bD bC bS bR) (K : ∀ bX : Nat → Int32, dy_V T P bX → post (nI T, fk, bK, bP, bD, bC, bS, bR, bX, bT)) :
    ∀ e i (bX : Nat → Int32), i + e = T → dy_V i P bX → wY_workOut_73 post (nI T) fk (e + 1) (nI i) bK bP bD bC bS bR bX bT := by
  have hT := G.1
  intro e
  induction e with
  | zero =>
    intro i bX hi hX
    rw [show i = T by omega] at hX
    exact br_t (nI_le (by omega) (by omega)) (K bX hX)
  | succ e ih =>
    intro i bX hi hX
    refine br_f (nI_ge (by omega) (by omega)) ⟨513, ly_w2 G A (by omega) (fun X' hX' => ih (i + 1) X' (by omega) hX') 512 0 bX (by omega) ?_⟩
    intro j hj
    rw [if_neg (by omega)]
    exact hX j hj
theorem ly_w0 {post : SY → Prop} (G : dt_G T P) (A : dy_A P bK bP bD bC bS bR) (K : ∀ bX : Nat → Int32, dy_V T P bX → post (nI T, fk, bK, bP, bD, bC, bS, bR, bX, bT)) :
    ∀ e i (bX : Nat → Int32), i + e = 8 → (∀ j, j < 512 * i → bX j = nI (dt_V P (j % 512) 0 (j / 512))) → wY_workOut_15 post (nI T) fk (e + 1) (nI i) bK bP bD bC bS bR bX bT := by
  intro e
  induction e with
  | zero =>
    intro i bX hi hX
    rw [show i = 8 by omega] at hX
    exact br_t (nI_le (a := 8) (by omega) (by omega)) ⟨T + 1, ly_w1 G A K T 0 bX (by omega) hX⟩
  | succ e ih =>
    intro i bX hi hX
    exact br_f (nI_ge (b := 8) (by omega) (by decide)) ⟨513, ly_w4 (by omega) (fun X' hX' => ih (i + 1) X' (by omega) hX') 512 0 bX (by omega) hX⟩
theorem ly_wo {post : SY → Prop} (G : dt_G T P) (A : dy_A P bK bP bD bC bS bR) (hk : fk = 0 ∨ (fk = 1 ∧ dy_V T P bX)) (K : ∀ bX : Nat → Int32, dy_V T P bX → post (nI T, 1, bK, bP, bD, bC, bS, bR, bX, bT)) : wpY_workOut post (nI T, fk, bK, bP, bD, bC, bS, bR, bX, bT) := by
  rcases hk with rfl | ⟨rfl, hX⟩
  · exact br_t rfl ⟨9, ly_w0 G A K 8 0 bX (by omega) (fun j hj => absurd hj (by omega))⟩
  · exact br_f (by decide) (K bX hX)
theorem dy_rd (hX : dy_V T P bX) {v m : Nat} (hv : v < 8) (hm : m < 512) {x : Int32} (hx : x = nI (512 * v + m)) : bX x.toNatClampNeg = nI (dt_V P m T v) := by
  rw [hx, nI_clamp (by omega), hX _ (by omega), show (512 * v + m) % 512 = m by omega, show (512 * v + m) / 512 = v by omega]
end
