def dt_bits (p : Nat → Bool) : Nat → Nat
  | 0 => 0
  | n + 1 => dt_bits p n ||| (if p n = true then 2 ^ n else 0)
theorem dt_bits_t (p : Nat → Bool) (n i : Nat) : (dt_bits p n).testBit i = (decide (i < n) && p i) := by
  induction n with
  | zero => simp [dt_bits]
  | succ n ih =>
    show (dt_bits p n ||| (if p n = true then 2 ^ n else 0)).testBit i = _
    rw [Nat.testBit_or, ih]
    by_cases h : i = n
    · subst h
      cases hp : p i
      · simp
      · simp [Nat.testBit_two_pow_self]
    · have e : (if p n = true then 2 ^ n else 0).testBit i = false := by
        split
        · exact Nat.testBit_two_pow_of_ne (Ne.symm h)
        · exact Nat.zero_testBit i
      rw [e, Bool.or_false, show decide (i < n + 1) = decide (i < n) from decide_eq_decide.mpr (by omega)]
theorem dt_bits_lt (p : Nat → Bool) (n : Nat) : dt_bits p n < 2 ^ n :=
  Nat.lt_pow_two_of_testBit _ (fun i hi => by rw [dt_bits_t, decide_eq_false (by omega)]; rfl)
theorem dt_bits_ext {p q : Nat → Bool} {n : Nat} (h : ∀ i, i < n → p i = q i) : dt_bits p n = dt_bits q n := by
  apply Nat.eq_of_testBit_eq
  intro i
  rw [dt_bits_t, dt_bits_t]
  by_cases hi : i < n
  · rw [h i hi]
  · rw [decide_eq_false hi, Bool.false_and, Bool.false_and]
theorem dt_bits_s1 {p : Nat → Bool} {n : Nat} (h : p n = true) : dt_bits p n ||| 2 ^ n = dt_bits p (n + 1) := by
  show _ = dt_bits p n ||| (if p n = true then 2 ^ n else 0)
  rw [if_pos h]
theorem dt_bits_s0 {p : Nat → Bool} {n : Nat} (h : ¬ p n = true) : dt_bits p n = dt_bits p (n + 1) := by
  show _ = dt_bits p n ||| (if p n = true then 2 ^ n else 0)
  rw [if_neg h, Nat.or_zero]
theorem dt_bits_all (n : Nat) : 2 ^ n - 1 = dt_bits (fun _ => true) n := by
  apply Nat.eq_of_testBit_eq
  intro i
  rw [dt_bits_t, Nat.testBit_two_pow_sub_one, Bool.and_true]
theorem dt_bits_an (p : Nat → Bool) (n F : Nat) : dn_an (dt_bits p n) F = dt_bits (fun i => p i && !F.testBit i) n := by
  apply Nat.eq_of_testBit_eq
  intro i
  rw [dn_an_t, dt_bits_t, dt_bits_t, Bool.and_assoc]
def dt_x (k c : Nat) : Nat := k / 2 ^ (3 * c) % 8
theorem dt_x_lt (k c : Nat) : dt_x k c < 8 := Nat.mod_lt _ (by decide)
def dt_ok (s k : Nat) : Nat → Bool
  | 0 => true
  | c + 1 => dt_ok s k c && s.testBit (8 * c + dt_x k c)
def dt_need (k : Nat) : Nat → Nat
  | 0 => 0
  | c + 1 => dt_need k c ||| 2 ^ (8 * c + dt_x k c)
theorem dt_need_lt (k n : Nat) : dt_need k n < 2 ^ (8 * n) := by
  induction n with
  | zero => exact Nat.one_pos
  | succ n ih =>
    have := dt_x_lt k n
    exact Nat.or_lt_two_pow (Nat.lt_of_lt_of_le ih (dn_pl (by omega))) (dn_pw (by omega))
theorem dt_sub (s m : Nat) : s &&& m = m ↔ ∀ i, m.testBit i = true → s.testBit i = true := by
  constructor
  · intro h i hi
    have e : (s &&& m).testBit i = true := by rw [h]; exact hi
    rw [Nat.testBit_and, hi, Bool.and_true] at e
    exact e
  · intro h
    apply Nat.eq_of_testBit_eq
    intro i
    rw [Nat.testBit_and]
    cases hm : m.testBit i with
    | false => rw [Bool.and_false]
    | true => rw [h i hm]; rfl
theorem dt_need_ok (s k n : Nat) : s &&& dt_need k n = dt_need k n ↔ dt_ok s k n = true := by
  rw [dt_sub]
  induction n with
  | zero =>
    refine ⟨fun _ => rfl, fun _ i hi => ?_⟩
    have e : (0 : Nat).testBit i = true := hi
    rw [Nat.zero_testBit] at e
    exact nomatch e
  | succ n ih =>
    show (∀ i, (dt_need k n ||| 2 ^ (8 * n + dt_x k n)).testBit i = true → s.testBit i = true) ↔ (dt_ok s k n && s.testBit (8 * n + dt_x k n)) = true
    rw [Bool.and_eq_true, ← ih]
    constructor
    · intro h
      exact ⟨fun i hi => h i (by rw [Nat.testBit_or, hi, Bool.true_or]), h _ (by rw [Nat.testBit_or, Nat.testBit_two_pow_self, Bool.or_true])⟩
    · intro ⟨h1, h2⟩ i hi
      rw [Nat.testBit_or, Bool.or_eq_true] at hi
      rcases hi with hi | hi
      · exact h1 i hi
      · rw [Nat.testBit_two_pow, decide_eq_true_iff] at hi
        rw [← hi]
        exact h2
def dt_join (p d a b : Nat) : Nat :=
  if p = 0 then a else if p = 1 then b else if p = 2 then (if b < a then b else a) else if p = 3 then (if a < b then b else a) else if p = 4 then (if 7 < a + b then 7 else a + b) else d
theorem dt_join_le {p d a b : Nat} (hd : d ≤ 7) (ha : a ≤ 7) (hb : b ≤ 7) : dt_join p d a b ≤ 7 := by
  unfold dt_join
  repeat' split
  all_goals omega
def dt_res (p d : Nat) (g : Nat → Nat) (F : Nat) : Nat → Nat × Bool
  | 0 => (d, false)
  | n + 1 => if F.testBit n = true then (if (dt_res p d g F n).2 = true then dt_join p d (dt_res p d g F n).1 (g n) else g n, true) else dt_res p d g F n
theorem dt_res_n {p d : Nat} {g : Nat → Nat} {F n : Nat} (h : ¬ F.testBit n = true) : dt_res p d g F (n + 1) = dt_res p d g F n := by
  show (if F.testBit n = true then _ else _) = _
  rw [if_neg h]
theorem dt_res_y {p d : Nat} {g : Nat → Nat} {F n : Nat} (h : F.testBit n = true) : dt_res p d g F (n + 1) = (if (dt_res p d g F n).2 = true then dt_join p d (dt_res p d g F n).1 (g n) else g n, true) := by
  show (if F.testBit n = true then _ else _) = _
  rw [if_pos h]
theorem dt_res_le {p d : Nat} {g : Nat → Nat} (hd : d ≤ 7) (hg : ∀ j, g j ≤ 7) (F n : Nat) : (dt_res p d g F n).1 ≤ 7 := by
  induction n with
  | zero => exact hd
  | succ n ih =>
    by_cases h : F.testBit n = true
    · rw [dt_res_y h]
      show (if _ then _ else _) ≤ 7
      split
      · exact dt_join_le hd ih (hg n)
      · exact hg n
    · rw [dt_res_n h]
      exact ih
theorem dt_res_st {p d : Nat} {g : Nat → Nat} {F n : Nat} (h : ∀ i, n ≤ i → F.testBit i = false) (j : Nat) : dt_res p d g F (n + j) = dt_res p d g F n := by
  induction j with
  | zero => rfl
  | succ j ih =>
    rw [← Nat.add_assoc, dt_res_n (by rw [h _ (by omega)]; exact fun z => nomatch z)]
    exact ih
def dt_cb (F : Nat) : Nat → Nat
  | 0 => 0
  | n + 1 => dt_cb F n + (F.testBit n).toNat
def dt_sm (g : Nat → Nat) (F : Nat) : Nat → Nat
  | 0 => 0
  | n + 1 => dt_sm g F n + (if F.testBit n = true then g n else 0)
theorem dt_cb_y {F n : Nat} (h : F.testBit n = true) : dt_cb F (n + 1) = dt_cb F n + 1 := by
  show dt_cb F n + (F.testBit n).toNat = _
  rw [h]
  rfl
theorem dt_cb_n {F n : Nat} (h : ¬ F.testBit n = true) : dt_cb F (n + 1) = dt_cb F n := by
  show dt_cb F n + (F.testBit n).toNat = _
  rw [Bool.not_eq_true _ |>.mp h]
  rfl
theorem dt_sm_y {g : Nat → Nat} {F n : Nat} (h : F.testBit n = true) : dt_sm g F (n + 1) = dt_sm g F n + g n := by
  show dt_sm g F n + (if F.testBit n = true then g n else 0) = _
  rw [if_pos h]
theorem dt_sm_n {g : Nat → Nat} {F n : Nat} (h : ¬ F.testBit n = true) : dt_sm g F (n + 1) = dt_sm g F n := by
  show dt_sm g F n + (if F.testBit n = true then g n else 0) = _
  rw [if_neg h]
  rfl
theorem dt_sm_le {g : Nat → Nat} (hg : ∀ j, g j ≤ 7) (F n : Nat) : dt_sm g F n ≤ 7 * n := by
  induction n with
  | zero => exact Nat.le_refl 0
  | succ n ih =>
    have := hg n
    by_cases h : F.testBit n = true
    · rw [dt_sm_y h]; omega
    · rw [dt_sm_n h]; omega
theorem dt_any (p d : Nat) (g : Nat → Nat) (F n : Nat) : (dt_res p d g F n).2 = decide (0 < dt_cb F n) := by
  induction n with
  | zero => rfl
  | succ n ih =>
    by_cases h : F.testBit n = true
    · rw [dt_res_y h, dt_cb_y h]
      exact (decide_eq_true (Nat.succ_pos _)).symm
    · rw [dt_res_n h, dt_cb_n h]
      exact ih
theorem dt_sm0 {g : Nat → Nat} {F n : Nat} (h : dt_cb F n = 0) : dt_sm g F n = 0 := by
  induction n with
  | zero => rfl
  | succ n ih =>
    by_cases z : F.testBit n = true
    · rw [dt_cb_y z] at h; omega
    · rw [dt_cb_n z] at h; rw [dt_sm_n z]; exact ih h
/-- the result when another rule fires -/
theorem dt_step {p d : Nat} {g : Nat → Nat} {F n : Nat} (h : F.testBit n = true) : (dt_res p d g F (n + 1)).1 = if dt_cb F n = 0 then g n else dt_join p d (dt_res p d g F n).1 (g n) := by
  rw [dt_res_y h]
  show (if (dt_res p d g F n).2 = true then _ else _) = _
  rw [dt_any]
  by_cases z : dt_cb F n = 0
  · rw [if_pos z, if_neg (by rw [decide_eq_true_iff]; omega)]
  · rw [if_neg z, if_pos (by rw [decide_eq_true_iff]; omega)]
theorem dt_r4 {d : Nat} {g : Nat → Nat} (hg : ∀ j, g j ≤ 7) (F n : Nat) (hc : 0 < dt_cb F n) : (dt_res 4 d g F n).1 = if 7 < dt_sm g F n then 7 else dt_sm g F n := by
  induction n with
  | zero => exact absurd hc (Nat.lt_irrefl 0)
  | succ n ih =>
    by_cases h : F.testBit n = true
    · rw [dt_step h, dt_sm_y h]
      have := hg n
      by_cases z : dt_cb F n = 0
      · rw [if_pos z, dt_sm0 z, if_neg (by omega), Nat.zero_add]
      · rw [if_neg z, ih (by omega)]
        unfold dt_join
        rw [if_neg (by decide), if_neg (by decide), if_neg (by decide), if_neg (by decide), if_pos rfl]
        repeat' split
        all_goals omega
    · rw [dt_cb_n h] at hc
      rw [dt_res_n h, dt_sm_n h]
      exact ih hc
theorem dt_r5 {d : Nat} {g : Nat → Nat} (F n : Nat) : (dt_cb F n = 1 → (dt_res 5 d g F n).1 = (dt_res 0 d g F n).1) ∧ (2 ≤ dt_cb F n → (dt_res 5 d g F n).1 = d) := by
  induction n with
  | zero => exact ⟨fun _ => rfl, fun _ => rfl⟩
  | succ n ih =>
    by_cases h : F.testBit n = true
    · rw [dt_step h, dt_step h, dt_cb_y h]
      refine ⟨fun z => ?_, fun z => ?_⟩
      · rw [if_pos (by omega), if_pos (by omega)]
      · rw [if_neg (by omega)]
        rfl
    · rw [dt_res_n h, dt_res_n h, dt_cb_n h]
      exact ih
theorem dt_pop : ∀ F, F < 256 → (F &&& (F - 1) = 0 ↔ dt_cb F 8 ≤ 1) := by decide +kernel
theorem dt_pop0 : ∀ F, F < 256 → (F = 0 ↔ dt_cb F 8 = 0) := by decide +kernel
def dt_comb (cd : Nat) (vl : Nat → Nat) : Nat → Nat
  | 0 => 0
  | c + 1 => dt_comb cd vl c ||| vl (cd / 10 ^ c % 10) * 2 ^ (3 * c)
theorem dt_comb_lt {cd : Nat} {vl : Nat → Nat} (h : ∀ v, vl v ≤ 7) (n : Nat) : dt_comb cd vl n < 2 ^ (3 * n) := by
  induction n with
  | zero => exact Nat.one_pos
  | succ n ih =>
    refine Nat.or_lt_two_pow (Nat.lt_of_lt_of_le ih (dn_pl (by omega))) ?_
    rw [show 3 * (n + 1) = 3 + 3 * n by omega, Nat.pow_add]
    exact Nat.mul_lt_mul_of_pos_right (Nat.lt_of_le_of_lt (h _) (by decide)) (Nat.two_pow_pos _)
def dt_wd (c : Nat) : Nat := if c / 100 = 9 then (if c / 10 % 10 = 9 then 1 else 2) else 3
theorem dt_wd_in (c : Nat) : 1 ≤ dt_wd c ∧ dt_wd c ≤ 3 := by
  unfold dt_wd
  repeat' split
  all_goals omega
def dt_F (P : Nat → Nat → Nat) (t k : Nat) : Nat := dt_bits (fun r => dt_ok (P 4 (8 * t + r)) k (dt_wd (P 0 t))) (P 3 t)
def dt_R (P : Nat → Nat → Nat) (t F : Nat) : Nat := (dt_res (P 1 t) (P 2 t) (fun r => P 5 (8 * t + r)) F (P 3 t)).1
def dt_V (P : Nat → Nat → Nat) (m : Nat) : Nat → Nat → Nat
  | 0 => fun v => if v < 3 then dt_x m v else 0
  | t + 1 => fun v => if v = 3 + t then dt_R P t (dt_F P t (dt_comb (P 0 t) (dt_V P m t) (dt_wd (P 0 t)))) else dt_V P m t v
def dt_G (T : Nat) (P : Nat → Nat → Nat) : Prop :=
  T ≤ 5 ∧ (∀ t, P 0 t ≤ 999) ∧ (∀ t, P 1 t ≤ 5) ∧ (∀ t, P 2 t ≤ 7) ∧ (∀ t, P 3 t ≤ 8) ∧ (∀ j, P 4 j ≤ 16777215) ∧ (∀ j, P 5 j ≤ 7) ∧ (∀ t, t < T → ∀ c, c < dt_wd (P 0 t) → P 0 t / 10 ^ c % 10 < 3 + t)
theorem dt_R_le {T : Nat} {P : Nat → Nat → Nat} (G : dt_G T P) (t F : Nat) : dt_R P t F ≤ 7 := dt_res_le (G.2.2.2.1 t) (fun j => G.2.2.2.2.2.2.1 _) F _
theorem dt_V_le {T : Nat} {P : Nat → Nat → Nat} (G : dt_G T P) (m n v : Nat) : dt_V P m n v ≤ 7 := by
  induction n generalizing v with
  | zero =>
    show (if v < 3 then dt_x m v else 0) ≤ 7
    have := dt_x_lt m v
    split <;> omega
  | succ n ih =>
    show (if v = 3 + n then _ else _) ≤ 7
    split
    · exact dt_R_le G _ _
    · exact ih v
theorem dt_V_0 (P : Nat → Nat → Nat) (m n v : Nat) (h : 3 + n ≤ v) : dt_V P m n v = 0 := by
  induction n with
  | zero =>
    show (if v < 3 then dt_x m v else 0) = 0
    rw [if_neg (by omega)]
  | succ n ih =>
    show (if v = 3 + n then _ else _) = 0
    rw [if_neg (by omega)]
    exact ih (by omega)
theorem dt_F_lt {T : Nat} {P : Nat → Nat → Nat} (G : dt_G T P) (t k : Nat) : dt_F P t k < 256 := Nat.lt_of_lt_of_le (dt_bits_lt _ _) (dn_pl (b := 8) (G.2.2.2.2.1 t))
theorem dt_F_hi (P : Nat → Nat → Nat) (t k i : Nat) (h : P 3 t ≤ i) : (dt_F P t k).testBit i = false := by
  unfold dt_F
  rw [dt_bits_t, decide_eq_false (by omega)]
  rfl
def dt_K (T : Nat) (P : Nat → Nat → Nat) (m t : Nat) : Nat := dt_comb (P 0 t) (dt_V P m T) (dt_wd (P 0 t))
theorem dt_cK {T : Nat} {P : Nat → Nat → Nat} (G : dt_G T P) (t m n : Nat) : dt_comb (P 0 t) (dt_V P m n) (dt_wd (P 0 t)) < 512 := Nat.lt_of_lt_of_le (dt_comb_lt (fun v => dt_V_le G m n v) _) (dn_pl (b := 9) (by have := dt_wd_in (P 0 t); omega))
