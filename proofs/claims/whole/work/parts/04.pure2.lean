def dt_cnt (p : Nat → Bool) : Nat → Nat
  | 0 => 0
  | n + 1 => dt_cnt p n + (p n).toNat
theorem dt_cnt_y {p : Nat → Bool} {n : Nat} (h : p n = true) : dt_cnt p (n + 1) = dt_cnt p n + 1 := by
  show dt_cnt p n + (p n).toNat = _
  rw [h]
  rfl
theorem dt_cnt_n {p : Nat → Bool} {n : Nat} (h : ¬ p n = true) : dt_cnt p (n + 1) = dt_cnt p n := by
  show dt_cnt p n + (p n).toNat = _
  rw [Bool.not_eq_true _ |>.mp h]
  rfl
theorem dt_cnt_le (p : Nat → Bool) (n : Nat) : dt_cnt p n ≤ n := by
  induction n with
  | zero => exact Nat.le_refl 0
  | succ n ih =>
    by_cases h : p n = true
    · rw [dt_cnt_y h]; omega
    · rw [dt_cnt_n h]; omega
theorem dt_cnt_ext {p q : Nat → Bool} {n : Nat} (h : ∀ i, i < n → p i = q i) : dt_cnt p n = dt_cnt q n := by
  induction n with
  | zero => rfl
  | succ n ih =>
    show dt_cnt p n + (p n).toNat = dt_cnt q n + (q n).toNat
    rw [ih (fun i hi => h i (by omega)), h n (by omega)]
theorem dt_cnt_0 {p : Nat → Bool} {n : Nat} (h : ∀ i, i < n → p i = false) : dt_cnt p n = 0 := by
  induction n with
  | zero => rfl
  | succ n ih =>
    show dt_cnt p n + (p n).toNat = 0
    rw [ih (fun i hi => h i (by omega)), h n (by omega)]
    rfl
theorem dt_cnt_st {p : Nat → Bool} {n : Nat} (h : ∀ i, n ≤ i → p i = false) (j : Nat) : dt_cnt p (n + j) = dt_cnt p n := by
  induction j with
  | zero => rfl
  | succ j ih =>
    rw [← Nat.add_assoc, dt_cnt_n (by rw [h _ (by omega)]; exact fun z => nomatch z)]
    exact ih
theorem dt_cnt_add (p : Nat → Bool) (a b : Nat) : dt_cnt p (a + b) = dt_cnt p a + dt_cnt (fun i => p (a + i)) b := by
  induction b with
  | zero => rfl
  | succ b ih =>
    show dt_cnt p (a + b) + (p (a + b)).toNat = dt_cnt p a + (dt_cnt (fun i => p (a + i)) b + (p (a + b)).toNat)
    rw [ih, Nat.add_assoc]
def dt_row (q : Nat → Nat → Bool) (m r : Nat) : Nat := dt_cnt (fun s => decide (r < s) && q r s) m
def dt_prs (q : Nat → Nat → Bool) (m : Nat) : Nat → Nat
  | 0 => 0
  | r + 1 => dt_prs q m r + dt_row q m r
theorem dt_row0 (q : Nat → Nat → Bool) (r : Nat) : dt_row q (r + 1) r = 0 := dt_cnt_0 (fun i hi => by rw [decide_eq_false (by omega)]; rfl)
theorem dt_row_le (q : Nat → Nat → Bool) (m r : Nat) : dt_row q m r ≤ m := dt_cnt_le _ _
theorem dt_prs_le (q : Nat → Nat → Bool) (m r : Nat) : dt_prs q m r ≤ r * m := by
  induction r with
  | zero => exact Nat.zero_le _
  | succ r ih =>
    show dt_prs q m r + dt_row q m r ≤ _
    have := dt_row_le q m r
    rw [Nat.succ_mul]
    omega
theorem dt_prs_ext {p q : Nat → Nat → Bool} {m n : Nat} (h : ∀ r, r < n → ∀ s, s < m → p r s = q r s) : dt_prs p m n = dt_prs q m n := by
  induction n with
  | zero => rfl
  | succ n ih =>
    show dt_prs p m n + dt_row p m n = dt_prs q m n + dt_row q m n
    rw [ih (fun r hr => h r (by omega))]
    congr 1
    exact dt_cnt_ext (fun s hs => by rw [h n (by omega) s hs])
theorem dt_prs_m {q : Nat → Nat → Bool} {n : Nat} (h : ∀ r s, n ≤ s → q r s = false) (j r : Nat) : dt_prs q (n + j) r = dt_prs q n r := by
  induction r with
  | zero => rfl
  | succ r ih =>
    show dt_prs q (n + j) r + dt_row q (n + j) r = dt_prs q n r + dt_row q n r
    rw [ih]
    congr 1
    exact dt_cnt_st (fun i hi => by rw [h r i hi, Bool.and_false]) j
theorem dt_prs_r {q : Nat → Nat → Bool} {m n : Nat} (h : ∀ r s, n ≤ r → q r s = false) (j : Nat) : dt_prs q m (n + j) = dt_prs q m n := by
  induction j with
  | zero => rfl
  | succ j ih =>
    show dt_prs q m (n + j) + dt_row q m (n + j) = _
    rw [ih, show dt_row q m (n + j) = 0 from dt_cnt_0 (fun i hi => by rw [h _ i (by omega), Bool.and_false])]
    rfl
theorem dt_c64 (f : Nat → Bool) (q : Nat → Nat → Bool) (h : ∀ r s, s < 8 → f (8 * r + s) = (decide (r < s) && q r s)) (n : Nat) : dt_cnt f (8 * n) = dt_prs q 8 n := by
  induction n with
  | zero => rfl
  | succ n ih =>
    rw [Nat.mul_succ, dt_cnt_add, ih]
    show _ = dt_prs q 8 n + dt_row q 8 n
    congr 1
    exact dt_cnt_ext (fun s hs => h n s hs)
/-- pairs counted over the eight by eight square, or over the rules alone -/
theorem dt_c64n {f : Nat → Bool} {q : Nat → Nat → Bool} {n : Nat} (hn : n ≤ 8) (h : ∀ r s, s < 8 → f (8 * r + s) = (decide (r < s) && (decide (r < n) && decide (s < n) && q r s))) : dt_cnt f 64 = dt_prs q n n := by
  rw [show (64 : Nat) = 8 * 8 from rfl, dt_c64 f (fun r s => decide (r < n) && decide (s < n) && q r s) h 8]
  obtain ⟨j, hj⟩ : ∃ j, 8 = n + j := ⟨8 - n, by omega⟩
  have e1 := dt_prs_m (q := fun r s => decide (r < n) && decide (s < n) && q r s) (n := n) (fun r s hs => by rw [decide_eq_false (p := s < n) (by omega), Bool.and_false, Bool.false_and]) j 8
  rw [← hj] at e1
  rw [e1]
  have e2 := dt_prs_r (q := fun r s => decide (r < n) && decide (s < n) && q r s) (m := n) (n := n) (fun r s hs => by rw [decide_eq_false (p := r < n) (by omega), Bool.false_and, Bool.false_and]) j
  rw [← hj] at e2
  rw [e2]
  exact dt_prs_ext (fun r hr s hs => by rw [decide_eq_true hr, decide_eq_true hs]; rfl)
def dt_all (p : Nat → Bool) : Nat → Bool
  | 0 => true
  | n + 1 => dt_all p n && p n
theorem dt_all_i (p : Nat → Bool) (n : Nat) : dt_all p n = true ↔ ∀ i, i < n → p i = true := by
  induction n with
  | zero => exact ⟨fun _ i hi => absurd hi (by omega), fun _ => rfl⟩
  | succ n ih =>
    show (dt_all p n && p n) = true ↔ _
    rw [Bool.and_eq_true, ih]
    exact ⟨fun h => lt_s h.1 h.2, fun h => ⟨fun i hi => h i (by omega), h n (by omega)⟩⟩
theorem dt_all_f {p : Nat → Bool} {n i : Nat} (hi : i < n) (h : ¬ p i = true) : dt_all p n = false := by
  cases e : dt_all p n with
  | false => rfl
  | true => exact absurd ((dt_all_i p n).mp e i hi) h
theorem dt_all_t {p : Nat → Bool} {n : Nat} (h : ∀ i, i < n → p i = true) : dt_all p n = true := (dt_all_i p n).mpr h
def dt_oor (g : Nat → Nat) : Nat → Nat
  | 0 => 0
  | n + 1 => dt_oor g n ||| g n
theorem dt_oor_lt {g : Nat → Nat} {b : Nat} (h : ∀ i, g i < 2 ^ b) (n : Nat) : dt_oor g n < 2 ^ b := by
  induction n with
  | zero => exact Nat.two_pow_pos b
  | succ n ih => exact Nat.or_lt_two_pow ih (h n)
def dt_sh (a : Nat) (g : Nat → Nat) : Nat → Nat
  | 0 => a
  | n + 1 => dn_an (dt_sh a g n) (g n)
theorem dt_sh_e (a : Nat) (g : Nat → Nat) (n : Nat) : dt_sh a g n = dn_an a (dt_oor g n) := by
  induction n with
  | zero =>
    apply Nat.eq_of_testBit_eq
    intro i
    rw [dn_an_t]
    show a.testBit i = (a.testBit i && !((0 : Nat).testBit i))
    rw [Nat.zero_testBit]
    exact (Bool.and_true _).symm
  | succ n ih =>
    apply Nat.eq_of_testBit_eq
    intro i
    show (dn_an (dt_sh a g n) (g n)).testBit i = (dn_an a (dt_oor g n ||| g n)).testBit i
    rw [dn_an_t, ih, dn_an_t, dn_an_t, Nat.testBit_or]
    cases a.testBit i <;> cases (dt_oor g n).testBit i <;> cases (g n).testBit i <;> rfl
theorem dt_sh_lt {a b : Nat} (h : a < 2 ^ b) (g : Nat → Nat) (n : Nat) : dt_sh a g n < 2 ^ b := by
  rw [dt_sh_e]
  exact dn_an_lt _ h
def dt_ff (p : Nat → Bool) : Nat → Nat → Int32
  | 0, _ => -3
  | d + 1, i => if p i = true then nI i else dt_ff p d (i + 1)
def dt_meet (a : Nat) : Nat → Bool
  | 0 => true
  | c + 1 => dt_meet a c && decide (a / 2 ^ (8 * c) % 256 ≠ 0)
theorem dt_xm {k w c : Nat} (h : c < w) : dt_x (k % 2 ^ (3 * w)) c = dt_x k c := by
  unfold dt_x
  obtain ⟨d, rfl⟩ : ∃ d, w = c + 1 + d := ⟨w - c - 1, by omega⟩
  have e : 2 ^ (3 * (c + 1 + d)) = 2 ^ (3 * c) * (8 * 2 ^ (3 * d)) := by
    rw [show 3 * (c + 1 + d) = 3 * c + (3 + 3 * d) by omega, Nat.pow_add, Nat.pow_add]
  rw [e, Nat.mod_mul_right_div_self, Nat.mod_mod_of_dvd _ (Nat.dvd_mul_right 8 _)]
theorem dt_okm (s k w : Nat) : ∀ c, c ≤ w → dt_ok s (k % 2 ^ (3 * w)) c = dt_ok s k c := by
  intro c
  induction c with
  | zero => intro _; rfl
  | succ c ih =>
    intro h
    show (dt_ok s (k % 2 ^ (3 * w)) c && s.testBit (8 * c + dt_x (k % 2 ^ (3 * w)) c)) = (dt_ok s k c && s.testBit (8 * c + dt_x k c))
    rw [ih (by omega), dt_xm (by omega)]
theorem dt_byte (a w : Nat) : a / 2 ^ (8 * w) % 256 ≠ 0 ↔ ∃ x, x < 8 ∧ a.testBit (8 * w + x) = true := by
  have e : ∀ x, (a / 2 ^ (8 * w) % 256).testBit x = (decide (x < 8) && a.testBit (8 * w + x)) := by
    intro x
    rw [show (256 : Nat) = 2 ^ 8 from rfl, Nat.testBit_mod_two_pow, Nat.testBit_div_two_pow, Nat.add_comm x]
  constructor
  · intro h
    obtain ⟨x, hx⟩ := Nat.exists_testBit_of_ne_zero h
    have hx' : (a / 2 ^ (8 * w) % 256).testBit x = true := hx
    rw [e, Bool.and_eq_true, decide_eq_true_iff] at hx'
    exact ⟨x, hx'.1, hx'.2⟩
  · intro ⟨x, h1, h2⟩ z
    have e2 := e x
    rw [z, Nat.zero_testBit, decide_eq_true h1, h2] at e2
    exact nomatch e2
theorem dt_meet_i (a b w : Nat) : dt_meet (a &&& b) w = true ↔ ∃ k, k < 2 ^ (3 * w) ∧ dt_ok a k w = true ∧ dt_ok b k w = true := by
  induction w with
  | zero => exact ⟨fun _ => ⟨0, by decide, rfl, rfl⟩, fun _ => rfl⟩
  | succ w ih =>
    show (dt_meet (a &&& b) w && decide ((a &&& b) / 2 ^ (8 * w) % 256 ≠ 0)) = true ↔ _
    rw [Bool.and_eq_true, decide_eq_true_iff, ih, dt_byte]
    have hp : 0 < 2 ^ (3 * w) := Nat.two_pow_pos _
    have he : 2 ^ (3 * (w + 1)) = 8 * 2 ^ (3 * w) := by rw [show 3 * (w + 1) = 3 + 3 * w by omega, Nat.pow_add]
    constructor
    · intro ⟨⟨k, hk, h1, h2⟩, x, hx, h3⟩
      rw [Nat.testBit_and, Bool.and_eq_true] at h3
      have em : (k + x * 2 ^ (3 * w)) % 2 ^ (3 * w) = k := by rw [Nat.add_mul_mod_self_right, Nat.mod_eq_of_lt hk]
      have ex : dt_x (k + x * 2 ^ (3 * w)) w = x := by
        unfold dt_x
        rw [Nat.add_mul_div_right _ _ hp, Nat.div_eq_of_lt hk, Nat.zero_add, Nat.mod_eq_of_lt hx]
      have eo : ∀ s, dt_ok s (k + x * 2 ^ (3 * w)) w = dt_ok s k w := by
        intro s
        rw [← dt_okm s (k + x * 2 ^ (3 * w)) w w (Nat.le_refl w), em]
      refine ⟨k + x * 2 ^ (3 * w), ?_, ?_, ?_⟩
      · rw [he]
        have : x * 2 ^ (3 * w) ≤ 7 * 2 ^ (3 * w) := Nat.mul_le_mul_right _ (by omega)
        omega
      · show (dt_ok a _ w && a.testBit (8 * w + dt_x _ w)) = true
        rw [ex, eo, h1, h3.1]
        rfl
      · show (dt_ok b _ w && b.testBit (8 * w + dt_x _ w)) = true
        rw [ex, eo, h2, h3.2]
        rfl
    · intro ⟨k, _, h1, h2⟩
      have h1' : (dt_ok a k w && a.testBit (8 * w + dt_x k w)) = true := h1
      have h2' : (dt_ok b k w && b.testBit (8 * w + dt_x k w)) = true := h2
      rw [Bool.and_eq_true] at h1' h2'
      refine ⟨⟨k % 2 ^ (3 * w), Nat.mod_lt _ hp, ?_, ?_⟩, dt_x k w, dt_x_lt k w, ?_⟩
      · rw [dt_okm a k w w (Nat.le_refl w)]; exact h1'.1
      · rw [dt_okm b k w w (Nat.le_refl w)]; exact h2'.1
      · rw [Nat.testBit_and, h1'.2, h2'.2]; rfl
theorem dt_low0 : ∀ m, m < 512 → dn_an m 7 = m - m % 8 := by decide +kernel
theorem dt_low1 : ∀ m, m < 512 → dn_an m 56 = m - m / 8 % 8 * 8 := by decide +kernel
theorem dt_low2 : ∀ m, m < 512 → dn_an m 448 = m - m / 64 % 8 * 64 := by decide +kernel
theorem dt_set0 : ∀ m, m < 512 → ∀ y, y < 8 → (dn_an m 7 ||| y) = m - m % 8 + y := by decide +kernel
theorem dt_set1 : ∀ m, m < 512 → ∀ y, y < 8 → (dn_an m 56 ||| y * 8) = m - m / 8 % 8 * 8 + y * 8 := by decide +kernel
theorem dt_set2 : ∀ m, m < 512 → ∀ y, y < 8 → (dn_an m 448 ||| y * 64) = m - m / 64 % 8 * 64 + y * 64 := by decide +kernel
theorem dt_low {i m : Nat} (hi : i < 3) (hm : m < 512) : dn_an m (7 * 2 ^ (3 * i)) = m - dt_x m i * 2 ^ (3 * i) := by
  rcases (by omega : i = 0 ∨ i = 1 ∨ i = 2) with rfl | rfl | rfl
  · have := dt_low0 m hm
    unfold dt_x
    simp only [Nat.mul_zero, Nat.pow_zero, Nat.div_one, Nat.mul_one]
    exact this
  · exact dt_low1 m hm
  · exact dt_low2 m hm
theorem dt_set {i m y : Nat} (hi : i < 3) (hm : m < 512) (hy : y < 8) : dn_an m (7 * 2 ^ (3 * i)) ||| y * 2 ^ (3 * i) = m - dt_x m i * 2 ^ (3 * i) + y * 2 ^ (3 * i) := by
  rcases (by omega : i = 0 ∨ i = 1 ∨ i = 2) with rfl | rfl | rfl
  · have := dt_set0 m hm y hy
    unfold dt_x
    simp only [Nat.mul_zero, Nat.pow_zero, Nat.div_one, Nat.mul_one]
    exact this
  · exact dt_set1 m hm y hy
  · exact dt_set2 m hm y hy
/-- what is used of a case's digit: s is its weight -/
def dt_W (i : Nat) : Prop := ∀ m, m < 512 → dt_x m i * 2 ^ (3 * i) ≤ m ∧ dt_x (m - dt_x m i * 2 ^ (3 * i)) i = 0 ∧ (0 < dt_x m i → 2 ^ (3 * i) ≤ m ∧ dt_x (m - 2 ^ (3 * i)) i + 1 = dt_x m i) ∧ (dt_x m i < 7 → m + 2 ^ (3 * i) < 512 ∧ dt_x (m + 2 ^ (3 * i)) i = dt_x m i + 1)
theorem dt_W0 : dt_W 0 := by
  intro m hm
  unfold dt_x
  simp only [Nat.mul_zero, Nat.pow_zero, Nat.div_one]
  omega
theorem dt_W1 : dt_W 1 := by
  intro m hm
  unfold dt_x
  simp only [Nat.mul_one, show 2 ^ 3 = 8 from rfl]
  omega
theorem dt_W2 : dt_W 2 := by
  intro m hm
  unfold dt_x
  simp only [show 2 ^ (3 * 2) = 64 from rfl]
  omega
theorem dt_Wi {i : Nat} (hi : i < 3) : dt_W i := by
  rcases (by omega : i = 0 ∨ i = 1 ∨ i = 2) with rfl | rfl | rfl
  · exact dt_W0
  · exact dt_W1
  · exact dt_W2
/-- moving up d places -/
theorem dt_mv {i : Nat} (W : dt_W i) {m : Nat} (hm : m < 512) : ∀ d, dt_x m i + d < 8 → m + d * 2 ^ (3 * i) < 512 ∧ dt_x (m + d * 2 ^ (3 * i)) i = dt_x m i + d := by
  intro d
  induction d with
  | zero => intro _; rw [Nat.zero_mul]; exact ⟨hm, rfl⟩
  | succ d ih =>
    intro h
    obtain ⟨h1, h2⟩ := ih (by omega)
    have h3 := (W _ h1).2.2.2 (by omega)
    rw [Nat.succ_mul, ← Nat.add_assoc]
    exact ⟨h3.1, by rw [h3.2, h2]; rfl⟩
def dt_depX (f : Nat → Nat) (i m : Nat) : Bool := decide (f m = f (dn_an m (7 * 2 ^ (3 * i))))
def dt_oth (i k : Nat) : Nat := dn_an (k % 512) (7 * 2 ^ (3 * i)) ||| (k / 512) * 2 ^ (3 * i)
def dt_depY (f : Nat → Nat) (i k : Nat) : Bool := !(decide (dt_x (k % 512) i < k / 512) && decide (f (dt_oth i k) ≠ f (k % 512)))
def dt_risX (f : Nat → Nat) (i m : Nat) : Bool := !(decide (0 < dt_x m i) && decide (f m < f (m - 2 ^ (3 * i))))
def dt_risY (f : Nat → Nat) (i k : Nat) : Bool := !(decide (dt_x (k % 512) i < k / 512) && decide (f (dt_oth i k) < f (k % 512)))
theorem dt_oth_e {i k : Nat} (hi : i < 3) (hk : k < 4096) (h : dt_x (k % 512) i < k / 512) : ∃ d, k / 512 = dt_x (k % 512) i + d ∧ dt_oth i k = k % 512 + d * 2 ^ (3 * i) := by
  have hm : k % 512 < 512 := Nat.mod_lt _ (by decide)
  refine ⟨k / 512 - dt_x (k % 512) i, by omega, ?_⟩
  unfold dt_oth
  rw [dt_set hi hm (by omega), Nat.sub_mul]
  have h1 := (dt_Wi hi _ hm).1
  have h2 : dt_x (k % 512) i * 2 ^ (3 * i) ≤ k / 512 * 2 ^ (3 * i) := Nat.mul_le_mul_right _ (by omega)
  generalize dt_x (k % 512) i * 2 ^ (3 * i) = A at *
  generalize k / 512 * 2 ^ (3 * i) = B at *
  omega
theorem dt_mk {i m d : Nat} (hi : i < 3) (hm : m < 512) (hd : dt_x m i + d < 8) (h0 : 0 < d) : ∃ k, k < 4096 ∧ k % 512 = m ∧ dt_x (k % 512) i < k / 512 ∧ dt_oth i k = m + d * 2 ^ (3 * i) := by
  have e1 : (512 * (dt_x m i + d) + m) % 512 = m := by omega
  have e2 : (512 * (dt_x m i + d) + m) / 512 = dt_x m i + d := by omega
  have hk : 512 * (dt_x m i + d) + m < 4096 := by omega
  have hl : dt_x ((512 * (dt_x m i + d) + m) % 512) i < (512 * (dt_x m i + d) + m) / 512 := by rw [e1, e2]; omega
  refine ⟨_, hk, e1, hl, ?_⟩
  obtain ⟨d', h1, h2⟩ := dt_oth_e hi hk hl
  rw [e1, e2] at h1
  rw [h2, e1, show d' = d by omega]
theorem dt_dep (f : Nat → Nat) {i : Nat} (hi : i < 3) : dt_all (dt_depX f i) 512 = dt_all (dt_depY f i) 4096 := by
  have W := dt_Wi hi
  rw [Bool.eq_iff_iff, dt_all_i, dt_all_i]
  constructor
  · intro h k hk
    unfold dt_depY
    rw [Bool.not_eq_true', Bool.and_eq_false_iff, decide_eq_false_iff_not, decide_eq_false_iff_not]
    by_cases hl : dt_x (k % 512) i < k / 512
    · refine Or.inr (fun z => z ?_)
      obtain ⟨d, h1, h2⟩ := dt_oth_e hi hk hl
      have hm : k % 512 < 512 := Nat.mod_lt _ (by decide)
      have h3 := dt_mv W hm d (by omega)
      have a1 := h _ hm
      have a2 := h _ h3.1
      unfold dt_depX at a1 a2
      rw [decide_eq_true_iff] at a1 a2
      rw [dt_low hi hm] at a1
      rw [dt_low hi h3.1, h3.2, Nat.add_mul, Nat.add_sub_add_right] at a2
      rw [h2, a2, ← a1]
    · exact Or.inl hl
  · intro h m hm
    unfold dt_depX
    rw [decide_eq_true_iff, dt_low hi hm]
    by_cases hx : dt_x m i = 0
    · rw [hx, Nat.zero_mul, Nat.sub_zero]
    · have h1 := W m hm
      have hm' : m - dt_x m i * 2 ^ (3 * i) < 512 := by omega
      have h8 := dt_x_lt m i
      obtain ⟨k, k1, k2, k3, k4⟩ := dt_mk (d := dt_x m i) hi hm' (by rw [h1.2.1]; omega) (by omega)
      have h2 := h k k1
      unfold dt_depY at h2
      rw [decide_eq_true k3, Bool.true_and, Bool.not_eq_true', decide_eq_false_iff_not, k2, k4, Nat.sub_add_cancel h1.1] at h2
      exact Decidable.not_not.mp h2
theorem dt_ris (f : Nat → Nat) {i : Nat} (hi : i < 3) : dt_all (dt_risX f i) 512 = dt_all (dt_risY f i) 4096 := by
  have W := dt_Wi hi
  rw [Bool.eq_iff_iff, dt_all_i, dt_all_i]
  constructor
  · intro h k hk
    unfold dt_risY
    rw [Bool.not_eq_true', Bool.and_eq_false_iff, decide_eq_false_iff_not, decide_eq_false_iff_not]
    by_cases hl : dt_x (k % 512) i < k / 512
    · refine Or.inr ?_
      obtain ⟨d, h1, h2⟩ := dt_oth_e hi hk hl
      have hm : k % 512 < 512 := Nat.mod_lt _ (by decide)
      have key : ∀ d, dt_x (k % 512) i + d < 8 → f (k % 512) ≤ f (k % 512 + d * 2 ^ (3 * i)) := by
        intro d
        induction d with
        | zero => intro _; rw [Nat.zero_mul]; exact Nat.le_refl _
        | succ d ih =>
          intro hd
          have h3 := dt_mv W hm (d + 1) hd
          have h4 := h _ h3.1
          unfold dt_risX at h4
          rw [Bool.not_eq_true', Bool.and_eq_false_iff, decide_eq_false_iff_not, decide_eq_false_iff_not] at h4
          rcases h4 with h4 | h4
          · omega
          · rw [Nat.succ_mul, ← Nat.add_assoc, Nat.add_sub_cancel] at h4
            rw [Nat.succ_mul, ← Nat.add_assoc]
            have := ih (by omega)
            omega
      have := key d (by omega)
      rw [h2]
      omega
    · exact Or.inl hl
  · intro h m hm
    unfold dt_risX
    rw [Bool.not_eq_true', Bool.and_eq_false_iff, decide_eq_false_iff_not, decide_eq_false_iff_not]
    by_cases hx : 0 < dt_x m i
    · refine Or.inr ?_
      have h1 := (W m hm).2.2.1 hx
      have hm' : m - 2 ^ (3 * i) < 512 := Nat.lt_of_le_of_lt (Nat.sub_le _ _) hm
      have h8 := dt_x_lt m i
      obtain ⟨k, k1, k2, k3, k4⟩ := dt_mk (d := 1) hi hm' (by omega) (by omega)
      have h2 := h k k1
      unfold dt_risY at h2
      rw [decide_eq_true k3, Bool.true_and, Bool.not_eq_true', decide_eq_false_iff_not, k2, k4, Nat.one_mul, Nat.sub_add_cancel h1.1] at h2
      exact h2
    · exact Or.inl hx
