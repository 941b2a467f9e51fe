def dt_ex (p : Nat → Bool) : Nat → Bool
  | 0 => false
  | n + 1 => dt_ex p n || p n
theorem dt_ex_i (p : Nat → Bool) (n : Nat) : dt_ex p n = true ↔ ∃ i, i < n ∧ p i = true := by
  induction n with
  | zero => exact ⟨fun h => (nomatch h), fun ⟨i, hi, _⟩ => absurd hi (by omega)⟩
  | succ n ih =>
    show (dt_ex p n || p n) = true ↔ _
    rw [Bool.or_eq_true, ih]
    constructor
    · intro h
      rcases h with ⟨i, hi, h⟩ | h
      · exact ⟨i, by omega, h⟩
      · exact ⟨n, by omega, h⟩
    · intro ⟨i, hi, h⟩
      by_cases e : i = n
      · subst e; exact Or.inr h
      · exact Or.inl ⟨i, by omega, h⟩
theorem dn_bit2 {n i j : Nat} (hi : i < 32) (hj : j < 32) (h : n < 2 ^ 31) : ((nI n >>> (nI i &&& 31)) &&& (nI n >>> (nI j &&& 31)) &&& 1 = 1) ↔ (n.testBit i && n.testBit j) = true := by
  rw [dn_shr hi h, dn_shr hj h]
  show nI _ &&& nI _ &&& nI 1 = nI 1 ↔ _
  have e : (n / 2 ^ i &&& n / 2 ^ j).testBit 0 = (n.testBit i && n.testBit j) := by
    rw [Nat.testBit_and, Nat.testBit_div_two_pow, Nat.testBit_div_two_pow, Nat.zero_add, Nat.zero_add]
  rw [nx_and, nx_and, Nat.and_one_is_mod, nI_eq (by omega) (by decide), ← e, Nat.testBit_zero, decide_eq_true_iff]
def dt_tg (P : Nat → Nat → Nat) (t j k : Nat) : Bool := (dt_F P t k).testBit (j / 8) && (dt_F P t k).testBit (j % 8)
def dt_q (P : Nat → Nat → Nat) (t r s : Nat) : Bool := dt_meet (P 4 (8 * t + r) &&& P 4 (8 * t + s)) (dt_wd (P 0 t))
theorem dt_F_t (P : Nat → Nat → Nat) (t k i : Nat) : (dt_F P t k).testBit i = (decide (i < P 3 t) && dt_ok (P 4 (8 * t + i)) k (dt_wd (P 0 t))) := dt_bits_t _ _ _
theorem dt_tgq (P : Nat → Nat → Nat) (t r s : Nat) (hs : s < 8) : dt_ex (dt_tg P t (8 * r + s)) (2 ^ (3 * dt_wd (P 0 t))) = (decide (r < P 3 t) && decide (s < P 3 t) && dt_q P t r s) := by
  rw [Bool.eq_iff_iff, dt_ex_i, Bool.and_eq_true, Bool.and_eq_true, decide_eq_true_iff, decide_eq_true_iff]
  unfold dt_q
  rw [dt_meet_i]
  have e1 : (8 * r + s) / 8 = r := by omega
  have e2 : (8 * r + s) % 8 = s := by omega
  constructor
  · intro ⟨k, hk, h⟩
    unfold dt_tg at h
    rw [e1, e2, dt_F_t, dt_F_t, Bool.and_eq_true, Bool.and_eq_true, Bool.and_eq_true, decide_eq_true_iff, decide_eq_true_iff] at h
    exact ⟨⟨h.1.1, h.2.1⟩, k, hk, h.1.2, h.2.2⟩
  · intro ⟨⟨h1, h2⟩, k, hk, h3, h4⟩
    refine ⟨k, hk, ?_⟩
    unfold dt_tg
    rw [e1, e2, dt_F_t, dt_F_t, Bool.and_eq_true, Bool.and_eq_true, Bool.and_eq_true, decide_eq_true_iff, decide_eq_true_iff]
    exact ⟨⟨h1, h3⟩, h2, h4⟩
def dt_ovl (P : Nat → Nat → Nat) (t : Nat) : Nat := dt_prs (dt_q P t) (P 3 t) (P 3 t)
theorem dt_ovY {T : Nat} {P : Nat → Nat → Nat} (G : dt_G T P) (t : Nat) : dt_cnt (fun j => decide (j / 8 < j % 8) && dt_ex (dt_tg P t j) (2 ^ (3 * dt_wd (P 0 t)))) 64 = dt_ovl P t := by
  refine dt_c64n (G.2.2.2.2.1 t) (fun r s hs => ?_)
  show (decide ((8 * r + s) / 8 < (8 * r + s) % 8) && dt_ex (dt_tg P t (8 * r + s)) (2 ^ (3 * dt_wd (P 0 t)))) = _
  rw [dt_tgq P t r s hs, show (8 * r + s) / 8 = r by omega, show (8 * r + s) % 8 = s by omega]
def dt_np (P : Nat → Nat → Nat) (t i k : Nat) : Bool := decide (dt_R P t (dt_F P t k) = dt_R P t (dn_an (dt_F P t k) (2 ^ i)))
theorem dn_an_n {F r : Nat} (h : ¬ F.testBit r = true) : dn_an F (2 ^ r) = F := by
  apply Nat.eq_of_testBit_eq
  intro i
  rw [dn_an_t, Nat.testBit_two_pow]
  by_cases e : r = i
  · subst e
    rw [Bool.not_eq_true _ |>.mp h]
    rfl
  · rw [decide_eq_false e]
    exact Bool.and_true _
theorem dt_an_hi {F n : Nat} (h : ∀ i, n ≤ i → F.testBit i = false) (b : Nat) : ∀ i, n ≤ i → (dn_an F b).testBit i = false := by
  intro i hi
  rw [dn_an_t, h i hi]
  rfl
def dt_ndl (P : Nat → Nat → Nat) (t : Nat) : Nat := dt_bits (fun i => dt_all (dt_np P t i) (2 ^ (3 * dt_wd (P 0 t)))) (P 3 t)
/-- the reference's set of needless rules while combination k is looked at, rules below r done -/
def dt_nY (P : Nat → Nat → Nat) (t k r : Nat) : Nat := dt_bits (fun i => dt_all (dt_np P t i) k && (decide (r ≤ i) || dt_np P t i k)) (P 3 t)
theorem dt_nY_lt {T : Nat} {P : Nat → Nat → Nat} (G : dt_G T P) (t k r : Nat) : dt_nY P t k r < 256 := Nat.lt_of_lt_of_le (dt_bits_lt _ _) (dn_pl (b := 8) (G.2.2.2.2.1 t))
theorem dt_nY_0 (P : Nat → Nat → Nat) (t : Nat) : dt_nY P t 0 0 = 2 ^ (P 3 t) - 1 := by
  rw [dt_bits_all]
  exact dt_bits_ext (fun i _ => by rw [decide_eq_true (Nat.zero_le i)]; rfl)
theorem dt_nY_s {P : Nat → Nat → Nat} {t k r : Nat} (h : dt_np P t r k = true) : dt_nY P t k (r + 1) = dt_nY P t k r := by
  refine dt_bits_ext (fun i _ => ?_)
  by_cases e : i = r
  · subst e; rw [h, Bool.or_true, Bool.or_true]
  · rw [show decide (r + 1 ≤ i) = decide (r ≤ i) from decide_eq_decide.mpr (by omega)]
theorem dt_nY_d {P : Nat → Nat → Nat} {t k r : Nat} (h : dt_np P t r k = false) : dt_nY P t k (r + 1) = dn_an (dt_nY P t k r) (2 ^ r) := by
  unfold dt_nY
  rw [dt_bits_an]
  refine dt_bits_ext (fun i _ => ?_)
  rw [Nat.testBit_two_pow]
  by_cases e : i = r
  · subst e
    rw [h, decide_eq_false (p := i + 1 ≤ i) (by omega), decide_eq_true (p := i = i) rfl]
    cases dt_all (dt_np P t i) k <;> simp
  · rw [show decide (r + 1 ≤ i) = decide (r ≤ i) from decide_eq_decide.mpr (by omega), decide_eq_false (p := r = i) (fun z => e z.symm)]
    exact (Bool.and_true _).symm
theorem dt_nY_n (P : Nat → Nat → Nat) (t k : Nat) : dt_nY P t k (P 3 t) = dt_nY P t (k + 1) 0 := by
  refine dt_bits_ext (fun i hi => ?_)
  rw [decide_eq_false (p := P 3 t ≤ i) (by omega), decide_eq_true (Nat.zero_le i), Bool.false_or, Bool.true_or, Bool.and_true]
  rfl
theorem dt_nY_e (P : Nat → Nat → Nat) (t k : Nat) : dt_nY P t k 0 = dt_bits (fun i => dt_all (dt_np P t i) k) (P 3 t) :=
  dt_bits_ext (fun i _ => by rw [decide_eq_true (Nat.zero_le i), Bool.true_or, Bool.and_true])
