theorem dn_or (a b : Nat) : nI a ||| nI b = nI (a ||| b) := by
  apply Int32.toBitVec_inj.1
  show BitVec.ofNat 32 a ||| BitVec.ofNat 32 b = BitVec.ofNat 32 (a ||| b)
  apply BitVec.eq_of_getLsbD_eq
  intro i hi
  simp [hi]
theorem dn_shl {n k : Nat} (hk : k < 32) (h : n * 2 ^ k < 2 ^ 32) : nI n <<< (nI k &&& 31) = nI (n * 2 ^ k) := pk_shlN _ k (s_l k hk) h
theorem dn_shr {n k : Nat} (hk : k < 32) (h : n < 2 ^ 31) : nI n >>> (nI k &&& 31) = nI (n / 2 ^ k) := pk_shrN h _ k (s_l k hk)
theorem dn_one {k : Nat} (hk : k < 32) : (1 : Int32) <<< (nI k &&& 31) = nI (2 ^ k) := by
  show nI 1 <<< (nI k &&& 31) = _
  rw [dn_shl hk (by rw [Nat.one_mul]; exact Nat.pow_lt_pow_right (by decide) hk), Nat.one_mul]
def dn_an (a b : Nat) : Nat := a ^^^ (a &&& b)
theorem dn_an_t (a b i : Nat) : (dn_an a b).testBit i = (a.testBit i && !(b.testBit i)) := by
  unfold dn_an
  rw [Nat.testBit_xor, Nat.testBit_and]
  cases a.testBit i <;> cases b.testBit i <;> rfl
theorem dn_anI (a b : Nat) : nI a &&& (nI b ^^^ (-1)) = nI (dn_an a b) := by
  rw [dn_an, ← nx_xor, ← nx_and]
  apply b_ext
  intro i hi
  rw [b_and, b_xor, b_m1 i hi, b_xor, b_and]
  cases bt (nI a) i <;> cases bt (nI b) i <;> rfl
theorem dn_an_lt {a n : Nat} (b : Nat) (h : a < 2 ^ n) : dn_an a b < 2 ^ n := Nat.xor_lt_two_pow h (Nat.lt_of_le_of_lt Nat.and_le_left h)
theorem dn_bit {n k : Nat} (hk : k < 32) (h : n < 2 ^ 31) : (nI n >>> (nI k &&& 31)) &&& 1 = nI (n.testBit k).toNat := by
  rw [dn_shr hk h]
  show nI _ &&& nI 1 = _
  rw [nx_and, Nat.and_one_is_mod, Nat.testBit_eq_decide_div_mod_eq]
  generalize n / 2 ^ k = z
  rcases Nat.mod_two_eq_zero_or_one z with h | h <;> simp [h]
theorem dn_bit1 {n k : Nat} (hk : k < 32) (h : n < 2 ^ 31) : ((nI n >>> (nI k &&& 31)) &&& 1 = 1) ↔ n.testBit k = true := by
  rw [dn_bit hk h]
  cases n.testBit k
  · exact ⟨fun z => absurd z (by decide), fun z => nomatch z⟩
  · exact ⟨fun _ => rfl, fun _ => rfl⟩
theorem dn_bit0 {n k : Nat} (hk : k < 32) (h : n < 2 ^ 31) : ((nI n >>> (nI k &&& 31)) &&& 1 = 0) ↔ n.testBit k = false := by
  rw [dn_bit hk h]
  cases n.testBit k
  · exact ⟨fun _ => rfl, fun _ => rfl⟩
  · exact ⟨fun z => absurd z (by decide), fun z => nomatch z⟩
theorem dn_m7 {n : Nat} (h : n < 2 ^ 31) : nI n &&& 7 = nI (n % 8) := pk_andN (Nat.lt_trans h (by decide)) 3 (by decide)
theorem dn_m255 {n : Nat} (h : n < 2 ^ 31) : nI n &&& 255 = nI (n % 256) := pk_andN (Nat.lt_trans h (by decide)) 8 (by decide)
theorem dn_pw {a b : Nat} (h : a < b) : 2 ^ a < 2 ^ b := Nat.pow_lt_pow_right (by decide) h
theorem dn_pl {a b : Nat} (h : a ≤ b) : 2 ^ a ≤ 2 ^ b := Nat.pow_le_pow_right (by decide) h
theorem dn_sub0 {a b : Nat} (ha : a < 1024) (hb : b < 1024) : nI a - nI b = 0 ↔ a = b := by
  constructor
  · intro h
    have e : (nI a - nI b).toInt = 0 := by rw [h]; decide
    rw [pk_sub_toInt (by omega) (by omega)] at e
    omega
  · intro h
    subst h
    rw [pk_sub (Nat.le_refl a), Nat.sub_self]
    rfl
theorem dn_subn {a b : Nat} (ha : a < 1024) (hb : b < 1024) : nI a - nI b < 0 ↔ a < b := by
  constructor
  · intro h
    rw [Int32.lt_iff_toInt_lt, pk_sub_toInt (by omega) (by omega), show (0 : Int32).toInt = 0 from by decide] at h
    omega
  · intro h
    exact pk_sneg (by omega) h
def dn_up (g : Nat → Nat) (k x : Nat) : Nat → Nat := fun j => if j = k then x else g j
theorem dn_upI (g : Nat → Nat) (k x : Nat) : upd (fun j => nI (g j)) k (nI x) = fun j => nI (dn_up g k x j) := by
  funext j
  unfold upd dn_up
  by_cases h : j = k
  · rw [if_pos h, if_pos h]
  · rw [if_neg h, if_neg h]
theorem dn_ups {g : Nat → Nat} {k x : Nat} : dn_up g k x k = x := if_pos rfl
theorem dn_upn {g : Nat → Nat} {k x j : Nat} (h : j ≠ k) : dn_up g k x j = g j := if_neg h
theorem dn_uple {g : Nat → Nat} {k x b : Nat} (h : ∀ j, g j ≤ b) (hx : x ≤ b) : ∀ j, dn_up g k x j ≤ b := by
  intro j
  by_cases e : j = k
  · subst e; rw [dn_ups]; exact hx
  · rw [dn_upn e]; exact h j
def dn_B (b : Bool) : Int32 := if b then 1 else 0
theorem dn_lt {x y : Int32} {A B : Prop} (a b : Nat) (hx : x = nI a) (hy : y = nI b) (ha : a < 2 ^ 31) (hb : b < 2 ^ 31) (f : a < b → A) (g : b ≤ a → B) : (x < y → A) ∧ (¬ x < y → B) := pk_lt a b f g hx hy ha hb
theorem dn_le {x y : Int32} {A B : Prop} (a b : Nat) (hx : x = nI a) (hy : y = nI b) (ha : a < 2 ^ 31) (hb : b < 2 ^ 31) (f : a ≤ b → A) (g : b < a → B) : (x ≤ y → A) ∧ (¬ x ≤ y → B) := pk_le a b f g hx hy ha hb
theorem dn_eq {x y : Int32} {A B : Prop} (a b : Nat) (hx : x = nI a) (hy : y = nI b) (ha : a < 2 ^ 31) (hb : b < 2 ^ 31) (f : a = b → A) (g : a ≠ b → B) : (x = y → A) ∧ (¬ x = y → B) := pk_eq a b f g hx hy ha hb
theorem dn_iff {c d A B : Prop} (e : c ↔ d) (f : d → A) (g : ¬ d → B) : (c → A) ∧ (¬ c → B) := ⟨fun h => f (e.mp h), fun h => g (fun z => h (e.mpr z))⟩
