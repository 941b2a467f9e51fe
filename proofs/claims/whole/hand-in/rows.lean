section
theorem pk_us {f : Nat → Int32} {k : Nat} {x : Int32} : upd f k x k = x := if_pos rfl
theorem pk_un {f : Nat → Int32} {k j : Nat} {x : Int32} (h : j ≠ k) : upd f k x j = f j := if_neg h
theorem pk_sub {a b : Nat} (h : b ≤ a) : nI a - nI b = nI (a - b) := by
  obtain ⟨c, rfl⟩ : ∃ c, a = c + b := ⟨a - b, by omega⟩
  rw [← nI_add, Int32.add_sub_cancel, Nat.add_sub_cancel]
theorem pk_m1 (n : Nat) : nI (n + 1) + (-1) = nI n := by
  rw [← nI_1, Int32.add_assoc, show (1 : Int32) + (-1) = 0 from rfl, Int32.add_zero]
theorem pk_mul (a b : Nat) : nI a * nI b = nI (a * b) := (Int32.ofNat_mul a b).symm
theorem pk_div {a d : Nat} (ha : a < 2 ^ 31) (h0 : 0 < d) (hd : d < 2 ^ 31) : nI a / nI d = nI (a / d) := by
  apply Int32.toInt_inj.mp
  rw [lg_idiv_nonneg (by rw [nI_toInt ha]; omega) (by rw [nI_toInt hd]; omega), nI_toInt ha, nI_toInt hd, nI_toInt (Nat.lt_of_le_of_lt (Nat.div_le_self a d) ha)]
  first | rfl | exact (Int.natCast_ediv _ _).symm
theorem pk_rem {a d : Nat} (ha : a < 2 ^ 31) (h0 : 0 < d) (hd : d < 2 ^ 31) : nI a - nI a / nI d * nI d = nI (a % d) := by
  rw [pk_div ha h0 hd, pk_mul, pk_sub (Nat.div_mul_le_self a d)]
  exact congrArg nI (by have := Nat.div_add_mod' a d; omega)
theorem pk_sub_toInt {a b : Nat} (ha : a < 2 ^ 30) (hb : b < 2 ^ 30) : (nI a - nI b).toInt = (a : Int) - b := by
  rw [Int32.toInt_sub, nI_toInt (by omega), nI_toInt (by omega)]
  exact Int.bmod_eq_of_le (by omega) (by omega)
theorem pk_sneg {a b : Nat} (hb : b < 2 ^ 30) (h : a < b) : nI a - nI b < 0 := by
  rw [Int32.lt_iff_toInt_lt, pk_sub_toInt (by omega) hb, show (0 : Int32).toInt = 0 from by decide]
  omega
theorem pk_ix (x : Int32) {n : Nat} (hn : n < 2 ^ 31) : x < 0 ∨ nI n ≤ x ∨ ∃ j : Nat, j < n ∧ x = nI j := by
  by_cases h : x < 0
  · exact Or.inl h
  · obtain ⟨j, hj, rfl⟩ := nI_of h
    by_cases h2 : j < n
    · exact Or.inr (Or.inr ⟨j, h2, rfl⟩)
    · exact Or.inr (Or.inl (nI_le (by omega) hj))
theorem pk_le {x y : Int32} {A B : Prop} (a b : Nat) (f : a ≤ b → A) (g : b < a → B) (hx : x = nI a := by rfl) (hy : y = nI b := by rfl) (ha : a < 2 ^ 31 := by omega) (hb : b < 2 ^ 31 := by omega) : (x ≤ y → A) ∧ (¬ x ≤ y → B) := by
  subst hx hy
  rw [nI_leI ha hb]
  exact ⟨f, fun z => g (by omega)⟩
theorem pk_lt {x y : Int32} {A B : Prop} (a b : Nat) (f : a < b → A) (g : b ≤ a → B) (hx : x = nI a := by rfl) (hy : y = nI b := by rfl) (ha : a < 2 ^ 31 := by omega) (hb : b < 2 ^ 31 := by omega) : (x < y → A) ∧ (¬ x < y → B) := by
  subst hx hy
  rw [nI_ltI ha hb]
  exact ⟨f, fun z => g (by omega)⟩
theorem pk_eq {x y : Int32} {A B : Prop} (a b : Nat) (f : a = b → A) (g : a ≠ b → B) (hx : x = nI a := by rfl) (hy : y = nI b := by rfl) (ha : a < 2 ^ 31 := by omega) (hb : b < 2 ^ 31 := by omega) : (x = y → A) ∧ (¬ x = y → B) := by
  subst hx hy
  rw [nI_eq ha hb]
  exact ⟨f, g⟩
theorem pk_in {x : Int32} (n N : Nat) (h : n < N) (hx : x = nI n := by rfl) (hN : N < 2 ^ 31 := by omega) : vp_in x N := by
  subst hx
  exact vp_in_nI h hN
theorem pk_cl {x : Int32} (n : Nat) (hx : x = nI n := by rfl) (h : n < 2 ^ 31 := by omega) : x.toNatClampNeg = n := by
  subst hx
  exact nI_clamp h
theorem pk_tn {n : Nat} (h : n < 2 ^ 32) : (nI n).toBitVec.toNat = n := Nat.mod_eq_of_lt h
theorem pk_and (x : Int32) {m : Int32} (k : Nat) (hm : m.toBitVec.toNat = 2 ^ k - 1) : x &&& m = nI (x.toBitVec.toNat % 2 ^ k) := by
  apply Int32.toBitVec_inj.mp
  apply BitVec.eq_of_toNat_eq
  rw [Int32.toBitVec_and, BitVec.toNat_and, hm, Nat.and_two_pow_sub_one_eq_mod]
  show _ = (BitVec.ofNat 32 _).toNat
  rw [BitVec.toNat_ofNat]
  exact (Nat.mod_eq_of_lt (Nat.lt_of_le_of_lt (Nat.mod_le _ _) x.toBitVec.isLt)).symm
theorem pk_andN {n : Nat} (h : n < 2 ^ 32) {m : Int32} (k : Nat) (hm : m.toBitVec.toNat = 2 ^ k - 1) : nI n &&& m = nI (n % 2 ^ k) := by
  rw [pk_and _ k hm, pk_tn h]
theorem pk_andE (x : Int32) {m : Int32} (k : Nat) (hm : m.toBitVec.toNat = 2 ^ k - 1) : ∃ j : Nat, j < 2 ^ k ∧ x &&& m = nI j := ⟨_, Nat.mod_lt _ (Nat.two_pow_pos k), pk_and x k hm⟩
theorem pk_andIn (x : Int32) {m : Int32} (k : Nat) (hm : m.toBitVec.toNat = 2 ^ k - 1) (hk : k ≤ 30) : vp_in (x &&& m) (2 ^ k) := by
  obtain ⟨j, hj, e⟩ := pk_andE x k hm
  rw [e]
  exact vp_in_nI hj (Nat.lt_of_le_of_lt (Nat.pow_le_pow_right (by decide) hk) (by decide))
theorem pk_shl (a s : Int32) (k : Nat) (hs : (s.toBitVec.smod 32).toNat = k) : (a <<< s).toBitVec.toNat = a.toBitVec.toNat * 2 ^ k % 2 ^ 32 := by
  show (a.toBitVec <<< (s.toBitVec.smod 32).toNat).toNat = _
  rw [hs, BitVec.toNat_shiftLeft, Nat.shiftLeft_eq]
theorem pk_shlN {n : Nat} (s : Int32) (k : Nat) (hs : (s.toBitVec.smod 32).toNat = k) (h : n * 2 ^ k < 2 ^ 32) : nI n <<< s = nI (n * 2 ^ k) := by
  apply Int32.toBitVec_inj.mp
  apply BitVec.eq_of_toNat_eq
  have hn : n < 2 ^ 32 := Nat.lt_of_le_of_lt (Nat.le_mul_of_pos_right n (Nat.two_pow_pos k)) h
  rw [pk_shl _ _ k hs, pk_tn hn, pk_tn h, Nat.mod_eq_of_lt h]
theorem pk_shr (a s : Int32) (k : Nat) (hs : (s.toBitVec.smod 32).toNat = k) : (a >>> s).toInt = a.toInt >>> k := by
  show (a.toBitVec.sshiftRight (s.toBitVec.smod 32).toNat).toInt = _
  rw [hs, BitVec.toInt_sshiftRight]
  rfl
theorem pk_shrN {n : Nat} (h : n < 2 ^ 31) (s : Int32) (k : Nat) (hs : (s.toBitVec.smod 32).toNat = k) : nI n >>> s = nI (n / 2 ^ k) := by
  apply Int32.toInt_inj.mp
  have h2 : n / 2 ^ k ≤ n := Nat.div_le_self _ _
  rw [pk_shr _ _ k hs, nI_toInt h, nI_toInt (by omega), Int.shiftRight_eq_div_pow]
  rfl
theorem pk_loop {σ : Type} (W : Nat → Nat → σ → Prop) (I : Nat → σ → Prop) (e i0 : Nat) (s : σ) (hi : i0 ≤ e) (h0 : I i0 s) (hx : ∀ n s, I e s → W (n + 1) e s)
    (hs : ∀ n i s, i < e → I i s → (∀ s', I (i + 1) s' → W n (i + 1) s') → W (n + 1) i s) : ∃ n, W n i0 s :=
  ⟨e + 1, loop_i W I e hx hs (e + 1) i0 s hi (by omega) h0⟩
def bt (x : Int32) (i : Nat) : Bool := x.toBitVec.getLsbD i
theorem b_ext {x y : Int32} (h : ∀ i, i < 32 → bt x i = bt y i) : x = y := Int32.toBitVec_inj.mp (BitVec.eq_of_getLsbD_eq (fun i hi => h i hi))
theorem b_or (x y : Int32) (i : Nat) : bt (x ||| y) i = (bt x i || bt y i) := by unfold bt; rw [Int32.toBitVec_or, BitVec.getLsbD_or]
theorem b_and (x y : Int32) (i : Nat) : bt (x &&& y) i = (bt x i && bt y i) := by unfold bt; rw [Int32.toBitVec_and, BitVec.getLsbD_and]
theorem b_xor (x y : Int32) (i : Nat) : bt (x ^^^ y) i = (bt x i ^^ bt y i) := by unfold bt; rw [Int32.toBitVec_xor, BitVec.getLsbD_xor]
theorem b_big {x : Int32} {i : Nat} (h : 32 ≤ i) : bt x i = false := BitVec.getLsbD_of_ge _ _ h
theorem b_255 (i : Nat) : bt 255 i = decide (i < 8) := by
  rcases Nat.lt_or_ge i 32 with h | h
  · exact (by decide +kernel : ∀ i, i < 32 → bt 255 i = decide (i < 8)) i h
  · rw [b_big h, decide_eq_false (by omega)]
theorem b_65535 (i : Nat) : bt 65535 i = decide (i < 16) := by
  rcases Nat.lt_or_ge i 32 with h | h
  · exact (by decide +kernel : ∀ i, i < 32 → bt 65535 i = decide (i < 16)) i h
  · rw [b_big h, decide_eq_false (by omega)]
theorem b_m1 : ∀ i, i < 32 → bt (-1) i = true := by decide +kernel
theorem b_0 (i : Nat) : bt 0 i = false := BitVec.getLsbD_zero
theorem s_l : ∀ n, n < 32 → ((nI n &&& 31).toBitVec.smod 32).toNat = n := by decide +kernel
theorem s_u : ∀ n, n < 32 → (((nI n).toUInt32 &&& Int32.toUInt32 31).toBitVec % 32).toNat = n := by decide +kernel
theorem b_shl (n : Nat) (hn : n < 32) (x : Int32) {i : Nat} (hi : i < 32) : bt (x <<< (nI n &&& 31)) i = (decide (n ≤ i) && bt x (i - n)) := by
  unfold bt
  rw [Int32.toBitVec_shiftLeft]
  show (x.toBitVec <<< ((nI n &&& 31).toBitVec.smod 32).toNat).getLsbD i = _
  rw [s_l n hn, BitVec.getLsbD_shiftLeft]
  rcases Nat.lt_or_ge i n with h | h
  · simp [h, Nat.not_le.mpr h]
  · simp [hi, h, Nat.not_lt.mpr h]
theorem b_ushr (n : Nat) (hn : n < 32) (x : Int32) (i : Nat) : bt ((x.toUInt32 >>> ((nI n).toUInt32 &&& Int32.toUInt32 31)).toInt32) i = bt x (n + i) := by
  show (x.toUInt32 >>> ((nI n).toUInt32 &&& Int32.toUInt32 31)).toBitVec.getLsbD i = x.toUInt32.toBitVec.getLsbD (n + i)
  rw [UInt32.toBitVec_shiftRight]
  show (x.toUInt32.toBitVec >>> (((nI n).toUInt32 &&& Int32.toUInt32 31).toBitVec % 32).toNat).getLsbD i = _
  rw [s_u n hn, BitVec.getLsbD_ushiftRight]
theorem b_sshr (n : Nat) (hn : n < 32) (x : Int32) {i : Nat} (hi : i < 32) : bt (x >>> (nI n &&& 31)) i = if n + i < 32 then bt x (n + i) else bt x 31 := by
  unfold bt
  rw [Int32.toBitVec_shiftRight]
  show (x.toBitVec.sshiftRight ((nI n &&& 31).toBitVec.smod 32).toNat).getLsbD i = _
  rw [s_l n hn, BitVec.getLsbD_sshiftRight, BitVec.msb_eq_getLsbD_last]
  simp [hi]
theorem b_shl8 (x : Int32) {i : Nat} (hi : i < 32) : bt (x <<< ((8 : Int32) &&& 31)) i = (decide (8 ≤ i) && bt x (i - 8)) := b_shl 8 (by omega) x hi
theorem b_shl16 (x : Int32) {i : Nat} (hi : i < 32) : bt (x <<< ((16 : Int32) &&& 31)) i = (decide (16 ≤ i) && bt x (i - 16)) := b_shl 16 (by omega) x hi
theorem b_shl24 (x : Int32) {i : Nat} (hi : i < 32) : bt (x <<< ((24 : Int32) &&& 31)) i = (decide (24 ≤ i) && bt x (i - 24)) := b_shl 24 (by omega) x hi
theorem b_sshr8 (x : Int32) {i : Nat} (hi : i < 32) : bt (x >>> ((8 : Int32) &&& 31)) i = if 8 + i < 32 then bt x (8 + i) else bt x 31 := b_sshr 8 (by omega) x hi
/-! ===== nI under and, xor, >>>, one bit, 65535 ===== -/
theorem nx_and (a b : Nat) : nI a &&& nI b = nI (a &&& b) := by
  apply Int32.toBitVec_inj.1
  show BitVec.ofNat 32 a &&& BitVec.ofNat 32 b = BitVec.ofNat 32 (a &&& b)
  apply BitVec.eq_of_getLsbD_eq
  intro i hi
  simp [hi]
theorem nx_xor (a b : Nat) : nI a ^^^ nI b = nI (a ^^^ b) := by
  apply Int32.toBitVec_inj.1
  show BitVec.ofNat 32 a ^^^ BitVec.ofNat 32 b = BitVec.ofNat 32 (a ^^^ b)
  apply BitVec.eq_of_getLsbD_eq
  intro i hi
  simp [hi]
end
section
theorem dn_or (a b : Nat) : nI a ||| nI b = nI (a ||| b) := by
  apply Int32.toBitVec_inj.1
  show BitVec.ofNat 32 a ||| BitVec.ofNat 32 b = BitVec.ofNat 32 (a ||| b)
  apply BitVec.eq_of_getLsbD_eq
  intro i hi
  simp [hi]
theorem dn_shl {n k : Nat} (hk : k < 32) (h : n * 2 ^ k < 2 ^ 32) : nI n <<< (nI k &&& 31) = nI (n * 2 ^ k) := pk_shlN _ k (s_l k hk) h
theorem dn_shr {n k : Nat} (hk : k < 32) (h : n < 2 ^ 31) : nI n >>> (nI k &&& 31) = nI (n / 2 ^ k) := pk_shrN h _ k (s_l k hk)
theorem dn_one {k : Nat} (hk : k < 32) : (1 : Int32) <<< (nI k &&& 31) = nI (2 ^ k) := by
  show nI 1 <<< (nI k &&& 31) = _
  rw [dn_shl hk (by rw [Nat.one_mul]; exact Nat.pow_lt_pow_right (by decide) hk), Nat.one_mul]
def dn_an (a b : Nat) : Nat := a ^^^ (a &&& b)
theorem dn_an_t (a b i : Nat) : (dn_an a b).testBit i = (a.testBit i && !(b.testBit i)) := by
  unfold dn_an
  rw [Nat.testBit_xor, Nat.testBit_and]
  cases a.testBit i <;> cases b.testBit i <;> rfl
theorem dn_anI (a b : Nat) : nI a &&& (nI b ^^^ (-1)) = nI (dn_an a b) := by
  rw [dn_an, ← nx_xor, ← nx_and]
  apply b_ext
  intro i hi
  rw [b_and, b_xor, b_m1 i hi, b_xor, b_and]
  cases bt (nI a) i <;> cases bt (nI b) i <;> rfl
theorem dn_an_lt {a n : Nat} (b : Nat) (h : a < 2 ^ n) : dn_an a b < 2 ^ n := Nat.xor_lt_two_pow h (Nat.lt_of_le_of_lt Nat.and_le_left h)
theorem dn_bit {n k : Nat} (hk : k < 32) (h : n < 2 ^ 31) : (nI n >>> (nI k &&& 31)) &&& 1 = nI (n.testBit k).toNat := by
  rw [dn_shr hk h]
  show nI _ &&& nI 1 = _
  rw [nx_and, Nat.and_one_is_mod, Nat.testBit_eq_decide_div_mod_eq]
  generalize n / 2 ^ k = z
  rcases Nat.mod_two_eq_zero_or_one z with h | h <;> simp [h]
theorem dn_bit1 {n k : Nat} (hk : k < 32) (h : n < 2 ^ 31) : ((nI n >>> (nI k &&& 31)) &&& 1 = 1) ↔ n.testBit k = true := by
  rw [dn_bit hk h]
  cases n.testBit k
  · exact ⟨fun z => absurd z (by decide), fun z => nomatch z⟩
  · exact ⟨fun _ => rfl, fun _ => rfl⟩
theorem dn_bit0 {n k : Nat} (hk : k < 32) (h : n < 2 ^ 31) : ((nI n >>> (nI k &&& 31)) &&& 1 = 0) ↔ n.testBit k = false := by
  rw [dn_bit hk h]
  cases n.testBit k
  · exact ⟨fun _ => rfl, fun _ => rfl⟩
  · exact ⟨fun z => absurd z (by decide), fun z => nomatch z⟩
theorem dn_m7 {n : Nat} (h : n < 2 ^ 31) : nI n &&& 7 = nI (n % 8) := pk_andN (Nat.lt_trans h (by decide)) 3 (by decide)
theorem dn_m255 {n : Nat} (h : n < 2 ^ 31) : nI n &&& 255 = nI (n % 256) := pk_andN (Nat.lt_trans h (by decide)) 8 (by decide)
theorem dn_pw {a b : Nat} (h : a < b) : 2 ^ a < 2 ^ b := Nat.pow_lt_pow_right (by decide) h
theorem dn_pl {a b : Nat} (h : a ≤ b) : 2 ^ a ≤ 2 ^ b := Nat.pow_le_pow_right (by decide) h
theorem dn_sub0 {a b : Nat} (ha : a < 1024) (hb : b < 1024) : nI a - nI b = 0 ↔ a = b := by
  constructor
  · intro h
    have e : (nI a - nI b).toInt = 0 := by rw [h]; decide
    rw [pk_sub_toInt (by omega) (by omega)] at e
    omega
  · intro h
    subst h
    rw [pk_sub (Nat.le_refl a), Nat.sub_self]
    rfl
theorem dn_subn {a b : Nat} (ha : a < 1024) (hb : b < 1024) : nI a - nI b < 0 ↔ a < b := by
  constructor
  · intro h
    rw [Int32.lt_iff_toInt_lt, pk_sub_toInt (by omega) (by omega), show (0 : Int32).toInt = 0 from by decide] at h
    omega
  · intro h
    exact pk_sneg (by omega) h
def dn_up (g : Nat → Nat) (k x : Nat) : Nat → Nat := fun j => if j = k then x else g j
theorem dn_upI (g : Nat → Nat) (k x : Nat) : upd (fun j => nI (g j)) k (nI x) = fun j => nI (dn_up g k x j) := by
  funext j
  unfold upd dn_up
  by_cases h : j = k
  · rw [if_pos h, if_pos h]
  · rw [if_neg h, if_neg h]
theorem dn_ups {g : Nat → Nat} {k x : Nat} : dn_up g k x k = x := if_pos rfl
theorem dn_upn {g : Nat → Nat} {k x j : Nat} (h : j ≠ k) : dn_up g k x j = g j := if_neg h
theorem dn_uple {g : Nat → Nat} {k x b : Nat} (h : ∀ j, g j ≤ b) (hx : x ≤ b) : ∀ j, dn_up g k x j ≤ b := by
  intro j
  by_cases e : j = k
  · subst e; rw [dn_ups]; exact hx
  · rw [dn_upn e]; exact h j
def dn_B (b : Bool) : Int32 := if b then 1 else 0
theorem dn_lt {x y : Int32} {A B : Prop} (a b : Nat) (hx : x = nI a) (hy : y = nI b) (ha : a < 2 ^ 31) (hb : b < 2 ^ 31) (f : a < b → A) (g : b ≤ a → B) : (x < y → A) ∧ (¬ x < y → B) := pk_lt a b f g hx hy ha hb
theorem dn_le {x y : Int32} {A B : Prop} (a b : Nat) (hx : x = nI a) (hy : y = nI b) (ha : a < 2 ^ 31) (hb : b < 2 ^ 31) (f : a ≤ b → A) (g : b < a → B) : (x ≤ y → A) ∧ (¬ x ≤ y → B) := pk_le a b f g hx hy ha hb
theorem dn_eq {x y : Int32} {A B : Prop} (a b : Nat) (hx : x = nI a) (hy : y = nI b) (ha : a < 2 ^ 31) (hb : b < 2 ^ 31) (f : a = b → A) (g : a ≠ b → B) : (x = y → A) ∧ (¬ x = y → B) := pk_eq a b f g hx hy ha hb
theorem dn_iff {c d A B : Prop} (e : c ↔ d) (f : d → A) (g : ¬ d → B) : (c → A) ∧ (¬ c → B) := ⟨fun h => f (e.mp h), fun h => g (fun z => h (e.mpr z))⟩
end
section
def dt_bits (p : Nat → Bool) : Nat → Nat
  | 0 => 0
  | n + 1 => dt_bits p n ||| (if p n = true then 2 ^ n else 0)
theorem dt_bits_t (p : Nat → Bool) (n i : Nat) : (dt_bits p n).testBit i = (decide (i < n) && p i) := by
  induction n with
  | zero => simp [dt_bits]
  | succ n ih =>
    show (dt_bits p n ||| (if p n = true then 2 ^ n else 0)).testBit i = _
    rw [Nat.testBit_or, ih]
    by_cases h : i = n
    · subst h
      cases hp : p i
      · simp
      · simp [Nat.testBit_two_pow_self]
    · have e : (if p n = true then 2 ^ n else 0).testBit i = false := by
        split
        · exact Nat.testBit_two_pow_of_ne (Ne.symm h)
        · exact Nat.zero_testBit i
      rw [e, Bool.or_false, show decide (i < n + 1) = decide (i < n) from decide_eq_decide.mpr (by omega)]
theorem dt_bits_lt (p : Nat → Bool) (n : Nat) : dt_bits p n < 2 ^ n :=
  Nat.lt_pow_two_of_testBit _ (fun i hi => by rw [dt_bits_t, decide_eq_false (by omega)]; rfl)
theorem dt_bits_ext {p q : Nat → Bool} {n : Nat} (h : ∀ i, i < n → p i = q i) : dt_bits p n = dt_bits q n := by
  apply Nat.eq_of_testBit_eq
  intro i
  rw [dt_bits_t, dt_bits_t]
  by_cases hi : i < n
  · rw [h i hi]
  · rw [decide_eq_false hi, Bool.false_and, Bool.false_and]
theorem dt_bits_s1 {p : Nat → Bool} {n : Nat} (h : p n = true) : dt_bits p n ||| 2 ^ n = dt_bits p (n + 1) := by
  show _ = dt_bits p n ||| (if p n = true then 2 ^ n else 0)
  rw [if_pos h]
theorem dt_bits_s0 {p : Nat → Bool} {n : Nat} (h : ¬ p n = true) : dt_bits p n = dt_bits p (n + 1) := by
  show _ = dt_bits p n ||| (if p n = true then 2 ^ n else 0)
  rw [if_neg h, Nat.or_zero]
theorem dt_bits_all (n : Nat) : 2 ^ n - 1 = dt_bits (fun _ => true) n := by
  apply Nat.eq_of_testBit_eq
  intro i
  rw [dt_bits_t, Nat.testBit_two_pow_sub_one, Bool.and_true]
theorem dt_bits_an (p : Nat → Bool) (n F : Nat) : dn_an (dt_bits p n) F = dt_bits (fun i => p i && !F.testBit i) n := by
  apply Nat.eq_of_testBit_eq
  intro i
  rw [dn_an_t, dt_bits_t, dt_bits_t, Bool.and_assoc]
def dt_x (k c : Nat) : Nat := k / 2 ^ (3 * c) % 8
theorem dt_x_lt (k c : Nat) : dt_x k c < 8 := Nat.mod_lt _ (by decide)
def dt_ok (s k : Nat) : Nat → Bool
  | 0 => true
  | c + 1 => dt_ok s k c && s.testBit (8 * c + dt_x k c)
def dt_need (k : Nat) : Nat → Nat
  | 0 => 0
  | c + 1 => dt_need k c ||| 2 ^ (8 * c + dt_x k c)
theorem dt_need_lt (k n : Nat) : dt_need k n < 2 ^ (8 * n) := by
  induction n with
  | zero => exact Nat.one_pos
  | succ n ih =>
    have := dt_x_lt k n
    exact Nat.or_lt_two_pow (Nat.lt_of_lt_of_le ih (dn_pl (by omega))) (dn_pw (by omega))
theorem dt_sub (s m : Nat) : s &&& m = m ↔ ∀ i, m.testBit i = true → s.testBit i = true := by
  constructor
  · intro h i hi
    have e : (s &&& m).testBit i = true := by rw [h]; exact hi
    rw [Nat.testBit_and, hi, Bool.and_true] at e
    exact e
  · intro h
    apply Nat.eq_of_testBit_eq
    intro i
    rw [Nat.testBit_and]
    cases hm : m.testBit i with
    | false => rw [Bool.and_false]
    | true => rw [h i hm]; rfl
theorem dt_need_ok (s k n : Nat) : s &&& dt_need k n = dt_need k n ↔ dt_ok s k n = true := by
  rw [dt_sub]
  induction n with
  | zero =>
    refine ⟨fun _ => rfl, fun _ i hi => ?_⟩
    have e : (0 : Nat).testBit i = true := hi
    rw [Nat.zero_testBit] at e
    exact nomatch e
  | succ n ih =>
    show (∀ i, (dt_need k n ||| 2 ^ (8 * n + dt_x k n)).testBit i = true → s.testBit i = true) ↔ (dt_ok s k n && s.testBit (8 * n + dt_x k n)) = true
    rw [Bool.and_eq_true, ← ih]
    constructor
    · intro h
      exact ⟨fun i hi => h i (by rw [Nat.testBit_or, hi, Bool.true_or]), h _ (by rw [Nat.testBit_or, Nat.testBit_two_pow_self, Bool.or_true])⟩
    · intro ⟨h1, h2⟩ i hi
      rw [Nat.testBit_or, Bool.or_eq_true] at hi
      rcases hi with hi | hi
      · exact h1 i hi
      · rw [Nat.testBit_two_pow, decide_eq_true_iff] at hi
        rw [← hi]
        exact h2
def dt_join (p d a b : Nat) : Nat :=
  if p = 0 then a else if p = 1 then b else if p = 2 then (if b < a then b else a) else if p = 3 then (if a < b then b else a) else if p = 4 then (if 7 < a + b then 7 else a + b) else d
theorem dt_join_le {p d a b : Nat} (hd : d ≤ 7) (ha : a ≤ 7) (hb : b ≤ 7) : dt_join p d a b ≤ 7 := by
  unfold dt_join
  repeat' split
  all_goals omega
def dt_res (p d : Nat) (g : Nat → Nat) (F : Nat) : Nat → Nat × Bool
  | 0 => (d, false)
  | n + 1 => if F.testBit n = true then (if (dt_res p d g F n).2 = true then dt_join p d (dt_res p d g F n).1 (g n) else g n, true) else dt_res p d g F n
theorem dt_res_n {p d : Nat} {g : Nat → Nat} {F n : Nat} (h : ¬ F.testBit n = true) : dt_res p d g F (n + 1) = dt_res p d g F n := by
  show (if F.testBit n = true then _ else _) = _
  rw [if_neg h]
theorem dt_res_y {p d : Nat} {g : Nat → Nat} {F n : Nat} (h : F.testBit n = true) : dt_res p d g F (n + 1) = (if (dt_res p d g F n).2 = true then dt_join p d (dt_res p d g F n).1 (g n) else g n, true) := by
  show (if F.testBit n = true then _ else _) = _
  rw [if_pos h]
theorem dt_res_le {p d : Nat} {g : Nat → Nat} (hd : d ≤ 7) (hg : ∀ j, g j ≤ 7) (F n : Nat) : (dt_res p d g F n).1 ≤ 7 := by
  induction n with
  | zero => exact hd
  | succ n ih =>
    by_cases h : F.testBit n = true
    · rw [dt_res_y h]
      show (if _ then _ else _) ≤ 7
      split
      · exact dt_join_le hd ih (hg n)
      · exact hg n
    · rw [dt_res_n h]
      exact ih
theorem dt_res_st {p d : Nat} {g : Nat → Nat} {F n : Nat} (h : ∀ i, n ≤ i → F.testBit i = false) (j : Nat) : dt_res p d g F (n + j) = dt_res p d g F n := by
  induction j with
  | zero => rfl
  | succ j ih =>
    rw [← Nat.add_assoc, dt_res_n (by rw [h _ (by omega)]; exact fun z => nomatch z)]
    exact ih
def dt_cb (F : Nat) : Nat → Nat
  | 0 => 0
  | n + 1 => dt_cb F n + (F.testBit n).toNat
def dt_sm (g : Nat → Nat) (F : Nat) : Nat → Nat
  | 0 => 0
  | n + 1 => dt_sm g F n + (if F.testBit n = true then g n else 0)
theorem dt_cb_y {F n : Nat} (h : F.testBit n = true) : dt_cb F (n + 1) = dt_cb F n + 1 := by
  show dt_cb F n + (F.testBit n).toNat = _
  rw [h]
  rfl
theorem dt_cb_n {F n : Nat} (h : ¬ F.testBit n = true) : dt_cb F (n + 1) = dt_cb F n := by
  show dt_cb F n + (F.testBit n).toNat = _
  rw [Bool.not_eq_true _ |>.mp h]
  rfl
theorem dt_sm_y {g : Nat → Nat} {F n : Nat} (h : F.testBit n = true) : dt_sm g F (n + 1) = dt_sm g F n + g n := by
  show dt_sm g F n + (if F.testBit n = true then g n else 0) = _
  rw [if_pos h]
theorem dt_sm_n {g : Nat → Nat} {F n : Nat} (h : ¬ F.testBit n = true) : dt_sm g F (n + 1) = dt_sm g F n := by
  show dt_sm g F n + (if F.testBit n = true then g n else 0) = _
  rw [if_neg h]
  rfl
theorem dt_sm_le {g : Nat → Nat} (hg : ∀ j, g j ≤ 7) (F n : Nat) : dt_sm g F n ≤ 7 * n := by
  induction n with
  | zero => exact Nat.le_refl 0
  | succ n ih =>
    have := hg n
    by_cases h : F.testBit n = true
    · rw [dt_sm_y h]; omega
    · rw [dt_sm_n h]; omega
theorem dt_any (p d : Nat) (g : Nat → Nat) (F n : Nat) : (dt_res p d g F n).2 = decide (0 < dt_cb F n) := by
  induction n with
  | zero => rfl
  | succ n ih =>
    by_cases h : F.testBit n = true
    · rw [dt_res_y h, dt_cb_y h]
      exact (decide_eq_true (Nat.succ_pos _)).symm
    · rw [dt_res_n h, dt_cb_n h]
      exact ih
theorem dt_sm0 {g : Nat → Nat} {F n : Nat} (h : dt_cb F n = 0) : dt_sm g F n = 0 := by
  induction n with
  | zero => rfl
  | succ n ih =>
    by_cases z : F.testBit n = true
    · rw [dt_cb_y z] at h; omega
    · rw [dt_cb_n z] at h; rw [dt_sm_n z]; exact ih h
/-- the result when another rule fires -/
theorem dt_step {p d : Nat} {g : Nat → Nat} {F n : Nat} (h : F.testBit n = true) : (dt_res p d g F (n + 1)).1 = if dt_cb F n = 0 then g n else dt_join p d (dt_res p d g F n).1 (g n) := by
  rw [dt_res_y h]
  show (if (dt_res p d g F n).2 = true then _ else _) = _
  rw [dt_any]
  by_cases z : dt_cb F n = 0
  · rw [if_pos z, if_neg (by rw [decide_eq_true_iff]; omega)]
  · rw [if_neg z, if_pos (by rw [decide_eq_true_iff]; omega)]
theorem dt_r4 {d : Nat} {g : Nat → Nat} (hg : ∀ j, g j ≤ 7) (F n : Nat) (hc : 0 < dt_cb F n) : (dt_res 4 d g F n).1 = if 7 < dt_sm g F n then 7 else dt_sm g F n := by
  induction n with
  | zero => exact absurd hc (Nat.lt_irrefl 0)
  | succ n ih =>
    by_cases h : F.testBit n = true
    · rw [dt_step h, dt_sm_y h]
      have := hg n
      by_cases z : dt_cb F n = 0
      · rw [if_pos z, dt_sm0 z, if_neg (by omega), Nat.zero_add]
      · rw [if_neg z, ih (by omega)]
        unfold dt_join
        rw [if_neg (by decide), if_neg (by decide), if_neg (by decide), if_neg (by decide), if_pos rfl]
        repeat' split
        all_goals omega
    · rw [dt_cb_n h] at hc
      rw [dt_res_n h, dt_sm_n h]
      exact ih hc
theorem dt_r5 {d : Nat} {g : Nat → Nat} (F n : Nat) : (dt_cb F n = 1 → (dt_res 5 d g F n).1 = (dt_res 0 d g F n).1) ∧ (2 ≤ dt_cb F n → (dt_res 5 d g F n).1 = d) := by
  induction n with
  | zero => exact ⟨fun _ => rfl, fun _ => rfl⟩
  | succ n ih =>
    by_cases h : F.testBit n = true
    · rw [dt_step h, dt_step h, dt_cb_y h]
      refine ⟨fun z => ?_, fun z => ?_⟩
      · rw [if_pos (by omega), if_pos (by omega)]
      · rw [if_neg (by omega)]
        rfl
    · rw [dt_res_n h, dt_res_n h, dt_cb_n h]
      exact ih
theorem dt_pop : ∀ F, F < 256 → (F &&& (F - 1) = 0 ↔ dt_cb F 8 ≤ 1) := by decide +kernel
theorem dt_pop0 : ∀ F, F < 256 → (F = 0 ↔ dt_cb F 8 = 0) := by decide +kernel
def dt_comb (cd : Nat) (vl : Nat → Nat) : Nat → Nat
  | 0 => 0
  | c + 1 => dt_comb cd vl c ||| vl (cd / 10 ^ c % 10) * 2 ^ (3 * c)
theorem dt_comb_lt {cd : Nat} {vl : Nat → Nat} (h : ∀ v, vl v ≤ 7) (n : Nat) : dt_comb cd vl n < 2 ^ (3 * n) := by
  induction n with
  | zero => exact Nat.one_pos
  | succ n ih =>
    refine Nat.or_lt_two_pow (Nat.lt_of_lt_of_le ih (dn_pl (by omega))) ?_
    rw [show 3 * (n + 1) = 3 + 3 * n by omega, Nat.pow_add]
    exact Nat.mul_lt_mul_of_pos_right (Nat.lt_of_le_of_lt (h _) (by decide)) (Nat.two_pow_pos _)
def dt_wd (c : Nat) : Nat := if c / 100 = 9 then (if c / 10 % 10 = 9 then 1 else 2) else 3
theorem dt_wd_in (c : Nat) : 1 ≤ dt_wd c ∧ dt_wd c ≤ 3 := by
  unfold dt_wd
  repeat' split
  all_goals omega
def dt_F (P : Nat → Nat → Nat) (t k : Nat) : Nat := dt_bits (fun r => dt_ok (P 4 (8 * t + r)) k (dt_wd (P 0 t))) (P 3 t)
def dt_R (P : Nat → Nat → Nat) (t F : Nat) : Nat := (dt_res (P 1 t) (P 2 t) (fun r => P 5 (8 * t + r)) F (P 3 t)).1
def dt_V (P : Nat → Nat → Nat) (m : Nat) : Nat → Nat → Nat
  | 0 => fun v => if v < 3 then dt_x m v else 0
  | t + 1 => fun v => if v = 3 + t then dt_R P t (dt_F P t (dt_comb (P 0 t) (dt_V P m t) (dt_wd (P 0 t)))) else dt_V P m t v
def dt_G (T : Nat) (P : Nat → Nat → Nat) : Prop :=
  T ≤ 5 ∧ (∀ t, P 0 t ≤ 999) ∧ (∀ t, P 1 t ≤ 5) ∧ (∀ t, P 2 t ≤ 7) ∧ (∀ t, P 3 t ≤ 8) ∧ (∀ j, P 4 j ≤ 16777215) ∧ (∀ j, P 5 j ≤ 7) ∧ (∀ t, t < T → ∀ c, c < dt_wd (P 0 t) → P 0 t / 10 ^ c % 10 < 3 + t)
theorem dt_R_le {T : Nat} {P : Nat → Nat → Nat} (G : dt_G T P) (t F : Nat) : dt_R P t F ≤ 7 := dt_res_le (G.2.2.2.1 t) (fun j => G.2.2.2.2.2.2.1 _) F _
theorem dt_V_le {T : Nat} {P : Nat → Nat → Nat} (G : dt_G T P) (m n v : Nat) : dt_V P m n v ≤ 7 := by
  induction n generalizing v with
  | zero =>
    show (if v < 3 then dt_x m v else 0) ≤ 7
    have := dt_x_lt m v
    split <;> omega
  | succ n ih =>
    show (if v = 3 + n then _ else _) ≤ 7
    split
    · exact dt_R_le G _ _
    · exact ih v
theorem dt_V_0 (P : Nat → Nat → Nat) (m n v : Nat) (h : 3 + n ≤ v) : dt_V P m n v = 0 := by
  induction n with
  | zero =>
    show (if v < 3 then dt_x m v else 0) = 0
    rw [if_neg (by omega)]
  | succ n ih =>
    show (if v = 3 + n then _ else _) = 0
    rw [if_neg (by omega)]
    exact ih (by omega)
theorem dt_F_lt {T : Nat} {P : Nat → Nat → Nat} (G : dt_G T P) (t k : Nat) : dt_F P t k < 256 := Nat.lt_of_lt_of_le (dt_bits_lt _ _) (dn_pl (b := 8) (G.2.2.2.2.1 t))
theorem dt_F_hi (P : Nat → Nat → Nat) (t k i : Nat) (h : P 3 t ≤ i) : (dt_F P t k).testBit i = false := by
  unfold dt_F
  rw [dt_bits_t, decide_eq_false (by omega)]
  rfl
def dt_K (T : Nat) (P : Nat → Nat → Nat) (m t : Nat) : Nat := dt_comb (P 0 t) (dt_V P m T) (dt_wd (P 0 t))
theorem dt_cK {T : Nat} {P : Nat → Nat → Nat} (G : dt_G T P) (t m n : Nat) : dt_comb (P 0 t) (dt_V P m n) (dt_wd (P 0 t)) < 512 := Nat.lt_of_lt_of_le (dt_comb_lt (fun v => dt_V_le G m n v) _) (dn_pl (b := 9) (by have := dt_wd_in (P 0 t); omega))
end
section
def dt_cnt (p : Nat → Bool) : Nat → Nat
  | 0 => 0
  | n + 1 => dt_cnt p n + (p n).toNat
theorem dt_cnt_y {p : Nat → Bool} {n : Nat} (h : p n = true) : dt_cnt p (n + 1) = dt_cnt p n + 1 := by
  show dt_cnt p n + (p n).toNat = _
  rw [h]
  rfl
theorem dt_cnt_n {p : Nat → Bool} {n : Nat} (h : ¬ p n = true) : dt_cnt p (n + 1) = dt_cnt p n := by
  show dt_cnt p n + (p n).toNat = _
  rw [Bool.not_eq_true _ |>.mp h]
  rfl
theorem dt_cnt_le (p : Nat → Bool) (n : Nat) : dt_cnt p n ≤ n := by
  induction n with
  | zero => exact Nat.le_refl 0
  | succ n ih =>
    by_cases h : p n = true
    · rw [dt_cnt_y h]; omega
    · rw [dt_cnt_n h]; omega
theorem dt_cnt_ext {p q : Nat → Bool} {n : Nat} (h : ∀ i, i < n → p i = q i) : dt_cnt p n = dt_cnt q n := by
  induction n with
  | zero => rfl
  | succ n ih =>
    show dt_cnt p n + (p n).toNat = dt_cnt q n + (q n).toNat
    rw [ih (fun i hi => h i (by omega)), h n (by omega)]
theorem dt_cnt_0 {p : Nat → Bool} {n : Nat} (h : ∀ i, i < n → p i = false) : dt_cnt p n = 0 := by
  induction n with
  | zero => rfl
  | succ n ih =>
    show dt_cnt p n + (p n).toNat = 0
    rw [ih (fun i hi => h i (by omega)), h n (by omega)]
    rfl
theorem dt_cnt_st {p : Nat → Bool} {n : Nat} (h : ∀ i, n ≤ i → p i = false) (j : Nat) : dt_cnt p (n + j) = dt_cnt p n := by
  induction j with
  | zero => rfl
  | succ j ih =>
    rw [← Nat.add_assoc, dt_cnt_n (by rw [h _ (by omega)]; exact fun z => nomatch z)]
    exact ih
theorem dt_cnt_add (p : Nat → Bool) (a b : Nat) : dt_cnt p (a + b) = dt_cnt p a + dt_cnt (fun i => p (a + i)) b := by
  induction b with
  | zero => rfl
  | succ b ih =>
    show dt_cnt p (a + b) + (p (a + b)).toNat = dt_cnt p a + (dt_cnt (fun i => p (a + i)) b + (p (a + b)).toNat)
    rw [ih, Nat.add_assoc]
def dt_row (q : Nat → Nat → Bool) (m r : Nat) : Nat := dt_cnt (fun s => decide (r < s) && q r s) m
def dt_prs (q : Nat → Nat → Bool) (m : Nat) : Nat → Nat
  | 0 => 0
  | r + 1 => dt_prs q m r + dt_row q m r
theorem dt_row0 (q : Nat → Nat → Bool) (r : Nat) : dt_row q (r + 1) r = 0 := dt_cnt_0 (fun i hi => by rw [decide_eq_false (by omega)]; rfl)
theorem dt_row_le (q : Nat → Nat → Bool) (m r : Nat) : dt_row q m r ≤ m := dt_cnt_le _ _
theorem dt_prs_le (q : Nat → Nat → Bool) (m r : Nat) : dt_prs q m r ≤ r * m := by
  induction r with
  | zero => exact Nat.zero_le _
  | succ r ih =>
    show dt_prs q m r + dt_row q m r ≤ _
    have := dt_row_le q m r
    rw [Nat.succ_mul]
    omega
theorem dt_prs_ext {p q : Nat → Nat → Bool} {m n : Nat} (h : ∀ r, r < n → ∀ s, s < m → p r s = q r s) : dt_prs p m n = dt_prs q m n := by
  induction n with
  | zero => rfl
  | succ n ih =>
    show dt_prs p m n + dt_row p m n = dt_prs q m n + dt_row q m n
    rw [ih (fun r hr => h r (by omega))]
    congr 1
    exact dt_cnt_ext (fun s hs => by rw [h n (by omega) s hs])
theorem dt_prs_m {q : Nat → Nat → Bool} {n : Nat} (h : ∀ r s, n ≤ s → q r s = false) (j r : Nat) : dt_prs q (n + j) r = dt_prs q n r := by
  induction r with
  | zero => rfl
  | succ r ih =>
    show dt_prs q (n + j) r + dt_row q (n + j) r = dt_prs q n r + dt_row q n r
    rw [ih]
    congr 1
    exact dt_cnt_st (fun i hi => by rw [h r i hi, Bool.and_false]) j
theorem dt_prs_r {q : Nat → Nat → Bool} {m n : Nat} (h : ∀ r s, n ≤ r → q r s = false) (j : Nat) : dt_prs q m (n + j) = dt_prs q m n := by
  induction j with
  | zero => rfl
  | succ j ih =>
    show dt_prs q m (n + j) + dt_row q m (n + j) = _
    rw [ih, show dt_row q m (n + j) = 0 from dt_cnt_0 (fun i hi => by rw [h _ i (by omega), Bool.and_false])]
    rfl
theorem dt_c64 (f : Nat → Bool) (q : Nat → Nat → Bool) (h : ∀ r s, s < 8 → f (8 * r + s) = (decide (r < s) && q r s)) (n : Nat) : dt_cnt f (8 * n) = dt_prs q 8 n := by
  induction n with
  | zero => rfl
  | succ n ih =>
    rw [Nat.mul_succ, dt_cnt_add, ih]
    show _ = dt_prs q 8 n + dt_row q 8 n
    congr 1
    exact dt_cnt_ext (fun s hs => h n s hs)
/-- pairs counted over the eight by eight square, or over the rules alone -/
theorem dt_c64n {f : Nat → Bool} {q : Nat → Nat → Bool} {n : Nat} (hn : n ≤ 8) (h : ∀ r s, s < 8 → f (8 * r + s) = (decide (r < s) && (decide (r < n) && decide (s < n) && q r s))) : dt_cnt f 64 = dt_prs q n n := by
  rw [show (64 : Nat) = 8 * 8 from rfl, dt_c64 f (fun r s => decide (r < n) && decide (s < n) && q r s) h 8]
  obtain ⟨j, hj⟩ : ∃ j, 8 = n + j := ⟨8 - n, by omega⟩
  have e1 := dt_prs_m (q := fun r s => decide (r < n) && decide (s < n) && q r s) (n := n) (fun r s hs => by rw [decide_eq_false (p := s < n) (by omega), Bool.and_false, Bool.false_and]) j 8
  rw [← hj] at e1
  rw [e1]
  have e2 := dt_prs_r (q := fun r s => decide (r < n) && decide (s < n) && q r s) (m := n) (n := n) (fun r s hs => by rw [decide_eq_false (p := r < n) (by omega), Bool.false_and, Bool.false_and]) j
  rw [← hj] at e2
  rw [e2]
  exact dt_prs_ext (fun r hr s hs => by rw [decide_eq_true hr, decide_eq_true hs]; rfl)
def dt_all (p : Nat → Bool) : Nat → Bool
  | 0 => true
  | n + 1 => dt_all p n && p n
theorem dt_all_i (p : Nat → Bool) (n : Nat) : dt_all p n = true ↔ ∀ i, i < n → p i = true := by
  induction n with
  | zero => exact ⟨fun _ i hi => absurd hi (by omega), fun _ => rfl⟩
  | succ n ih =>
    show (dt_all p n && p n) = true ↔ _
    rw [Bool.and_eq_true, ih]
    exact ⟨fun h => lt_s h.1 h.2, fun h => ⟨fun i hi => h i (by omega), h n (by omega)⟩⟩
theorem dt_all_f {p : Nat → Bool} {n i : Nat} (hi : i < n) (h : ¬ p i = true) : dt_all p n = false := by
  cases e : dt_all p n with
  | false => rfl
  | true => exact absurd ((dt_all_i p n).mp e i hi) h
theorem dt_all_t {p : Nat → Bool} {n : Nat} (h : ∀ i, i < n → p i = true) : dt_all p n = true := (dt_all_i p n).mpr h
def dt_oor (g : Nat → Nat) : Nat → Nat
  | 0 => 0
  | n + 1 => dt_oor g n ||| g n
theorem dt_oor_lt {g : Nat → Nat} {b : Nat} (h : ∀ i, g i < 2 ^ b) (n : Nat) : dt_oor g n < 2 ^ b := by
  induction n with
  | zero => exact Nat.two_pow_pos b
  | succ n ih => exact Nat.or_lt_two_pow ih (h n)
def dt_sh (a : Nat) (g : Nat → Nat) : Nat → Nat
  | 0 => a
  | n + 1 => dn_an (dt_sh a g n) (g n)
theorem dt_sh_e (a : Nat) (g : Nat → Nat) (n : Nat) : dt_sh a g n = dn_an a (dt_oor g n) := by
  induction n with
  | zero =>
    apply Nat.eq_of_testBit_eq
    intro i
    rw [dn_an_t]
    show a.testBit i = (a.testBit i && !((0 : Nat).testBit i))
    rw [Nat.zero_testBit]
    exact (Bool.and_true _).symm
  | succ n ih =>
    apply Nat.eq_of_testBit_eq
    intro i
    show (dn_an (dt_sh a g n) (g n)).testBit i = (dn_an a (dt_oor g n ||| g n)).testBit i
    rw [dn_an_t, ih, dn_an_t, dn_an_t, Nat.testBit_or]
    cases a.testBit i <;> cases (dt_oor g n).testBit i <;> cases (g n).testBit i <;> rfl
theorem dt_sh_lt {a b : Nat} (h : a < 2 ^ b) (g : Nat → Nat) (n : Nat) : dt_sh a g n < 2 ^ b := by
  rw [dt_sh_e]
  exact dn_an_lt _ h
def dt_ff (p : Nat → Bool) : Nat → Nat → Int32
  | 0, _ => -3
  | d + 1, i => if p i = true then nI i else dt_ff p d (i + 1)
def dt_meet (a : Nat) : Nat → Bool
  | 0 => true
  | c + 1 => dt_meet a c && decide (a / 2 ^ (8 * c) % 256 ≠ 0)
theorem dt_xm {k w c : Nat} (h : c < w) : dt_x (k % 2 ^ (3 * w)) c = dt_x k c := by
  unfold dt_x
  obtain ⟨d, rfl⟩ : ∃ d, w = c + 1 + d := ⟨w - c - 1, by omega⟩
  have e : 2 ^ (3 * (c + 1 + d)) = 2 ^ (3 * c) * (8 * 2 ^ (3 * d)) := by
    rw [show 3 * (c + 1 + d) = 3 * c + (3 + 3 * d) by omega, Nat.pow_add, Nat.pow_add]
  rw [e, Nat.mod_mul_right_div_self, Nat.mod_mod_of_dvd _ (Nat.dvd_mul_right 8 _)]
theorem dt_okm (s k w : Nat) : ∀ c, c ≤ w → dt_ok s (k % 2 ^ (3 * w)) c = dt_ok s k c := by
  intro c
  induction c with
  | zero => intro _; rfl
  | succ c ih =>
    intro h
    show (dt_ok s (k % 2 ^ (3 * w)) c && s.testBit (8 * c + dt_x (k % 2 ^ (3 * w)) c)) = (dt_ok s k c && s.testBit (8 * c + dt_x k c))
    rw [ih (by omega), dt_xm (by omega)]
theorem dt_byte (a w : Nat) : a / 2 ^ (8 * w) % 256 ≠ 0 ↔ ∃ x, x < 8 ∧ a.testBit (8 * w + x) = true := by
  have e : ∀ x, (a / 2 ^ (8 * w) % 256).testBit x = (decide (x < 8) && a.testBit (8 * w + x)) := by
    intro x
    rw [show (256 : Nat) = 2 ^ 8 from rfl, Nat.testBit_mod_two_pow, Nat.testBit_div_two_pow, Nat.add_comm x]
  constructor
  · intro h
    obtain ⟨x, hx⟩ := Nat.exists_testBit_of_ne_zero h
    have hx' : (a / 2 ^ (8 * w) % 256).testBit x = true := hx
    rw [e, Bool.and_eq_true, decide_eq_true_iff] at hx'
    exact ⟨x, hx'.1, hx'.2⟩
  · intro ⟨x, h1, h2⟩ z
    have e2 := e x
    rw [z, Nat.zero_testBit, decide_eq_true h1, h2] at e2
    exact nomatch e2
theorem dt_meet_i (a b w : Nat) : dt_meet (a &&& b) w = true ↔ ∃ k, k < 2 ^ (3 * w) ∧ dt_ok a k w = true ∧ dt_ok b k w = true := by
  induction w with
  | zero => exact ⟨fun _ => ⟨0, by decide, rfl, rfl⟩, fun _ => rfl⟩
  | succ w ih =>
    show (dt_meet (a &&& b) w && decide ((a &&& b) / 2 ^ (8 * w) % 256 ≠ 0)) = true ↔ _
    rw [Bool.and_eq_true, decide_eq_true_iff, ih, dt_byte]
    have hp : 0 < 2 ^ (3 * w) := Nat.two_pow_pos _
    have he : 2 ^ (3 * (w + 1)) = 8 * 2 ^ (3 * w) := by rw [show 3 * (w + 1) = 3 + 3 * w by omega, Nat.pow_add]
    constructor
    · intro ⟨⟨k, hk, h1, h2⟩, x, hx, h3⟩
      rw [Nat.testBit_and, Bool.and_eq_true] at h3
      have em : (k + x * 2 ^ (3 * w)) % 2 ^ (3 * w) = k := by rw [Nat.add_mul_mod_self_right, Nat.mod_eq_of_lt hk]
      have ex : dt_x (k + x * 2 ^ (3 * w)) w = x := by
        unfold dt_x
        rw [Nat.add_mul_div_right _ _ hp, Nat.div_eq_of_lt hk, Nat.zero_add, Nat.mod_eq_of_lt hx]
      have eo : ∀ s, dt_ok s (k + x * 2 ^ (3 * w)) w = dt_ok s k w := by
        intro s
        rw [← dt_okm s (k + x * 2 ^ (3 * w)) w w (Nat.le_refl w), em]
      refine ⟨k + x * 2 ^ (3 * w), ?_, ?_, ?_⟩
      · rw [he]
        have : x * 2 ^ (3 * w) ≤ 7 * 2 ^ (3 * w) := Nat.mul_le_mul_right _ (by omega)
        omega
      · show (dt_ok a _ w && a.testBit (8 * w + dt_x _ w)) = true
        rw [ex, eo, h1, h3.1]
        rfl
      · show (dt_ok b _ w && b.testBit (8 * w + dt_x _ w)) = true
        rw [ex, eo, h2, h3.2]
        rfl
    · intro ⟨k, _, h1, h2⟩
      have h1' : (dt_ok a k w && a.testBit (8 * w + dt_x k w)) = true := h1
      have h2' : (dt_ok b k w && b.testBit (8 * w + dt_x k w)) = true := h2
      rw [Bool.and_eq_true] at h1' h2'
      refine ⟨⟨k % 2 ^ (3 * w), Nat.mod_lt _ hp, ?_, ?_⟩, dt_x k w, dt_x_lt k w, ?_⟩
      · rw [dt_okm a k w w (Nat.le_refl w)]; exact h1'.1
      · rw [dt_okm b k w w (Nat.le_refl w)]; exact h2'.1
      · rw [Nat.testBit_and, h1'.2, h2'.2]; rfl
theorem dt_low0 : ∀ m, m < 512 → dn_an m 7 = m - m % 8 := by decide +kernel
theorem dt_low1 : ∀ m, m < 512 → dn_an m 56 = m - m / 8 % 8 * 8 := by decide +kernel
theorem dt_low2 : ∀ m, m < 512 → dn_an m 448 = m - m / 64 % 8 * 64 := by decide +kernel
theorem dt_set0 : ∀ m, m < 512 → ∀ y, y < 8 → (dn_an m 7 ||| y) = m - m % 8 + y := by decide +kernel
theorem dt_set1 : ∀ m, m < 512 → ∀ y, y < 8 → (dn_an m 56 ||| y * 8) = m - m / 8 % 8 * 8 + y * 8 := by decide +kernel
theorem dt_set2 : ∀ m, m < 512 → ∀ y, y < 8 → (dn_an m 448 ||| y * 64) = m - m / 64 % 8 * 64 + y * 64 := by decide +kernel
theorem dt_low {i m : Nat} (hi : i < 3) (hm : m < 512) : dn_an m (7 * 2 ^ (3 * i)) = m - dt_x m i * 2 ^ (3 * i) := by
  rcases (by omega : i = 0 ∨ i = 1 ∨ i = 2) with rfl | rfl | rfl
  · have := dt_low0 m hm
    unfold dt_x
    simp only [Nat.mul_zero, Nat.pow_zero, Nat.div_one, Nat.mul_one]
    exact this
  · exact dt_low1 m hm
  · exact dt_low2 m hm
theorem dt_set {i m y : Nat} (hi : i < 3) (hm : m < 512) (hy : y < 8) : dn_an m (7 * 2 ^ (3 * i)) ||| y * 2 ^ (3 * i) = m - dt_x m i * 2 ^ (3 * i) + y * 2 ^ (3 * i) := by
  rcases (by omega : i = 0 ∨ i = 1 ∨ i = 2) with rfl | rfl | rfl
  · have := dt_set0 m hm y hy
    unfold dt_x
    simp only [Nat.mul_zero, Nat.pow_zero, Nat.div_one, Nat.mul_one]
    exact this
  · exact dt_set1 m hm y hy
  · exact dt_set2 m hm y hy
/-- what is used of a case's digit: s is its weight -/
def dt_W (i : Nat) : Prop := ∀ m, m < 512 → dt_x m i * 2 ^ (3 * i) ≤ m ∧ dt_x (m - dt_x m i * 2 ^ (3 * i)) i = 0 ∧ (0 < dt_x m i → 2 ^ (3 * i) ≤ m ∧ dt_x (m - 2 ^ (3 * i)) i + 1 = dt_x m i) ∧ (dt_x m i < 7 → m + 2 ^ (3 * i) < 512 ∧ dt_x (m + 2 ^ (3 * i)) i = dt_x m i + 1)
theorem dt_W0 : dt_W 0 := by
  intro m hm
  unfold dt_x
  simp only [Nat.mul_zero, Nat.pow_zero, Nat.div_one]
  omega
theorem dt_W1 : dt_W 1 := by
  intro m hm
  unfold dt_x
  simp only [Nat.mul_one, show 2 ^ 3 = 8 from rfl]
  omega
theorem dt_W2 : dt_W 2 := by
  intro m hm
  unfold dt_x
  simp only [show 2 ^ (3 * 2) = 64 from rfl]
  omega
theorem dt_Wi {i : Nat} (hi : i < 3) : dt_W i := by
  rcases (by omega : i = 0 ∨ i = 1 ∨ i = 2) with rfl | rfl | rfl
  · exact dt_W0
  · exact dt_W1
  · exact dt_W2
/-- moving up d places -/
theorem dt_mv {i : Nat} (W : dt_W i) {m : Nat} (hm : m < 512) : ∀ d, dt_x m i + d < 8 → m + d * 2 ^ (3 * i) < 512 ∧ dt_x (m + d * 2 ^ (3 * i)) i = dt_x m i + d := by
  intro d
  induction d with
  | zero => intro _; rw [Nat.zero_mul]; exact ⟨hm, rfl⟩
  | succ d ih =>
    intro h
    obtain ⟨h1, h2⟩ := ih (by omega)
    have h3 := (W _ h1).2.2.2 (by omega)
    rw [Nat.succ_mul, ← Nat.add_assoc]
    exact ⟨h3.1, by rw [h3.2, h2]; rfl⟩
def dt_depX (f : Nat → Nat) (i m : Nat) : Bool := decide (f m = f (dn_an m (7 * 2 ^ (3 * i))))
def dt_oth (i k : Nat) : Nat := dn_an (k % 512) (7 * 2 ^ (3 * i)) ||| (k / 512) * 2 ^ (3 * i)
def dt_depY (f : Nat → Nat) (i k : Nat) : Bool := !(decide (dt_x (k % 512) i < k / 512) && decide (f (dt_oth i k) ≠ f (k % 512)))
def dt_risX (f : Nat → Nat) (i m : Nat) : Bool := !(decide (0 < dt_x m i) && decide (f m < f (m - 2 ^ (3 * i))))
def dt_risY (f : Nat → Nat) (i k : Nat) : Bool := !(decide (dt_x (k % 512) i < k / 512) && decide (f (dt_oth i k) < f (k % 512)))
theorem dt_oth_e {i k : Nat} (hi : i < 3) (hk : k < 4096) (h : dt_x (k % 512) i < k / 512) : ∃ d, k / 512 = dt_x (k % 512) i + d ∧ dt_oth i k = k % 512 + d * 2 ^ (3 * i) := by
  have hm : k % 512 < 512 := Nat.mod_lt _ (by decide)
  refine ⟨k / 512 - dt_x (k % 512) i, by omega, ?_⟩
  unfold dt_oth
  rw [dt_set hi hm (by omega), Nat.sub_mul]
  have h1 := (dt_Wi hi _ hm).1
  have h2 : dt_x (k % 512) i * 2 ^ (3 * i) ≤ k / 512 * 2 ^ (3 * i) := Nat.mul_le_mul_right _ (by omega)
  generalize dt_x (k % 512) i * 2 ^ (3 * i) = A at *
  generalize k / 512 * 2 ^ (3 * i) = B at *
  omega
theorem dt_mk {i m d : Nat} (hi : i < 3) (hm : m < 512) (hd : dt_x m i + d < 8) (h0 : 0 < d) : ∃ k, k < 4096 ∧ k % 512 = m ∧ dt_x (k % 512) i < k / 512 ∧ dt_oth i k = m + d * 2 ^ (3 * i) := by
  have e1 : (512 * (dt_x m i + d) + m) % 512 = m := by omega
  have e2 : (512 * (dt_x m i + d) + m) / 512 = dt_x m i + d := by omega
  have hk : 512 * (dt_x m i + d) + m < 4096 := by omega
  have hl : dt_x ((512 * (dt_x m i + d) + m) % 512) i < (512 * (dt_x m i + d) + m) / 512 := by rw [e1, e2]; omega
  refine ⟨_, hk, e1, hl, ?_⟩
  obtain ⟨d', h1, h2⟩ := dt_oth_e hi hk hl
  rw [e1, e2] at h1
  rw [h2, e1, show d' = d by omega]
theorem dt_dep (f : Nat → Nat) {i : Nat} (hi : i < 3) : dt_all (dt_depX f i) 512 = dt_all (dt_depY f i) 4096 := by
  have W := dt_Wi hi
  rw [Bool.eq_iff_iff, dt_all_i, dt_all_i]
  constructor
  · intro h k hk
    unfold dt_depY
    rw [Bool.not_eq_true', Bool.and_eq_false_iff, decide_eq_false_iff_not, decide_eq_false_iff_not]
    by_cases hl : dt_x (k % 512) i < k / 512
    · refine Or.inr (fun z => z ?_)
      obtain ⟨d, h1, h2⟩ := dt_oth_e hi hk hl
      have hm : k % 512 < 512 := Nat.mod_lt _ (by decide)
      have h3 := dt_mv W hm d (by omega)
      have a1 := h _ hm
      have a2 := h _ h3.1
      unfold dt_depX at a1 a2
      rw [decide_eq_true_iff] at a1 a2
      rw [dt_low hi hm] at a1
      rw [dt_low hi h3.1, h3.2, Nat.add_mul, Nat.add_sub_add_right] at a2
      rw [h2, a2, ← a1]
    · exact Or.inl hl
  · intro h m hm
    unfold dt_depX
    rw [decide_eq_true_iff, dt_low hi hm]
    by_cases hx : dt_x m i = 0
    · rw [hx, Nat.zero_mul, Nat.sub_zero]
    · have h1 := W m hm
      have hm' : m - dt_x m i * 2 ^ (3 * i) < 512 := by omega
      have h8 := dt_x_lt m i
      obtain ⟨k, k1, k2, k3, k4⟩ := dt_mk (d := dt_x m i) hi hm' (by rw [h1.2.1]; omega) (by omega)
      have h2 := h k k1
      unfold dt_depY at h2
      rw [decide_eq_true k3, Bool.true_and, Bool.not_eq_true', decide_eq_false_iff_not, k2, k4, Nat.sub_add_cancel h1.1] at h2
      exact Decidable.not_not.mp h2
theorem dt_ris (f : Nat → Nat) {i : Nat} (hi : i < 3) : dt_all (dt_risX f i) 512 = dt_all (dt_risY f i) 4096 := by
  have W := dt_Wi hi
  rw [Bool.eq_iff_iff, dt_all_i, dt_all_i]
  constructor
  · intro h k hk
    unfold dt_risY
    rw [Bool.not_eq_true', Bool.and_eq_false_iff, decide_eq_false_iff_not, decide_eq_false_iff_not]
    by_cases hl : dt_x (k % 512) i < k / 512
    · refine Or.inr ?_
      obtain ⟨d, h1, h2⟩ := dt_oth_e hi hk hl
      have hm : k % 512 < 512 := Nat.mod_lt _ (by decide)
      have key : ∀ d, dt_x (k % 512) i + d < 8 → f (k % 512) ≤ f (k % 512 + d * 2 ^ (3 * i)) := by
        intro d
        induction d with
        | zero => intro _; rw [Nat.zero_mul]; exact Nat.le_refl _
        | succ d ih =>
          intro hd
          have h3 := dt_mv W hm (d + 1) hd
          have h4 := h _ h3.1
          unfold dt_risX at h4
          rw [Bool.not_eq_true', Bool.and_eq_false_iff, decide_eq_false_iff_not, decide_eq_false_iff_not] at h4
          rcases h4 with h4 | h4
          · omega
          · rw [Nat.succ_mul, ← Nat.add_assoc, Nat.add_sub_cancel] at h4
            rw [Nat.succ_mul, ← Nat.add_assoc]
            have := ih (by omega)
            omega
      have := key d (by omega)
      rw [h2]
      omega
    · exact Or.inl hl
  · intro h m hm
    unfold dt_risX
    rw [Bool.not_eq_true', Bool.and_eq_false_iff, decide_eq_false_iff_not, decide_eq_false_iff_not]
    by_cases hx : 0 < dt_x m i
    · refine Or.inr ?_
      have h1 := (W m hm).2.2.1 hx
      have hm' : m - 2 ^ (3 * i) < 512 := Nat.lt_of_le_of_lt (Nat.sub_le _ _) hm
      have h8 := dt_x_lt m i
      obtain ⟨k, k1, k2, k3, k4⟩ := dt_mk (d := 1) hi hm' (by omega) (by omega)
      have h2 := h k k1
      unfold dt_risY at h2
      rw [decide_eq_true k3, Bool.true_and, Bool.not_eq_true', decide_eq_false_iff_not, k2, k4, Nat.one_mul, Nat.sub_add_cancel h1.1] at h2
      exact h2
    · exact Or.inl hx
end
section
def dt_ex (p : Nat → Bool) : Nat → Bool
  | 0 => false
  | n + 1 => dt_ex p n || p n
theorem dt_ex_i (p : Nat → Bool) (n : Nat) : dt_ex p n = true ↔ ∃ i, i < n ∧ p i = true := by
  induction n with
  | zero => exact ⟨fun h => (nomatch h), fun ⟨i, hi, _⟩ => absurd hi (by omega)⟩
  | succ n ih =>
    show (dt_ex p n || p n) = true ↔ _
    rw [Bool.or_eq_true, ih]
    constructor
    · intro h
      rcases h with ⟨i, hi, h⟩ | h
      · exact ⟨i, by omega, h⟩
      · exact ⟨n, by omega, h⟩
    · intro ⟨i, hi, h⟩
      by_cases e : i = n
      · subst e; exact Or.inr h
      · exact Or.inl ⟨i, by omega, h⟩
theorem dn_bit2 {n i j : Nat} (hi : i < 32) (hj : j < 32) (h : n < 2 ^ 31) : ((nI n >>> (nI i &&& 31)) &&& (nI n >>> (nI j &&& 31)) &&& 1 = 1) ↔ (n.testBit i && n.testBit j) = true := by
  rw [dn_shr hi h, dn_shr hj h]
  show nI _ &&& nI _ &&& nI 1 = nI 1 ↔ _
  have e : (n / 2 ^ i &&& n / 2 ^ j).testBit 0 = (n.testBit i && n.testBit j) := by
    rw [Nat.testBit_and, Nat.testBit_div_two_pow, Nat.testBit_div_two_pow, Nat.zero_add, Nat.zero_add]
  rw [nx_and, nx_and, Nat.and_one_is_mod, nI_eq (by omega) (by decide), ← e, Nat.testBit_zero, decide_eq_true_iff]
def dt_tg (P : Nat → Nat → Nat) (t j k : Nat) : Bool := (dt_F P t k).testBit (j / 8) && (dt_F P t k).testBit (j % 8)
def dt_q (P : Nat → Nat → Nat) (t r s : Nat) : Bool := dt_meet (P 4 (8 * t + r) &&& P 4 (8 * t + s)) (dt_wd (P 0 t))
theorem dt_F_t (P : Nat → Nat → Nat) (t k i : Nat) : (dt_F P t k).testBit i = (decide (i < P 3 t) && dt_ok (P 4 (8 * t + i)) k (dt_wd (P 0 t))) := dt_bits_t _ _ _
theorem dt_tgq (P : Nat → Nat → Nat) (t r s : Nat) (hs : s < 8) : dt_ex (dt_tg P t (8 * r + s)) (2 ^ (3 * dt_wd (P 0 t))) = (decide (r < P 3 t) && decide (s < P 3 t) && dt_q P t r s) := by
  rw [Bool.eq_iff_iff, dt_ex_i, Bool.and_eq_true, Bool.and_eq_true, decide_eq_true_iff, decide_eq_true_iff]
  unfold dt_q
  rw [dt_meet_i]
  have e1 : (8 * r + s) / 8 = r := by omega
  have e2 : (8 * r + s) % 8 = s := by omega
  constructor
  · intro ⟨k, hk, h⟩
    unfold dt_tg at h
    rw [e1, e2, dt_F_t, dt_F_t, Bool.and_eq_true, Bool.and_eq_true, Bool.and_eq_true, decide_eq_true_iff, decide_eq_true_iff] at h
    exact ⟨⟨h.1.1, h.2.1⟩, k, hk, h.1.2, h.2.2⟩
  · intro ⟨⟨h1, h2⟩, k, hk, h3, h4⟩
    refine ⟨k, hk, ?_⟩
    unfold dt_tg
    rw [e1, e2, dt_F_t, dt_F_t, Bool.and_eq_true, Bool.and_eq_true, Bool.and_eq_true, decide_eq_true_iff, decide_eq_true_iff]
    exact ⟨⟨h1, h3⟩, h2, h4⟩
def dt_ovl (P : Nat → Nat → Nat) (t : Nat) : Nat := dt_prs (dt_q P t) (P 3 t) (P 3 t)
theorem dt_ovY {T : Nat} {P : Nat → Nat → Nat} (G : dt_G T P) (t : Nat) : dt_cnt (fun j => decide (j / 8 < j % 8) && dt_ex (dt_tg P t j) (2 ^ (3 * dt_wd (P 0 t)))) 64 = dt_ovl P t := by
  refine dt_c64n (G.2.2.2.2.1 t) (fun r s hs => ?_)
  show (decide ((8 * r + s) / 8 < (8 * r + s) % 8) && dt_ex (dt_tg P t (8 * r + s)) (2 ^ (3 * dt_wd (P 0 t)))) = _
  rw [dt_tgq P t r s hs, show (8 * r + s) / 8 = r by omega, show (8 * r + s) % 8 = s by omega]
def dt_np (P : Nat → Nat → Nat) (t i k : Nat) : Bool := decide (dt_R P t (dt_F P t k) = dt_R P t (dn_an (dt_F P t k) (2 ^ i)))
theorem dn_an_n {F r : Nat} (h : ¬ F.testBit r = true) : dn_an F (2 ^ r) = F := by
  apply Nat.eq_of_testBit_eq
  intro i
  rw [dn_an_t, Nat.testBit_two_pow]
  by_cases e : r = i
  · subst e
    rw [Bool.not_eq_true _ |>.mp h]
    rfl
  · rw [decide_eq_false e]
    exact Bool.and_true _
theorem dt_an_hi {F n : Nat} (h : ∀ i, n ≤ i → F.testBit i = false) (b : Nat) : ∀ i, n ≤ i → (dn_an F b).testBit i = false := by
  intro i hi
  rw [dn_an_t, h i hi]
  rfl
def dt_ndl (P : Nat → Nat → Nat) (t : Nat) : Nat := dt_bits (fun i => dt_all (dt_np P t i) (2 ^ (3 * dt_wd (P 0 t)))) (P 3 t)
/-- the reference's set of needless rules while combination k is looked at, rules below r done -/
def dt_nY (P : Nat → Nat → Nat) (t k r : Nat) : Nat := dt_bits (fun i => dt_all (dt_np P t i) k && (decide (r ≤ i) || dt_np P t i k)) (P 3 t)
theorem dt_nY_lt {T : Nat} {P : Nat → Nat → Nat} (G : dt_G T P) (t k r : Nat) : dt_nY P t k r < 256 := Nat.lt_of_lt_of_le (dt_bits_lt _ _) (dn_pl (b := 8) (G.2.2.2.2.1 t))
theorem dt_nY_0 (P : Nat → Nat → Nat) (t : Nat) : dt_nY P t 0 0 = 2 ^ (P 3 t) - 1 := by
  rw [dt_bits_all]
  exact dt_bits_ext (fun i _ => by rw [decide_eq_true (Nat.zero_le i)]; rfl)
theorem dt_nY_s {P : Nat → Nat → Nat} {t k r : Nat} (h : dt_np P t r k = true) : dt_nY P t k (r + 1) = dt_nY P t k r := by
  refine dt_bits_ext (fun i _ => ?_)
  by_cases e : i = r
  · subst e; rw [h, Bool.or_true, Bool.or_true]
  · rw [show decide (r + 1 ≤ i) = decide (r ≤ i) from decide_eq_decide.mpr (by omega)]
theorem dt_nY_d {P : Nat → Nat → Nat} {t k r : Nat} (h : dt_np P t r k = false) : dt_nY P t k (r + 1) = dn_an (dt_nY P t k r) (2 ^ r) := by
  unfold dt_nY
  rw [dt_bits_an]
  refine dt_bits_ext (fun i _ => ?_)
  rw [Nat.testBit_two_pow]
  by_cases e : i = r
  · subst e
    rw [h, decide_eq_false (p := i + 1 ≤ i) (by omega), decide_eq_true (p := i = i) rfl]
    cases dt_all (dt_np P t i) k <;> simp
  · rw [show decide (r + 1 ≤ i) = decide (r ≤ i) from decide_eq_decide.mpr (by omega), decide_eq_false (p := r = i) (fun z => e z.symm)]
    exact (Bool.and_true _).symm
theorem dt_nY_n (P : Nat → Nat → Nat) (t k : Nat) : dt_nY P t k (P 3 t) = dt_nY P t (k + 1) 0 := by
  refine dt_bits_ext (fun i hi => ?_)
  rw [decide_eq_false (p := P 3 t ≤ i) (by omega), decide_eq_true (Nat.zero_le i), Bool.false_or, Bool.true_or, Bool.and_true]
  rfl
theorem dt_nY_e (P : Nat → Nat → Nat) (t k : Nat) : dt_nY P t k 0 = dt_bits (fun i => dt_all (dt_np P t i) k) (P 3 t) :=
  dt_bits_ext (fun i _ => by rw [decide_eq_true (Nat.zero_le i), Bool.true_or, Bool.and_true])
end
section
def dr_fi (d : Nat) (g : Nat → Nat) (F n : Nat) : Int32 := if dt_cb F n = 0 then -1 else nI (dt_res 0 d g F n).1
def dr_la (d : Nat) (g : Nat → Nat) (F n : Nat) : Int32 := if dt_cb F n = 0 then 0 else nI (dt_res 1 d g F n).1
def dr_le (d : Nat) (g : Nat → Nat) (F n : Nat) : Int32 := if dt_cb F n = 0 then 8 else nI (dt_res 2 d g F n).1
def dr_mo (d : Nat) (g : Nat → Nat) (F n : Nat) : Int32 := if dt_cb F n = 0 then -1 else nI (dt_res 3 d g F n).1
theorem dr_no {d : Nat} {g : Nat → Nat} {F n : Nat} (h : ¬ F.testBit n = true) : dr_fi d g F (n + 1) = dr_fi d g F n ∧ dr_la d g F (n + 1) = dr_la d g F n ∧ dr_le d g F (n + 1) = dr_le d g F n ∧ dr_mo d g F (n + 1) = dr_mo d g F n ∧ dt_sm g F (n + 1) = dt_sm g F n := by
  unfold dr_fi dr_la dr_le dr_mo
  rw [dt_cb_n h, dt_res_n h, dt_res_n h, dt_res_n h, dt_res_n h, dt_sm_n h]
  exact ⟨rfl, rfl, rfl, rfl, rfl⟩
theorem dr_fi_y {d : Nat} {g : Nat → Nat} (hd : d ≤ 7) (hg : ∀ j, g j ≤ 7) {F n : Nat} (h : F.testBit n = true) : (dr_fi d g F n < 0 ∧ dr_fi d g F (n + 1) = nI (g n)) ∨ (¬ dr_fi d g F n < 0 ∧ dr_fi d g F (n + 1) = dr_fi d g F n) := by
  unfold dr_fi
  rw [dt_cb_y h, dt_step h, if_neg (Nat.succ_ne_zero _)]
  by_cases z : dt_cb F n = 0
  · rw [if_pos z, if_pos z]
    exact Or.inl ⟨by decide, rfl⟩
  · rw [if_neg z, if_neg z]
    have := dt_res_le (p := 0) hd hg F n
    exact Or.inr ⟨nI_pos (by omega), rfl⟩
theorem dr_la_y {d : Nat} {g : Nat → Nat} {F n : Nat} (h : F.testBit n = true) : dr_la d g F (n + 1) = nI (g n) := by
  unfold dr_la
  rw [dt_cb_y h, dt_step h, if_neg (Nat.succ_ne_zero _)]
  by_cases z : dt_cb F n = 0
  · rw [if_pos z]
  · rw [if_neg z]
    rfl
theorem dr_le_y {d : Nat} {g : Nat → Nat} (hd : d ≤ 7) (hg : ∀ j, g j ≤ 7) {F n : Nat} (h : F.testBit n = true) : (nI (g n) < dr_le d g F n ∧ dr_le d g F (n + 1) = nI (g n)) ∨ (¬ nI (g n) < dr_le d g F n ∧ dr_le d g F (n + 1) = dr_le d g F n) := by
  unfold dr_le
  rw [dt_cb_y h, dt_step h, if_neg (Nat.succ_ne_zero _)]
  have h1 := hg n
  by_cases z : dt_cb F n = 0
  · rw [if_pos z, if_pos z]
    exact Or.inl ⟨nI_lt (b := 8) (by omega) (by decide), rfl⟩
  · rw [if_neg z, if_neg z]
    have h2 := dt_res_le (p := 2) hd hg F n
    have e : dt_join 2 d (dt_res 2 d g F n).1 (g n) = if g n < (dt_res 2 d g F n).1 then g n else (dt_res 2 d g F n).1 := rfl
    rw [e, nI_ltI (by omega) (by omega)]
    by_cases c : g n < (dt_res 2 d g F n).1
    · rw [if_pos c]; exact Or.inl ⟨c, rfl⟩
    · rw [if_neg c]; exact Or.inr ⟨c, rfl⟩
theorem dr_mo_y {d : Nat} {g : Nat → Nat} (hd : d ≤ 7) (hg : ∀ j, g j ≤ 7) {F n : Nat} (h : F.testBit n = true) : (dr_mo d g F n < nI (g n) ∧ dr_mo d g F (n + 1) = nI (g n)) ∨ (¬ dr_mo d g F n < nI (g n) ∧ dr_mo d g F (n + 1) = dr_mo d g F n) := by
  unfold dr_mo
  rw [dt_cb_y h, dt_step h, if_neg (Nat.succ_ne_zero _)]
  have h1 := hg n
  by_cases z : dt_cb F n = 0
  · rw [if_pos z, if_pos z]
    refine Or.inl ⟨?_, rfl⟩
    rw [Int32.lt_iff_toInt_lt, nI_toInt (by omega), show (-1 : Int32).toInt = -1 from by decide]
    omega
  · rw [if_neg z, if_neg z]
    have h2 := dt_res_le (p := 3) hd hg F n
    have e : dt_join 3 d (dt_res 3 d g F n).1 (g n) = if (dt_res 3 d g F n).1 < g n then g n else (dt_res 3 d g F n).1 := rfl
    rw [e, nI_ltI (by omega) (by omega)]
    by_cases c : (dt_res 3 d g F n).1 < g n
    · rw [if_pos c]; exact Or.inl ⟨c, rfl⟩
    · rw [if_neg c]; exact Or.inr ⟨c, rfl⟩
/-- the eight-step result is the table's own -/
theorem dt_R8 {T : Nat} {P : Nat → Nat → Nat} (G : dt_G T P) {t F : Nat} (hF : ∀ i, P 3 t ≤ i → F.testBit i = false) : (dt_res (P 1 t) (P 2 t) (fun r => P 5 (8 * t + r)) F 8).1 = dt_R P t F := by
  obtain ⟨j, hj⟩ : ∃ j, 8 = P 3 t + j := ⟨8 - P 3 t, by have := G.2.2.2.2.1 t; omega⟩
  have e := dt_res_st (p := P 1 t) (d := P 2 t) (g := fun r => P 5 (8 * t + r)) hF j
  rw [← hj] at e
  rw [e]
  rfl
theorem dt_R0 {T : Nat} {P : Nat → Nat → Nat} (G : dt_G T P) (t : Nat) : dt_R P t 0 = P 2 t := by
  rw [← dt_R8 G (t := t) (F := 0) (fun i _ => Nat.zero_testBit i)]
  have e : ∀ n, dt_res (P 1 t) (P 2 t) (fun r => P 5 (8 * t + r)) 0 n = (P 2 t, false) := by
    intro n
    induction n with
    | zero => rfl
    | succ n ih => rw [dt_res_n (by rw [Nat.zero_testBit]; exact fun z => nomatch z)]; exact ih
  rw [e]
/-- what the reference answers out of its five numbers -/
theorem dt_fin {T : Nat} {P : Nat → Nat → Nat} (G : dt_G T P) {t F : Nat} (h8 : F < 256) (h0 : F ≠ 0) (hF : ∀ i, P 3 t ≤ i → F.testBit i = false) (g : Nat → Nat) (hg : g = fun r => P 5 (8 * t + r)) :
    (P 1 t = 5 → (F &&& (F - 1) = 0 → dr_fi (P 2 t) g F 8 = nI (dt_R P t F)) ∧ (F &&& (F - 1) ≠ 0 → P 2 t = dt_R P t F)) ∧
    (P 1 t = 0 → dr_fi (P 2 t) g F 8 = nI (dt_R P t F)) ∧ (P 1 t = 1 → dr_la (P 2 t) g F 8 = nI (dt_R P t F)) ∧ (P 1 t = 2 → dr_le (P 2 t) g F 8 = nI (dt_R P t F)) ∧ (P 1 t = 3 → dr_mo (P 2 t) g F 8 = nI (dt_R P t F)) ∧
    (P 1 t = 4 → (7 < dt_sm g F 8 → 7 = dt_R P t F) ∧ (dt_sm g F 8 ≤ 7 → dt_sm g F 8 = dt_R P t F)) := by
  have hc : dt_cb F 8 ≠ 0 := fun z => h0 ((dt_pop0 F h8).mpr z)
  have e := dt_R8 G hF
  rw [← hg] at e
  refine ⟨fun hp => ⟨fun z => ?_, fun z => ?_⟩, fun hp => ?_, fun hp => ?_, fun hp => ?_, fun hp => ?_, fun hp => ?_⟩
  · have := (dt_pop F h8).mp z
    rw [hp] at e
    rw [← e, (dt_r5 F 8).1 (by omega)]
    unfold dr_fi
    rw [if_neg hc]
  · have : ¬ dt_cb F 8 ≤ 1 := fun y => z ((dt_pop F h8).mpr y)
    rw [hp] at e
    rw [← e, (dt_r5 F 8).2 (by omega)]
  · rw [hp] at e
    rw [← e]
    exact if_neg hc
  · rw [hp] at e
    rw [← e]
    exact if_neg hc
  · rw [hp] at e
    rw [← e]
    exact if_neg hc
  · rw [hp] at e
    rw [← e]
    exact if_neg hc
  · rw [hp] at e
    rw [← e, dt_r4 (by rw [hg]; exact fun j => G.2.2.2.2.2.2.1 _) F 8 (by omega)]
    refine ⟨fun z => ?_, fun z => ?_⟩
    · rw [if_pos z]
    · rw [if_neg (by omega)]
end
section
theorem dn_rd {a : Nat → Int32} {g : Nat → Nat} (h : ∀ j, a j = nI (g j)) {x : Int32} {n : Nat} (hx : x = nI n) (hn : n < 2 ^ 31) : a x.toNatClampNeg = nI (g n) := by
  rw [hx, nI_clamp hn]
  exact h n
theorem dn_8 (a : Nat) : 8 * nI a = nI (8 * a) := pk_mul 8 a
theorem dn_3 (a : Nat) : 3 * nI a = nI (3 * a) := pk_mul 3 a
theorem dn_8r (a b : Nat) : 8 * nI a + nI b = nI (8 * a + b) := by rw [dn_8, nI_add]
theorem dn_3c (a b : Nat) : 3 * nI a + nI b = nI (3 * a + b) := by rw [dn_3, nI_add]
theorem dn_512 (a b : Nat) : 512 * nI a + nI b = nI (512 * a + b) := by rw [show 512 * nI a = nI (512 * a) from pk_mul 512 a, nI_add]
theorem dn_3p (a : Nat) : 3 + nI a = nI (3 + a) := nI_add 3 a
theorem dn_x {k c : Nat} (hk : k < 2 ^ 31) (hc : c < 10) : (nI k >>> ((3 * nI c) &&& 31)) &&& 7 = nI (dt_x k c) := by
  rw [dn_3, dn_shr (by omega) hk, dn_m7 (Nat.lt_of_le_of_lt (Nat.div_le_self _ _) hk)]
  rfl
def dx_A (T : Nat) (P : Nat → Nat → Nat) (aW aP aD aC aK aS aR : Nat → Int32) : Prop :=
  (∀ t, t < T → aW t = nI (dt_wd (P 0 t))) ∧ (∀ j, aP j = nI (P 1 j)) ∧ (∀ j, aD j = nI (P 2 j)) ∧ (∀ j, aC j = nI (P 3 j)) ∧ (∀ t e, e < 3 → aK (3 * t + e) = nI (P 0 t / 10 ^ e % 10)) ∧ (∀ j, aS j = nI (P 4 j)) ∧ (∀ j, aR j = nI (P 5 j))
section
variable {fT : Int32} {aW aP aD aC aK aS aR aX : Nat → Int32} {P : Nat → Nat → Nat} {T t : Nat}
theorem lx_fa2 {post : Int32 → Prop} (G : dt_G T P) (A : dx_A T P aW aP aD aC aK aS aR) (ht : t < T) {k w : Nat} (hw : w ≤ 3)
    (K : post (nI (dt_bits (fun r => dt_ok (P 4 (8 * t + r)) k w) (P 3 t)))) : ∀ e i, i + e = P 3 t → wX_firingAt_52 post (nI t) (nI (dt_need k w)) fT aW aP aD aC aK aS aR aX (e + 1) (nI (dt_bits (fun r => dt_ok (P 4 (8 * t + r)) k w) i)) (nI i) := by
  have hT := G.1
  have h8 := G.2.2.2.2.1 t
  have hc : aC (nI t).toNatClampNeg = nI (P 3 t) := dn_rd A.2.2.2.1 rfl (by omega)
  intro e
  induction e with
  | zero =>
    intro i hi
    refine ⟨vp_in_nI (by omega) (by decide), br_t ?_ ?_⟩
    · rw [hc]; exact nI_le (by omega) (by omega)
    · rw [show i = P 3 t by omega]; exact K
  | succ e ih =>
    intro i hi
    have hN : dt_need k w < 2 ^ 31 := Nat.lt_of_lt_of_le (dt_need_lt k w) (dn_pl (by omega))
    have hS := G.2.2.2.2.2.1 (8 * t + i)
    have hq : ((aS (8 * nI t + nI i).toNatClampNeg) &&& nI (dt_need k w) = nI (dt_need k w)) ↔ dt_ok (P 4 (8 * t + i)) k w = true := by
      rw [dn_rd A.2.2.2.2.2.1 (dn_8r t i) (by omega), nx_and, nI_eq (Nat.lt_of_le_of_lt Nat.and_le_right hN) hN, dt_need_ok]
    refine ⟨vp_in_nI (by omega) (by decide), br_f ?_ ⟨pk_in (8 * t + i) 40 (by omega) (dn_8r t i), dn_iff hq (fun z => nm_r (e' := nI (dt_bits (fun r => dt_ok (P 4 (8 * t + r)) k w) (i + 1))) ?_ (nm_r (nI_1 i) ?_)) (fun z => nm_r (nI_1 i) ?_)⟩⟩
    · rw [hc]; exact nI_ge (by omega) (by omega)
    · rw [dn_one (by omega), dn_or, dt_bits_s1 (p := fun r => dt_ok (P 4 (8 * t + r)) k w) z]
    · exact ih (i + 1) (by omega)
    · have h := ih (i + 1) (by omega)
      rw [← dt_bits_s0 (p := fun r => dt_ok (P 4 (8 * t + r)) k w) z] at h
      exact h
theorem lx_fa1 {post : Int32 → Prop} (G : dt_G T P) (A : dx_A T P aW aP aD aC aK aS aR) (ht : t < T) {k : Nat} (hk : k < 2 ^ 31)
    (K : post (nI (dt_F P t k))) : ∀ e c, c + e = dt_wd (P 0 t) → wX_firingAt_5 post (nI t) (nI k) fT aW aP aD aC aK aS aR aX (e + 1) (nI (dt_need k c)) (nI c) := by
  have hT := G.1
  have hw := dt_wd_in (P 0 t)
  have hW : aW (nI t).toNatClampNeg = nI (dt_wd (P 0 t)) := by rw [nI_clamp (by omega)]; exact A.1 t ht
  intro e
  induction e with
  | zero =>
    intro c hc
    refine ⟨vp_in_nI (by omega) (by decide), br_t ?_ ⟨P 3 t + 1, ?_⟩⟩
    · rw [hW]; exact nI_le (by omega) (by omega)
    · rw [show c = dt_wd (P 0 t) by omega]
      exact lx_fa2 G A ht hw.2 K (P 3 t) 0 (by omega)
  | succ e ih =>
    intro c hc
    have hx := dt_x_lt k c
    refine ⟨vp_in_nI (by omega) (by decide), br_f ?_ (nm_r (dn_x hk (by omega)) (nm_r (e' := nI (dt_need k (c + 1))) ?_ (nm_r (nI_1 c) ?_)))⟩
    · rw [hW]; exact nI_ge (by omega) (by omega)
    · rw [dn_8r, dn_one (by omega), dn_or]
      rfl
    · exact ih (c + 1) (by omega)
theorem lx_fa {post : Int32 → Prop} (G : dt_G T P) (A : dx_A T P aW aP aD aC aK aS aR) (ht : t < T) {k : Nat} (hk : k < 2 ^ 31)
    (K : post (nI (dt_F P t k))) : wpX_firingAt post (fT, aW, aP, aD, aC, aK, aS, aR, aX) (nI t) (nI k) := ⟨dt_wd (P 0 t) + 1, lx_fa1 G A ht hk K (dt_wd (P 0 t)) 0 (by omega)⟩
theorem lx_jo {post : Int32 → Prop} (G : dt_G T P) (A : dx_A T P aW aP aD aC aK aS aR) (ht : t < T) {a b : Nat} (ha : a ≤ 7) (hb : b ≤ 7)
    (K : post (nI (dt_join (P 1 t) (P 2 t) a b))) : wpX_joined post (fT, aW, aP, aD, aC, aK, aS, aR, aX) (nI t) (nI a) (nI b) := by
  have hT := G.1
  have hp := G.2.2.1 t
  refine ⟨vp_in_nI (by omega) (by decide), nm_r (dn_rd A.2.1 rfl (by omega)) ?_⟩
  generalize P 1 t = q at *
  rcases (by omega : q = 0 ∨ q = 1 ∨ q = 2 ∨ q = 3 ∨ q = 4 ∨ q = 5) with rfl | rfl | rfl | rfl | rfl | rfl
  · exact br_f (by decide) (br_f (by decide) (br_t (by decide) K))
  · exact br_f (by decide) (br_f (by decide) (br_f (by decide) (br_t (by decide) K)))
  · refine br_f (by decide) (br_f (by decide) (br_f (by decide) (br_f (by decide) (br_t (by decide) (dn_le a b rfl rfl (by omega) (by omega) (fun z => ?_) (fun z => ?_))))))
    · have e : dt_join 2 (P 2 t) a b = if b < a then b else a := rfl
      rw [e, if_neg (by omega)] at K
      exact K
    · have e : dt_join 2 (P 2 t) a b = if b < a then b else a := rfl
      rw [e, if_pos z] at K
      exact K
  · refine br_f (by decide) (br_f (by decide) (br_f (by decide) (br_f (by decide) (br_f (by decide) (br_t (by decide) (dn_le b a rfl rfl (by omega) (by omega) (fun z => ?_) (fun z => ?_)))))))
    · have e : dt_join 3 (P 2 t) a b = if a < b then b else a := rfl
      rw [e, if_neg (by omega)] at K
      exact K
    · have e : dt_join 3 (P 2 t) a b = if a < b then b else a := rfl
      rw [e, if_pos z] at K
      exact K
  · refine br_f (by decide) (br_f (by decide) (br_f (by decide) (br_f (by decide) (br_f (by decide) (br_f (by decide) (br_t (by decide) (dn_le (a + b) 7 (nI_add a b) rfl (by omega) (by omega) (fun z => ?_) (fun z => ?_))))))))
    · have e : dt_join 4 (P 2 t) a b = if 7 < a + b then 7 else a + b := rfl
      rw [e, if_neg (by omega)] at K
      rw [nI_add]
      exact K
    · have e : dt_join 4 (P 2 t) a b = if 7 < a + b then 7 else a + b := rfl
      rw [e, if_pos z] at K
      exact K
  · refine br_f (by decide) (br_t (by decide) ⟨vp_in_nI (by omega) (by decide), ?_⟩)
    rw [dn_rd A.2.2.1 rfl (by omega)]
    exact K
theorem lx_ro1 {post : Int32 → Prop} (G : dt_G T P) (A : dx_A T P aW aP aD aC aK aS aR) (ht : t < T) {F : Nat} (hF : F < 2 ^ 31)
    (K : post (nI (dt_R P t F))) : ∀ e i, i + e = P 3 t → wX_resultOf_13 post (nI t) (nI F) fT aW aP aD aC aK aS aR aX (e + 1) (nI (dt_res (P 1 t) (P 2 t) (fun r => P 5 (8 * t + r)) F i).1) (dn_B (dt_res (P 1 t) (P 2 t) (fun r => P 5 (8 * t + r)) F i).2) (nI i) := by
  have hT := G.1
  have h8 := G.2.2.2.2.1 t
  have hc : aC (nI t).toNatClampNeg = nI (P 3 t) := dn_rd A.2.2.2.1 rfl (by omega)
  intro e
  induction e with
  | zero =>
    intro i hi
    refine ⟨vp_in_nI (by omega) (by decide), br_t ?_ ?_⟩
    · rw [hc]; exact nI_le (by omega) (by omega)
    · rw [show i = P 3 t by omega]; exact K
  | succ e ih =>
    intro i hi
    have h5 := G.2.2.2.2.2.2.1 (8 * t + i)
    have hr := dt_res_le (p := P 1 t) (G.2.2.2.1 t) (g := fun r => P 5 (8 * t + r)) (fun j => G.2.2.2.2.2.2.1 _) F i
    have h := ih (i + 1) (by omega)
    refine ⟨vp_in_nI (by omega) (by decide), br_f ?_ (dn_iff (dn_bit1 (by omega) hF) (fun z => ⟨pk_in (8 * t + i) 40 (by omega) (dn_8r t i), nm_r (dn_rd A.2.2.2.2.2.2 (dn_8r t i) (by omega)) ?_⟩) (fun z => nm_r (nI_1 i) ?_))⟩
    · rw [hc]; exact nI_ge (by omega) (by omega)
    · rw [dt_res_y z] at h
      cases hb : (dt_res (P 1 t) (P 2 t) (fun r => P 5 (8 * t + r)) F i).2 with
      | false =>
        rw [hb] at h
        exact br_t rfl (nm_r (nI_1 i) h)
      | true =>
        rw [hb] at h
        exact br_f (by decide) (lx_jo G A ht hr h5 (nm_r (nI_1 i) h))
    · rw [dt_res_n z] at h
      exact h
theorem lx_ro {post : Int32 → Prop} (G : dt_G T P) (A : dx_A T P aW aP aD aC aK aS aR) (ht : t < T) {F : Nat} (hF : F < 2 ^ 31)
    (K : post (nI (dt_R P t F))) : wpX_resultOf post (fT, aW, aP, aD, aC, aK, aS, aR, aX) (nI t) (nI F) := by
  have hT := G.1
  exact ⟨vp_in_nI (by omega) (by decide), nm_r (dn_rd A.2.2.1 rfl (by omega)) ⟨P 3 t + 1, lx_ro1 G A ht hF K (P 3 t) 0 (by omega)⟩⟩
theorem lx_cn1 {post : Int32 → Prop} (G : dt_G T P) (A : dx_A T P aW aP aD aC aK aS aR) (ht : t < T) {vl : Nat → Nat} (hX : ∀ v, v < 3 + t → aX v = nI (vl v)) (hv : ∀ v, vl v ≤ 7)
    (K : post (nI (dt_comb (P 0 t) vl (dt_wd (P 0 t))))) : ∀ e c, c + e = dt_wd (P 0 t) → wX_combinationNow_4 post (nI t) fT aW aP aD aC aK aS aR aX (e + 1) (nI (dt_comb (P 0 t) vl c)) (nI c) := by
  have hT := G.1
  have hw := dt_wd_in (P 0 t)
  have hW : aW (nI t).toNatClampNeg = nI (dt_wd (P 0 t)) := by rw [nI_clamp (by omega)]; exact A.1 t ht
  intro e
  induction e with
  | zero =>
    intro c hc
    refine ⟨vp_in_nI (by omega) (by decide), br_t ?_ ?_⟩
    · rw [hW]; exact nI_le (by omega) (by omega)
    · rw [show c = dt_wd (P 0 t) by omega]; exact K
  | succ e ih =>
    intro c hc
    have hk : aK (3 * nI t + nI c).toNatClampNeg = nI (P 0 t / 10 ^ c % 10) := by rw [dn_3c, nI_clamp (by omega)]; exact A.2.2.2.2.1 t c (by omega)
    have hd := G.2.2.2.2.2.2.2 t ht c (by omega)
    have h7 := hv (P 0 t / 10 ^ c % 10)
    refine ⟨vp_in_nI (by omega) (by decide), br_f ?_ ⟨pk_in (3 * t + c) 15 (by omega) (dn_3c t c), ?_, nm_r (e' := nI (dt_comb (P 0 t) vl (c + 1))) ?_ (nm_r (nI_1 c) ?_)⟩⟩
    · rw [hW]; exact nI_ge (by omega) (by omega)
    · rw [hk]; exact vp_in_nI (by omega) (by decide)
    · have h3 : vl (P 0 t / 10 ^ c % 10) * 2 ^ (3 * c) < 2 ^ 32 := by
        have h6 : 2 ^ (3 * c) ≤ 2 ^ 6 := dn_pl (by omega)
        have := Nat.mul_le_mul h7 h6
        omega
      rw [hk, nI_clamp (by omega), hX _ hd, dn_3, dn_shl (by omega) h3, dn_or]
      rfl
    · exact ih (c + 1) (by omega)
theorem lx_cn {post : Int32 → Prop} (G : dt_G T P) (A : dx_A T P aW aP aD aC aK aS aR) (ht : t < T) {vl : Nat → Nat} (hX : ∀ v, v < 3 + t → aX v = nI (vl v)) (hv : ∀ v, vl v ≤ 7)
    (K : post (nI (dt_comb (P 0 t) vl (dt_wd (P 0 t))))) : wpX_combinationNow post (fT, aW, aP, aD, aC, aK, aS, aR, aX) (nI t) := ⟨dt_wd (P 0 t) + 1, lx_cn1 G A ht hX hv K (dt_wd (P 0 t)) 0 (by omega)⟩
theorem lx_s3 {post : SX → Prop} {Vf : Nat → Nat} {b : Nat} (h0 : ∀ v, b ≤ v → Vf v = 0) : ∀ e i (aX : Nat → Int32), i + e = 8 → b ≤ i → (∀ v, v < i → aX v = nI (Vf v)) → (∀ X' : Nat → Int32, (∀ v, v < 8 → X' v = nI (Vf v)) → post (fT, aW, aP, aD, aC, aK, aS, aR, X')) → wX_settle_77 post fT (e + 1) (nI i) aW aP aD aC aK aS aR aX := by
  intro e
  induction e with
  | zero =>
    intro i aX hi hb hX K
    refine br_t (nI_le (a := 8) (by omega) (by omega)) (K aX ?_)
    rw [show i = 8 by omega] at hX
    exact hX
  | succ e ih =>
    intro i aX hi hb hX K
    refine br_f (nI_ge (b := 8) (by omega) (by decide)) ⟨vp_in_nI (by omega) (by decide), nm_e (nm_r (nI_1 i) (ih (i + 1) _ (by omega) (by omega) ?_ K))⟩
    intro v hv
    rw [nI_clamp (by omega)]
    by_cases e : v = i
    · subst e
      rw [pk_us, h0 v hb]
      rfl
    · rw [pk_un e]
      exact hX v (by omega)
theorem lx_s2 {post : SX → Prop} (G : dt_G T P) (A : dx_A T P aW aP aD aC aK aS aR) (m : Nat) (K : ∀ X' : Nat → Int32, (∀ v, v < 8 → X' v = nI (dt_V P m T v)) → post (nI T, aW, aP, aD, aC, aK, aS, aR, X')) :
    ∀ e i (aX : Nat → Int32), i + e = T → (∀ v, v < 3 + i → aX v = nI (dt_V P m i v)) → wX_settle_27 post (nI T) (e + 1) (nI i) aW aP aD aC aK aS aR aX := by
  have hT := G.1
  intro e
  induction e with
  | zero =>
    intro i aX hi hX
    refine br_t (nI_le (by omega) (by omega)) (nm_r (dn_3p T) ⟨8 - (3 + T) + 1, lx_s3 (Vf := dt_V P m T) (b := 3 + T) (dt_V_0 P m T) (8 - (3 + T)) (3 + T) aX (by omega) (Nat.le_refl _) ?_ K⟩)
    rw [show i = T by omega] at hX
    exact hX
  | succ e ih =>
    intro i aX hi hX
    refine br_f (nI_ge (by omega) (by omega)) (lx_cn G A (by omega) hX (fun v => dt_V_le G m i v) (lx_fa G A (by omega) (Nat.lt_trans (dt_cK G i m i) (by decide)) (lx_ro G A (by omega) (Nat.lt_trans (dt_F_lt G i _) (by decide)) ⟨pk_in (3 + i) 8 (by omega) (dn_3p i), nm_e (nm_r (nI_1 i) (ih (i + 1) _ (by omega) ?_))⟩)))
    intro v hv
    rw [dn_3p, nI_clamp (by omega)]
    by_cases e : v = 3 + i
    · subst e
      rw [pk_us]
      show _ = nI (if 3 + i = 3 + i then _ else _)
      rw [if_pos rfl]
    · rw [pk_un e]
      show _ = nI (if v = 3 + i then _ else _)
      rw [if_neg e]
      exact hX v (by omega)
theorem lx_s1 {post : SX → Prop} (G : dt_G T P) (A : dx_A T P aW aP aD aC aK aS aR) {m : Nat} (hm : m < 512) (K : ∀ X' : Nat → Int32, (∀ v, v < 8 → X' v = nI (dt_V P m T v)) → post (nI T, aW, aP, aD, aC, aK, aS, aR, X')) :
    ∀ e i (aX : Nat → Int32), i + e = 3 → (∀ v, v < i → aX v = nI (dt_V P m 0 v)) → wX_settle_2 post (nI m) (nI T) (e + 1) (nI i) aW aP aD aC aK aS aR aX := by
  intro e
  induction e with
  | zero =>
    intro i aX hi hX
    rw [show i = 3 by omega] at hX
    exact br_t (nI_le (a := 3) (by omega) (by omega)) ⟨T + 1, lx_s2 G A m K T 0 aX (by omega) hX⟩
  | succ e ih =>
    intro i aX hi hX
    refine br_f (nI_ge (b := 3) (by omega) (by decide)) ?_
    show vp_in (nI i) 8 ∧ _
    refine ⟨vp_in_nI (by omega) (by decide), nm_e (nm_r (nI_1 i) (ih (i + 1) _ (by omega) ?_))⟩
    intro v hv
    rw [nI_clamp (by omega), dn_x (by omega) (by omega)]
    by_cases e : v = i
    · subst e
      rw [pk_us]
      show _ = nI (if v < 3 then _ else _)
      rw [if_pos (by omega)]
    · rw [pk_un e]
      exact hX v (by omega)
theorem lx_se {post : SX → Prop} (G : dt_G T P) (A : dx_A T P aW aP aD aC aK aS aR) {m : Nat} (hm : m < 512) (K : ∀ X' : Nat → Int32, (∀ v, v < 8 → X' v = nI (dt_V P m T v)) → post (nI T, aW, aP, aD, aC, aK, aS, aR, X')) :
    wpX_settle post (nI T, aW, aP, aD, aC, aK, aS, aR, aX) (nI m) := ⟨4, lx_s1 G A hm K 3 0 aX (by omega) (fun v hv => absurd hv (by omega))⟩
theorem lx_vi {post : Int32 → SX → Prop} (G : dt_G T P) (A : dx_A T P aW aP aD aC aK aS aR) {m v : Nat} (hm : m < 512) (hv : v < 8) (K : ∀ X' : Nat → Int32, post (nI (dt_V P m T v)) (nI T, aW, aP, aD, aC, aK, aS, aR, X')) :
    wpX_valueIn post (nI T, aW, aP, aD, aC, aK, aS, aR, aX) (nI v) (nI m) := by
  unfold wpX_valueIn
  refine lx_se G A hm (fun X' hX' => ?_)
  show vp_in (nI v) 8 ∧ _
  refine ⟨vp_in_nI hv (by decide), ?_⟩
  rw [nI_clamp (by omega), hX' v hv]
  exact K X'
theorem lx_fi {post : Int32 → SX → Prop} (G : dt_G T P) (A : dx_A T P aW aP aD aC aK aS aR) {m : Nat} (hm : m < 512) (ht : t < T) (K : ∀ X' : Nat → Int32, post (nI (dt_F P t (dt_K T P m t))) (nI T, aW, aP, aD, aC, aK, aS, aR, X')) :
    wpX_firingIn post (nI T, aW, aP, aD, aC, aK, aS, aR, aX) (nI t) (nI m) := by
  unfold wpX_firingIn
  have hT := G.1
  refine lx_se G A hm (fun X' hX' => ?_)
  exact lx_cn (vl := dt_V P m T) G A ht (fun v hv => hX' v (by omega)) (fun v => dt_V_le G m T v) (lx_fa G A ht (Nat.lt_trans (dt_cK G t m T) (by decide)) (K X'))
end
end
section
theorem dn_d100 {c : Nat} (h : c < 2 ^ 31) : nI c / 100 = nI (c / 100) := pk_div (d := 100) h (by decide) (by decide)
theorem dn_d10 {c : Nat} (h : c < 2 ^ 31) : nI c / 10 = nI (c / 10) := pk_div (d := 10) h (by decide) (by decide)
theorem dn_r10 {c : Nat} (h : c < 2 ^ 31) : nI c - nI c / 10 * 10 = nI (c % 10) := pk_rem (d := 10) h (by decide) (by decide)
def dy_A (P : Nat → Nat → Nat) (bK bP bD bC bS bR : Nat → Int32) : Prop :=
  (∀ j, bK j = nI (P 0 j)) ∧ (∀ j, bP j = nI (P 1 j)) ∧ (∀ j, bD j = nI (P 2 j)) ∧ (∀ j, bC j = nI (P 3 j)) ∧ (∀ j, bS j = nI (P 4 j)) ∧ (∀ j, bR j = nI (P 5 j))
def dy_V (T : Nat) (P : Nat → Nat → Nat) (bX : Nat → Int32) : Prop := ∀ j, j < 4096 → bX j = nI (dt_V P (j % 512) T (j / 512))
section
variable {fT fk : Int32} {bK bP bD bC bS bR bX bT : Nat → Int32} {P : Nat → Nat → Nat} {T t : Nat}
theorem ly_wd {post : Int32 → Prop} (G : dt_G T P) (A : dy_A P bK bP bD bC bS bR) (ht : t < 5) (K : post (nI (dt_wd (P 0 t)))) : wpY_width post (fT, fk, bK, bP, bD, bC, bS, bR, bX, bT) (nI t) := by
  have h9 := G.2.1 t
  have e := dn_rd A.1 (x := nI t) rfl (by omega)
  refine ⟨vp_in_nI (by omega) (by decide), by decide, dn_eq (P 0 t / 100) 9 (by rw [e, dn_d100 (by omega)]) rfl (by omega) (by decide) (fun z => ⟨vp_in_nI (by omega) (by decide), by decide, by decide, dn_eq (P 0 t / 10 % 10) 9 (by rw [e, dn_d10 (by omega), dn_r10 (by omega)]) rfl (by omega) (by decide) (fun y => ?_) (fun y => ?_)⟩) (fun z => ?_)⟩
  · have w : dt_wd (P 0 t) = 1 := by unfold dt_wd; rw [if_pos z, if_pos y]
    rw [w] at K
    exact K
  · have w : dt_wd (P 0 t) = 2 := by unfold dt_wd; rw [if_pos z, if_neg y]
    rw [w] at K
    exact K
  · have w : dt_wd (P 0 t) = 3 := by unfold dt_wd; rw [if_neg z]
    rw [w] at K
    exact K
theorem ly_f2 {post : Int32 → Prop} (G : dt_G T P) (A : dy_A P bK bP bD bC bS bR) (ht : t < 5) {k w r : Nat} {J : Int32 → Int32 → Prop} {x3 : Int32} (hk : k < 2 ^ 31) (hw : w ≤ 3) (hr : r < 8)
    (K0 : ¬ dt_ok (P 4 (8 * t + r)) k w = true → J x3 (nI (r + 1))) (K1 : dt_ok (P 4 (8 * t + r)) k w = true → J (x3 ||| ((1 : Int32) <<< (nI r &&& 31))) (nI (r + 1))) :
    ∀ e c, c + e = w → wY_firing_29 post J (nI t) (nI k) x3 (nI w) (nI r) fT fk bK bP bD bC bS bR bX bT (e + 1) (dn_B (dt_ok (P 4 (8 * t + r)) k c)) (nI c) := by
  intro e
  induction e with
  | zero =>
    intro c hc
    refine br_t (nI_le (by omega) (by omega)) ?_
    rw [show c = w by omega]
    cases hb : dt_ok (P 4 (8 * t + r)) k w with
    | false => exact br_t rfl (nm_r (nI_1 r) (K0 (by rw [hb]; exact fun z => nomatch z)))
    | true => exact br_f (by decide) (nm_e (nm_r (nI_1 r) (K1 hb)))
  | succ e ih =>
    intro c hc
    have hx := dt_x_lt k c
    have hS := G.2.2.2.2.2.1 (8 * t + r)
    have h := ih (c + 1) (by omega)
    have eq : dt_ok (P 4 (8 * t + r)) k (c + 1) = (dt_ok (P 4 (8 * t + r)) k c && (P 4 (8 * t + r)).testBit (8 * c + dt_x k c)) := rfl
    refine br_f (nI_ge (by omega) (by omega)) (nm_r (dn_x hk (by omega)) ⟨pk_in (8 * t + r) 40 (by omega) (dn_8r t r), dn_iff (d := (P 4 (8 * t + r)).testBit (8 * c + dt_x k c) = false) ?_ (fun z => nm_r (nI_1 c) ?_) (fun z => nm_r (nI_1 c) ?_)⟩)
    · rw [dn_rd A.2.2.2.2.1 (dn_8r t r) (by omega), dn_8r, dn_bit0 (by omega) (by omega)]
    · rw [eq, z, Bool.and_false] at h
      exact h
    · rw [eq, Bool.not_eq_false _ |>.mp z, Bool.and_true] at h
      exact h
theorem ly_f1 {post : Int32 → Prop} (G : dt_G T P) (A : dy_A P bK bP bD bC bS bR) (ht : t < 5) {k w : Nat} (hk : k < 2 ^ 31) (hw : w ≤ 3)
    (K : post (nI (dt_bits (fun r => dt_ok (P 4 (8 * t + r)) k w) (P 3 t)))) : ∀ e i, i + e = P 3 t → wY_firing_12 post (nI t) (nI k) (nI w) fT fk bK bP bD bC bS bR bX bT (e + 1) (nI (dt_bits (fun r => dt_ok (P 4 (8 * t + r)) k w) i)) (nI i) := by
  have h8 := G.2.2.2.2.1 t
  have hc : bC (nI t).toNatClampNeg = nI (P 3 t) := dn_rd A.2.2.2.1 rfl (by omega)
  intro e
  induction e with
  | zero =>
    intro i hi
    refine ⟨vp_in_nI (by omega) (by decide), br_t ?_ ?_⟩
    · rw [hc]; exact nI_le (by omega) (by omega)
    · rw [show i = P 3 t by omega]; exact K
  | succ e ih =>
    intro i hi
    refine ⟨vp_in_nI (by omega) (by decide), br_f ?_ ⟨w + 1, ly_f2 G A ht hk hw (by omega) (fun z => ?_) (fun z => ?_) w 0 (by omega)⟩⟩
    · rw [hc]; exact nI_ge (by omega) (by omega)
    · have h := ih (i + 1) (by omega)
      rw [← dt_bits_s0 (p := fun r => dt_ok (P 4 (8 * t + r)) k w) z] at h
      exact h
    · have h := ih (i + 1) (by omega)
      rw [← dt_bits_s1 (p := fun r => dt_ok (P 4 (8 * t + r)) k w) z, ← dn_or, ← dn_one (by omega)] at h
      exact h
theorem ly_fi {post : Int32 → Prop} (G : dt_G T P) (A : dy_A P bK bP bD bC bS bR) (ht : t < 5) {k : Nat} (hk : k < 2 ^ 31)
    (K : post (nI (dt_F P t k))) : wpY_firing post (fT, fk, bK, bP, bD, bC, bS, bR, bX, bT) (nI t) (nI k) := by
  unfold wpY_firing
  exact ly_wd G A ht ⟨P 3 t + 1, ly_f1 G A ht hk (dt_wd_in (P 0 t)).2 K (P 3 t) 0 (by omega)⟩
theorem ly_r92 {post : Int32 → Prop} {J : Int32 → Int32 → Int32 → Int32 → Int32 → Int32 → Prop} {x1 x2 x3 x4 x5 x6 x7 x8 x9 x10 y7 : Int32} (hy : (x7 < x10 ∧ y7 = x10) ∨ (¬ x7 < x10 ∧ y7 = x7)) (K : J x4 x5 x6 y7 (x8 + x10) (x9 + 1)) : wY_result_92 post J x1 x2 x3 x4 x5 x6 x7 x8 x9 x10 fT fk bK bP bD bC bS bR bX bT := by
  rcases hy with ⟨h, rfl⟩ | ⟨h, rfl⟩
  · exact br_f (fun z => Int32.not_lt.mpr z h) (nm_e (nm_e K))
  · exact br_t (Int32.not_lt.mp h) (nm_e (nm_e K))
theorem ly_r77 {post : Int32 → Prop} {J : Int32 → Int32 → Int32 → Int32 → Int32 → Int32 → Prop} {x1 x2 x3 x4 x6 x7 x8 x9 x10 y6 y7 : Int32} (h6 : (x10 < x6 ∧ y6 = x10) ∨ (¬ x10 < x6 ∧ y6 = x6)) (hy : (x7 < x10 ∧ y7 = x10) ∨ (¬ x7 < x10 ∧ y7 = x7)) (K : J x4 x10 y6 y7 (x8 + x10) (x9 + 1)) : wY_result_77 post J x1 x2 x3 x4 x6 x7 x8 x9 x10 fT fk bK bP bD bC bS bR bX bT := by
  rcases h6 with ⟨h, rfl⟩ | ⟨h, rfl⟩
  · exact br_f (fun z => Int32.not_lt.mpr z h) (ly_r92 hy K)
  · exact br_t (Int32.not_lt.mp h) (ly_r92 hy K)
theorem ly_re1 {post : Int32 → Prop} (G : dt_G T P) (A : dy_A P bK bP bD bC bS bR) (ht : t < 5) {F : Nat} (hF : F < 256) (h0 : F ≠ 0) (hh : ∀ i, P 3 t ≤ i → F.testBit i = false) (g : Nat → Nat) (hg : g = fun r => P 5 (8 * t + r))
    (K : post (nI (dt_R P t F))) : ∀ e i, i + e = 8 → wY_result_37 post (nI t) (nI F) (nI (P 1 t)) fT fk bK bP bD bC bS bR bX bT (e + 1) (dr_fi (P 2 t) g F i) (dr_la (P 2 t) g F i) (dr_le (P 2 t) g F i) (dr_mo (P 2 t) g F i) (nI (dt_sm g F i)) (nI i) := by
  have h7 : ∀ j, g j ≤ 7 := by rw [hg]; exact fun j => G.2.2.2.2.2.2.1 _
  have hd := G.2.2.2.1 t
  have hp := G.2.2.1 t
  intro e
  induction e with
  | zero =>
    intro i hi
    rw [show i = 8 by omega]
    refine br_t (nI_le (a := 8) (by decide) (by decide)) ?_
    obtain ⟨f5, f0, f1, f2, f3, f4⟩ := dt_fin G hF h0 hh g hg
    have hsm := dt_sm_le h7 F 8
    rcases (by omega : P 1 t = 5 ∨ P 1 t = 0 ∨ P 1 t = 1 ∨ P 1 t = 2 ∨ P 1 t = 3 ∨ P 1 t = 4) with q | q | q | q | q | q
    · rw [q]
      refine br_t (by decide) (dn_iff (d := F &&& (F - 1) = 0) ?_ (fun z => ?_) (fun z => ⟨vp_in_nI (by omega) (by decide), ?_⟩))
      · rw [show nI F - 1 = nI (F - 1) from pk_sub (b := 1) (by omega), nx_and]
        exact nI_eq (b := 0) (Nat.lt_of_le_of_lt Nat.and_le_left (by omega)) (by decide)
      · rw [(f5 q).1 z]; exact K
      · rw [dn_rd A.2.2.1 rfl (by omega), (f5 q).2 z]; exact K
    · rw [q, f0 q]
      exact br_f (by decide) (br_t (by decide) K)
    · rw [q, f1 q]
      exact br_f (by decide) (br_f (by decide) (br_t (by decide) K))
    · rw [q, f2 q]
      exact br_f (by decide) (br_f (by decide) (br_f (by decide) (br_t (by decide) K)))
    · rw [q, f3 q]
      exact br_f (by decide) (br_f (by decide) (br_f (by decide) (br_f (by decide) (br_t (by decide) K))))
    · rw [q]
      refine br_f (by decide) (br_f (by decide) (br_f (by decide) (br_f (by decide) (br_f (by decide) (dn_le (dt_sm g F 8) 7 rfl rfl (by omega) (by decide) (fun z => ?_) (fun z => ?_))))))
      · rw [(f4 q).2 z]; exact K
      · have k2 := K
        rw [← (f4 q).1 z] at k2
        exact k2
  | succ e ih =>
    intro i hi
    have h := ih (i + 1) (by omega)
    refine br_f (nI_ge (b := 8) (by omega) (by decide)) (dn_iff (dn_bit1 (by omega) (by omega)) (fun z => ⟨pk_in (8 * t + i) 40 (by omega) (dn_8r t i), nm_r (e' := nI (g i)) ?_ ?_⟩) (fun z => nm_r (nI_1 i) ?_))
    · rw [hg]; exact dn_rd A.2.2.2.2.2 (dn_8r t i) (by omega)
    · rw [dr_la_y z, dt_sm_y z, ← nI_add, ← nI_1] at h
      rcases dr_fi_y hd h7 z with ⟨a, b⟩ | ⟨a, b⟩
      · rw [b] at h
        exact br_f (fun y => Int32.not_lt.mpr y a) (ly_r77 (dr_le_y hd h7 z) (dr_mo_y hd h7 z) h)
      · rw [b] at h
        exact br_t (Int32.not_lt.mp a) (ly_r77 (dr_le_y hd h7 z) (dr_mo_y hd h7 z) h)
    · obtain ⟨n1, n2, n3, n4, n5⟩ := dr_no (d := P 2 t) (g := g) z
      rw [n1, n2, n3, n4, n5] at h
      exact h
theorem ly_re {post : Int32 → Prop} (G : dt_G T P) (A : dy_A P bK bP bD bC bS bR) (ht : t < 5) {F : Nat} (hF : F < 256) (hh : ∀ i, P 3 t ≤ i → F.testBit i = false)
    (K : post (nI (dt_R P t F))) : wpY_result post (fT, fk, bK, bP, bD, bC, bS, bR, bX, bT) (nI t) (nI F) := by
  refine dn_eq F 0 rfl rfl (by omega) (by decide) (fun z => ⟨vp_in_nI (by omega) (by decide), ?_⟩) (fun z => ⟨vp_in_nI (by omega) (by decide), nm_r (dn_rd A.2.1 rfl (by omega)) ⟨9, ly_re1 G A ht hF z hh _ rfl K 8 0 (by omega)⟩⟩)
  subst z
  rw [dt_R0 G t] at K
  rw [dn_rd A.2.2.1 rfl (by omega)]
  exact K
theorem ly_co1 {post : Int32 → Prop} (G : dt_G T P) (A : dy_A P bK bP bD bC bS bR) (ht : t < T) {m : Nat} (hm : m < 512) {vl : Nat → Nat} (hX : ∀ v, v < 8 → bX (512 * v + m) = nI (vl v)) (hv : ∀ v, vl v ≤ 7)
    (K : post (nI (dt_comb (P 0 t) vl (dt_wd (P 0 t))))) : ∀ e c, c + e = dt_wd (P 0 t) → wY_combination_13 post (nI t) (nI m) fT fk bK bP bD bC bS bR bX bT (e + 1) (nI (P 0 t / 10 ^ c)) (nI (dt_comb (P 0 t) vl c)) (nI c) := by
  have hT := G.1
  have hw := dt_wd_in (P 0 t)
  have h9 := G.2.1 t
  intro e
  induction e with
  | zero =>
    intro c hc
    rw [wY_combination_13]
    refine ly_wd G A (t := t) (by omega) (br_t (nI_le (by omega) (by omega)) ?_)
    rw [show c = dt_wd (P 0 t) by omega]
    exact K
  | succ e ih =>
    intro c hc
    have hd := G.2.2.2.2.2.2.2 t ht c (by omega)
    have hq : P 0 t / 10 ^ c ≤ 999 := Nat.le_trans (Nat.div_le_self _ _) h9
    have hi : 512 * (nI (P 0 t / 10 ^ c) - nI (P 0 t / 10 ^ c) / 10 * 10) + nI m = nI (512 * (P 0 t / 10 ^ c % 10) + m) := by rw [dn_r10 (by omega), dn_512]
    have h7 := hv (P 0 t / 10 ^ c % 10)
    rw [wY_combination_13]
    refine ly_wd G A (t := t) (by omega) (br_f (nI_ge (by omega) (by omega)) ⟨by decide, pk_in (512 * (P 0 t / 10 ^ c % 10) + m) 4096 (by omega) hi, nm_r (e' := nI (dt_comb (P 0 t) vl (c + 1))) ?_ ⟨by decide, nm_r (e' := nI (P 0 t / 10 ^ (c + 1))) ?_ (nm_r (nI_1 c) (ih (c + 1) (by omega)))⟩⟩)
    · have h3 : vl (P 0 t / 10 ^ c % 10) * 2 ^ (3 * c) < 2 ^ 32 := by
        have h6 : 2 ^ (3 * c) ≤ 2 ^ 6 := dn_pl (by omega)
        have := Nat.mul_le_mul h7 h6
        omega
      rw [hi, nI_clamp (by omega), hX _ (by omega), dn_3, dn_shl (by omega) h3, dn_or]
      rfl
    · rw [dn_d10 (by omega), Nat.div_div_eq_div_mul, Nat.pow_succ]
theorem ly_co {post : Int32 → Prop} (G : dt_G T P) (A : dy_A P bK bP bD bC bS bR) (ht : t < T) {m : Nat} (hm : m < 512) {vl : Nat → Nat} (hX : ∀ v, v < 8 → bX (512 * v + m) = nI (vl v)) (hv : ∀ v, vl v ≤ 7)
    (K : post (nI (dt_comb (P 0 t) vl (dt_wd (P 0 t))))) : wpY_combination post (fT, fk, bK, bP, bD, bC, bS, bR, bX, bT) (nI t) (nI m) := by
  have hT := G.1
  refine ⟨vp_in_nI (by omega) (by decide), nm_r (e' := nI (P 0 t / 10 ^ 0)) ?_ ⟨dt_wd (P 0 t) + 1, ly_co1 G A ht hm hX hv K (dt_wd (P 0 t)) 0 (by omega)⟩⟩
  rw [dn_rd A.1 rfl (by omega), Nat.pow_zero, Nat.div_one]
/-- the first filling -/
theorem ly_w4 {post : SY → Prop} {J : Int32 → (Nat → Int32) → (Nat → Int32) → (Nat → Int32) → (Nat → Int32) → (Nat → Int32) → (Nat → Int32) → (Nat → Int32) → (Nat → Int32) → Prop} {v : Nat} (hv : v < 8)
    (K : ∀ bX : Nat → Int32, (∀ j, j < 512 * v + 512 → bX j = nI (dt_V P (j % 512) 0 (j / 512))) → J (nI (v + 1)) bK bP bD bC bS bR bX bT) :
    ∀ e m (bX : Nat → Int32), m + e = 512 → (∀ j, j < 512 * v + m → bX j = nI (dt_V P (j % 512) 0 (j / 512))) → wY_workOut_23 post J (nI v) fT fk (e + 1) (nI m) bK bP bD bC bS bR bX bT := by
  intro e
  induction e with
  | zero =>
    intro m bX hm hX
    rw [show m = 512 by omega] at hX
    exact br_t (nI_le (a := 512) (by omega) (by omega)) (nm_r (nI_1 v) (K bX hX))
  | succ e ih =>
    intro m bX hm hX
    have key : ∀ x : Int32, x = nI (dt_V P m 0 v) → ∀ j, j < 512 * v + (m + 1) → upd bX (512 * nI v + nI m).toNatClampNeg x j = nI (dt_V P (j % 512) 0 (j / 512)) := by
      intro x hx j hj
      rw [dn_512, nI_clamp (by omega)]
      by_cases e : j = 512 * v + m
      · subst e
        rw [pk_us, hx, show (512 * v + m) % 512 = m by omega, show (512 * v + m) / 512 = v by omega]
      · rw [pk_un e]
        exact hX j (by omega)
    refine br_f (nI_ge (b := 512) (by omega) (by decide)) (dn_le 3 v rfl rfl (by decide) (by omega) (fun z => ⟨pk_in (512 * v + m) 4096 (by omega) (dn_512 v m), nm_e (nm_r (nI_1 m) (ih (m + 1) _ (by omega) (key _ ?_)))⟩) (fun z => ⟨pk_in (512 * v + m) 4096 (by omega) (dn_512 v m), nm_e (nm_r (nI_1 m) (ih (m + 1) _ (by omega) (key _ ?_)))⟩))
    · show _ = nI (if v < 3 then _ else _)
      rw [if_neg (by omega)]
      rfl
    · show _ = nI (if v < 3 then _ else _)
      rw [if_pos (by omega), dn_x (by omega) (by omega)]
theorem ly_w2 {post : SY → Prop} {J : Int32 → (Nat → Int32) → (Nat → Int32) → (Nat → Int32) → (Nat → Int32) → (Nat → Int32) → (Nat → Int32) → (Nat → Int32) → (Nat → Int32) → Prop} (G : dt_G T P) (A : dy_A P bK bP bD bC bS bR) (ht : t < T)
    (K : ∀ bX : Nat → Int32, dy_V (t + 1) P bX → J (nI (t + 1)) bK bP bD bC bS bR bX bT) :
    ∀ e m (bX : Nat → Int32), m + e = 512 → (∀ j, j < 4096 → bX j = nI (if j % 512 < m then dt_V P (j % 512) (t + 1) (j / 512) else dt_V P (j % 512) t (j / 512))) → wY_workOut_83 post J (nI t) fT fk (e + 1) (nI m) bK bP bD bC bS bR bX bT := by
  have hT := G.1
  intro e
  induction e with
  | zero =>
    intro m bX hm hX
    refine br_t (nI_le (a := 512) (by omega) (by omega)) (nm_r (nI_1 t) (K bX ?_))
    intro j hj
    rw [hX j hj, if_pos (by omega)]
  | succ e ih =>
    intro m bX hm hX
    have hR : ∀ v, v < 8 → bX (512 * v + m) = nI (dt_V P m t v) := by
      intro v hv
      rw [hX _ (by omega), if_neg (by omega), show (512 * v + m) % 512 = m by omega, show (512 * v + m) / 512 = v by omega]
    have hI : 512 * (3 + nI t) + nI m = nI (512 * (3 + t) + m) := by rw [dn_3p, dn_512]
    refine br_f (nI_ge (b := 512) (by omega) (by decide)) (ly_co G A ht (by omega) hR (fun v => dt_V_le G m t v) (ly_fi G A (by omega) (Nat.lt_trans (dt_cK G t m t) (by decide)) (ly_re G A (by omega) (dt_F_lt G t _) (dt_F_hi P t _) ⟨pk_in (512 * (3 + t) + m) 4096 (by omega) hI, nm_e (nm_r (nI_1 m) (ih (m + 1) _ (by omega) ?_))⟩)))
    intro j hj
    rw [hI, nI_clamp (by omega)]
    by_cases e : j = 512 * (3 + t) + m
    · subst e
      rw [pk_us, if_pos (by omega), show (512 * (3 + t) + m) % 512 = m by omega, show (512 * (3 + t) + m) / 512 = 3 + t by omega]
      show _ = nI (if 3 + t = 3 + t then _ else _)
      rw [if_pos rfl]
    · rw [pk_un e, hX j hj]
      by_cases h1 : j % 512 < m
      · rw [if_pos h1, if_pos (by omega)]
      · rw [if_neg h1]
        by_cases h2 : j % 512 < m + 1
        · rw [if_pos h2]
          show _ = nI (if j / 512 = 3 + t then _ else _)
          rw [if_neg (by omega)]
        · rw [if_neg h2]
theorem ly_w1 {post : SY → Prop} (G : dt_G T P) (A : dy_A P bK bP bD bC bS bR) (K : ∀ bX : Nat → Int32, dy_V T P bX → post (nI T, fk, bK, bP, bD, bC, bS, bR, bX, bT)) :
    ∀ e i (bX : Nat → Int32), i + e = T → dy_V i P bX → wY_workOut_73 post (nI T) fk (e + 1) (nI i) bK bP bD bC bS bR bX bT := by
  have hT := G.1
  intro e
  induction e with
  | zero =>
    intro i bX hi hX
    rw [show i = T by omega] at hX
    exact br_t (nI_le (by omega) (by omega)) (K bX hX)
  | succ e ih =>
    intro i bX hi hX
    refine br_f (nI_ge (by omega) (by omega)) ⟨513, ly_w2 G A (by omega) (fun X' hX' => ih (i + 1) X' (by omega) hX') 512 0 bX (by omega) ?_⟩
    intro j hj
    rw [if_neg (by omega)]
    exact hX j hj
theorem ly_w0 {post : SY → Prop} (G : dt_G T P) (A : dy_A P bK bP bD bC bS bR) (K : ∀ bX : Nat → Int32, dy_V T P bX → post (nI T, fk, bK, bP, bD, bC, bS, bR, bX, bT)) :
    ∀ e i (bX : Nat → Int32), i + e = 8 → (∀ j, j < 512 * i → bX j = nI (dt_V P (j % 512) 0 (j / 512))) → wY_workOut_15 post (nI T) fk (e + 1) (nI i) bK bP bD bC bS bR bX bT := by
  intro e
  induction e with
  | zero =>
    intro i bX hi hX
    rw [show i = 8 by omega] at hX
    exact br_t (nI_le (a := 8) (by omega) (by omega)) ⟨T + 1, ly_w1 G A K T 0 bX (by omega) hX⟩
  | succ e ih =>
    intro i bX hi hX
    exact br_f (nI_ge (b := 8) (by omega) (by decide)) ⟨513, ly_w4 (by omega) (fun X' hX' => ih (i + 1) X' (by omega) hX') 512 0 bX (by omega) hX⟩
theorem ly_wo {post : SY → Prop} (G : dt_G T P) (A : dy_A P bK bP bD bC bS bR) (hk : fk = 0 ∨ (fk = 1 ∧ dy_V T P bX)) (K : ∀ bX : Nat → Int32, dy_V T P bX → post (nI T, 1, bK, bP, bD, bC, bS, bR, bX, bT)) : wpY_workOut post (nI T, fk, bK, bP, bD, bC, bS, bR, bX, bT) := by
  rcases hk with rfl | ⟨rfl, hX⟩
  · exact br_t rfl ⟨9, ly_w0 G A K 8 0 bX (by omega) (fun j hj => absurd hj (by omega))⟩
  · exact br_f (by decide) (K bX hX)
theorem dy_rd (hX : dy_V T P bX) {v m : Nat} (hv : v < 8) (hm : m < 512) {x : Int32} (hx : x = nI (512 * v + m)) : bX x.toNatClampNeg = nI (dt_V P m T v) := by
  rw [hx, nI_clamp (by omega), hX _ (by omega), show (512 * v + m) % 512 = m by omega, show (512 * v + m) / 512 = v by omega]
end
end
section
theorem dn_ix (x : Int32) (n : Nat) (hn : n < 2 ^ 31) : (x < 0 ∨ nI n ≤ x) ∨ ∃ j : Nat, j < n ∧ x = nI j := by
  rcases pk_ix x hn with h | h | h
  · exact Or.inl (Or.inl h)
  · exact Or.inl (Or.inr h)
  · exact Or.inr h
theorem dn_e0 {a : Nat} (h : a < 2 ^ 31) : nI a = 0 ↔ a = 0 := nI_eq (b := 0) h (by decide)
theorem dn_all1 {A : Prop} {B : Prop} {x : Bool} (f : x = false → A) (g : x = true → B) : (dn_B x = 0 → A) ∧ (¬ dn_B x = 0 → B) := by
  cases x with
  | false => exact br_t rfl (f rfl)
  | true => exact br_f (by decide) (g rfl)
theorem dn_7 {i : Nat} (hi : i < 3) : (7 : Int32) <<< ((3 * nI i) &&& 31) = nI (7 * 2 ^ (3 * i)) := by
  have h6 : 2 ^ (3 * i) ≤ 2 ^ 6 := dn_pl (by omega)
  rw [dn_3]
  exact dn_shl (n := 7) (by omega) (by omega)
theorem dt_meet_f {a w c : Nat} (hc : c < w) (h : a / 2 ^ (8 * c) % 256 = 0) : dt_meet a w = false := by
  induction w with
  | zero => exact absurd hc (by omega)
  | succ w ih =>
    show (dt_meet a w && decide (a / 2 ^ (8 * w) % 256 ≠ 0)) = false
    by_cases e : c = w
    · subst e
      rw [h, decide_eq_false (fun z => z rfl), Bool.and_false]
    · rw [ih (by omega), Bool.false_and]
section
variable {fT : Int32} {aW aP aD aC aK aS aR aX : Nat → Int32} {P : Nat → Nat → Nat} {T t : Nat}
theorem lx_va_n {post : Int32 → Prop} {x : Int32} (h : x < 0 ∨ nI 8 ≤ x) (K : post 0) : wpX_isVariable post (fT, aW, aP, aD, aC, aK, aS, aR, aX) x := by
  by_cases z : x < 0
  · exact br_t z K
  · exact br_f z (br_t (h.resolve_left z) K)
theorem lx_va_y {post : Int32 → Prop} {j : Nat} (hj : j < 8) (K : post 1) : wpX_isVariable post (fT, aW, aP, aD, aC, aK, aS, aR, aX) (nI j) := br_f (nI_pos (by omega)) (br_f (nI_ge (b := 8) hj (by decide)) K)
theorem lx_vl_n {post : Int32 → Prop} {x : Int32} (h : x < 0 ∨ nI 8 ≤ x) (K : post 0) : wpX_isValue post (fT, aW, aP, aD, aC, aK, aS, aR, aX) x := by
  by_cases z : x < 0
  · exact br_t z K
  · exact br_f z (br_t (h.resolve_left z) K)
theorem lx_vl_y {post : Int32 → Prop} {j : Nat} (hj : j < 8) (K : post 1) : wpX_isValue post (fT, aW, aP, aD, aC, aK, aS, aR, aX) (nI j) := br_f (nI_pos (by omega)) (br_f (nI_ge (b := 8) hj (by decide)) K)
theorem lx_ca_n {post : Int32 → Prop} {x : Int32} (h : x < 0 ∨ nI 512 ≤ x) (K : post 0) : wpX_isCase post (fT, aW, aP, aD, aC, aK, aS, aR, aX) x := by
  by_cases z : x < 0
  · exact br_t z K
  · exact br_f z (br_t (h.resolve_left z) K)
theorem lx_ca_y {post : Int32 → Prop} {j : Nat} (hj : j < 512) (K : post 1) : wpX_isCase post (fT, aW, aP, aD, aC, aK, aS, aR, aX) (nI j) := br_f (nI_pos (by omega)) (br_f (nI_ge (b := 512) hj (by decide)) K)
theorem lx_ta_n {post : Int32 → Prop} {x : Int32} (h : x < 0 ∨ nI T ≤ x) (K : post 0) : wpX_isTable post (nI T, aW, aP, aD, aC, aK, aS, aR, aX) x := by
  by_cases z : x < 0
  · exact br_t z K
  · exact br_f z (br_t (h.resolve_left z) K)
theorem lx_ta_y {post : Int32 → Prop} {j : Nat} (hT : T ≤ 5) (hj : j < T) (K : post 1) : wpX_isTable post (nI T, aW, aP, aD, aC, aK, aS, aR, aX) (nI j) := br_f (nI_pos (by omega)) (br_f (nI_ge hj (by omega)) K)
theorem lx_cb {post : Int32 → Prop} (G : dt_G T P) (A : dx_A T P aW aP aD aC aK aS aR) (ht : t < T) (K : post (nI (2 ^ (3 * dt_wd (P 0 t))))) : wpX_combinationsOf post (fT, aW, aP, aD, aC, aK, aS, aR, aX) (nI t) := by
  have hT := G.1
  have hw := dt_wd_in (P 0 t)
  refine ⟨vp_in_nI (by omega) (by decide), ?_⟩
  rw [nI_clamp (by omega), A.1 t ht, dn_3, dn_one (by omega)]
  exact K
theorem dt_N {P : Nat → Nat → Nat} (t : Nat) : 2 ^ (3 * dt_wd (P 0 t)) ≤ 512 := dn_pl (b := 9) (by have := dt_wd_in (P 0 t); omega)
theorem lx_gaps1 {post : Int32 → Prop} (G : dt_G T P) (A : dx_A T P aW aP aD aC aK aS aR) (ht : t < T) {N : Nat} (hN : N ≤ 512) (K : post (nI (dt_cnt (fun k => decide (dt_F P t k = 0)) N))) :
    ∀ e i, i + e = N → wX_gaps_21 post (nI t) (nI N) fT aW aP aD aC aK aS aR aX (e + 1) (nI (dt_cnt (fun k => decide (dt_F P t k = 0)) i)) (nI i) := by
  intro e
  induction e with
  | zero =>
    intro i hi
    refine br_t (nI_le (by omega) (by omega)) ?_
    rw [show i = N by omega]
    exact K
  | succ e ih =>
    intro i hi
    have h := ih (i + 1) (by omega)
    have hF := dt_F_lt G t i
    refine br_f (nI_ge (by omega) (by omega)) (lx_fa G A ht (by omega) (dn_iff (dn_e0 (by omega)) (fun z => nm_r (nI_1 _) (nm_r (nI_1 i) ?_)) (fun z => nm_r (nI_1 i) ?_)))
    · rw [dt_cnt_y (p := fun k => decide (dt_F P t k = 0)) (decide_eq_true z)] at h
      exact h
    · rw [dt_cnt_n (p := fun k => decide (dt_F P t k = 0)) (fun y => z (of_decide_eq_true y))] at h
      exact h
theorem lx_gaps {post : Int32 → Prop} (G : dt_G T P) (A : dx_A T P aW aP aD aC aK aS aR) (ht : t < T) (K : post (nI (dt_cnt (fun k => decide (dt_F P t k = 0)) (2 ^ (3 * dt_wd (P 0 t)))))) : wpX_gaps post (nI T, aW, aP, aD, aC, aK, aS, aR, aX) (nI t) := by
  unfold wpX_gaps
  exact lx_ta_y G.1 ht (br_f (by decide) (lx_cb G A ht ⟨_, lx_gaps1 G A ht (dt_N t) K _ 0 (Nat.zero_add _)⟩))
theorem lx_me1 {post : Int32 → Prop} (G : dt_G T P) (A : dx_A T P aW aP aD aC aK aS aR) (ht : t < T) {a : Nat} (ha : a < 2 ^ 31) (K : post (dn_B (dt_meet a (dt_wd (P 0 t))))) :
    ∀ e c, c + e = dt_wd (P 0 t) → dt_meet a c = true → wX_meet_28 post (nI t) (nI a) fT aW aP aD aC aK aS aR aX (e + 1) (nI c) := by
  have hT := G.1
  have hw := dt_wd_in (P 0 t)
  have hW : aW (nI t).toNatClampNeg = nI (dt_wd (P 0 t)) := by rw [nI_clamp (by omega)]; exact A.1 t ht
  intro e
  induction e with
  | zero =>
    intro c hc hm
    refine ⟨vp_in_nI (by omega) (by decide), br_t ?_ ?_⟩
    · rw [hW]; exact nI_le (by omega) (by omega)
    · rw [← show c = dt_wd (P 0 t) by omega, hm] at K
      exact K
  | succ e ih =>
    intro c hc hm
    refine ⟨vp_in_nI (by omega) (by decide), br_f ?_ (dn_iff (d := a / 2 ^ (8 * c) % 256 = 0) ?_ (fun z => ?_) (fun z => nm_r (nI_1 c) (ih (c + 1) (by omega) ?_)))⟩
    · rw [hW]; exact nI_ge (by omega) (by omega)
    · rw [dn_8, dn_shr (by omega) ha, dn_m255 (Nat.lt_of_le_of_lt (Nat.div_le_self _ _) ha), dn_e0 (by omega)]
    · rw [dt_meet_f (by omega) z] at K
      exact K
    · show (dt_meet a c && decide (a / 2 ^ (8 * c) % 256 ≠ 0)) = true
      rw [hm, decide_eq_true z]
      rfl
theorem lx_me {post : Int32 → Prop} (G : dt_G T P) (A : dx_A T P aW aP aD aC aK aS aR) (ht : t < T) {r s : Nat} (hr : r < 8) (hs : s < 8) (K : post (dn_B (dt_q P t r s))) : wpX_meet post (fT, aW, aP, aD, aC, aK, aS, aR, aX) (nI t) (nI r) (nI s) := by
  have hT := G.1
  have h1 := G.2.2.2.2.2.1 (8 * t + r)
  refine ⟨pk_in (8 * t + r) 40 (by omega) (dn_8r t r), pk_in (8 * t + s) 40 (by omega) (dn_8r t s), nm_r (e' := nI (P 4 (8 * t + r) &&& P 4 (8 * t + s))) ?_ ⟨_, lx_me1 G A ht (Nat.lt_of_le_of_lt Nat.and_le_left (by omega)) K _ 0 (Nat.zero_add _) rfl⟩⟩
  rw [dn_rd A.2.2.2.2.2.1 (dn_8r t r) (by omega), dn_rd A.2.2.2.2.2.1 (dn_8r t s) (by omega), nx_and]
theorem lx_ov2 {post : Int32 → Prop} (G : dt_G T P) (A : dx_A T P aW aP aD aC aK aS aR) (ht : t < T) {r b : Nat} (hr : r < 8) {J : Int32 → Int32 → Prop} (K : J (nI (b + dt_row (dt_q P t) (P 3 t) r)) (nI (r + 1))) :
    ∀ e s, s + e = P 3 t → r < s → wX_overlaps_29 post J (nI t) (nI r) fT aW aP aD aC aK aS aR aX (e + 1) (nI (b + dt_row (dt_q P t) s r)) (nI s) := by
  have hT := G.1
  have h8 := G.2.2.2.2.1 t
  have hc : aC (nI t).toNatClampNeg = nI (P 3 t) := dn_rd A.2.2.2.1 rfl (by omega)
  intro e
  induction e with
  | zero =>
    intro s hs hrs
    refine ⟨vp_in_nI (by omega) (by decide), br_t ?_ (nm_r (nI_1 r) ?_)⟩
    · rw [hc]; exact nI_le (by omega) (by omega)
    · rw [show s = P 3 t by omega]; exact K
  | succ e ih =>
    intro s hs hrs
    have h := ih (s + 1) (by omega) (by omega)
    refine ⟨vp_in_nI (by omega) (by decide), br_f ?_ (lx_me G A ht hr (by omega) (dn_all1 (fun z => nm_r (nI_1 s) ?_) (fun z => nm_r (nI_1 _) (nm_r (nI_1 s) ?_))))⟩
    · rw [hc]; exact nI_ge (by omega) (by omega)
    · unfold dt_row at h
      rw [dt_cnt_n (by rw [z, Bool.and_false]; exact fun y => nomatch y)] at h
      exact h
    · unfold dt_row at h
      rw [dt_cnt_y (by rw [z, decide_eq_true hrs]; rfl)] at h
      exact h
theorem lx_ov1 {post : Int32 → Prop} (G : dt_G T P) (A : dx_A T P aW aP aD aC aK aS aR) (ht : t < T) (K : post (nI (dt_ovl P t))) :
    ∀ e r, r + e = P 3 t → wX_overlaps_14 post (nI t) fT aW aP aD aC aK aS aR aX (e + 1) (nI (dt_prs (dt_q P t) (P 3 t) r)) (nI r) := by
  have hT := G.1
  have h8 := G.2.2.2.2.1 t
  have hc : aC (nI t).toNatClampNeg = nI (P 3 t) := dn_rd A.2.2.2.1 rfl (by omega)
  intro e
  induction e with
  | zero =>
    intro r hr
    refine ⟨vp_in_nI (by omega) (by decide), br_t ?_ ?_⟩
    · rw [hc]; exact nI_le (by omega) (by omega)
    · rw [show r = P 3 t by omega]; exact K
  | succ e ih =>
    intro r hr
    have h := lx_ov2 (post := post) (fT := fT) (aX := aX) G A ht (b := dt_prs (dt_q P t) (P 3 t) r) (by omega) (ih (r + 1) (by omega)) e (r + 1) (by omega) (by omega)
    rw [dt_row0, Nat.add_zero] at h
    refine ⟨vp_in_nI (by omega) (by decide), br_f ?_ (nm_r (nI_1 r) ⟨e + 1, h⟩)⟩
    rw [hc]; exact nI_ge (by omega) (by omega)
theorem lx_over {post : Int32 → Prop} (G : dt_G T P) (A : dx_A T P aW aP aD aC aK aS aR) (ht : t < T) (K : post (nI (dt_ovl P t))) : wpX_overlaps post (nI T, aW, aP, aD, aC, aK, aS, aR, aX) (nI t) := by
  unfold wpX_overlaps
  exact lx_ta_y G.1 ht (br_f (by decide) ⟨_, lx_ov1 G A ht K _ 0 (Nat.zero_add _)⟩)
theorem lx_nl1 {post : Int32 → Prop} (G : dt_G T P) (A : dx_A T P aW aP aD aC aK aS aR) (ht : t < T) {r N : Nat} (hr : r < 8) (hN : N ≤ 512) (K : post (dn_B (dt_all (dt_np P t r) N))) :
    ∀ e k, k + e = N → (∀ j, j < k → dt_np P t r j = true) → wX_isNeedless_9 post (nI t) (nI r) (nI N) fT aW aP aD aC aK aS aR aX (e + 1) (nI k) := by
  intro e
  induction e with
  | zero =>
    intro k hk hp
    refine br_t (nI_le (by omega) (by omega)) ?_
    rw [dt_all_t (fun i hi => hp i (by omega))] at K
    exact K
  | succ e ih =>
    intro k hk hp
    have hF := dt_F_lt G t k
    have h1 := dt_R_le G t (dt_F P t k)
    have h2 := dt_R_le G t (dn_an (dt_F P t k) (2 ^ r))
    refine br_f (nI_ge (by omega) (by omega)) (lx_fa G A ht (by omega) (lx_ro G A ht (by omega) ?_))
    rw [dn_one (by omega), dn_anI]
    refine lx_ro G A ht (Nat.lt_trans (dn_an_lt (n := 8) _ hF) (by decide)) (dn_eq _ _ rfl rfl (by omega) (by omega) (fun z => nm_r (nI_1 k) (ih (k + 1) (by omega) ?_)) (fun z => ?_))
    · exact lt_s hp (decide_eq_true z)
    · rw [dt_all_f (i := k) (by omega) (fun y => z (of_decide_eq_true y))] at K
      exact K
theorem lx_nl {post : Int32 → Prop} (G : dt_G T P) (A : dx_A T P aW aP aD aC aK aS aR) (ht : t < T) {r : Nat} (hr : r < 8) (K : post (dn_B (dt_all (dt_np P t r) (2 ^ (3 * dt_wd (P 0 t)))))) : wpX_isNeedless post (fT, aW, aP, aD, aC, aK, aS, aR, aX) (nI t) (nI r) := by
  unfold wpX_isNeedless
  exact lx_cb G A ht ⟨_, lx_nl1 G A ht hr (dt_N t) K _ 0 (Nat.zero_add _) lt_0⟩
theorem lx_ne1 {post : Int32 → Prop} (G : dt_G T P) (A : dx_A T P aW aP aD aC aK aS aR) (ht : t < T) (p : Nat → Bool) (hp : p = fun i => dt_all (dt_np P t i) (2 ^ (3 * dt_wd (P 0 t)))) (K : post (nI (dt_bits p (P 3 t)))) :
    ∀ e r, r + e = P 3 t → wX_needless_14 post (nI t) fT aW aP aD aC aK aS aR aX (e + 1) (nI (dt_bits p r)) (nI r) := by
  have hT := G.1
  have h8 := G.2.2.2.2.1 t
  have hc : aC (nI t).toNatClampNeg = nI (P 3 t) := dn_rd A.2.2.2.1 rfl (by omega)
  intro e
  induction e with
  | zero =>
    intro r hr
    refine ⟨vp_in_nI (by omega) (by decide), br_t ?_ ?_⟩
    · rw [hc]; exact nI_le (by omega) (by omega)
    · rw [show r = P 3 t by omega]; exact K
  | succ e ih =>
    intro r hr
    have h := ih (r + 1) (by omega)
    refine ⟨vp_in_nI (by omega) (by decide), br_f ?_ (lx_nl G A ht (by omega) (dn_all1 (fun z => nm_r (nI_1 r) ?_) (fun z => nm_r (e' := nI (dt_bits p (r + 1))) ?_ (nm_r (nI_1 r) h))))⟩
    · rw [hc]; exact nI_ge (by omega) (by omega)
    · rw [← dt_bits_s0 (by rw [hp]; show ¬ dt_all (dt_np P t r) _ = true; rw [z]; exact fun y => nomatch y)] at h
      exact h
    · rw [dn_one (by omega), dn_or, dt_bits_s1 (by rw [hp]; exact z)]
theorem lx_need {post : Int32 → Prop} (G : dt_G T P) (A : dx_A T P aW aP aD aC aK aS aR) (ht : t < T) (K : post (nI (dt_ndl P t))) : wpX_needless post (nI T, aW, aP, aD, aC, aK, aS, aR, aX) (nI t) := by
  unfold wpX_needless
  exact lx_ta_y G.1 ht (br_f (by decide) ⟨_, lx_ne1 G A ht _ rfl K _ 0 (Nat.zero_add _)⟩)
end
end
section
theorem dt_ff_y {p : Nat → Bool} {d i : Nat} (h : p i = true) : dt_ff p (d + 1) i = nI i := by
  show (if p i = true then nI i else _) = _
  rw [if_pos h]
theorem dt_ff_n {p : Nat → Bool} {d i : Nat} (h : ¬ p i = true) : dt_ff p (d + 1) i = dt_ff p d (i + 1) := by
  show (if p i = true then nI i else _) = _
  rw [if_neg h]
def dt_rch (T : Nat) (P : Nat → Nat → Nat) (t m : Nat) : Nat := dt_F P t (dt_K T P m t)
def dt_unr (T : Nat) (P : Nat → Nat → Nat) (t : Nat) : Nat := dn_an (2 ^ (P 3 t) - 1) (dt_oor (dt_rch T P t) 512)
def dt_pos (T : Nat) (P : Nat → Nat → Nat) (v : Nat) : Nat := dt_oor (fun m => 2 ^ (dt_V P m T v)) 512
def dt_f (T : Nat) (P : Nat → Nat → Nat) (v m : Nat) : Nat := dt_V P m T v
section
variable {fT : Int32} {aW aP aD aC aK aS aR aX : Nat → Int32} {P : Nat → Nat → Nat} {T t : Nat}
theorem lx_value {post : Int32 → SX → Prop} (G : dt_G T P) (A : dx_A T P aW aP aD aC aK aS aR) {m v : Nat} (hm : m < 512) (hv : v < 8) (K : ∀ X' : Nat → Int32, post (nI (dt_V P m T v)) (nI T, aW, aP, aD, aC, aK, aS, aR, X')) : wpX_value post (nI T, aW, aP, aD, aC, aK, aS, aR, aX) (nI v) (nI m) := by
  unfold wpX_value
  exact lx_va_y hv (br_f (by decide) (lx_ca_y hm (br_f (by decide) (lx_vi G A hm hv K))))
theorem lx_fires {post : Int32 → SX → Prop} (G : dt_G T P) (A : dx_A T P aW aP aD aC aK aS aR) {m : Nat} (hm : m < 512) (ht : t < T) (K : ∀ X' : Nat → Int32, post (nI (dt_rch T P t m)) (nI T, aW, aP, aD, aC, aK, aS, aR, X')) : wpX_fires post (nI T, aW, aP, aD, aC, aK, aS, aR, aX) (nI t) (nI m) := by
  unfold wpX_fires
  exact lx_ta_y G.1 ht (br_f (by decide) (lx_ca_y hm (br_f (by decide) (lx_fi G A hm ht K))))
theorem lx_un1 {post : Int32 → SX → Prop} (G : dt_G T P) (A : dx_A T P aW aP aD aC aK aS aR) (ht : t < T) (K : ∀ X' : Nat → Int32, post (nI (dt_unr T P t)) (nI T, aW, aP, aD, aC, aK, aS, aR, X')) :
    ∀ e i (aX : Nat → Int32), i + e = 512 → wX_unreached_14 post (nI t) (e + 1) (nI (dt_oor (dt_rch T P t) i)) (nI i) (nI T) aW aP aD aC aK aS aR aX := by
  have hT := G.1
  have h8 := G.2.2.2.2.1 t
  intro e
  induction e with
  | zero =>
    intro i aX hi
    refine br_t (nI_le (a := 512) (by omega) (by omega)) ⟨vp_in_nI (by omega) (by decide), nm_r (e' := nI (2 ^ (P 3 t) - 1)) ?_ ?_⟩
    · rw [dn_rd A.2.2.2.1 rfl (by omega), dn_one (by omega)]
      exact pk_sub (b := 1) (Nat.two_pow_pos _)
    · rw [dn_anI, show i = 512 by omega]
      exact K aX
  | succ e ih =>
    intro i aX hi
    refine br_f (nI_ge (b := 512) (by omega) (by decide)) (lx_fi G A (by omega) ht (fun X' => nm_r (dn_or _ _) (nm_r (nI_1 i) (ih (i + 1) X' (by omega)))))
theorem lx_unr {post : Int32 → SX → Prop} (G : dt_G T P) (A : dx_A T P aW aP aD aC aK aS aR) (ht : t < T) (K : ∀ X' : Nat → Int32, post (nI (dt_unr T P t)) (nI T, aW, aP, aD, aC, aK, aS, aR, X')) : wpX_unreached post (nI T, aW, aP, aD, aC, aK, aS, aR, aX) (nI t) := by
  unfold wpX_unreached
  exact lx_ta_y G.1 ht (br_f (by decide) ⟨_, lx_un1 G A ht K 512 0 aX (Nat.zero_add _)⟩)
theorem lx_ct1 {post : Int32 → SX → Prop} (G : dt_G T P) (A : dx_A T P aW aP aD aC aK aS aR) {v x : Nat} (hv : v < 8) (hx : x < 8) (K : ∀ X' : Nat → Int32, post (nI (dt_cnt (fun m => decide (dt_V P m T v = x)) 512)) (nI T, aW, aP, aD, aC, aK, aS, aR, X')) :
    ∀ e i (aX : Nat → Int32), i + e = 512 → wX_count_23 post (nI v) (nI x) (e + 1) (nI (dt_cnt (fun m => decide (dt_V P m T v = x)) i)) (nI i) (nI T) aW aP aD aC aK aS aR aX := by
  intro e
  induction e with
  | zero =>
    intro i aX hi
    refine br_t (nI_le (a := 512) (by omega) (by omega)) ?_
    rw [show i = 512 by omega]
    exact K aX
  | succ e ih =>
    intro i aX hi
    have h7 := dt_V_le G i T v
    refine br_f (nI_ge (b := 512) (by omega) (by decide)) (lx_vi G A (by omega) hv (fun X' => ?_))
    have h := ih (i + 1) X' (by omega)
    refine dn_eq _ _ rfl rfl (by omega) (by omega) (fun z => nm_r (nI_1 _) (nm_r (nI_1 i) ?_)) (fun z => nm_r (nI_1 i) ?_)
    · rw [dt_cnt_y (p := fun m => decide (dt_V P m T v = x)) (decide_eq_true z)] at h
      exact h
    · rw [dt_cnt_n (p := fun m => decide (dt_V P m T v = x)) (fun y => z (of_decide_eq_true y))] at h
      exact h
theorem lx_cnt {post : Int32 → SX → Prop} (G : dt_G T P) (A : dx_A T P aW aP aD aC aK aS aR) {v x : Nat} (hv : v < 8) (hx : x < 8) (K : ∀ X' : Nat → Int32, post (nI (dt_cnt (fun m => decide (dt_V P m T v = x)) 512)) (nI T, aW, aP, aD, aC, aK, aS, aR, X')) : wpX_count post (nI T, aW, aP, aD, aC, aK, aS, aR, aX) (nI v) (nI x) := by
  unfold wpX_count
  exact lx_va_y hv (br_f (by decide) (lx_vl_y hx (br_f (by decide) ⟨_, lx_ct1 G A hv hx K 512 0 aX (Nat.zero_add _)⟩)))
theorem lx_fs1 {post : Int32 → SX → Prop} (G : dt_G T P) (A : dx_A T P aW aP aD aC aK aS aR) {v x : Nat} (hv : v < 8) (hx : x < 8) :
    ∀ e i (aX : Nat → Int32), i + e = 512 → (∀ X' : Nat → Int32, post (dt_ff (fun m => decide (dt_V P m T v = x)) e i) (nI T, aW, aP, aD, aC, aK, aS, aR, X')) → wX_first_20 post (nI v) (nI x) (e + 1) (nI i) (nI T) aW aP aD aC aK aS aR aX := by
  intro e
  induction e with
  | zero =>
    intro i aX hi K
    exact br_t (nI_le (a := 512) (by omega) (by omega)) (K aX)
  | succ e ih =>
    intro i aX hi K
    have h7 := dt_V_le G i T v
    refine br_f (nI_ge (b := 512) (by omega) (by decide)) (lx_vi G A (by omega) hv (fun X' => ?_))
    refine dn_eq _ _ rfl rfl (by omega) (by omega) (fun z => ?_) (fun z => nm_r (nI_1 i) (ih (i + 1) X' (by omega) ?_))
    · rw [dt_ff_y (p := fun m => decide (dt_V P m T v = x)) (decide_eq_true z)] at K
      exact K X'
    · rw [dt_ff_n (p := fun m => decide (dt_V P m T v = x)) (fun y => z (of_decide_eq_true y))] at K
      exact K
theorem lx_fst {post : Int32 → SX → Prop} (G : dt_G T P) (A : dx_A T P aW aP aD aC aK aS aR) {v x : Nat} (hv : v < 8) (hx : x < 8) (K : ∀ X' : Nat → Int32, post (dt_ff (fun m => decide (dt_V P m T v = x)) 512 0) (nI T, aW, aP, aD, aC, aK, aS, aR, X')) : wpX_first post (nI T, aW, aP, aD, aC, aK, aS, aR, aX) (nI v) (nI x) := by
  unfold wpX_first
  exact lx_va_y hv (br_f (by decide) (lx_vl_y hx (br_f (by decide) ⟨_, lx_fs1 G A hv hx 512 0 aX (Nat.zero_add _) K⟩)))
theorem lx_po1 {post : Int32 → SX → Prop} (G : dt_G T P) (A : dx_A T P aW aP aD aC aK aS aR) {v : Nat} (hv : v < 8) (K : ∀ X' : Nat → Int32, post (nI (dt_pos T P v)) (nI T, aW, aP, aD, aC, aK, aS, aR, X')) :
    ∀ e i (aX : Nat → Int32), i + e = 512 → wX_possible_14 post (nI v) (e + 1) (nI (dt_oor (fun m => 2 ^ (dt_V P m T v)) i)) (nI i) (nI T) aW aP aD aC aK aS aR aX := by
  intro e
  induction e with
  | zero =>
    intro i aX hi
    refine br_t (nI_le (a := 512) (by omega) (by omega)) ?_
    rw [show i = 512 by omega]
    exact K aX
  | succ e ih =>
    intro i aX hi
    have h7 := dt_V_le G i T v
    refine br_f (nI_ge (b := 512) (by omega) (by decide)) (lx_vi G A (by omega) hv (fun X' => nm_r (e' := nI (dt_oor (fun m => 2 ^ (dt_V P m T v)) (i + 1))) ?_ (nm_r (nI_1 i) (ih (i + 1) X' (by omega)))))
    rw [dn_one (by omega), dn_or]
    rfl
theorem lx_pos {post : Int32 → SX → Prop} (G : dt_G T P) (A : dx_A T P aW aP aD aC aK aS aR) {v : Nat} (hv : v < 8) (K : ∀ X' : Nat → Int32, post (nI (dt_pos T P v)) (nI T, aW, aP, aD, aC, aK, aS, aR, X')) : wpX_possible post (nI T, aW, aP, aD, aC, aK, aS, aR, aX) (nI v) := by
  unfold wpX_possible
  exact lx_va_y hv (br_f (by decide) ⟨_, lx_po1 G A hv K 512 0 aX (Nat.zero_add _)⟩)
theorem lx_dp2 {post : Int32 → SX → Prop} (G : dt_G T P) (A : dx_A T P aW aP aD aC aK aS aR) {v i b : Nat} (hv : v < 8) (hi : i < 3) {J : Int32 → Int32 → Int32 → (Nat → Int32) → (Nat → Int32) → (Nat → Int32) → (Nat → Int32) → (Nat → Int32) → (Nat → Int32) → (Nat → Int32) → (Nat → Int32) → Prop}
    (K : ∀ aX : Nat → Int32, J (nI (b ||| (if dt_all (dt_depX (dt_f T P v) i) 512 = true then 0 else 2 ^ i))) (nI (i + 1)) (nI T) aW aP aD aC aK aS aR aX) :
    ∀ e m (aX : Nat → Int32), m + e = 512 → wX_depends_22 post J (nI v) (nI i) (e + 1) (nI (b ||| (if dt_all (dt_depX (dt_f T P v) i) m = true then 0 else 2 ^ i))) (nI m) (nI T) aW aP aD aC aK aS aR aX := by
  intro e
  induction e with
  | zero =>
    intro m aX hm
    refine br_t (nI_le (a := 512) (by omega) (by omega)) (nm_r (nI_1 i) ?_)
    rw [show m = 512 by omega]
    exact K aX
  | succ e ih =>
    intro m aX hm
    have h7 := dt_V_le G m T v
    have h7' := dt_V_le G (dn_an m (7 * 2 ^ (3 * i))) T v
    have hl : dn_an m (7 * 2 ^ (3 * i)) < 512 := dn_an_lt (n := 9) _ (by omega)
    refine br_f (nI_ge (b := 512) (by omega) (by decide)) (lx_vi G A (by omega) hv (fun X' => ?_))
    show wpX_valueIn _ _ (nI v) (nI m &&& (((7 : Int32) <<< ((3 * nI i) &&& 31)) ^^^ (-1)))
    rw [dn_7 hi, dn_anI]
    refine lx_vi G A hl hv (fun X' => ?_)
    have h := ih (m + 1) X' (by omega)
    have ea : dt_all (dt_depX (dt_f T P v) i) (m + 1) = (dt_all (dt_depX (dt_f T P v) i) m && dt_depX (dt_f T P v) i m) := rfl
    refine dn_eq _ _ rfl rfl (by omega) (by omega) (fun z => nm_r (nI_1 m) ?_) (fun z => nm_r (e' := nI (b ||| 2 ^ i)) ?_ (nm_r (nI_1 m) ?_))
    · rw [ea, show dt_depX (dt_f T P v) i m = true from decide_eq_true z, Bool.and_true] at h
      exact h
    · rw [dn_one (by omega), dn_or, Nat.or_assoc]
      by_cases y : dt_all (dt_depX (dt_f T P v) i) m = true
      · rw [if_pos y, Nat.zero_or]
      · rw [if_neg y, Nat.or_self]
    · rw [ea, show dt_depX (dt_f T P v) i m = false from decide_eq_false z, Bool.and_false, if_neg (fun y => nomatch y)] at h
      exact h
theorem lx_dp1 {post : Int32 → SX → Prop} (G : dt_G T P) (A : dx_A T P aW aP aD aC aK aS aR) {v : Nat} (hv : v < 8) (K : ∀ X' : Nat → Int32, post (nI (dt_bits (fun i => !dt_all (dt_depX (dt_f T P v) i) 512) 3)) (nI T, aW, aP, aD, aC, aK, aS, aR, X')) :
    ∀ e i (aX : Nat → Int32), i + e = 3 → wX_depends_14 post (nI v) (e + 1) (nI (dt_bits (fun i => !dt_all (dt_depX (dt_f T P v) i) 512) i)) (nI i) (nI T) aW aP aD aC aK aS aR aX := by
  intro e
  induction e with
  | zero =>
    intro i aX hi
    refine br_t (nI_le (a := 3) (by omega) (by omega)) ?_
    rw [show i = 3 by omega]
    exact K aX
  | succ e ih =>
    intro i aX hi
    have h := lx_dp2 (post := post) (J := wX_depends_14 post (nI v) (e + 1)) (b := dt_bits (fun i => !dt_all (dt_depX (dt_f T P v) i) 512) i) G A hv (show i < 3 by omega) (fun X' => ?_) 512 0 aX (Nat.zero_add _)
    · refine br_f (nI_ge (b := 3) (by omega) (by decide)) ⟨512 + 1, ?_⟩
      rw [show dt_all (dt_depX (dt_f T P v) i) 0 = true from rfl, if_pos rfl, Nat.or_zero] at h
      exact h
    · have h2 := ih (i + 1) X' (by omega)
      have eb : dt_bits (fun i => !dt_all (dt_depX (dt_f T P v) i) 512) (i + 1) = dt_bits (fun i => !dt_all (dt_depX (dt_f T P v) i) 512) i ||| (if (!dt_all (dt_depX (dt_f T P v) i) 512) = true then 2 ^ i else 0) := rfl
      rw [eb] at h2
      cases hb : dt_all (dt_depX (dt_f T P v) i) 512 with
      | false =>
        rw [hb] at h2
        exact h2
      | true =>
        rw [hb] at h2
        exact h2
theorem lx_dep {post : Int32 → SX → Prop} (G : dt_G T P) (A : dx_A T P aW aP aD aC aK aS aR) {v : Nat} (hv : v < 8) (K : ∀ X' : Nat → Int32, post (nI (dt_bits (fun i => !dt_all (dt_depX (dt_f T P v) i) 512) 3)) (nI T, aW, aP, aD, aC, aK, aS, aR, X')) : wpX_depends post (nI T, aW, aP, aD, aC, aK, aS, aR, aX) (nI v) := by
  unfold wpX_depends
  exact lx_va_y hv (br_f (by decide) ⟨_, lx_dp1 G A hv K 3 0 aX (Nat.zero_add _)⟩)
theorem lx_rs1 {post : Int32 → SX → Prop} (G : dt_G T P) (A : dx_A T P aW aP aD aC aK aS aR) {v i : Nat} (hv : v < 8) (hi : i < 3) (K : ∀ X' : Nat → Int32, post (dn_B (dt_all (dt_risX (dt_f T P v) i) 512)) (nI T, aW, aP, aD, aC, aK, aS, aR, X')) :
    ∀ e m (aX : Nat → Int32), m + e = 512 → (∀ j, j < m → dt_risX (dt_f T P v) i j = true) → wX_rising_21 post (nI v) (nI i) (e + 1) (nI m) (nI T) aW aP aD aC aK aS aR aX := by
  intro e
  induction e with
  | zero =>
    intro m aX hm hp
    refine br_t (nI_le (a := 512) (by omega) (by omega)) ?_
    rw [dt_all_t (fun j hj => hp j (by omega))] at K
    exact K aX
  | succ e ih =>
    intro m aX hm hp
    have h8 := dt_x_lt m i
    refine br_f (nI_ge (b := 512) (by omega) (by decide)) ?_
    show ((nI m >>> ((3 * nI i) &&& 31)) &&& 7 ≤ 0 → _) ∧ (¬ (nI m >>> ((3 * nI i) &&& 31)) &&& 7 ≤ 0 → _)
    refine dn_le (dt_x m i) 0 (dn_x (by omega) (by omega)) rfl (by omega) (by decide) (fun z => nm_r (nI_1 m) (ih (m + 1) aX (by omega) (lt_s hp ?_))) (fun z => lx_vi G A (by omega) hv (fun X' => ?_))
    · unfold dt_risX
      rw [decide_eq_false (p := 0 < dt_x m i) (by omega)]
      rfl
    · have hw := (dt_Wi hi m (by omega)).2.2.1 z
      have h7 := dt_V_le G m T v
      have h7' := dt_V_le G (m - 2 ^ (3 * i)) T v
      show wpX_valueIn _ _ (nI v) (nI m - ((1 : Int32) <<< ((3 * nI i) &&& 31)))
      rw [dn_3, dn_one (by omega), pk_sub hw.1]
      refine lx_vi G A (Nat.lt_of_le_of_lt (Nat.sub_le _ _) (by omega)) hv (fun X' => ?_)
      refine dn_le _ _ rfl rfl (by omega) (by omega) (fun y => nm_r (nI_1 m) (ih (m + 1) X' (by omega) (lt_s hp ?_))) (fun y => ?_)
      · unfold dt_risX dt_f
        rw [decide_eq_true z, decide_eq_false (Nat.not_lt.mpr y)]
        rfl
      · rw [dt_all_f (i := m) (by omega) (by unfold dt_risX dt_f; rw [decide_eq_true z, decide_eq_true y]; exact fun q => nomatch q)] at K
        exact K X'
theorem lx_ris {post : Int32 → SX → Prop} (G : dt_G T P) (A : dx_A T P aW aP aD aC aK aS aR) {v i : Nat} (hv : v < 8) (hi : i < 3) (K : ∀ X' : Nat → Int32, post (dn_B (dt_all (dt_risX (dt_f T P v) i) 512)) (nI T, aW, aP, aD, aC, aK, aS, aR, X')) : wpX_rising post (nI T, aW, aP, aD, aC, aK, aS, aR, aX) (nI v) (nI i) := by
  unfold wpX_rising
  exact lx_va_y hv (br_f (by decide) (br_f (nI_pos (by omega)) (br_t (nI_lt (b := 3) hi (by decide)) ⟨_, lx_rs1 G A hv hi K 512 0 aX (Nat.zero_add _) lt_0⟩)))
theorem lx_sm1 {post : Int32 → SX → Prop} (G : dt_G T P) (A : dx_A T P aW aP aD aC aK aS aR) {v w : Nat} (hv : v < 8) (hw : w < 8) (K : ∀ X' : Nat → Int32, post (dn_B (dt_all (fun m => decide (dt_V P m T v = dt_V P m T w)) 512)) (nI T, aW, aP, aD, aC, aK, aS, aR, X')) :
    ∀ e m (aX : Nat → Int32), m + e = 512 → (∀ j, j < m → (fun m => decide (dt_V P m T v = dt_V P m T w)) j = true) → wX_same_20 post (nI v) (nI w) (e + 1) (nI m) (nI T) aW aP aD aC aK aS aR aX := by
  intro e
  induction e with
  | zero =>
    intro m aX hm hp
    refine br_t (nI_le (a := 512) (by omega) (by omega)) ?_
    rw [dt_all_t (fun j hj => hp j (by omega))] at K
    exact K aX
  | succ e ih =>
    intro m aX hm hp
    have h7 := dt_V_le G m T v
    have h7' := dt_V_le G m T w
    refine br_f (nI_ge (b := 512) (by omega) (by decide)) (lx_se G A (by omega) (fun X' hX' => ?_))
    show vp_in (nI v) 8 ∧ (vp_in (nI w) 8 ∧ _)
    refine ⟨vp_in_nI hv (by decide), vp_in_nI hw (by decide), dn_eq (dt_V P m T v) (dt_V P m T w) ?_ ?_ (by omega) (by omega) (fun z => nm_r (nI_1 m) (ih (m + 1) X' (by omega) (lt_s hp (decide_eq_true z)))) (fun z => ?_)⟩
    · rw [nI_clamp (by omega)]; exact hX' v hv
    · rw [nI_clamp (by omega)]; exact hX' w hw
    · rw [dt_all_f (i := m) (by omega) (fun y => z (of_decide_eq_true y))] at K
      exact K X'
theorem lx_sam {post : Int32 → SX → Prop} (G : dt_G T P) (A : dx_A T P aW aP aD aC aK aS aR) {v w : Nat} (hv : v < 8) (hw : w < 8) (K : ∀ X' : Nat → Int32, post (dn_B (dt_all (fun m => decide (dt_V P m T v = dt_V P m T w)) 512)) (nI T, aW, aP, aD, aC, aK, aS, aR, X')) : wpX_same post (nI T, aW, aP, aD, aC, aK, aS, aR, aX) (nI v) (nI w) := by
  unfold wpX_same
  exact lx_va_y hv (br_f (by decide) (lx_va_y hw (br_f (by decide) ⟨_, lx_sm1 G A hv hw K 512 0 aX (Nat.zero_add _) lt_0⟩)))
end
end
section
theorem dn_nb1 : vp_nar .boolean 1 = 1 := rfl
theorem dn_nb0 : vp_nar .boolean 0 = 0 := rfl
theorem dn_d8 {c : Nat} (h : c < 2 ^ 31) : nI c / 8 = nI (c / 8) := pk_div (d := 8) h (by decide) (by decide)
theorem dn_r8 {c : Nat} (h : c < 2 ^ 31) : nI c - nI c / 8 * 8 = nI (c % 8) := pk_rem (d := 8) h (by decide) (by decide)
theorem dn_d512 {c : Nat} (h : c < 2 ^ 31) : nI c / 512 = nI (c / 512) := pk_div (d := 512) h (by decide) (by decide)
theorem dn_r512 {c : Nat} (h : c < 2 ^ 31) : nI c - nI c / 512 * 512 = nI (c % 512) := pk_rem (d := 512) h (by decide) (by decide)
section
variable {fT fk : Int32} {bK bP bD bC bS bR bX bT : Nat → Int32} {P : Nat → Nat → Nat} {T t : Nat}
theorem ly_in_n {post : Int32 → Prop} {x : Int32} {b : Nat} (hb : b < 2 ^ 30) (h : x < 0 ∨ nI (b + 1) ≤ x) (K : post 0) : wpY_in post (fT, fk, bK, bP, bD, bC, bS, bR, bX, bT) x 0 (nI b) := by
  by_cases z : x < 0
  · exact br_t z K
  · exact br_f z (br_t (Int32.lt_of_lt_of_le (nI_lt (by omega) (by omega)) (h.resolve_left z)) K)
theorem ly_in_y {post : Int32 → Prop} {j b : Nat} (hb : b < 2 ^ 30) (hj : j < b + 1) (K : post 1) : wpY_in post (fT, fk, bK, bP, bD, bC, bS, bR, bX, bT) (nI j) 0 (nI b) := br_f (nI_pos (by omega)) (br_f (nI_nlt (by omega) (by omega)) K)
theorem ly_ta_n {post : Int32 → Prop} {x : Int32} (hT : T ≤ 5) (h : x < 0 ∨ nI T ≤ x) (K : post 0) : wpY_isTable post (nI T, fk, bK, bP, bD, bC, bS, bR, bX, bT) x := by
  by_cases z : x < 0
  · exact br_t z ⟨rfl, K⟩
  · refine br_f z (br_t ?_ ⟨rfl, K⟩)
    have h2 := h.resolve_left z
    cases T with
    | zero => exact Int32.lt_of_lt_of_le (by decide) h2
    | succ s =>
      rw [nI_pred]
      exact Int32.lt_of_lt_of_le (nI_lt (by omega) (by omega)) h2
theorem ly_ta_y {post : Int32 → Prop} {j : Nat} (hT : T ≤ 5) (hj : j < T) (K : post 1) : wpY_isTable post (nI T, fk, bK, bP, bD, bC, bS, bR, bX, bT) (nI j) := by
  refine br_f (nI_pos (by omega)) (br_f ?_ ⟨rfl, K⟩)
  cases T with
  | zero => exact absurd hj (by omega)
  | succ s =>
    rw [nI_pred]
    exact nI_nlt (by omega) (by omega)
theorem ly_cs {post : Int32 → Prop} (G : dt_G T P) (A : dy_A P bK bP bD bC bS bR) (ht : t < 5) (K : post (nI (2 ^ (3 * dt_wd (P 0 t))))) : wpY_combinations post (fT, fk, bK, bP, bD, bC, bS, bR, bX, bT) (nI t) := by
  have hw := dt_wd_in (P 0 t)
  unfold wpY_combinations
  refine ly_wd G A ht ?_
  rw [dn_3, dn_one (by omega)]
  exact K
theorem ly_value {post : Int32 → SY → Prop} (G : dt_G T P) (A : dy_A P bK bP bD bC bS bR) (hk : fk = 0 ∨ (fk = 1 ∧ dy_V T P bX)) {v m : Nat} (hv : v < 8) (hm : m < 512) (K : ∀ bX : Nat → Int32, dy_V T P bX → post (nI (dt_V P m T v)) (nI T, 1, bK, bP, bD, bC, bS, bR, bX, bT)) : wpY_value post (nI T, fk, bK, bP, bD, bC, bS, bR, bX, bT) (nI v) (nI m) := by
  unfold wpY_value
  refine ly_in_y (b := 7) (by decide) hv (br_f (by decide) (ly_in_y (b := 511) (by decide) hm (br_f (by decide) (ly_wo G A hk (fun X' hX' => ?_)))))
  show vp_in (512 * nI v + nI m) 4096 ∧ _
  refine ⟨pk_in (512 * v + m) 4096 (by omega) (dn_512 v m), ?_⟩
  rw [dy_rd hX' hv hm (dn_512 v m)]
  exact K X' hX'
theorem ly_fires {post : Int32 → SY → Prop} (G : dt_G T P) (A : dy_A P bK bP bD bC bS bR) (hk : fk = 0 ∨ (fk = 1 ∧ dy_V T P bX)) {m : Nat} (ht : t < T) (hm : m < 512) (K : ∀ bX : Nat → Int32, dy_V T P bX → post (nI (dt_rch T P t m)) (nI T, 1, bK, bP, bD, bC, bS, bR, bX, bT)) : wpY_fires post (nI T, fk, bK, bP, bD, bC, bS, bR, bX, bT) (nI t) (nI m) := by
  have hT := G.1
  unfold wpY_fires
  refine ly_ta_y G.1 ht (br_f (by decide) (ly_in_y (b := 511) (by decide) hm (br_f (by decide) (ly_wo G A hk (fun X' hX' => ?_)))))
  exact ly_co (vl := dt_V P m T) G A ht hm (fun v hv => by rw [hX' _ (by omega), show (512 * v + m) % 512 = m by omega, show (512 * v + m) / 512 = v by omega]) (fun v => dt_V_le G m T v) (ly_fi G A (by omega) (Nat.lt_trans (dt_cK G t m T) (by decide)) (K X' hX'))
theorem ly_gaps1 {post : Int32 → Prop} (G : dt_G T P) (A : dy_A P bK bP bD bC bS bR) (ht : t < 5) {N : Nat} (hN : N = 2 ^ (3 * dt_wd (P 0 t))) (K : post (nI (dt_cnt (fun k => decide (dt_F P t k = 0)) N))) :
    ∀ e i, i + e = N → wY_gaps_14 post (nI t) fT fk bK bP bD bC bS bR bX bT (e + 1) (nI (dt_cnt (fun k => decide (dt_F P t k = 0)) i)) (nI i) := by
  have hN2 : N ≤ 512 := by rw [hN]; exact dt_N t
  intro e
  induction e with
  | zero =>
    intro i hi
    rw [wY_gaps_14]
    refine ly_cs G A ht ?_
    rw [← hN]
    refine br_t (nI_le (by omega) (by omega)) ?_
    rw [show i = N by omega]
    exact K
  | succ e ih =>
    intro i hi
    have h := ih (i + 1) (by omega)
    have hF := dt_F_lt G t i
    rw [wY_gaps_14]
    refine ly_cs G A ht ?_
    rw [← hN]
    refine br_f (nI_ge (by omega) (by omega)) (ly_fi G A ht (by omega) (dn_iff (dn_e0 (by omega)) (fun z => nm_r (nI_1 _) (nm_r (nI_1 i) ?_)) (fun z => nm_r (nI_1 i) ?_)))
    · rw [dt_cnt_y (p := fun k => decide (dt_F P t k = 0)) (decide_eq_true z)] at h
      exact h
    · rw [dt_cnt_n (p := fun k => decide (dt_F P t k = 0)) (fun y => z (of_decide_eq_true y))] at h
      exact h
theorem ly_gaps {post : Int32 → Prop} (G : dt_G T P) (A : dy_A P bK bP bD bC bS bR) (ht : t < T) (K : post (nI (dt_cnt (fun k => decide (dt_F P t k = 0)) (2 ^ (3 * dt_wd (P 0 t)))))) : wpY_gaps post (nI T, fk, bK, bP, bD, bC, bS, bR, bX, bT) (nI t) := by
  have hT := G.1
  unfold wpY_gaps
  exact ly_ta_y G.1 ht (br_f (by decide) ⟨_, ly_gaps1 G A (by omega) rfl K _ 0 (Nat.zero_add _)⟩)
/-- a set of firing rules is noted -/
theorem ly_no1 {post : SY → Prop} {F : Nat} (hF : F < 256) {o : Nat → Bool} (K : ∀ bT : Nat → Int32, (∀ j, j < 64 → bT j = dn_B (o j || (F.testBit (j / 8) && F.testBit (j % 8)))) → post (fT, fk, bK, bP, bD, bC, bS, bR, bX, bT)) :
    ∀ e i (bT : Nat → Int32), i + e = 64 → (∀ j, j < 64 → bT j = dn_B (if j < i then o j || (F.testBit (j / 8) && F.testBit (j % 8)) else o j)) → wY_note_2 post (nI F) fT fk (e + 1) (nI i) bK bP bD bC bS bR bX bT := by
  intro e
  induction e with
  | zero =>
    intro i bT hi hB
    refine br_t (nI_le (a := 64) (by omega) (by omega)) (K bT ?_)
    intro j hj
    rw [hB j hj, if_pos (by omega)]
  | succ e ih =>
    intro i bT hi hB
    refine br_f (nI_ge (b := 64) (by omega) (by decide)) ⟨by decide, by decide, dn_iff (d := (F.testBit (i / 8) && F.testBit (i % 8)) = true) ?_ (fun z => ⟨vp_in_nI (by omega) (by decide), nm_e (nm_r (nI_1 i) (ih (i + 1) _ (by omega) ?_))⟩) (fun z => nm_r (nI_1 i) (ih (i + 1) bT (by omega) ?_))⟩
    · rw [dn_r8 (by omega), dn_d8 (by omega), dn_bit2 (by omega) (by omega) (by omega)]
    · intro j hj
      rw [nI_clamp (by omega), dn_nb1]
      by_cases e : j = i
      · subst e
        rw [pk_us, if_pos (by omega), z, Bool.or_true]
        rfl
      · rw [pk_un e, hB j hj]
        by_cases h : j < i
        · rw [if_pos h, if_pos (by omega)]
        · rw [if_neg h, if_neg (by omega)]
    · intro j hj
      rw [hB j hj]
      by_cases e : j = i
      · subst e
        rw [if_neg (by omega), if_pos (by omega), Bool.not_eq_true _ |>.mp z, Bool.or_false]
      · by_cases h : j < i
        · rw [if_pos h, if_pos (by omega)]
        · rw [if_neg h, if_neg (by omega)]
theorem ly_no {post : SY → Prop} {F : Nat} (hF : F < 256) {o : Nat → Bool} (ho : ∀ j, j < 64 → bT j = dn_B (o j)) (K : ∀ bT : Nat → Int32, (∀ j, j < 64 → bT j = dn_B (o j || (F.testBit (j / 8) && F.testBit (j % 8)))) → post (fT, fk, bK, bP, bD, bC, bS, bR, bX, bT)) : wpY_note post (fT, fk, bK, bP, bD, bC, bS, bR, bX, bT) (nI F) :=
  ⟨65, ly_no1 hF K 64 0 bT (Nat.zero_add _) (fun j hj => by rw [if_neg (by omega)]; exact ho j hj)⟩
theorem ly_ov3 {post : Int32 → SY → Prop} {o : Nat → Bool} (ho : ∀ j, j < 64 → bT j = dn_B (o j)) (K : post (nI (dt_cnt (fun j => decide (j / 8 < j % 8) && o j) 64)) (fT, fk, bK, bP, bD, bC, bS, bR, bX, bT)) :
    ∀ e i, i + e = 64 → wY_overlaps_64 post fT fk bK bP bD bC bS bR bX bT (e + 1) (nI (dt_cnt (fun j => decide (j / 8 < j % 8) && o j) i)) (nI i) := by
  intro e
  induction e with
  | zero =>
    intro i hi
    refine br_t (nI_le (a := 64) (by omega) (by omega)) ?_
    rw [show i = 64 by omega]
    exact K
  | succ e ih =>
    intro i hi
    have h := ih (i + 1) (by omega)
    refine br_f (nI_ge (b := 64) (by omega) (by decide)) ⟨by decide, by decide, dn_le (i % 8) (i / 8) (dn_r8 (by omega)) (dn_d8 (by omega)) (by omega) (by omega) (fun z => nm_r (nI_1 i) ?_) (fun z => ⟨vp_in_nI (by omega) (by decide), ?_⟩)⟩
    · rw [dt_cnt_n (by rw [decide_eq_false (Nat.not_lt.mpr z)]; exact fun y => nomatch y)] at h
      exact h
    · rw [nI_clamp (by omega), ho i (by omega)]
      refine dn_all1 (fun y => nm_r (nI_1 i) ?_) (fun y => nm_r (nI_1 _) (nm_r (nI_1 i) ?_))
      · rw [dt_cnt_n (by rw [y, Bool.and_false]; exact fun y => nomatch y)] at h
        exact h
      · rw [dt_cnt_y (by rw [y, decide_eq_true z]; rfl)] at h
        exact h
theorem ly_ov2 {post : Int32 → SY → Prop} (G : dt_G T P) (A : dy_A P bK bP bD bC bS bR) (ht : t < 5) {N : Nat} (hN : N = 2 ^ (3 * dt_wd (P 0 t))) (K : ∀ bT : Nat → Int32, post (nI (dt_ovl P t)) (fT, fk, bK, bP, bD, bC, bS, bR, bX, bT)) :
    ∀ e k (bT : Nat → Int32), k + e = N → (∀ j, j < 64 → bT j = dn_B (dt_ex (dt_tg P t j) k)) → wY_overlaps_33 post (nI t) (e + 1) (nI k) fT fk bK bP bD bC bS bR bX bT := by
  have hN2 : N ≤ 512 := by rw [hN]; exact dt_N t
  intro e
  induction e with
  | zero =>
    intro k bT hk hB
    rw [wY_overlaps_33]
    refine ly_cs G A ht ?_
    rw [← hN]
    refine br_t (nI_le (by omega) (by omega)) ⟨65, ly_ov3 hB ?_ 64 0 (Nat.zero_add _)⟩
    rw [show k = N by omega, hN, dt_ovY G t]
    exact K bT
  | succ e ih =>
    intro k bT hk hB
    rw [wY_overlaps_33]
    refine ly_cs G A ht ?_
    rw [← hN]
    refine br_f (nI_ge (by omega) (by omega)) (ly_fi G A ht (by omega) (ly_no (dt_F_lt G t k) hB (fun T' hT' => ?_)))
    exact nm_r (nI_1 k) (ih (k + 1) T' (by omega) hT')
theorem ly_ov1 {post : Int32 → SY → Prop} (G : dt_G T P) (A : dy_A P bK bP bD bC bS bR) (ht : t < 5) (K : ∀ bT : Nat → Int32, post (nI (dt_ovl P t)) (fT, fk, bK, bP, bD, bC, bS, bR, bX, bT)) :
    ∀ e i (bT : Nat → Int32), i + e = 64 → (∀ j, j < i → bT j = 0) → wY_overlaps_12 post (nI t) fT fk (e + 1) (nI i) bK bP bD bC bS bR bX bT := by
  intro e
  induction e with
  | zero =>
    intro i bT hi hB
    exact br_t (nI_le (a := 64) (by omega) (by omega)) ⟨_, ly_ov2 G A ht rfl K _ 0 bT (Nat.zero_add _) (fun j hj => hB j (by omega))⟩
  | succ e ih =>
    intro i bT hi hB
    refine br_f (nI_ge (b := 64) (by omega) (by decide)) ⟨vp_in_nI (by omega) (by decide), nm_e (nm_r (nI_1 i) (ih (i + 1) _ (by omega) ?_))⟩
    intro j hj
    rw [nI_clamp (by omega), dn_nb0]
    by_cases e : j = i
    · subst e; exact pk_us
    · rw [pk_un e]; exact hB j (by omega)
theorem ly_over {post : Int32 → SY → Prop} (G : dt_G T P) (A : dy_A P bK bP bD bC bS bR) (ht : t < T) (K : ∀ bT : Nat → Int32, post (nI (dt_ovl P t)) (nI T, fk, bK, bP, bD, bC, bS, bR, bX, bT)) : wpY_overlaps post (nI T, fk, bK, bP, bD, bC, bS, bR, bX, bT) (nI t) := by
  have hT := G.1
  unfold wpY_overlaps
  exact ly_ta_y G.1 ht (br_f (by decide) ⟨_, ly_ov1 G A (by omega) K 64 0 bT (Nat.zero_add _) lt_0⟩)
theorem ly_ne2 {post : Int32 → Prop} (G : dt_G T P) (A : dy_A P bK bP bD bC bS bR) (ht : t < 5) {k : Nat} (hk : k < 512) {J : Int32 → Int32 → Prop} (K : J (nI (dt_nY P t k (P 3 t))) (nI (k + 1))) :
    ∀ e r, r + e = P 3 t → wY_needless_52 post J (nI t) (nI k) (nI (dt_F P t k)) (nI (dt_R P t (dt_F P t k))) fT fk bK bP bD bC bS bR bX bT (e + 1) (nI (dt_nY P t k r)) (nI r) := by
  have h8 := G.2.2.2.2.1 t
  have hc : bC (nI t).toNatClampNeg = nI (P 3 t) := dn_rd A.2.2.2.1 rfl (by omega)
  have hF := dt_F_lt G t k
  intro e
  induction e with
  | zero =>
    intro r hr
    refine ⟨vp_in_nI (by omega) (by decide), br_t ?_ (nm_r (nI_1 k) ?_)⟩
    · rw [hc]; exact nI_le (by omega) (by omega)
    · rw [show r = P 3 t by omega]; exact K
  | succ e ih =>
    intro r hr
    have h := ih (r + 1) (by omega)
    have h1 := dt_R_le G t (dt_F P t k)
    have h2 := dt_R_le G t (dn_an (dt_F P t k) (2 ^ r))
    refine ⟨vp_in_nI (by omega) (by decide), br_f ?_ (dn_iff (dn_bit1 (by omega) (by omega)) (fun z => ?_) (fun z => nm_r (nI_1 r) ?_))⟩
    · rw [hc]; exact nI_ge (by omega) (by omega)
    · rw [dn_one (by omega), dn_anI (dt_F P t k)]
      refine ly_re G A ht (dn_an_lt (n := 8) _ hF) (dt_an_hi (dt_F_hi P t k) _) (dn_eq (dt_R P t (dn_an (dt_F P t k) (2 ^ r))) (dt_R P t (dt_F P t k)) rfl rfl (by omega) (by omega) (fun y => nm_r (nI_1 r) ?_) (fun y => nm_r (e' := nI (dt_nY P t k (r + 1))) ?_ (nm_r (nI_1 r) h)))
      · rw [dt_nY_s (show dt_np P t r k = true from decide_eq_true y.symm)] at h
        exact h
      · rw [dn_anI, dt_nY_d (show dt_np P t r k = false from decide_eq_false (fun q => y q.symm))]
    · rw [dt_nY_s (show dt_np P t r k = true from decide_eq_true (by rw [dn_an_n z]))] at h
      exact h
theorem ly_ne1 {post : Int32 → Prop} (G : dt_G T P) (A : dy_A P bK bP bD bC bS bR) (ht : t < 5) {N : Nat} (hN : N = 2 ^ (3 * dt_wd (P 0 t))) (K : post (nI (dt_ndl P t))) :
    ∀ e k, k + e = N → wY_needless_23 post (nI t) fT fk bK bP bD bC bS bR bX bT (e + 1) (nI (dt_nY P t k 0)) (nI k) := by
  have hN2 : N ≤ 512 := by rw [hN]; exact dt_N t
  intro e
  induction e with
  | zero =>
    intro k hk
    rw [wY_needless_23]
    refine ly_cs G A ht ?_
    rw [← hN]
    refine br_t (nI_le (by omega) (by omega)) ?_
    rw [dt_nY_e, show k = N by omega, hN]
    exact K
  | succ e ih =>
    intro k hk
    have h := ih (k + 1) (by omega)
    rw [← dt_nY_n] at h
    rw [wY_needless_23]
    refine ly_cs G A ht ?_
    rw [← hN]
    exact br_f (nI_ge (by omega) (by omega)) (ly_fi G A ht (by omega) (ly_re G A ht (dt_F_lt G t k) (dt_F_hi P t k) ⟨_, ly_ne2 G A ht (by omega) h _ 0 (Nat.zero_add _)⟩))
theorem ly_need {post : Int32 → Prop} (G : dt_G T P) (A : dy_A P bK bP bD bC bS bR) (ht : t < T) (K : post (nI (dt_ndl P t))) : wpY_needless post (nI T, fk, bK, bP, bD, bC, bS, bR, bX, bT) (nI t) := by
  have hT := G.1
  have h8 := G.2.2.2.2.1 t
  unfold wpY_needless
  refine ly_ta_y G.1 ht (br_f (by decide) ⟨vp_in_nI (by omega) (by decide), nm_r (e' := nI (dt_nY P t 0 0)) ?_ ⟨_, ly_ne1 G A (by omega) rfl K _ 0 (Nat.zero_add _)⟩⟩)
  rw [dn_rd A.2.2.2.1 rfl (by omega), dn_one (by omega), dt_nY_0]
  exact pk_sub (b := 1) (Nat.two_pow_pos _)
end
end
section
theorem dt_oth_lt {i k : Nat} (hi : i < 3) (hk : k < 4096) : dt_oth i k < 512 := by
  unfold dt_oth
  refine Nat.or_lt_two_pow (n := 9) (dn_an_lt (n := 9) _ (Nat.mod_lt _ (by decide))) ?_
  have h6 : 2 ^ (3 * i) ≤ 2 ^ 6 := dn_pl (by omega)
  have h7 : k / 512 ≤ 7 := by omega
  have := Nat.mul_le_mul h7 h6
  omega
theorem dn_nn {a b : Nat} (ha : a < 1024) (hb : b < 1024) : 0 ≤ nI a - nI b ↔ ¬ a < b := by
  rw [← dn_subn ha hb, Int32.not_lt]
section
variable {fT fk : Int32} {bK bP bD bC bS bR bX bT : Nat → Int32} {P : Nat → Nat → Nat} {T t : Nat}
theorem ly_un1 {post : Int32 → SY → Prop} (G : dt_G T P) (A : dy_A P bK bP bD bC bS bR) (ht : t < T) {a : Nat} (K : ∀ (fk : Int32) (bX : Nat → Int32), (fk = 0 ∨ (fk = 1 ∧ dy_V T P bX)) → post (nI (dt_sh a (dt_rch T P t) 512)) (nI T, fk, bK, bP, bD, bC, bS, bR, bX, bT)) :
    ∀ e i (fk : Int32) (bX : Nat → Int32), i + e = 512 → (fk = 0 ∨ (fk = 1 ∧ dy_V T P bX)) → wY_unreached_23 post (nI t) (e + 1) (nI (dt_sh a (dt_rch T P t) i)) (nI i) (nI T) fk bK bP bD bC bS bR bX bT := by
  intro e
  induction e with
  | zero =>
    intro i fk bX hi hk
    refine br_t (nI_le (a := 512) (by omega) (by omega)) ?_
    rw [show i = 512 by omega]
    exact K fk bX hk
  | succ e ih =>
    intro i fk bX hi hk
    refine br_f (nI_ge (b := 512) (by omega) (by decide)) (ly_fires G A hk ht (by omega) (fun X' hX' => nm_r (dn_anI _ _) (nm_r (nI_1 i) (ih (i + 1) 1 X' (by omega) (Or.inr ⟨rfl, hX'⟩)))))
theorem ly_unr {post : Int32 → SY → Prop} (G : dt_G T P) (A : dy_A P bK bP bD bC bS bR) (hk : fk = 0 ∨ (fk = 1 ∧ dy_V T P bX)) (ht : t < T) (K : ∀ (fk : Int32) (bX : Nat → Int32), (fk = 0 ∨ (fk = 1 ∧ dy_V T P bX)) → post (nI (dt_unr T P t)) (nI T, fk, bK, bP, bD, bC, bS, bR, bX, bT)) : wpY_unreached post (nI T, fk, bK, bP, bD, bC, bS, bR, bX, bT) (nI t) := by
  have hT := G.1
  have h8 := G.2.2.2.2.1 t
  unfold wpY_unreached
  have e : dt_unr T P t = dt_sh (2 ^ (P 3 t) - 1) (dt_rch T P t) 512 := (dt_sh_e _ _ _).symm
  rw [e] at K
  refine ly_ta_y G.1 ht (br_f (by decide) ⟨vp_in_nI (by omega) (by decide), nm_r (e' := nI (2 ^ (P 3 t) - 1)) ?_ ⟨_, ly_un1 G A ht K 512 0 fk bX (Nat.zero_add _) hk⟩⟩)
  rw [dn_rd A.2.2.2.1 rfl (by omega), dn_one (by omega)]
  exact pk_sub (b := 1) (Nat.two_pow_pos _)
theorem ly_ct1 {post : Int32 → SY → Prop} (G : dt_G T P) (hX : dy_V T P bX) {v x : Nat} (hv : v < 8) (hx : x < 8) (K : post (nI (dt_cnt (fun m => decide (dt_V P m T v = x)) 512)) (fT, fk, bK, bP, bD, bC, bS, bR, bX, bT)) :
    ∀ e i, i + e = 512 → wY_count_33 post (nI v) (nI x) fT fk bK bP bD bC bS bR bX bT (e + 1) (nI (dt_cnt (fun m => decide (dt_V P m T v = x)) i)) (nI i) := by
  intro e
  induction e with
  | zero =>
    intro i hi
    refine br_t (nI_le (a := 512) (by omega) (by omega)) ?_
    rw [show i = 512 by omega]
    exact K
  | succ e ih =>
    intro i hi
    have h7 := dt_V_le G i T v
    have h := ih (i + 1) (by omega)
    refine br_f (nI_ge (b := 512) (by omega) (by decide)) ⟨pk_in (512 * v + i) 4096 (by omega) (dn_512 v i), dn_eq _ _ (dy_rd hX hv (by omega) (dn_512 v i)) rfl (by omega) (by omega) (fun z => nm_r (nI_1 _) (nm_r (nI_1 i) ?_)) (fun z => nm_r (nI_1 i) ?_)⟩
    · rw [dt_cnt_y (p := fun m => decide (dt_V P m T v = x)) (decide_eq_true z)] at h
      exact h
    · rw [dt_cnt_n (p := fun m => decide (dt_V P m T v = x)) (fun y => z (of_decide_eq_true y))] at h
      exact h
theorem ly_cnt {post : Int32 → SY → Prop} (G : dt_G T P) (A : dy_A P bK bP bD bC bS bR) (hk : fk = 0 ∨ (fk = 1 ∧ dy_V T P bX)) {v x : Nat} (hv : v < 8) (hx : x < 8) (K : ∀ bX : Nat → Int32, dy_V T P bX → post (nI (dt_cnt (fun m => decide (dt_V P m T v = x)) 512)) (nI T, 1, bK, bP, bD, bC, bS, bR, bX, bT)) : wpY_count post (nI T, fk, bK, bP, bD, bC, bS, bR, bX, bT) (nI v) (nI x) := by
  unfold wpY_count
  exact ly_in_y (b := 7) (by decide) hv (br_f (by decide) (ly_in_y (b := 7) (by decide) hx (br_f (by decide) (ly_wo G A hk (fun X' hX' => ⟨513, ly_ct1 G hX' hv hx (K X' hX') 512 0 (Nat.zero_add _)⟩)))))
theorem ly_fs1 {post : Int32 → SY → Prop} (G : dt_G T P) (hX : dy_V T P bX) {v x : Nat} (hv : v < 8) (hx : x < 8) :
    ∀ e i, i + e = 512 → post (dt_ff (fun m => decide (dt_V P m T v = x)) e i) (fT, fk, bK, bP, bD, bC, bS, bR, bX, bT) → wY_first_30 post (nI v) (nI x) fT fk bK bP bD bC bS bR bX bT (e + 1) (nI i) := by
  intro e
  induction e with
  | zero =>
    intro i hi K
    exact br_t (nI_le (a := 512) (by omega) (by omega)) K
  | succ e ih =>
    intro i hi K
    have h7 := dt_V_le G i T v
    refine br_f (nI_ge (b := 512) (by omega) (by decide)) ⟨pk_in (512 * v + i) 4096 (by omega) (dn_512 v i), dn_eq _ _ (dy_rd hX hv (by omega) (dn_512 v i)) rfl (by omega) (by omega) (fun z => ?_) (fun z => nm_r (nI_1 i) (ih (i + 1) (by omega) ?_))⟩
    · rw [dt_ff_y (p := fun m => decide (dt_V P m T v = x)) (decide_eq_true z)] at K
      exact K
    · rw [dt_ff_n (p := fun m => decide (dt_V P m T v = x)) (fun y => z (of_decide_eq_true y))] at K
      exact K
theorem ly_fst {post : Int32 → SY → Prop} (G : dt_G T P) (A : dy_A P bK bP bD bC bS bR) (hk : fk = 0 ∨ (fk = 1 ∧ dy_V T P bX)) {v x : Nat} (hv : v < 8) (hx : x < 8) (K : ∀ bX : Nat → Int32, dy_V T P bX → post (dt_ff (fun m => decide (dt_V P m T v = x)) 512 0) (nI T, 1, bK, bP, bD, bC, bS, bR, bX, bT)) : wpY_first post (nI T, fk, bK, bP, bD, bC, bS, bR, bX, bT) (nI v) (nI x) := by
  unfold wpY_first
  exact ly_in_y (b := 7) (by decide) hv (br_f (by decide) (ly_in_y (b := 7) (by decide) hx (br_f (by decide) (ly_wo G A hk (fun X' hX' => ⟨513, ly_fs1 G hX' hv hx 512 0 (Nat.zero_add _) (K X' hX')⟩)))))
theorem ly_po1 {post : Int32 → SY → Prop} (G : dt_G T P) (hX : dy_V T P bX) {v : Nat} (hv : v < 8) (K : post (nI (dt_pos T P v)) (fT, fk, bK, bP, bD, bC, bS, bR, bX, bT)) :
    ∀ e i, i + e = 512 → wY_possible_21 post (nI v) fT fk bK bP bD bC bS bR bX bT (e + 1) (nI (dt_oor (fun m => 2 ^ (dt_V P m T v)) i)) (nI i) := by
  intro e
  induction e with
  | zero =>
    intro i hi
    refine br_t (nI_le (a := 512) (by omega) (by omega)) ?_
    rw [show i = 512 by omega]
    exact K
  | succ e ih =>
    intro i hi
    have h7 := dt_V_le G i T v
    refine br_f (nI_ge (b := 512) (by omega) (by decide)) ⟨pk_in (512 * v + i) 4096 (by omega) (dn_512 v i), nm_r (e' := nI (dt_oor (fun m => 2 ^ (dt_V P m T v)) (i + 1))) ?_ (nm_r (nI_1 i) (ih (i + 1) (by omega)))⟩
    rw [dy_rd hX hv (by omega) (dn_512 v i), dn_one (by omega), dn_or]
    rfl
theorem ly_pos {post : Int32 → SY → Prop} (G : dt_G T P) (A : dy_A P bK bP bD bC bS bR) (hk : fk = 0 ∨ (fk = 1 ∧ dy_V T P bX)) {v : Nat} (hv : v < 8) (K : ∀ bX : Nat → Int32, dy_V T P bX → post (nI (dt_pos T P v)) (nI T, 1, bK, bP, bD, bC, bS, bR, bX, bT)) : wpY_possible post (nI T, fk, bK, bP, bD, bC, bS, bR, bX, bT) (nI v) := by
  unfold wpY_possible
  exact ly_in_y (b := 7) (by decide) hv (br_f (by decide) (ly_wo G A hk (fun X' hX' => ⟨513, ly_po1 G hX' hv (K X' hX') 512 0 (Nat.zero_add _)⟩)))
/-- the reference's search for a change (x3 = 0) or a fall (x3 = 1) -/
theorem ly_ch1 {post : Int32 → Prop} (G : dt_G T P) (hX : dy_V T P bX) {v i : Nat} (hv : v < 8) (hi : i < 3) {x3 : Int32} (p : Nat → Bool) (hp : (x3 = 0 ∧ p = dt_depY (dt_f T P v) i) ∨ (x3 = 1 ∧ p = dt_risY (dt_f T P v) i)) (K : post (dn_B (!dt_all p 4096))) :
    ∀ e k, k + e = 4096 → (∀ j, j < k → p j = true) → wY_changes_3 post (nI v) (nI i) x3 fT fk bK bP bD bC bS bR bX bT (e + 1) (nI k) := by
  intro e
  induction e with
  | zero =>
    intro k hk hq
    refine br_t (nI_le (a := 4096) (by omega) (by omega)) ?_
    rw [dt_all_t (fun j hj => hq j (by omega))] at K
    exact K
  | succ e ih =>
    intro k hk hq
    have hm : k % 512 < 512 := Nat.mod_lt _ (by decide)
    have ho := dt_oth_lt hi (show k < 4096 by omega)
    have h1 := dt_V_le G (k % 512) T v
    have h2 := dt_V_le G (dt_oth i k) T v
    have hx8 := dt_x_lt (k % 512) i
    have hy : k / 512 * 2 ^ (3 * i) < 2 ^ 32 := by
      have h6 : 2 ^ (3 * i) ≤ 2 ^ 6 := dn_pl (by omega)
      have h7 : k / 512 ≤ 7 := by omega
      have := Nat.mul_le_mul h7 h6
      omega
    refine br_f (nI_ge (b := 4096) (by omega) (by decide)) ⟨by decide, nm_r (dn_r512 (by omega)) (nm_r (dn_x (by omega) (by omega)) ⟨by decide, nm_r (dn_d512 (by omega)) (nm_r (e' := nI (dt_oth i k)) ?_ ⟨pk_in (512 * v + dt_oth i k) 4096 (by omega) (dn_512 _ _), pk_in (512 * v + k % 512) 4096 (by omega) (dn_512 _ _), nm_r (e' := nI (dt_f T P v (dt_oth i k)) - nI (dt_f T P v (k % 512))) ?_ (dn_le _ _ rfl rfl (by omega) (by omega) (fun z => nm_r (nI_1 k) (ih (k + 1) (by omega) (lt_s hq ?_))) (fun z => ?_))⟩)⟩)⟩
    · rw [dn_7 hi, dn_anI, dn_3, dn_shl (by omega) hy, dn_or]
      rfl
    · rw [dy_rd hX hv ho (dn_512 _ _), dy_rd hX hv hm (dn_512 _ _)]
      rfl
    · rcases hp with ⟨_, rfl⟩ | ⟨_, rfl⟩
      · unfold dt_depY
        rw [decide_eq_false (Nat.not_lt.mpr z)]
        rfl
      · unfold dt_risY
        rw [decide_eq_false (Nat.not_lt.mpr z)]
        rfl
    · have h1' : dt_f T P v (k % 512) < 1024 := Nat.lt_of_le_of_lt h1 (by decide)
      have h2' : dt_f T P v (dt_oth i k) < 1024 := Nat.lt_of_le_of_lt h2 (by decide)
      rcases hp with ⟨rfl, rfl⟩ | ⟨rfl, rfl⟩
      · refine br_t rfl (dn_iff (dn_sub0 h2' h1') (fun y => nm_r (nI_1 k) (ih (k + 1) (by omega) (lt_s hq ?_))) (fun y => ?_))
        · unfold dt_depY
          rw [decide_eq_true z, decide_eq_false (fun q => q y)]
          rfl
        · rw [dt_all_f (i := k) (by omega) (by unfold dt_depY; rw [decide_eq_true z, decide_eq_true y]; exact fun q => nomatch q)] at K
          exact K
      · refine br_f (by decide) (dn_iff (dn_nn h2' h1') (fun y => nm_r (nI_1 k) (ih (k + 1) (by omega) (lt_s hq ?_))) (fun y => ?_))
        · unfold dt_risY
          rw [decide_eq_true z, decide_eq_false y]
          rfl
        · rw [dt_all_f (i := k) (by omega) (by unfold dt_risY; rw [decide_eq_true z, decide_eq_true (Decidable.not_not.mp y)]; exact fun q => nomatch q)] at K
          exact K
theorem ly_ch {post : Int32 → Prop} (G : dt_G T P) (hX : dy_V T P bX) {v i : Nat} (hv : v < 8) (hi : i < 3) {x3 : Int32} (p : Nat → Bool) (hp : (x3 = 0 ∧ p = dt_depY (dt_f T P v) i) ∨ (x3 = 1 ∧ p = dt_risY (dt_f T P v) i)) (K : post (dn_B (!dt_all p 4096))) : wpY_changes post (fT, fk, bK, bP, bD, bC, bS, bR, bX, bT) (nI v) (nI i) x3 :=
  ⟨4097, ly_ch1 G hX hv hi p hp K 4096 0 (Nat.zero_add _) lt_0⟩
theorem ly_dp1 {post : Int32 → SY → Prop} (G : dt_G T P) (hX : dy_V T P bX) {v : Nat} (hv : v < 8) (K : post (nI (dt_bits (fun i => !dt_all (dt_depX (dt_f T P v) i) 512) 3)) (fT, fk, bK, bP, bD, bC, bS, bR, bX, bT)) :
    ∀ e i, i + e = 3 → wY_depends_21 post (nI v) fT fk bK bP bD bC bS bR bX bT (e + 1) (nI (dt_bits (fun i => !dt_all (dt_depX (dt_f T P v) i) 512) i)) (nI i) := by
  intro e
  induction e with
  | zero =>
    intro i hi
    refine br_t (nI_le (a := 3) (by omega) (by omega)) ?_
    rw [show i = 3 by omega]
    exact K
  | succ e ih =>
    intro i hi
    have h := ih (i + 1) (by omega)
    refine br_f (nI_ge (b := 3) (by omega) (by decide)) (ly_ch G hX hv (by omega) _ (Or.inl ⟨rfl, rfl⟩) ?_)
    rw [← dt_dep _ (by omega)]
    refine dn_all1 (fun z => nm_r (nI_1 i) ?_) (fun z => nm_r (e' := nI (dt_bits (fun i => !dt_all (dt_depX (dt_f T P v) i) 512) (i + 1))) ?_ (nm_r (nI_1 i) h))
    · rw [← dt_bits_s0 (p := fun i => !dt_all (dt_depX (dt_f T P v) i) 512) (by rw [z]; exact fun q => nomatch q)] at h
      exact h
    · rw [dn_one (by omega), dn_or, dt_bits_s1 (p := fun i => !dt_all (dt_depX (dt_f T P v) i) 512) z]
theorem ly_dep {post : Int32 → SY → Prop} (G : dt_G T P) (A : dy_A P bK bP bD bC bS bR) (hk : fk = 0 ∨ (fk = 1 ∧ dy_V T P bX)) {v : Nat} (hv : v < 8) (K : ∀ bX : Nat → Int32, dy_V T P bX → post (nI (dt_bits (fun i => !dt_all (dt_depX (dt_f T P v) i) 512) 3)) (nI T, 1, bK, bP, bD, bC, bS, bR, bX, bT)) : wpY_depends post (nI T, fk, bK, bP, bD, bC, bS, bR, bX, bT) (nI v) := by
  unfold wpY_depends
  exact ly_in_y (b := 7) (by decide) hv (br_f (by decide) (ly_wo G A hk (fun X' hX' => ⟨4, ly_dp1 G hX' hv (K X' hX') 3 0 (Nat.zero_add _)⟩)))
theorem ly_ris {post : Int32 → SY → Prop} (G : dt_G T P) (A : dy_A P bK bP bD bC bS bR) (hk : fk = 0 ∨ (fk = 1 ∧ dy_V T P bX)) {v i : Nat} (hv : v < 8) (hi : i < 3) (K : ∀ bX : Nat → Int32, dy_V T P bX → post (dn_B (dt_all (dt_risX (dt_f T P v) i) 512)) (nI T, 1, bK, bP, bD, bC, bS, bR, bX, bT)) : wpY_rising post (nI T, fk, bK, bP, bD, bC, bS, bR, bX, bT) (nI v) (nI i) := by
  unfold wpY_rising
  refine ly_in_y (b := 7) (by decide) hv (br_f (by decide) (ly_in_y (b := 2) (by decide) hi (br_f (by decide) (ly_wo G A hk (fun X' hX' => ?_)))))
  refine ly_ch G hX' hv hi _ (Or.inr ⟨rfl, rfl⟩) ?_
  rw [← dt_ris _ hi]
  have k2 := K X' hX'
  cases hb : dt_all (dt_risX (dt_f T P v) i) 512 with
  | false =>
    rw [hb] at k2
    exact br_f (by decide) k2
  | true =>
    rw [hb] at k2
    exact br_t rfl k2
theorem ly_sm1 {post : Int32 → SY → Prop} (G : dt_G T P) (hX : dy_V T P bX) {v w : Nat} (hv : v < 8) (hw : w < 8) (K : post (dn_B (dt_all (fun m => decide (dt_V P m T v = dt_V P m T w)) 512)) (fT, fk, bK, bP, bD, bC, bS, bR, bX, bT)) :
    ∀ e m, m + e = 512 → (∀ j, j < m → (fun m => decide (dt_V P m T v = dt_V P m T w)) j = true) → wY_same_30 post (nI v) (nI w) fT fk bK bP bD bC bS bR bX bT (e + 1) (nI m) := by
  intro e
  induction e with
  | zero =>
    intro m hm hp
    refine br_t (nI_le (a := 512) (by omega) (by omega)) ?_
    rw [dt_all_t (fun j hj => hp j (by omega))] at K
    exact K
  | succ e ih =>
    intro m hm hp
    have h7 := dt_V_le G m T v
    have h7' := dt_V_le G m T w
    refine br_f (nI_ge (b := 512) (by omega) (by decide)) ⟨pk_in (512 * v + m) 4096 (by omega) (dn_512 v m), pk_in (512 * w + m) 4096 (by omega) (dn_512 w m), dn_eq _ _ (dy_rd hX hv (by omega) (dn_512 v m)) (dy_rd hX hw (by omega) (dn_512 w m)) (by omega) (by omega) (fun z => nm_r (nI_1 m) (ih (m + 1) (by omega) (lt_s hp (decide_eq_true z)))) (fun z => ?_)⟩
    rw [dt_all_f (i := m) (by omega) (fun y => z (of_decide_eq_true y))] at K
    exact K
theorem ly_sam {post : Int32 → SY → Prop} (G : dt_G T P) (A : dy_A P bK bP bD bC bS bR) (hk : fk = 0 ∨ (fk = 1 ∧ dy_V T P bX)) {v w : Nat} (hv : v < 8) (hw : w < 8) (K : ∀ bX : Nat → Int32, dy_V T P bX → post (dn_B (dt_all (fun m => decide (dt_V P m T v = dt_V P m T w)) 512)) (nI T, 1, bK, bP, bD, bC, bS, bR, bX, bT)) : wpY_same post (nI T, fk, bK, bP, bD, bC, bS, bR, bX, bT) (nI v) (nI w) := by
  unfold wpY_same
  exact ly_in_y (b := 7) (by decide) hv (br_f (by decide) (ly_in_y (b := 7) (by decide) hw (br_f (by decide) (ly_wo G A hk (fun X' hX' => ⟨513, ly_sm1 G hX' hv hw (K X' hX') 512 0 (Nat.zero_add _) lt_0⟩)))))
end
end
section
theorem dn_uI {a : Nat → Int32} {g : Nat → Nat} (h : ∀ j, a j = nI (g j)) {y : Int32} {k : Nat} (hy : y = nI k) (hk : k < 2 ^ 31) {x : Int32} {n : Nat} (hx : x = nI n) : ∀ j, upd a y.toNatClampNeg x j = nI (dn_up g k n j) := by
  intro j
  rw [hy, hx, nI_clamp hk]
  by_cases e : j = k
  · subst e; rw [pk_us, dn_ups]
  · rw [pk_un e, dn_upn e]; exact h j
def dt_cok (T a b c : Nat) : Prop := a < 3 + T ∧ (b = 9 ∨ b < 3 + T) ∧ (c = 9 ∨ c < 3 + T) ∧ a ≠ b ∧ a ≠ c ∧ (b ≠ c ∨ b = 9) ∧ (b ≠ 9 ∨ c = 9)
def dt_new (P : Nat → Nat → Nat) (T c p d : Nat) : Nat → Nat → Nat
  | 0 => dn_up (P 0) T c
  | 1 => dn_up (P 1) T p
  | 2 => dn_up (P 2) T d
  | 3 => dn_up (P 3) T 0
  | n + 4 => P (n + 4)
def dt_rul (P : Nat → Nat → Nat) (t s r : Nat) : Nat → Nat → Nat
  | 0 => P 0
  | 1 => P 1
  | 2 => P 2
  | 3 => dn_up (P 3) t (P 3 t + 1)
  | 4 => dn_up (P 4) (8 * t + P 3 t) s
  | 5 => dn_up (P 5) (8 * t + P 3 t) r
  | n + 6 => P (n + 6)
def dt_unl (P : Nat → Nat → Nat) (t : Nat) : Nat → Nat → Nat
  | 0 => P 0
  | 1 => P 1
  | 2 => P 2
  | 3 => dn_up (P 3) t (P 3 t - 1)
  | n + 4 => P (n + 4)
theorem dt_G_new {T : Nat} {P : Nat → Nat → Nat} (G : dt_G T P) (hT : T < 5) {c p d : Nat} (hc : c < 1000) (hp : p < 6) (hd : d < 8) (hk : dt_cok T (c % 10) (c / 10 % 10) (c / 100)) : dt_G (T + 1) (dt_new P T c p d) := by
  obtain ⟨g1, g2, g3, g4, g5, g6, g7, g8⟩ := G
  refine ⟨hT, dn_uple g2 (by omega), dn_uple g3 (by omega), dn_uple g4 (by omega), dn_uple g5 (by omega), g6, g7, ?_⟩
  intro t ht e he
  have e0 : dt_new P T c p d 0 = dn_up (P 0) T c := rfl
  rw [e0] at he ⊢
  by_cases z : t = T
  · subst z
    rw [dn_ups] at he ⊢
    have hw := dt_wd_in c
    obtain ⟨k1, k2, k3, k4, k5, k6, k7⟩ := hk
    have he3 : e < 3 := by omega
    unfold dt_wd at he
    rcases (by omega : e = 0 ∨ e = 1 ∨ e = 2) with rfl | rfl | rfl
    · rw [Nat.pow_zero, Nat.div_one]; exact k1
    · rw [Nat.pow_one]
      by_cases q : c / 100 = 9
      · rw [if_pos q] at he
        by_cases y : c / 10 % 10 = 9
        · rw [if_pos y] at he; omega
        · omega
      · omega
    · rw [show 10 ^ 2 = 100 from rfl]
      by_cases q : c / 100 = 9
      · rw [if_pos q] at he
        by_cases y : c / 10 % 10 = 9
        · rw [if_pos y] at he; omega
        · rw [if_neg y] at he; omega
      · omega
  · rw [dn_upn z] at he ⊢
    exact g8 t (by omega) e he
theorem dt_G_rul {T t : Nat} {P : Nat → Nat → Nat} (G : dt_G T P) {s r : Nat} (hn : P 3 t ≠ 8) (hs : s ≤ 16777215) (hr : r < 8) : dt_G T (dt_rul P t s r) := by
  obtain ⟨g1, g2, g3, g4, g5, g6, g7, g8⟩ := G
  have := g5 t
  exact ⟨g1, g2, g3, g4, dn_uple g5 (by omega), dn_uple g6 hs, dn_uple g7 (by omega), g8⟩
theorem dt_G_unl {T : Nat} {P : Nat → Nat → Nat} (G : dt_G T P) (t : Nat) : dt_G T (dt_unl P t) := by
  obtain ⟨g1, g2, g3, g4, g5, g6, g7, g8⟩ := G
  have := g5 t
  exact ⟨g1, g2, g3, g4, dn_uple g5 (by omega), g6, g7, g8⟩
theorem dt_G_drp {T : Nat} {P : Nat → Nat → Nat} (G : dt_G (T + 1) P) : dt_G T P := by
  obtain ⟨g1, g2, g3, g4, g5, g6, g7, g8⟩ := G
  exact ⟨by omega, g2, g3, g4, g5, g6, g7, fun t ht => g8 t (by omega)⟩
theorem dt_cols {g : Nat → Nat} {aK : Nat → Int32} (h : ∀ t e, e < 3 → aK (3 * t + e) = nI (g t / 10 ^ e % 10)) {T c : Nat} (hT : T < 5) (hc : c < 1000) : ∀ t e, e < 3 → upd (upd (upd aK (3 * nI T).toNatClampNeg (nI (c % 10))) (3 * nI T + 1).toNatClampNeg (nI (c / 10 % 10))) (3 * nI T + 2).toNatClampNeg (nI (c / 100)) (3 * t + e) = nI (dn_up g T c t / 10 ^ e % 10) := by
  intro t e he
  rw [show 3 * nI T + 2 = nI (3 * T + 2) by rw [dn_3]; exact nI_add _ 2, show 3 * nI T + 1 = nI (3 * T + 1) by rw [dn_3]; exact nI_add _ 1, dn_3, nI_clamp (by omega), nI_clamp (by omega), nI_clamp (by omega)]
  by_cases z : t = T
  · subst z
    rw [dn_ups]
    rcases (by omega : e = 0 ∨ e = 1 ∨ e = 2) with rfl | rfl | rfl
    · rw [pk_un (by omega), pk_un (by omega), Nat.add_zero, pk_us, Nat.pow_zero, Nat.div_one]
    · rw [pk_un (by omega), pk_us, Nat.pow_one]
    · rw [pk_us, show 10 ^ 2 = 100 from rfl, show c / 100 % 10 = c / 100 by omega]
  · rw [dn_upn z, pk_un (by omega), pk_un (by omega), pk_un (by omega)]
    exact h t e he
section
variable {fT : Int32} {aW aP aD aC aK aS aR aX : Nat → Int32} {P : Nat → Nat → Nat} {T t : Nat}
theorem lx_ic {post : Int32 → Prop} {x : Nat} (hT : T ≤ 5) (hx : x < 10) (K1 : x = 9 ∨ x < 3 + T → post 1) (K0 : ¬ (x = 9 ∨ x < 3 + T) → post 0) : wpX_isColumn post (nI T, aW, aP, aD, aC, aK, aS, aR, aX) (nI x) :=
  dn_eq x 9 rfl rfl (by omega) (by decide) (fun z => K1 (Or.inl z)) (fun z => dn_le (3 + T) x (dn_3p T) rfl (by omega) (by omega) (fun y => K0 (by omega)) (fun y => K1 (Or.inr y)))
theorem lx_ac2 {post : Int32 → Prop} {a b c : Nat} (hT : T ≤ 5) (ha : a < 10) (hb : b < 10) (hc : c < 10) (h9 : a ≠ 9) (hbc : b ≠ 9 ∨ c = 9) (K1 : dt_cok T a b c → post 1) (K0 : ¬ dt_cok T a b c → post 0) : wX_areColumns_20 post (nI a) (nI b) (nI c) (nI T) aW aP aD aC aK aS aR aX := by
  unfold wX_areColumns_20
  refine lx_ic hT ha (fun za => br_f (by decide) (lx_ic hT hb (fun zb => br_f (by decide) (lx_ic hT hc (fun zc => br_f (by decide) (dn_eq a b rfl rfl (by omega) (by omega) (fun y => K0 (fun q => q.2.2.2.1 y)) (fun y1 => dn_eq a c rfl rfl (by omega) (by omega) (fun y => K0 (fun q => q.2.2.2.2.1 y)) (fun y2 => dn_eq b c rfl rfl (by omega) (by omega) (fun y3 => dn_eq b 9 rfl rfl (by omega) (by decide) (fun y4 => K1 ?_) (fun y4 => K0 ?_)) (fun y3 => K1 ?_))))) (fun zc => br_t rfl (K0 (fun q => zc q.2.2.1))))) (fun zb => br_t rfl (K0 (fun q => zb q.2.1))))) (fun za => br_t rfl (K0 (fun q => za (Or.inr q.1))))
  · exact ⟨by omega, zb, zc, y1, y2, Or.inr y4, hbc⟩
  · intro q
    have := q.2.2.2.2.2.1
    omega
  · exact ⟨by omega, zb, zc, y1, y2, Or.inl y3, hbc⟩
theorem lx_ac {post : Int32 → Prop} {a b c : Nat} (hT : T < 5) (ha : a < 10) (hb : b < 10) (hc : c < 10) (K1 : dt_cok T a b c → post 1) (K0 : ¬ dt_cok T a b c → post 0) : wpX_areColumns post (nI T, aW, aP, aD, aC, aK, aS, aR, aX) (nI a) (nI b) (nI c) := by
  refine dn_eq a 9 rfl rfl (by omega) (by decide) (fun z => K0 (fun q => ?_)) (fun z => dn_eq b 9 rfl rfl (by omega) (by decide) (fun y => dn_eq c 9 rfl rfl (by omega) (by decide) (fun w => lx_ac2 (by omega) ha hb hc z (Or.inr w) K1 K0) (fun w => K0 (fun q => ?_))) (fun y => lx_ac2 (by omega) ha hb hc z (Or.inl y) K1 K0))
  · have := q.1
    omega
  · have := q.2.2.2.2.2.2
    omega
theorem lx_t152 {post : Int32 → SX → Prop} (G : dt_G T P) (A : dx_A T P aW aP aD aC aK aS aR) (hT : T < 5) {c p d w : Nat} (hw : w = dt_wd c) {aK' : Nat → Int32} (hK : ∀ t e, e < 3 → aK' (3 * t + e) = nI (dn_up (P 0) T c t / 10 ^ e % 10))
    (K : ∀ aW aP aD aC aK : Nat → Int32, dx_A (T + 1) (dt_new P T c p d) aW aP aD aC aK aS aR → post (nI T) (nI (T + 1), aW, aP, aD, aC, aK, aS, aR, aX)) : wX_table_152 post (nI p) (nI d) (nI T) (nI w) (nI T) (nI T) aW aP aD aC aK' aS aR aX := by
  refine ⟨vp_in_nI hT (by decide), nm_e ⟨vp_in_nI hT (by decide), nm_e ⟨vp_in_nI hT (by decide), nm_e ⟨vp_in_nI hT (by decide), nm_e (nm_r (nI_1 T) (K _ _ _ _ _ ⟨?_, dn_uI A.2.1 rfl (by omega) rfl, dn_uI A.2.2.1 rfl (by omega) rfl, dn_uI A.2.2.2.1 rfl (by omega) rfl, hK, A.2.2.2.2.2⟩))⟩⟩⟩⟩
  intro t ht
  rw [nI_clamp (by omega)]
  show _ = nI (dt_wd (dn_up (P 0) T c t))
  by_cases z : t = T
  · subst z; rw [pk_us, dn_ups, hw]
  · rw [pk_un z, dn_upn z]; exact A.1 t (by omega)
theorem lx_tb {post : Int32 → SX → Prop} (G : dt_G T P) (A : dx_A T P aW aP aD aC aK aS aR) (hT : T < 5) {c p d : Nat} (hc : c < 1000) (hp : p < 6) (hd : d < 8)
    (K0 : ¬ dt_cok T (c % 10) (c / 10 % 10) (c / 100) → post (-1) (nI T, aW, aP, aD, aC, aK, aS, aR, aX))
    (K : dt_cok T (c % 10) (c / 10 % 10) (c / 100) → ∀ aW aP aD aC aK : Nat → Int32, dx_A (T + 1) (dt_new P T c p d) aW aP aD aC aK aS aR → post (nI T) (nI (T + 1), aW, aP, aD, aC, aK, aS, aR, aX)) : wpX_table post (nI T, aW, aP, aD, aC, aK, aS, aR, aX) (nI c) (nI p) (nI d) := by
  unfold wpX_table
  refine dn_eq T 5 rfl rfl (by omega) (by decide) (fun z => absurd z (by omega)) (fun _ => br_f (nI_pos (by omega)) (br_t (nI_le (b := 999) (by omega) (by decide)) (br_f (nI_pos (by omega)) (br_f (nI_ge (b := 6) hp (by decide)) (lx_vl_y hd (br_f (by decide) ⟨by decide, nm_r (dn_r10 (by omega)) ⟨by decide, by decide, nm_r (e' := nI (c / 10 % 10)) ?_ ⟨by decide, nm_r (dn_d100 (by omega)) (lx_ac hT (by omega) (by omega) (by omega) (fun hk => br_f (by decide) ⟨pk_in (3 * T) 15 (by omega) (dn_3 T), nm_e ⟨pk_in (3 * T + 1) 15 (by omega) ?_, nm_e ⟨pk_in (3 * T + 2) 15 (by omega) ?_, nm_e (dn_eq (c / 10 % 10) 9 rfl rfl (by omega) (by decide) (fun z => ?_) (fun z => dn_eq (c / 100) 9 rfl rfl (by omega) (by decide) (fun y => ?_) (fun y => ?_)))⟩⟩⟩) (fun hk => br_t rfl (K0 hk)))⟩⟩⟩))))))
  · rw [dn_d10 (by omega), dn_r10 (by omega)]
  · rw [dn_3]; exact nI_add _ 1
  · rw [dn_3]; exact nI_add _ 2
  · have h7 := hk.2.2.2.2.2.2
    exact lx_t152 (w := 1) G A hT (by unfold dt_wd; rw [if_pos (by omega), if_pos z]) (dt_cols A.2.2.2.2.1 hT hc) (K hk)
  · exact lx_t152 (w := 2) G A hT (by unfold dt_wd; rw [if_pos y, if_neg z]) (dt_cols A.2.2.2.2.1 hT hc) (K hk)
  · exact lx_t152 (w := 3) G A hT (by unfold dt_wd; rw [if_neg y]) (dt_cols A.2.2.2.2.1 hT hc) (K hk)
theorem lx_ru {post : Int32 → SX → Prop} (G : dt_G T P) (A : dx_A T P aW aP aD aC aK aS aR) (ht : t < T) (hn : P 3 t ≠ 8) {s r : Nat} (hs : s < 16777216) (hr : r < 8)
    (K : ∀ aC aS aR : Nat → Int32, dx_A T (dt_rul P t s r) aW aP aD aC aK aS aR → post (nI (P 3 t + 1)) (nI T, aW, aP, aD, aC, aK, aS, aR, aX)) : wpX_rule post (nI T, aW, aP, aD, aC, aK, aS, aR, aX) (nI t) (nI s) (nI r) := by
  have hT := G.1
  have h8 := G.2.2.2.2.1 t
  have hc : aC (nI t).toNatClampNeg = nI (P 3 t) := dn_rd A.2.2.2.1 rfl (by omega)
  have hi : 8 * nI t + aC (nI t).toNatClampNeg = nI (8 * t + P 3 t) := by rw [hc, dn_8r]
  unfold wpX_rule
  refine lx_ta_y G.1 ht (br_f (by decide) ⟨vp_in_nI (by omega) (by decide), dn_eq (P 3 t) 8 hc rfl (by omega) (by decide) (fun z => absurd z hn) (fun _ => br_f (nI_pos (by omega)) (br_f (nI_nlt (a := 16777215) (by omega) (by decide)) (lx_vl_y hr (br_f (by decide) ⟨vp_in_nI (by omega) (by decide), nm_r hi ⟨vp_in_nI (by omega) (by decide), nm_e ⟨vp_in_nI (by omega) (by decide), nm_e ⟨vp_in_nI (by omega) (by decide), vp_in_nI (by omega) (by decide), nm_e ⟨vp_in_nI (by omega) (by decide), ?_⟩⟩⟩⟩⟩))))⟩)
  have hu : ∀ j, upd aC (nI t).toNatClampNeg (aC (nI t).toNatClampNeg + 1) j = nI (dn_up (P 3) t (P 3 t + 1) j) := dn_uI A.2.2.2.1 rfl (by omega) (by rw [hc, nI_1])
  have k := K _ _ _ ⟨A.1, A.2.1, A.2.2.1, hu, A.2.2.2.2.1, dn_uI A.2.2.2.2.2.1 rfl (by omega) rfl, dn_uI A.2.2.2.2.2.2 rfl (by omega) rfl⟩
  have e : upd aC (nI t).toNatClampNeg (aC (nI t).toNatClampNeg + 1) (nI t).toNatClampNeg = nI (P 3 t + 1) := by rw [pk_us, hc, nI_1]
  rw [e]
  exact k
theorem lx_ur {post : Int32 → SX → Prop} (G : dt_G T P) (A : dx_A T P aW aP aD aC aK aS aR) (ht : t < T) (hn : P 3 t ≠ 0)
    (K : ∀ aC : Nat → Int32, dx_A T (dt_unl P t) aW aP aD aC aK aS aR → post (nI (P 3 t - 1)) (nI T, aW, aP, aD, aC, aK, aS, aR, aX)) : wpX_unrule post (nI T, aW, aP, aD, aC, aK, aS, aR, aX) (nI t) := by
  have hT := G.1
  have h8 := G.2.2.2.2.1 t
  have hc : aC (nI t).toNatClampNeg = nI (P 3 t) := dn_rd A.2.2.2.1 rfl (by omega)
  have hm : aC (nI t).toNatClampNeg - 1 = nI (P 3 t - 1) := by rw [hc]; exact pk_sub (b := 1) (by omega)
  unfold wpX_unrule
  refine lx_ta_y G.1 ht (br_f (by decide) ⟨vp_in_nI (by omega) (by decide), dn_eq (P 3 t) 0 hc rfl (by omega) (by decide) (fun z => absurd z hn) (fun _ => ⟨vp_in_nI (by omega) (by decide), vp_in_nI (by omega) (by decide), nm_e ⟨vp_in_nI (by omega) (by decide), ?_⟩⟩)⟩)
  have hu : ∀ j, upd aC (nI t).toNatClampNeg (aC (nI t).toNatClampNeg - 1) j = nI (dn_up (P 3) t (P 3 t - 1) j) := dn_uI A.2.2.2.1 rfl (by omega) hm
  have k := K _ ⟨A.1, A.2.1, A.2.2.1, hu, A.2.2.2.2⟩
  have e : upd aC (nI t).toNatClampNeg (aC (nI t).toNatClampNeg - 1) (nI t).toNatClampNeg = nI (P 3 t - 1) := by rw [pk_us, hm]
  rw [e]
  exact k
end
end
section
section
variable {fT fk : Int32} {bK bP bD bC bS bR bX bT : Nat → Int32} {P : Nat → Nat → Nat} {T t : Nat}
theorem ly_t119 {post : Int32 → SY → Prop} {x1 x2 x3 : Int32} {a b c : Nat} (hb : b < 10) (hc : c < 10) (h1 : a < 3 + T) (h2 : b = 9 ∨ b < 3 + T) (h3 : c = 9 ∨ c < 3 + T) (h4 : a ≠ b) (h5 : a ≠ c) (h6 : b ≠ c ∨ b = 9)
    (K0 : ¬ dt_cok T a b c → post (-1) (nI T, fk, bK, bP, bD, bC, bS, bR, bX, bT)) (K1 : dt_cok T a b c → wY_table_135 post x1 x2 x3 (nI T) fk bK bP bD bC bS bR bX bT) : wY_table_119 post x1 x2 x3 (nI b) (nI c) (nI T) fk bK bP bD bC bS bR bX bT := by
  refine dn_eq c 9 rfl rfl (by omega) (by decide) (fun z => K1 ⟨h1, h2, h3, h4, h5, h6, Or.inr z⟩) (fun z => dn_eq b 9 rfl rfl (by omega) (by decide) (fun y => K0 (fun q => ?_)) (fun y => K1 ⟨h1, h2, h3, h4, h5, h6, Or.inl y⟩))
  have := q.2.2.2.2.2.2
  omega
theorem ly_t91 {post : Int32 → SY → Prop} {x1 x2 x3 : Int32} {a b c : Nat} (ha : a < 10) (hb : b < 10) (hc : c < 10) (h1 : a < 3 + T) (h2 : b = 9 ∨ b < 3 + T) (h3 : c = 9 ∨ c < 3 + T)
    (K0 : ¬ dt_cok T a b c → post (-1) (nI T, fk, bK, bP, bD, bC, bS, bR, bX, bT)) (K1 : dt_cok T a b c → wY_table_135 post x1 x2 x3 (nI T) fk bK bP bD bC bS bR bX bT) : wY_table_91 post x1 x2 x3 (nI a) (nI b) (nI c) (nI T) fk bK bP bD bC bS bR bX bT := by
  refine dn_eq a b rfl rfl (by omega) (by omega) (fun y => K0 (fun q => q.2.2.2.1 y)) (fun y1 => dn_eq a c rfl rfl (by omega) (by omega) (fun y => K0 (fun q => q.2.2.2.2.1 y)) (fun y2 => dn_eq b c rfl rfl (by omega) (by omega) (fun y3 => dn_eq b 9 rfl rfl (by omega) (by decide) (fun y4 => ly_t119 hb hc h1 h2 h3 y1 y2 (Or.inr y4) K0 K1) (fun y4 => K0 (fun q => ?_))) (fun y3 => ly_t119 hb hc h1 h2 h3 y1 y2 (Or.inl y3) K0 K1)))
  have := q.2.2.2.2.2.1
  omega
theorem ly_t75 {post : Int32 → SY → Prop} {x1 x2 x3 : Int32} {a b c : Nat} (hT : T ≤ 5) (ha : a < 10) (hb : b < 10) (hc : c < 10) (h1 : a < 3 + T) (h2 : b = 9 ∨ b < 3 + T)
    (K0 : ¬ dt_cok T a b c → post (-1) (nI T, fk, bK, bP, bD, bC, bS, bR, bX, bT)) (K1 : dt_cok T a b c → wY_table_135 post x1 x2 x3 (nI T) fk bK bP bD bC bS bR bX bT) : wY_table_75 post x1 x2 x3 (nI a) (nI b) (nI c) (nI (3 + T)) (nI T) fk bK bP bD bC bS bR bX bT := by
  refine dn_eq c 9 rfl rfl (by omega) (by decide) (fun z => ly_t91 ha hb hc h1 h2 (Or.inl z) K0 K1) (fun z => dn_lt c (3 + T) rfl rfl (by omega) (by omega) (fun y => ly_t91 ha hb hc h1 h2 (Or.inr y) K0 K1) (fun y => K0 (fun q => ?_)))
  have := q.2.2.1
  omega
theorem ly_tb {post : Int32 → SY → Prop} {v2 v3 : Int32} {c : Nat} (hT : T < 5) (hc : c < 1000)
    (K0 : ¬ dt_cok T (c % 10) (c / 10 % 10) (c / 100) → post (-1) (nI T, fk, bK, bP, bD, bC, bS, bR, bX, bT)) (K1 : dt_cok T (c % 10) (c / 10 % 10) (c / 100) → wY_table_135 post (nI c) v2 v3 (nI T) fk bK bP bD bC bS bR bX bT) : wpY_table post (nI T, fk, bK, bP, bD, bC, bS, bR, bX, bT) (nI c) v2 v3 := by
  unfold wpY_table
  refine dn_eq T 5 rfl rfl (by omega) (by decide) (fun z => absurd z (by omega)) (fun _ => ly_in_y (b := 999) (by decide) hc (br_f (by decide) ⟨by decide, nm_r (dn_r10 (by omega)) ⟨by decide, by decide, nm_r (e' := nI (c / 10 % 10)) ?_ ⟨by decide, nm_r (dn_d100 (by omega)) (nm_r (dn_3p T) (dn_le (3 + T) (c % 10) rfl rfl (by omega) (by omega) (fun z => K0 (fun q => ?_)) (fun z => dn_eq (c / 10 % 10) 9 rfl rfl (by omega) (by decide) (fun y => ly_t75 (by omega) (by omega) (by omega) (by omega) z (Or.inl y) K0 K1) (fun y => dn_le (3 + T) (c / 10 % 10) rfl rfl (by omega) (by omega) (fun w => K0 (fun q => ?_)) (fun w => ly_t75 (by omega) (by omega) (by omega) (by omega) z (Or.inr w) K0 K1)))))⟩⟩⟩))
  · rw [dn_d10 (by omega), dn_r10 (by omega)]
  · have := q.1
    omega
  · have := q.2.1
    omega
theorem ly_t135 {post : Int32 → SY → Prop} (G : dt_G T P) (A : dy_A P bK bP bD bC bS bR) (hT : T < 5) {c p d : Nat} (hp : p < 6) (hd : d < 8)
    (K : ∀ bK bP bD bC : Nat → Int32, dy_A (dt_new P T c p d) bK bP bD bC bS bR → post (nI T) (nI (T + 1), 0, bK, bP, bD, bC, bS, bR, bX, bT)) : wY_table_135 post (nI c) (nI p) (nI d) (nI T) fk bK bP bD bC bS bR bX bT := by
  unfold wY_table_135
  refine ly_in_y (b := 5) (by decide) hp (br_f (by decide) (ly_in_y (b := 7) (by decide) hd (br_f (by decide) ⟨vp_in_nI hT (by decide), nm_e ⟨vp_in_nI hT (by decide), nm_e ⟨vp_in_nI hT (by decide), nm_e ⟨vp_in_nI hT (by decide), nm_e (nm_r (nI_1 T) ?_)⟩⟩⟩⟩)))
  rw [nI_pred]
  exact K _ _ _ _ ⟨dn_uI A.1 rfl (by omega) rfl, dn_uI A.2.1 rfl (by omega) rfl, dn_uI A.2.2.1 rfl (by omega) rfl, dn_uI A.2.2.2.1 rfl (by omega) rfl, A.2.2.2.2⟩
theorem ly_ru {post : Int32 → SY → Prop} (G : dt_G T P) (A : dy_A P bK bP bD bC bS bR) (ht : t < T) (hn : P 3 t ≠ 8) {s r : Nat} (hs : s < 16777216) (hr : r < 8)
    (K : ∀ bC bS bR : Nat → Int32, dy_A (dt_rul P t s r) bK bP bD bC bS bR → post (nI (P 3 t + 1)) (nI T, 0, bK, bP, bD, bC, bS, bR, bX, bT)) : wpY_rule post (nI T, fk, bK, bP, bD, bC, bS, bR, bX, bT) (nI t) (nI s) (nI r) := by
  have hT := G.1
  have h8 := G.2.2.2.2.1 t
  have hc : bC (nI t).toNatClampNeg = nI (P 3 t) := dn_rd A.2.2.2.1 rfl (by omega)
  have hi : 8 * nI t + bC (nI t).toNatClampNeg = nI (8 * t + P 3 t) := by rw [hc, dn_8r]
  unfold wpY_rule
  refine ly_ta_y G.1 ht (br_f (by decide) ⟨vp_in_nI (by omega) (by decide), dn_eq (P 3 t) 8 hc rfl (by omega) (by decide) (fun z => absurd z hn) (fun _ => ly_in_y (b := 16777215) (by decide) (by omega) (br_f (by decide) (ly_in_y (b := 7) (by decide) hr (br_f (by decide) ⟨vp_in_nI (by omega) (by decide), pk_in (8 * t + P 3 t) 40 (by omega) hi, nm_e ⟨vp_in_nI (by omega) (by decide), pk_in (8 * t + P 3 t) 40 (by omega) hi, nm_e ⟨vp_in_nI (by omega) (by decide), vp_in_nI (by omega) (by decide), nm_e ⟨vp_in_nI (by omega) (by decide), ?_⟩⟩⟩⟩))))⟩)
  have hu : ∀ j, upd bC (nI t).toNatClampNeg (bC (nI t).toNatClampNeg + 1) j = nI (dn_up (P 3) t (P 3 t + 1) j) := dn_uI A.2.2.2.1 rfl (by omega) (by rw [hc, nI_1])
  have k := K _ _ _ ⟨A.1, A.2.1, A.2.2.1, hu, dn_uI A.2.2.2.2.1 hi (by omega) rfl, dn_uI A.2.2.2.2.2 hi (by omega) rfl⟩
  have e : upd bC (nI t).toNatClampNeg (bC (nI t).toNatClampNeg + 1) (nI t).toNatClampNeg = nI (P 3 t + 1) := by rw [pk_us, hc, nI_1]
  rw [e]
  exact k
theorem ly_ur {post : Int32 → SY → Prop} (G : dt_G T P) (A : dy_A P bK bP bD bC bS bR) (ht : t < T) (hn : P 3 t ≠ 0)
    (K : ∀ bC : Nat → Int32, dy_A (dt_unl P t) bK bP bD bC bS bR → post (nI (P 3 t - 1)) (nI T, 0, bK, bP, bD, bC, bS, bR, bX, bT)) : wpY_unrule post (nI T, fk, bK, bP, bD, bC, bS, bR, bX, bT) (nI t) := by
  have hT := G.1
  have h8 := G.2.2.2.2.1 t
  have hc : bC (nI t).toNatClampNeg = nI (P 3 t) := dn_rd A.2.2.2.1 rfl (by omega)
  have hm : bC (nI t).toNatClampNeg - 1 = nI (P 3 t - 1) := by rw [hc]; exact pk_sub (b := 1) (by omega)
  unfold wpY_unrule
  refine ly_ta_y G.1 ht (br_f (by decide) ⟨vp_in_nI (by omega) (by decide), dn_eq (P 3 t) 0 hc rfl (by omega) (by decide) (fun z => absurd z hn) (fun _ => ⟨vp_in_nI (by omega) (by decide), vp_in_nI (by omega) (by decide), nm_e ⟨vp_in_nI (by omega) (by decide), ?_⟩⟩)⟩)
  have hu : ∀ j, upd bC (nI t).toNatClampNeg (bC (nI t).toNatClampNeg - 1) j = nI (dn_up (P 3) t (P 3 t - 1) j) := dn_uI A.2.2.2.1 rfl (by omega) hm
  have k := K _ ⟨A.1, A.2.1, A.2.2.1, hu, A.2.2.2.2⟩
  have e : upd bC (nI t).toNatClampNeg (bC (nI t).toNatClampNeg - 1) (nI t).toNatClampNeg = nI (P 3 t - 1) := by rw [pk_us, hm]
  rw [e]
  exact k
end
end
section
/-- one picture of the tables behind both states; what the component wrote last into its values is free, and so is the reference's note of pairs; the reference's values hold whenever it says that they are known -/
def i_Rel (k : Nat) (u : SX) (v : SY) : Prop := ∃ (T : Nat) (P : Nat → Nat → Nat) (aW aP aD aC aK aS aR aX : Nat → Int32) (fk : Int32) (bK bP bD bC bS bR bX bT : Nat → Int32), u = (nI T, aW, aP, aD, aC, aK, aS, aR, aX) ∧ v = (nI T, fk, bK, bP, bD, bC, bS, bR, bX, bT) ∧ dt_G T P ∧ dx_A T P aW aP aD aC aK aS aR ∧ dy_A P bK bP bD bC bS bR ∧ (fk = 0 ∨ (fk = 1 ∧ dy_V T P bX))
theorem rl_mk {k T : Nat} {P : Nat → Nat → Nat} {aW aP aD aC aK aS aR aX : Nat → Int32} {fk : Int32} {bK bP bD bC bS bR bX bT : Nat → Int32} (G : dt_G T P) (A : dx_A T P aW aP aD aC aK aS aR) (B : dy_A P bK bP bD bC bS bR) (hf : fk = 0 ∨ (fk = 1 ∧ dy_V T P bX)) : i_Rel k (nI T, aW, aP, aD, aC, aK, aS, aR, aX) (nI T, fk, bK, bP, bD, bC, bS, bR, bX, bT) :=
  ⟨T, P, aW, aP, aD, aC, aK, aS, aR, aX, fk, bK, bP, bD, bC, bS, bR, bX, bT, rfl, rfl, G, A, B, hf⟩
theorem i_up {k : Nat} {u : SX} {v : SY} (h : i_Rel k u v) : i_Rel (k + 4) u v := h
theorem i_vc0 : wpX_init (fun u => wpY_init (fun v => i_Rel 0 u v)) := by
  refine rl_mk (k := 0) (T := 0) (P := fun _ _ => 0) ⟨by decide, fun _ => Nat.zero_le _, fun _ => Nat.zero_le _, fun _ => Nat.zero_le _, fun _ => Nat.zero_le _, fun _ => Nat.zero_le _, fun _ => Nat.zero_le _, fun t ht => absurd ht (by omega)⟩ ⟨fun t ht => absurd ht (by omega), fun _ => rfl, fun _ => rfl, fun _ => rfl, fun t e he => ?_, fun _ => rfl, fun _ => rfl⟩ ⟨fun _ => rfl, fun _ => rfl, fun _ => rfl, fun _ => rfl, fun _ => rfl, fun _ => rfl⟩ (Or.inl rfl)
  rw [Nat.zero_div]
  rfl
theorem i_vc_value {k : Nat} {u : SX} {v : SY} (I : i_Rel k u v) (hk : k + 4 ≤ 2048) (v1 : Int32) (v2 : Int32) : wpX_value (fun r u' => wpY_value (fun r' v' => r' = r ∧ i_Rel (k + 4) u' v') v v1 v2) u v1 v2 := by
  obtain ⟨T, P, aW, aP, aD, aC, aK, aS, aR, aX, fk, bK, bP, bD, bC, bS, bR, bX, bT, rfl, rfl, G, A, B, hf⟩ := I
  rcases dn_ix v1 8 (by decide) with h | ⟨v, hv, rfl⟩
  · unfold wpX_value
    refine lx_va_n h (br_t rfl ?_)
    unfold wpY_value
    exact ly_in_n (b := 7) (by decide) h (br_t rfl ⟨rfl, rl_mk G A B hf⟩)
  · rcases dn_ix v2 512 (by decide) with h | ⟨m, hm, rfl⟩
    · unfold wpX_value
      refine lx_va_y hv (br_f (by decide) (lx_ca_n h (br_t rfl ?_)))
      unfold wpY_value
      exact ly_in_y (b := 7) (by decide) hv (br_f (by decide) (ly_in_n (b := 511) (by decide) h (br_t rfl ⟨rfl, rl_mk G A B hf⟩)))
    · exact lx_value G A hm hv (fun X' => ly_value G B hf hv hm (fun Y' hY' => ⟨rfl, rl_mk G A B (Or.inr ⟨rfl, hY'⟩)⟩))
theorem i_vc_count {k : Nat} {u : SX} {v : SY} (I : i_Rel k u v) (hk : k + 4 ≤ 2048) (v1 : Int32) (v2 : Int32) : wpX_count (fun r u' => wpY_count (fun r' v' => r' = r ∧ i_Rel (k + 4) u' v') v v1 v2) u v1 v2 := by
  obtain ⟨T, P, aW, aP, aD, aC, aK, aS, aR, aX, fk, bK, bP, bD, bC, bS, bR, bX, bT, rfl, rfl, G, A, B, hf⟩ := I
  rcases dn_ix v1 8 (by decide) with h | ⟨v, hv, rfl⟩
  · unfold wpX_count
    refine lx_va_n h (br_t rfl ?_)
    unfold wpY_count
    exact ly_in_n (b := 7) (by decide) h (br_t rfl ⟨rfl, rl_mk G A B hf⟩)
  · rcases dn_ix v2 8 (by decide) with h | ⟨m, hm, rfl⟩
    · unfold wpX_count
      refine lx_va_y hv (br_f (by decide) (lx_vl_n h (br_t rfl ?_)))
      unfold wpY_count
      exact ly_in_y (b := 7) (by decide) hv (br_f (by decide) (ly_in_n (b := 7) (by decide) h (br_t rfl ⟨rfl, rl_mk G A B hf⟩)))
    · exact lx_cnt G A hv hm (fun X' => ly_cnt G B hf hv hm (fun Y' hY' => ⟨rfl, rl_mk G A B (Or.inr ⟨rfl, hY'⟩)⟩))
theorem i_vc_first {k : Nat} {u : SX} {v : SY} (I : i_Rel k u v) (hk : k + 4 ≤ 2048) (v1 : Int32) (v2 : Int32) : wpX_first (fun r u' => wpY_first (fun r' v' => r' = r ∧ i_Rel (k + 4) u' v') v v1 v2) u v1 v2 := by
  obtain ⟨T, P, aW, aP, aD, aC, aK, aS, aR, aX, fk, bK, bP, bD, bC, bS, bR, bX, bT, rfl, rfl, G, A, B, hf⟩ := I
  rcases dn_ix v1 8 (by decide) with h | ⟨v, hv, rfl⟩
  · unfold wpX_first
    refine lx_va_n h (br_t rfl ?_)
    unfold wpY_first
    exact ly_in_n (b := 7) (by decide) h (br_t rfl ⟨rfl, rl_mk G A B hf⟩)
  · rcases dn_ix v2 8 (by decide) with h | ⟨m, hm, rfl⟩
    · unfold wpX_first
      refine lx_va_y hv (br_f (by decide) (lx_vl_n h (br_t rfl ?_)))
      unfold wpY_first
      exact ly_in_y (b := 7) (by decide) hv (br_f (by decide) (ly_in_n (b := 7) (by decide) h (br_t rfl ⟨rfl, rl_mk G A B hf⟩)))
    · exact lx_fst G A hv hm (fun X' => ly_fst G B hf hv hm (fun Y' hY' => ⟨rfl, rl_mk G A B (Or.inr ⟨rfl, hY'⟩)⟩))
theorem i_vc_same {k : Nat} {u : SX} {v : SY} (I : i_Rel k u v) (hk : k + 4 ≤ 2048) (v1 : Int32) (v2 : Int32) : wpX_same (fun r u' => wpY_same (fun r' v' => r' = r ∧ i_Rel (k + 4) u' v') v v1 v2) u v1 v2 := by
  obtain ⟨T, P, aW, aP, aD, aC, aK, aS, aR, aX, fk, bK, bP, bD, bC, bS, bR, bX, bT, rfl, rfl, G, A, B, hf⟩ := I
  rcases dn_ix v1 8 (by decide) with h | ⟨v, hv, rfl⟩
  · unfold wpX_same
    refine lx_va_n h (br_t rfl ?_)
    unfold wpY_same
    exact ly_in_n (b := 7) (by decide) h (br_t rfl ⟨rfl, rl_mk G A B hf⟩)
  · rcases dn_ix v2 8 (by decide) with h | ⟨m, hm, rfl⟩
    · unfold wpX_same
      refine lx_va_y hv (br_f (by decide) (lx_va_n h (br_t rfl ?_)))
      unfold wpY_same
      exact ly_in_y (b := 7) (by decide) hv (br_f (by decide) (ly_in_n (b := 7) (by decide) h (br_t rfl ⟨rfl, rl_mk G A B hf⟩)))
    · exact lx_sam G A hv hm (fun X' => ly_sam G B hf hv hm (fun Y' hY' => ⟨rfl, rl_mk G A B (Or.inr ⟨rfl, hY'⟩)⟩))
theorem i_vc_rising {k : Nat} {u : SX} {v : SY} (I : i_Rel k u v) (hk : k + 4 ≤ 2048) (v1 : Int32) (v2 : Int32) : wpX_rising (fun r u' => wpY_rising (fun r' v' => r' = r ∧ i_Rel (k + 4) u' v') v v1 v2) u v1 v2 := by
  obtain ⟨T, P, aW, aP, aD, aC, aK, aS, aR, aX, fk, bK, bP, bD, bC, bS, bR, bX, bT, rfl, rfl, G, A, B, hf⟩ := I
  rcases dn_ix v1 8 (by decide) with h | ⟨v, hv, rfl⟩
  · unfold wpX_rising
    refine lx_va_n h (br_t rfl ?_)
    unfold wpY_rising
    exact ly_in_n (b := 7) (by decide) h (br_t rfl ⟨rfl, rl_mk G A B hf⟩)
  · rcases dn_ix v2 3 (by decide) with h | ⟨m, hm, rfl⟩
    · have yb : wpY_rising (fun r' v' => r' = 0 ∧ i_Rel (k + 4) (nI T, aW, aP, aD, aC, aK, aS, aR, aX) v') (nI T, fk, bK, bP, bD, bC, bS, bR, bX, bT) (nI v) v2 := by
        unfold wpY_rising
        exact ly_in_y (b := 7) (by decide) hv (br_f (by decide) (ly_in_n (b := 2) (by decide) h (br_t rfl ⟨rfl, rl_mk G A B hf⟩)))
      unfold wpX_rising
      refine lx_va_y hv (br_f (by decide) ?_)
      by_cases z : v2 < 0
      · exact br_t z yb
      · exact br_f z (br_f (Int32.not_lt.mpr (h.resolve_left z)) yb)
    · exact lx_ris G A hv hm (fun X' => ly_ris G B hf hv hm (fun Y' hY' => ⟨rfl, rl_mk G A B (Or.inr ⟨rfl, hY'⟩)⟩))
theorem i_vc_possible {k : Nat} {u : SX} {v : SY} (I : i_Rel k u v) (hk : k + 4 ≤ 2048) (v1 : Int32) : wpX_possible (fun r u' => wpY_possible (fun r' v' => r' = r ∧ i_Rel (k + 4) u' v') v v1) u v1 := by
  obtain ⟨T, P, aW, aP, aD, aC, aK, aS, aR, aX, fk, bK, bP, bD, bC, bS, bR, bX, bT, rfl, rfl, G, A, B, hf⟩ := I
  rcases dn_ix v1 8 (by decide) with h | ⟨v, hv, rfl⟩
  · unfold wpX_possible
    refine lx_va_n h (br_t rfl ?_)
    unfold wpY_possible
    exact ly_in_n (b := 7) (by decide) h (br_t rfl ⟨rfl, rl_mk G A B hf⟩)
  · exact lx_pos G A hv (fun X' => ly_pos G B hf hv (fun Y' hY' => ⟨rfl, rl_mk G A B (Or.inr ⟨rfl, hY'⟩)⟩))
theorem i_vc_depends {k : Nat} {u : SX} {v : SY} (I : i_Rel k u v) (hk : k + 4 ≤ 2048) (v1 : Int32) : wpX_depends (fun r u' => wpY_depends (fun r' v' => r' = r ∧ i_Rel (k + 4) u' v') v v1) u v1 := by
  obtain ⟨T, P, aW, aP, aD, aC, aK, aS, aR, aX, fk, bK, bP, bD, bC, bS, bR, bX, bT, rfl, rfl, G, A, B, hf⟩ := I
  rcases dn_ix v1 8 (by decide) with h | ⟨v, hv, rfl⟩
  · unfold wpX_depends
    refine lx_va_n h (br_t rfl ?_)
    unfold wpY_depends
    exact ly_in_n (b := 7) (by decide) h (br_t rfl ⟨rfl, rl_mk G A B hf⟩)
  · exact lx_dep G A hv (fun X' => ly_dep G B hf hv (fun Y' hY' => ⟨rfl, rl_mk G A B (Or.inr ⟨rfl, hY'⟩)⟩))
theorem i_vc_gaps {k : Nat} {u : SX} {v : SY} (I : i_Rel k u v) (hk : k + 4 ≤ 2048) (v1 : Int32) : wpX_gaps (fun r => wpY_gaps (fun r' => r' = r ∧ i_Rel (k + 4) u v) v v1) u v1 := by
  obtain ⟨T, P, aW, aP, aD, aC, aK, aS, aR, aX, fk, bK, bP, bD, bC, bS, bR, bX, bT, rfl, rfl, G, A, B, hf⟩ := I
  have hT := G.1
  rcases dn_ix v1 T (by omega) with h | ⟨t, ht, rfl⟩
  · unfold wpX_gaps
    refine lx_ta_n h (br_t rfl ?_)
    unfold wpY_gaps
    exact ly_ta_n G.1 h (br_t rfl ⟨rfl, rl_mk G A B hf⟩)
  · exact lx_gaps G A ht (ly_gaps G B ht ⟨rfl, rl_mk G A B hf⟩)
theorem i_vc_overlaps {k : Nat} {u : SX} {v : SY} (I : i_Rel k u v) (hk : k + 4 ≤ 2048) (v1 : Int32) : wpX_overlaps (fun r => wpY_overlaps (fun r' v' => r' = r ∧ i_Rel (k + 4) u v') v v1) u v1 := by
  obtain ⟨T, P, aW, aP, aD, aC, aK, aS, aR, aX, fk, bK, bP, bD, bC, bS, bR, bX, bT, rfl, rfl, G, A, B, hf⟩ := I
  have hT := G.1
  rcases dn_ix v1 T (by omega) with h | ⟨t, ht, rfl⟩
  · unfold wpX_overlaps
    refine lx_ta_n h (br_t rfl ?_)
    unfold wpY_overlaps
    exact ly_ta_n G.1 h (br_t rfl ⟨rfl, rl_mk G A B hf⟩)
  · exact lx_over G A ht (ly_over G B ht (fun T' => ⟨rfl, rl_mk G A B hf⟩))
theorem i_vc_needless {k : Nat} {u : SX} {v : SY} (I : i_Rel k u v) (hk : k + 4 ≤ 2048) (v1 : Int32) : wpX_needless (fun r => wpY_needless (fun r' => r' = r ∧ i_Rel (k + 4) u v) v v1) u v1 := by
  obtain ⟨T, P, aW, aP, aD, aC, aK, aS, aR, aX, fk, bK, bP, bD, bC, bS, bR, bX, bT, rfl, rfl, G, A, B, hf⟩ := I
  have hT := G.1
  rcases dn_ix v1 T (by omega) with h | ⟨t, ht, rfl⟩
  · unfold wpX_needless
    refine lx_ta_n h (br_t rfl ?_)
    unfold wpY_needless
    exact ly_ta_n G.1 h (br_t rfl ⟨rfl, rl_mk G A B hf⟩)
  · exact lx_need G A ht (ly_need G B ht ⟨rfl, rl_mk G A B hf⟩)
theorem i_vc_unreached {k : Nat} {u : SX} {v : SY} (I : i_Rel k u v) (hk : k + 4 ≤ 2048) (v1 : Int32) : wpX_unreached (fun r u' => wpY_unreached (fun r' v' => r' = r ∧ i_Rel (k + 4) u' v') v v1) u v1 := by
  obtain ⟨T, P, aW, aP, aD, aC, aK, aS, aR, aX, fk, bK, bP, bD, bC, bS, bR, bX, bT, rfl, rfl, G, A, B, hf⟩ := I
  have hT := G.1
  rcases dn_ix v1 T (by omega) with h | ⟨t, ht, rfl⟩
  · unfold wpX_unreached
    refine lx_ta_n h (br_t rfl ?_)
    unfold wpY_unreached
    exact ly_ta_n G.1 h (br_t rfl ⟨rfl, rl_mk G A B hf⟩)
  · exact lx_unr G A ht (fun X' => ly_unr G B hf ht (fun fk' Y' hY' => ⟨rfl, rl_mk G A B hY'⟩))
theorem i_vc_fires {k : Nat} {u : SX} {v : SY} (I : i_Rel k u v) (hk : k + 4 ≤ 2048) (v1 : Int32) (v2 : Int32) : wpX_fires (fun r u' => wpY_fires (fun r' v' => r' = r ∧ i_Rel (k + 4) u' v') v v1 v2) u v1 v2 := by
  obtain ⟨T, P, aW, aP, aD, aC, aK, aS, aR, aX, fk, bK, bP, bD, bC, bS, bR, bX, bT, rfl, rfl, G, A, B, hf⟩ := I
  have hT := G.1
  rcases dn_ix v1 T (by omega) with h | ⟨t, ht, rfl⟩
  · unfold wpX_fires
    refine lx_ta_n h (br_t rfl ?_)
    unfold wpY_fires
    exact ly_ta_n G.1 h (br_t rfl ⟨rfl, rl_mk G A B hf⟩)
  · rcases dn_ix v2 512 (by decide) with h | ⟨m, hm, rfl⟩
    · unfold wpX_fires
      refine lx_ta_y G.1 ht (br_f (by decide) (lx_ca_n h (br_t rfl ?_)))
      unfold wpY_fires
      exact ly_ta_y G.1 ht (br_f (by decide) (ly_in_n (b := 511) (by decide) h (br_t rfl ⟨rfl, rl_mk G A B hf⟩)))
    · exact lx_fires G A hm ht (fun X' => ly_fires G B hf ht hm (fun Y' hY' => ⟨rfl, rl_mk G A B (Or.inr ⟨rfl, hY'⟩)⟩))
end
section
theorem i_vc_drop {k : Nat} {u : SX} {v : SY} (I : i_Rel k u v) (hk : k + 4 ≤ 2048) : wpX_drop (fun r u' => wpY_drop (fun r' v' => r' = r ∧ i_Rel (k + 4) u' v') v) u := by
  obtain ⟨T, P, aW, aP, aD, aC, aK, aS, aR, aX, fk, bK, bP, bD, bC, bS, bR, bX, bT, rfl, rfl, G, A, B, hf⟩ := I
  have hT := G.1
  cases T with
  | zero => exact br_t rfl (br_t rfl ⟨rfl, rl_mk G A B hf⟩)
  | succ s =>
    have hn : ¬ nI (s + 1) = 0 := nI_ne0 (by omega) (by omega)
    refine br_f hn (nm_r (nI_pred s) (br_f hn (nm_r (nI_pred s) ⟨rfl, rl_mk (dt_G_drp G) ⟨fun t ht => A.1 t (by omega), A.2⟩ B (Or.inl rfl)⟩)))
theorem i_vc_unrule {k : Nat} {u : SX} {v : SY} (I : i_Rel k u v) (hk : k + 4 ≤ 2048) (v1 : Int32) : wpX_unrule (fun r u' => wpY_unrule (fun r' v' => r' = r ∧ i_Rel (k + 4) u' v') v v1) u v1 := by
  obtain ⟨T, P, aW, aP, aD, aC, aK, aS, aR, aX, fk, bK, bP, bD, bC, bS, bR, bX, bT, rfl, rfl, G, A, B, hf⟩ := I
  have hT := G.1
  rcases dn_ix v1 T (by omega) with h | ⟨t, ht, rfl⟩
  · unfold wpX_unrule
    refine lx_ta_n h (br_t rfl ?_)
    unfold wpY_unrule
    exact ly_ta_n G.1 h (br_t rfl ⟨rfl, rl_mk G A B hf⟩)
  · by_cases hn : P 3 t = 0
    · unfold wpX_unrule
      refine lx_ta_y G.1 ht (br_f (by decide) ⟨vp_in_nI (by omega) (by decide), br_t ?_ ?_⟩)
      · rw [dn_rd A.2.2.2.1 rfl (by omega), hn]; rfl
      · unfold wpY_unrule
        refine ly_ta_y G.1 ht (br_f (by decide) ⟨vp_in_nI (by omega) (by decide), br_t ?_ ⟨rfl, rl_mk G A B hf⟩⟩)
        rw [dn_rd B.2.2.2.1 rfl (by omega), hn]; rfl
    · exact lx_ur G A ht hn (fun aC' A' => ly_ur G B ht hn (fun bC' B' => ⟨rfl, rl_mk (dt_G_unl G t) A' B' (Or.inl rfl)⟩))
theorem i_vc_rule {k : Nat} {u : SX} {v : SY} (I : i_Rel k u v) (hk : k + 4 ≤ 2048) (v1 : Int32) (v2 : Int32) (v3 : Int32) : wpX_rule (fun r u' => wpY_rule (fun r' v' => r' = r ∧ i_Rel (k + 4) u' v') v v1 v2 v3) u v1 v2 v3 := by
  obtain ⟨T, P, aW, aP, aD, aC, aK, aS, aR, aX, fk, bK, bP, bD, bC, bS, bR, bX, bT, rfl, rfl, G, A, B, hf⟩ := I
  have hT := G.1
  rcases dn_ix v1 T (by omega) with h | ⟨t, ht, rfl⟩
  · unfold wpX_rule
    refine lx_ta_n h (br_t rfl ?_)
    unfold wpY_rule
    exact ly_ta_n G.1 h (br_t rfl ⟨rfl, rl_mk G A B hf⟩)
  · have h8 := G.2.2.2.2.1 t
    have hcX : aC (nI t).toNatClampNeg = nI (P 3 t) := dn_rd A.2.2.2.1 rfl (by omega)
    have hcY : bC (nI t).toNatClampNeg = nI (P 3 t) := dn_rd B.2.2.2.1 rfl (by omega)
    by_cases hn : P 3 t = 8
    · unfold wpX_rule
      refine lx_ta_y G.1 ht (br_f (by decide) ⟨vp_in_nI (by omega) (by decide), br_t (by rw [hcX, hn]; rfl) ?_⟩)
      unfold wpY_rule
      exact ly_ta_y G.1 ht (br_f (by decide) ⟨vp_in_nI (by omega) (by decide), br_t (by rw [hcY, hn]; rfl) ⟨rfl, rl_mk G A B hf⟩⟩)
    · have nX : ¬ aC (nI t).toNatClampNeg = 8 := by rw [hcX]; exact fun z => hn ((nI_eq (b := 8) (by omega) (by decide)).mp z)
      have nY : ¬ bC (nI t).toNatClampNeg = 8 := by rw [hcY]; exact fun z => hn ((nI_eq (b := 8) (by omega) (by decide)).mp z)
      rcases dn_ix v2 16777216 (by decide) with h | ⟨s, hs, rfl⟩
      · have yb : wpY_rule (fun r' v' => r' = -1 ∧ i_Rel (k + 4) (nI T, aW, aP, aD, aC, aK, aS, aR, aX) v') (nI T, fk, bK, bP, bD, bC, bS, bR, bX, bT) (nI t) v2 v3 := by
          unfold wpY_rule
          exact ly_ta_y G.1 ht (br_f (by decide) ⟨vp_in_nI (by omega) (by decide), br_f nY (ly_in_n (b := 16777215) (by decide) h (br_t rfl ⟨rfl, rl_mk G A B hf⟩))⟩)
        unfold wpX_rule
        refine lx_ta_y G.1 ht (br_f (by decide) ⟨vp_in_nI (by omega) (by decide), br_f nX ?_⟩)
        by_cases z : v2 < 0
        · exact br_t z yb
        · exact br_f z (br_t (Int32.lt_of_lt_of_le (nI_lt (a := 16777215) (by decide) (by decide)) (h.resolve_left z)) yb)
      · rcases dn_ix v3 8 (by decide) with h | ⟨r, hr, rfl⟩
        · unfold wpX_rule
          refine lx_ta_y G.1 ht (br_f (by decide) ⟨vp_in_nI (by omega) (by decide), br_f nX (br_f (nI_pos (by omega)) (br_f (nI_nlt (a := 16777215) (by omega) (by decide)) (lx_vl_n h (br_t rfl ?_))))⟩)
          unfold wpY_rule
          exact ly_ta_y G.1 ht (br_f (by decide) ⟨vp_in_nI (by omega) (by decide), br_f nY (ly_in_y (b := 16777215) (by decide) (by omega) (br_f (by decide) (ly_in_n (b := 7) (by decide) h (br_t rfl ⟨rfl, rl_mk G A B hf⟩))))⟩)
        · exact lx_ru G A ht hn hs hr (fun aC' aS' aR' A' => ly_ru G B ht hn hs hr (fun bC' bS' bR' B' => ⟨rfl, rl_mk (dt_G_rul G hn (by omega) hr) A' B' (Or.inl rfl)⟩))
theorem i_vc_table {k : Nat} {u : SX} {v : SY} (I : i_Rel k u v) (hk : k + 4 ≤ 2048) (v1 : Int32) (v2 : Int32) (v3 : Int32) : wpX_table (fun r u' => wpY_table (fun r' v' => r' = r ∧ i_Rel (k + 4) u' v') v v1 v2 v3) u v1 v2 v3 := by
  obtain ⟨T, P, aW, aP, aD, aC, aK, aS, aR, aX, fk, bK, bP, bD, bC, bS, bR, bX, bT, rfl, rfl, G, A, B, hf⟩ := I
  have hT := G.1
  by_cases h5 : T = 5
  · subst h5
    exact br_t rfl (br_t rfl ⟨rfl, rl_mk G A B hf⟩)
  · have n5 : ¬ nI T = 5 := fun z => h5 ((nI_eq (b := 5) (by omega) (by decide)).mp z)
    rcases dn_ix v1 1000 (by decide) with h | ⟨c, hc, rfl⟩
    · have yb : wpY_table (fun r' v' => r' = -1 ∧ i_Rel (k + 4) (nI T, aW, aP, aD, aC, aK, aS, aR, aX) v') (nI T, fk, bK, bP, bD, bC, bS, bR, bX, bT) v1 v2 v3 := by
        unfold wpY_table
        exact br_f n5 (ly_in_n (b := 999) (by decide) h (br_t rfl ⟨rfl, rl_mk G A B hf⟩))
      unfold wpX_table
      refine br_f n5 ?_
      by_cases z : v1 < 0
      · exact br_t z yb
      · exact br_f z (br_f (Int32.not_le.mpr (Int32.lt_of_lt_of_le (nI_lt (a := 999) (by decide) (by decide)) (h.resolve_left z))) yb)
    · have p1 : ¬ nI c < 0 := nI_pos (by omega)
      have p2 : nI c ≤ 999 := nI_le (b := 999) (by omega) (by decide)
      rcases dn_ix v2 6 (by decide) with h | ⟨p, hp, rfl⟩
      · have yb : wpY_table (fun r' v' => r' = -1 ∧ i_Rel (k + 4) (nI T, aW, aP, aD, aC, aK, aS, aR, aX) v') (nI T, fk, bK, bP, bD, bC, bS, bR, bX, bT) (nI c) v2 v3 := by
          refine ly_tb (by omega) hc (fun _ => ⟨rfl, rl_mk G A B hf⟩) (fun _ => ?_)
          unfold wY_table_135
          exact ly_in_n (b := 5) (by decide) h (br_t rfl ⟨rfl, rl_mk G A B hf⟩)
        unfold wpX_table
        refine br_f n5 (br_f p1 (br_t p2 ?_))
        by_cases z : v2 < 0
        · exact br_t z yb
        · exact br_f z (br_t (h.resolve_left z) yb)
      · rcases dn_ix v3 8 (by decide) with h | ⟨d, hd, rfl⟩
        · unfold wpX_table
          refine br_f n5 (br_f p1 (br_t p2 (br_f (nI_pos (by omega)) (br_f (nI_ge (b := 6) hp (by decide)) (lx_vl_n h (br_t rfl ?_))))))
          refine ly_tb (by omega) hc (fun _ => ⟨rfl, rl_mk G A B hf⟩) (fun _ => ?_)
          unfold wY_table_135
          exact ly_in_y (b := 5) (by decide) hp (br_f (by decide) (ly_in_n (b := 7) (by decide) h (br_t rfl ⟨rfl, rl_mk G A B hf⟩)))
        · refine lx_tb G A (by omega) hc hp hd (fun hk' => ?_) (fun hk' aW' aP' aD' aC' aK' A' => ?_)
          · exact ly_tb (by omega) hc (fun _ => ⟨rfl, rl_mk G A B hf⟩) (fun q => absurd q hk')
          · exact ly_tb (by omega) hc (fun q => absurd hk' q) (fun _ => ly_t135 G B (by omega) hp hd (fun bK' bP' bD' bC' B' => ⟨rfl, rl_mk (dt_G_new G (by omega) hc hp hd hk') A' B' (Or.inl rfl)⟩))
end
