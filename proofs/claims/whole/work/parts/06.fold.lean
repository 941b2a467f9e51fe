def dr_fi (d : Nat) (g : Nat → Nat) (F n : Nat) : Int32 := if dt_cb F n = 0 then -1 else nI (dt_res 0 d g F n).1
def dr_la (d : Nat) (g : Nat → Nat) (F n : Nat) : Int32 := if dt_cb F n = 0 then 0 else nI (dt_res 1 d g F n).1
def dr_le (d : Nat) (g : Nat → Nat) (F n : Nat) : Int32 := if dt_cb F n = 0 then 8 else nI (dt_res 2 d g F n).1
def dr_mo (d : Nat) (g : Nat → Nat) (F n : Nat) : Int32 := if dt_cb F n = 0 then -1 else nI (dt_res 3 d g F n).1
theorem dr_no {d : Nat} {g : Nat → Nat} {F n : Nat} (h : ¬ F.testBit n = true) : dr_fi d g F (n + 1) = dr_fi d g F n ∧ dr_la d g F (n + 1) = dr_la d g F n ∧ dr_le d g F (n + 1) = dr_le d g F n ∧ dr_mo d g F (n + 1) = dr_mo d g F n ∧ dt_sm g F (n + 1) = dt_sm g F n := by
  unfold dr_fi dr_la dr_le dr_mo
  rw [dt_cb_n h, dt_res_n h, dt_res_n h, dt_res_n h, dt_res_n h, dt_sm_n h]
  exact ⟨rfl, rfl, rfl, rfl, rfl⟩
theorem dr_fi_y {d : Nat} {g : Nat → Nat} (hd : d ≤ 7) (hg : ∀ j, g j ≤ 7) {F n : Nat} (h : F.testBit n = true) : (dr_fi d g F n < 0 ∧ dr_fi d g F (n + 1) = nI (g n)) ∨ (¬ dr_fi d g F n < 0 ∧ dr_fi d g F (n + 1) = dr_fi d g F n) := by
  unfold dr_fi
  rw [dt_cb_y h, dt_step h, if_neg (Nat.succ_ne_zero _)]
  by_cases z : dt_cb F n = 0
  · rw [if_pos z, if_pos z]
    exact Or.inl ⟨by decide, rfl⟩
  · rw [if_neg z, if_neg z]
    have := dt_res_le (p := 0) hd hg F n
    exact Or.inr ⟨nI_pos (by omega), rfl⟩
theorem dr_la_y {d : Nat} {g : Nat → Nat} {F n : Nat} (h : F.testBit n = true) : dr_la d g F (n + 1) = nI (g n) := by
  unfold dr_la
  rw [dt_cb_y h, dt_step h, if_neg (Nat.succ_ne_zero _)]
  by_cases z : dt_cb F n = 0
  · rw [if_pos z]
  · rw [if_neg z]
    rfl
theorem dr_le_y {d : Nat} {g : Nat → Nat} (hd : d ≤ 7) (hg : ∀ j, g j ≤ 7) {F n : Nat} (h : F.testBit n = true) : (nI (g n) < dr_le d g F n ∧ dr_le d g F (n + 1) = nI (g n)) ∨ (¬ nI (g n) < dr_le d g F n ∧ dr_le d g F (n + 1) = dr_le d g F n) := by
  unfold dr_le
  rw [dt_cb_y h, dt_step h, if_neg (Nat.succ_ne_zero _)]
  have h1 := hg n
  by_cases z : dt_cb F n = 0
  · rw [if_pos z, if_pos z]
    exact Or.inl ⟨nI_lt (b := 8) (by omega) (by decide), rfl⟩
  · rw [if_neg z, if_neg z]
    have h2 := dt_res_le (p := 2) hd hg F n
    have e : dt_join 2 d (dt_res 2 d g F n).1 (g n) = if g n < (dt_res 2 d g F n).1 then g n else (dt_res 2 d g F n).1 := rfl
    rw [e, nI_ltI (by omega) (by omega)]
    by_cases c : g n < (dt_res 2 d g F n).1
    · rw [if_pos c]; exact Or.inl ⟨c, rfl⟩
    · rw [if_neg c]; exact Or.inr ⟨c, rfl⟩
theorem dr_mo_y {d : Nat} {g : Nat → Nat} (hd : d ≤ 7) (hg : ∀ j, g j ≤ 7) {F n : Nat} (h : F.testBit n = true) : (dr_mo d g F n < nI (g n) ∧ dr_mo d g F (n + 1) = nI (g n)) ∨ (¬ dr_mo d g F n < nI (g n) ∧ dr_mo d g F (n + 1) = dr_mo d g F n) := by
  unfold dr_mo
  rw [dt_cb_y h, dt_step h, if_neg (Nat.succ_ne_zero _)]
  have h1 := hg n
  by_cases z : dt_cb F n = 0
  · rw [if_pos z, if_pos z]
    refine Or.inl ⟨?_, rfl⟩
    rw [Int32.lt_iff_toInt_lt, nI_toInt (by omega), show (-1 : Int32).toInt = -1 from by decide]
    omega
  · rw [if_neg z, if_neg z]
    have h2 := dt_res_le (p := 3) hd hg F n
    have e : dt_join 3 d (dt_res 3 d g F n).1 (g n) = if (dt_res 3 d g F n).1 < g n then g n else (dt_res 3 d g F n).1 := rfl
    rw [e, nI_ltI (by omega) (by omega)]
    by_cases c : (dt_res 3 d g F n).1 < g n
    · rw [if_pos c]; exact Or.inl ⟨c, rfl⟩
    · rw [if_neg c]; exact Or.inr ⟨c, rfl⟩
/-- the eight-step result is the table's own -/
theorem dt_R8 {T : Nat} {P : Nat → Nat → Nat} (G : dt_G T P) {t F : Nat} (hF : ∀ i, P 3 t ≤ i → F.testBit i = false) : (dt_res (P 1 t) (P 2 t) (fun r => P 5 (8 * t + r)) F 8).1 = dt_R P t F := by
  obtain ⟨j, hj⟩ : ∃ j, 8 = P 3 t + j := ⟨8 - P 3 t, by have := G.2.2.2.2.1 t; omega⟩
  have e := dt_res_st (p := P 1 t) (d := P 2 t) (g := fun r => P 5 (8 * t + r)) hF j
  rw [← hj] at e
  rw [e]
  rfl
theorem dt_R0 {T : Nat} {P : Nat → Nat → Nat} (G : dt_G T P) (t : Nat) : dt_R P t 0 = P 2 t := by
  rw [← dt_R8 G (t := t) (F := 0) (fun i _ => Nat.zero_testBit i)]
  have e : ∀ n, dt_res (P 1 t) (P 2 t) (fun r => P 5 (8 * t + r)) 0 n = (P 2 t, false) := by
    intro n
    induction n with
    | zero => rfl
    | succ n ih => rw [dt_res_n (by rw [Nat.zero_testBit]; exact fun z => nomatch z)]; exact ih
  rw [e]
/-- what the reference answers out of its five numbers -/
theorem dt_fin {T : Nat} {P : Nat → Nat → Nat} (G : dt_G T P) {t F : Nat} (h8 : F < 256) (h0 : F ≠ 0) (hF : ∀ i, P 3 t ≤ i → F.testBit i = false) (g : Nat → Nat) (hg : g = fun r => P 5 (8 * t + r)) :
    (P 1 t = 5 → (F &&& (F - 1) = 0 → dr_fi (P 2 t) g F 8 = nI (dt_R P t F)) ∧ (F &&& (F - 1) ≠ 0 → P 2 t = dt_R P t F)) ∧
    (P 1 t = 0 → dr_fi (P 2 t) g F 8 = nI (dt_R P t F)) ∧ (P 1 t = 1 → dr_la (P 2 t) g F 8 = nI (dt_R P t F)) ∧ (P 1 t = 2 → dr_le (P 2 t) g F 8 = nI (dt_R P t F)) ∧ (P 1 t = 3 → dr_mo (P 2 t) g F 8 = nI (dt_R P t F)) ∧
    (P 1 t = 4 → (7 < dt_sm g F 8 → 7 = dt_R P t F) ∧ (dt_sm g F 8 ≤ 7 → dt_sm g F 8 = dt_R P t F)) := by
  have hc : dt_cb F 8 ≠ 0 := fun z => h0 ((dt_pop0 F h8).mpr z)
  have e := dt_R8 G hF
  rw [← hg] at e
  refine ⟨fun hp => ⟨fun z => ?_, fun z => ?_⟩, fun hp => ?_, fun hp => ?_, fun hp => ?_, fun hp => ?_, fun hp => ?_⟩
  · have := (dt_pop F h8).mp z
    rw [hp] at e
    rw [← e, (dt_r5 F 8).1 (by omega)]
    unfold dr_fi
    rw [if_neg hc]
  · have : ¬ dt_cb F 8 ≤ 1 := fun y => z ((dt_pop F h8).mpr y)
    rw [hp] at e
    rw [← e, (dt_r5 F 8).2 (by omega)]
  · rw [hp] at e
    rw [← e]
    exact if_neg hc
  · rw [hp] at e
    rw [← e]
    exact if_neg hc
  · rw [hp] at e
    rw [← e]
    exact if_neg hc
  · rw [hp] at e
    rw [← e]
    exact if_neg hc
  · rw [hp] at e
    rw [← e, dt_r4 (by rw [hg]; exact fun j => G.2.2.2.2.2.2.1 _) F 8 (by omega)]
    refine ⟨fun z => ?_, fun z => ?_⟩
    · rw [if_pos z]
    · rw [if_neg (by omega)]
