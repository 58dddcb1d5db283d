/-! Bits and sets as natural numbers. -/
def clr (a k : Nat) : Nat := a ^^^ (a &&& 2 ^ k)
def dif (a b : Nat) : Nat := a ^^^ (a &&& b)
theorem clr_bit (a k i : Nat) : (clr a k).testBit i = (a.testBit i && !decide (i = k)) := by
  unfold clr
  rw [Nat.testBit_xor, Nat.testBit_and, Nat.testBit_two_pow]
  by_cases h : k = i
  · subst h; simp
  · have h' : ¬ i = k := fun q => h q.symm
    simp [h, h']
theorem dif_bit (a b i : Nat) : (dif a b).testBit i = (a.testBit i && !b.testBit i) := by
  unfold dif
  rw [Nat.testBit_xor, Nat.testBit_and]
  cases a.testBit i <;> cases b.testBit i <;> rfl
theorem clr_le (a k : Nat) : clr a k ≤ a := by
  apply Nat.le_of_testBit
  intro i h
  rw [clr_bit] at h
  simp at h
  exact h.1
theorem dif_le (a b : Nat) : dif a b ≤ a := by
  apply Nat.le_of_testBit
  intro i h
  rw [dif_bit] at h
  simp at h
  exact h.1
theorem sh31 : ∀ n, n < 32 → ((nI n &&& 31).toBitVec.smod 32).toNat = n := by decide +kernel
theorem shu31 : ∀ n, n < 32 → (((nI n).toUInt32 &&& Int32.toUInt32 31).toBitVec % 32).toNat = n := by decide +kernel
theorem b_shl {a k : Nat} (hk : k < 32) (h : a * 2 ^ k < 2 ^ 32) : jshl (nI a) (nI k) = nI (a * 2 ^ k) := pk_shlN _ k (sh31 k hk) h
theorem b_one {k : Nat} (hk : k < 32) : jshl 1 (nI k) = nI (2 ^ k) := by
  have h := b_shl (a := 1) hk (by rw [Nat.one_mul]; exact Nat.pow_lt_pow_right (by decide) hk)
  rw [Nat.one_mul] at h
  exact h
theorem b_shr {a k : Nat} (ha : a < 2 ^ 31) (hk : k < 32) : jshr (nI a) (nI k) = nI (a / 2 ^ k) := pk_shrN ha _ k (sh31 k hk)
theorem b_ushr {a k : Nat} (ha : a < 2 ^ 32) (hk : k < 32) : jushr (nI a) (nI k) = nI (a / 2 ^ k) := pk_ushrN ha _ k (shu31 k hk)
theorem bit_val (a k : Nat) : (a / 2 ^ k) % 2 = if a.testBit k then 1 else 0 := by
  rw [Nat.testBit_eq_decide_div_mod_eq]
  by_cases h : a / 2 ^ k % 2 = 1
  · simp [h]
  · simp [h]; omega
def b01 (b : Bool) : Int32 := if b then 1 else 0
theorem b01_t : b01 true = 1 := rfl
theorem b01_f : b01 false = 0 := rfl
theorem b01_1 {b : Bool} : b01 b = 1 ↔ b = true := by cases b <;> decide
theorem b01_0 {b : Bool} : b01 b = 0 ↔ b = false := by cases b <;> decide
theorem b01_B (b : Bool) : isB (b01 b) := by
  cases b
  · exact Or.inl rfl
  · exact Or.inr rfl
theorem one_and {n : Nat} (h : n < 2 ^ 32) : nI n &&& 1 = nI (n % 2) := pk_andN h 1 rfl
theorem b_bit {a k : Nat} (ha : a < 2 ^ 31) (hk : k < 32) : jshr (nI a) (nI k) &&& 1 = b01 (a.testBit k) := by
  rw [b_shr ha hk, one_and (Nat.lt_of_le_of_lt (Nat.div_le_self _ _) (by omega)), bit_val]
  cases a.testBit k <;> rfl
theorem b_ubit {a k : Nat} (ha : a < 2 ^ 31) (hk : k < 32) : jushr (nI a) (nI k) &&& 1 = b01 (a.testBit k) := by
  rw [b_ushr (by omega) hk, one_and (Nat.lt_of_le_of_lt (Nat.div_le_self _ _) (by omega)), bit_val]
  cases a.testBit k <;> rfl
theorem b_m1 : (-1 : Int32) = nI (2 ^ 32 - 1) := by decide
theorem xor_ones {a b : Nat} (ha : a < 2 ^ 32) : a &&& (b ^^^ (2 ^ 32 - 1)) = dif a b := by
  apply Nat.eq_of_testBit_eq
  intro i
  rw [dif_bit, Nat.testBit_and, Nat.testBit_xor, Nat.testBit_two_pow_sub_one]
  by_cases h : i < 32
  · simp [h]
  · have h2 : a.testBit i = false := Nat.testBit_lt_two_pow (Nat.lt_of_lt_of_le ha (Nat.pow_le_pow_right (by decide) (by omega)))
    simp [h2]
theorem b_andn {a b : Nat} (ha : a < 2 ^ 32) : nI a &&& (nI b ^^^ (-1)) = nI (dif a b) := by
  rw [b_m1, fb_xorI, fa_and, xor_ones ha]
theorem dif_pow (a k : Nat) : dif a (2 ^ k) = clr a k := rfl
theorem b_clr {a k : Nat} (ha : a < 2 ^ 32) (hk : k < 32) : nI a &&& (jshl 1 (nI k) ^^^ (-1)) = nI (clr a k) := by
  rw [b_one hk, b_andn ha, dif_pow]
theorem b_set {a k : Nat} (hk : k < 32) : nI a ||| jshl 1 (nI k) = nI (a ||| 2 ^ k) := by
  rw [b_one hk, fa_or]
theorem b_has {a k : Nat} (hk : k < 31) : (nI a &&& jshl 1 (nI k) = 0) ↔ a.testBit k = false := by
  rw [b_one (by omega)]; exact fa_bit hk
theorem set_bit (a k i : Nat) : (a ||| 2 ^ k).testBit i = (a.testBit i || decide (i = k)) := fb_bit_set a k i
theorem lt_of_bits {a n : Nat} (h : ∀ i, a.testBit i = true → i < n) : a < 2 ^ n := by
  apply Nat.lt_pow_two_of_testBit
  intro i hi
  cases hb : a.testBit i with
  | false => rfl
  | true => have := h i hb; omega
theorem bits_lt {a n i : Nat} (h : a < 2 ^ n) (hb : a.testBit i = true) : i < n := by
  rcases Nat.lt_or_ge i n with q | q
  · exact q
  · have h2 : a.testBit i = false := Nat.testBit_lt_two_pow (Nat.lt_of_lt_of_le h (Nat.pow_le_pow_right (by decide) q))
    rw [h2] at hb; cases hb
/-- the number of members of a set of numbers below 12 -/
def pcn (a : Nat) : Nat := fb_ct a.testBit 12
theorem pcn_le (a : Nat) : pcn a ≤ 12 := fb_ct_le _ _
def bcF1 (p0 : Int32) : Int32 := p0 - ((jushr p0 (1 : Int32)) &&& (1431655765 : Int32))
def bcF2 (x : Int32) : Int32 := (x &&& (858993459 : Int32)) + ((jushr x (2 : Int32)) &&& (858993459 : Int32))
def bcF3 (x : Int32) : Int32 := (x + (jushr x (4 : Int32))) &&& (252645135 : Int32)
def bcF4 (x : Int32) : Int32 := x + (jushr x (8 : Int32))
def bcF5 (x : Int32) : Int32 := x + (jushr x (16 : Int32))
theorem bc_tab : ∀ a, a < 128 → bcF5 (bcF4 (bcF3 (bcF2 (bcF1 (nI a))))) &&& 63 = nI (pcn a) := by decide +kernel
theorem nI_small {a b : Nat} (h : nI a = nI b) (ha : a < 2 ^ 31) (hb : b < 2 ^ 31) : a = b := (nI_eq ha hb).mp h
