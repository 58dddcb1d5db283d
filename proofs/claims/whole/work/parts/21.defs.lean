/-! What a hall and a state of it are, in numbers; how the class and the reference hold them. -/
abbrev Hal : Type := (Nat × Nat × Nat × Nat × Nat × Nat × Nat) × (Nat → Nat) × (Nat → Nat) × (Nat → Nat) × (Nat → Nat) × (Nat → Nat)
def hW (h : Hal) : Nat := h.1.1
def hH (h : Hal) : Nat := h.1.2.1
def hWal (h : Hal) : Nat := h.1.2.2.1
def hDor (h : Hal) : Nat := h.1.2.2.2.1
def hLaw (h : Hal) : Nat := h.1.2.2.2.2.1
def hNl (h : Hal) : Nat := h.1.2.2.2.2.2.1
def hNp (h : Hal) : Nat := h.1.2.2.2.2.2.2
def hLc (h : Hal) : Nat → Nat := h.2.1
def hLr (h : Hal) : Nat → Nat := h.2.2.1
def hPc (h : Hal) : Nat → Nat := h.2.2.2.1
def hPw (h : Hal) : Nat → Nat := h.2.2.2.2.1
def hPs (h : Hal) : Nat → Nat := h.2.2.2.2.2
def hC (h : Hal) : Nat := hW h * hH h
def OkH (h : Hal) : Prop := (1 ≤ hW h ∧ hW h ≤ 4) ∧ (1 ≤ hH h ∧ hH h ≤ 3) ∧ hWal h < 2 ^ hC h ∧ hDor h < 2 ^ hC h ∧ hLaw h ≤ 1 ∧ hNl h ≤ 6 ∧ hNp h ≤ 6 ∧ (∀ l, l < hNl h → hLc h l < hC h ∧ hLr h l ≤ 9) ∧ (∀ p, p < hNp h → hPc h p < hC h ∧ hPw h p ≤ 9 ∧ hPs h p ≤ 1)
theorem OkH.c12 {h : Hal} (k : OkH h) : 1 ≤ hC h ∧ hC h ≤ 12 := by
  obtain ⟨⟨a, b⟩, ⟨c, d⟩, -⟩ := k
  exact ⟨Nat.mul_le_mul a c, Nat.mul_le_mul b d⟩
/-- the reference's row of numbers -/
def RM (h : Hal) (t : Nat → Int32) : Prop := t 0 = nI (hW h) ∧ t 1 = nI (hH h) ∧ t 2 = nI (hLaw h) ∧ t 3 = nI (hNl h) ∧ t 4 = nI (hNp h) ∧ t 5 = nI (hWal h) ∧ t 6 = nI (hDor h) ∧ (∀ l, l < hNl h → t (7 + l) = nI (hLc h l) ∧ t (13 + l) = nI (hLr h l)) ∧ (∀ p, p < hNp h → t (19 + p) = nI (hPc h p) ∧ t (25 + p) = nI (hPw h p) ∧ t (31 + p) = nI (hPs h p))
/-- the class's hall, without what it computes -/
def RH0 (h : Hal) (wide high walls doors law lamps people : Int32) (lampCell lampReach personCell wish side : Nat → Int32) : Prop := wide = nI (hW h) ∧ high = nI (hH h) ∧ walls = nI (hWal h) ∧ doors = nI (hDor h) ∧ law = nI (hLaw h) ∧ lamps = nI (hNl h) ∧ people = nI (hNp h) ∧ (∀ l, l < hNl h → lampCell l = nI (hLc h l) ∧ lampReach l = nI (hLr h l)) ∧ (∀ p, p < hNp h → personCell p = nI (hPc h p) ∧ wish p = nI (hPw h p) ∧ side p = nI (hPs h p))
abbrev Nw : Type := (Nat × Nat) × (Nat → Nat) × (Nat → Nat) × (Nat → Nat) × (Nat → Nat) × (Nat → Nat)
def nLeft (w : Nw) : Nat := w.1.1
def nSeen (w : Nw) : Nat := w.1.2
def nWho (w : Nw) : Nat → Nat := w.2.1
def nLmp (w : Nw) : Nat → Nat := w.2.2.1
def nAft (w : Nw) : Nat → Nat := w.2.2.2.1
def nWhe (w : Nw) : Nat → Nat := w.2.2.2.2.1
def nLig (w : Nw) : Nat → Nat := w.2.2.2.2.2
def OkN (h : Hal) (w : Nw) : Prop := (∀ k, k < nLeft w → nWho w k < hNp h ∧ nLmp w k < hNl h) ∧ (∀ i j, i < nLeft w → j < nLeft w → nWho w i = nWho w j → i = j) ∧ (∀ i j, i < nLeft w → j < nLeft w → nLmp w i = nLmp w j → i = j) ∧ nSeen w ≤ 8 ∧ ∀ k, k < nSeen w → nAft w k ≤ 6 ∧ nWhe w k < hC h ∧ nLig w k ≤ 1
theorem OkN.left {h : Hal} {w : Nw} (k : OkN h w) (o : OkH h) : nLeft w ≤ hNp h ∧ nLeft w ≤ hNl h ∧ nLeft w ≤ 6 := by
  have h1 : nLeft w ≤ hNp h := fb_holes (hNp h) (nLeft w) (nWho w) (fun i hi => (k.1 i hi).1) (fun i j hij hj e => by have := k.2.1 i j (by omega) hj e; omega)
  have h2 : nLeft w ≤ hNl h := fb_holes (hNl h) (nLeft w) (nLmp w) (fun i hi => (k.1 i hi).2) (fun i j hij hj e => by have := k.2.2.1 i j (by omega) hj e; omega)
  have := o.2.2.2.2.2.2.1
  exact ⟨h1, h2, by omega⟩
/-- the set of the first k of a row -/
def msk (f : Nat → Nat) : Nat → Nat
  | 0 => 0
  | k + 1 => msk f k ||| 2 ^ f k
theorem msk_bit (f : Nat → Nat) (i : Nat) : ∀ k, (msk f k).testBit i = true ↔ ∃ j, j < k ∧ f j = i
  | 0 => by simp [msk]
  | k + 1 => by
    rw [msk, set_bit, Bool.or_eq_true, msk_bit f i k, decide_eq_true_eq]
    constructor
    · rintro (⟨j, h1, h2⟩ | h)
      · exact ⟨j, by omega, h2⟩
      · exact ⟨k, by omega, h.symm⟩
    · rintro ⟨j, h1, h2⟩
      rcases Nat.lt_or_ge j k with q | q
      · exact Or.inl ⟨j, q, h2⟩
      · have e : j = k := by omega
        rw [e] at h2
        exact Or.inr h2.symm
theorem msk_lt {f : Nat → Nat} {k n : Nat} (h : ∀ j, j < k → f j < n) : msk f k < 2 ^ n := lt_of_bits (fun i hi => by
  obtain ⟨j, h1, h2⟩ := (msk_bit f i k).mp hi
  rw [← h2]; exact h j h1)
def goneN (w : Nw) : Nat := msk (nWho w) (nLeft w)
def allP (h : Hal) : Nat := 2 ^ hNp h - 1
def allL (h : Hal) : Nat := 2 ^ hNl h - 1
def thereN (h : Hal) (w : Nw) : Nat := dif (allP h) (goneN w)
def litN (h : Hal) (w : Nw) : Nat := dif (allL h) (msk (nLmp w) (nLeft w))
/-- the reference's state -/
def RS (w : Nw) (s : Nat → Int32) : Prop := s 0 = nI (nLeft w) ∧ s 13 = nI (nSeen w) ∧ (∀ k, k < nLeft w → s (1 + k) = nI (nWho w k) ∧ s (7 + k) = nI (nLmp w k)) ∧ ∀ k, k < nSeen w → s (14 + k) = nI (nAft w k) ∧ s (22 + k) = nI (nWhe w k) ∧ s (30 + k) = nI (nLig w k)
/-- the class's state -/
def RC (w : Nw) (left gone dark seen : Int32) (leaver putOut seenAfter seenCell seenLight : Nat → Int32) : Prop := left = nI (nLeft w) ∧ gone = nI (goneN w) ∧ dark = nI (msk (nLmp w) (nLeft w)) ∧ seen = nI (nSeen w) ∧ (∀ k, k < nLeft w → leaver k = nI (nWho w k) ∧ putOut k = nI (nLmp w k)) ∧ ∀ k, k < nSeen w → seenAfter k = nI (nAft w k) ∧ seenCell k = nI (nWhe w k) ∧ seenLight k = nI (nLig w k)
theorem p2lt {a b : Nat} (h : a ≤ b) : 2 ^ a ≤ 2 ^ b := Nat.pow_le_pow_right (by decide) h
theorem p2pos (a : Nat) : 0 < 2 ^ a := Nat.two_pow_pos a
theorem all_bit (n i : Nat) : (2 ^ n - 1).testBit i = decide (i < n) := Nat.testBit_two_pow_sub_one n i
theorem allL_lt (h : Hal) : allL h < 2 ^ hNl h := by have := p2pos (hNl h); unfold allL; omega
theorem allP_lt (h : Hal) : allP h < 2 ^ hNp h := by have := p2pos (hNp h); unfold allP; omega
theorem litN_lt (h : Hal) (w : Nw) : litN h w < 2 ^ hNl h := Nat.lt_of_le_of_lt (dif_le _ _) (allL_lt h)
theorem thereN_lt (h : Hal) (w : Nw) : thereN h w < 2 ^ hNp h := Nat.lt_of_le_of_lt (dif_le _ _) (allP_lt h)
theorem goneN_lt {h : Hal} {w : Nw} (k : OkN h w) : goneN w < 2 ^ hNp h := msk_lt (fun j hj => (k.1 j hj).1)
theorem two6 {n : Nat} (h : n ≤ 6) : 2 ^ n ≤ 64 := p2lt h
theorem two12 {n : Nat} (h : n ≤ 12) : 2 ^ n ≤ 4096 := p2lt h
