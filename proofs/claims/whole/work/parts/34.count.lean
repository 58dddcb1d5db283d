/-! How many rows: by both sets (Nn), by the set of lamps alone (Wn). -/
theorem sm_zero : ∀ n, fb_sm (fun _ => 0) n = 0
  | 0 => rfl
  | n + 1 => by rw [fb_sm_succ, sm_zero n]
theorem sm_z {f : Nat → Nat} {n : Nat} (h : ∀ k, k < n → f k = 0) : fb_sm f n = 0 := by
  rw [fb_sm_cong h, sm_zero]
theorem sm_mul (c : Nat) (f : Nat → Nat) : ∀ n, fb_sm (fun k => c * f k) n = c * fb_sm f n
  | 0 => rfl
  | n + 1 => by rw [fb_sm_succ, fb_sm_succ, sm_mul c f n, Nat.mul_add]
theorem sm_swap (f : Nat → Nat → Nat) (m : Nat) : ∀ n, fb_sm (fun i => fb_sm (fun j => f i j) m) n = fb_sm (fun j => fb_sm (fun i => f i j) n) m
  | 0 => (sm_zero m).symm
  | n + 1 => by
    rw [fb_sm_succ, sm_swap f m n, ← fb_sm_add]
    rfl
/-- the sum over the members of a set -/
def sOn (a : Nat) (f : Nat → Nat) : Nat := fb_sm (fun i => if a.testBit i = true then f i else 0) 6
theorem sOn_cong {a : Nat} {f g : Nat → Nat} (h : ∀ i, i < 6 → a.testBit i = true → f i = g i) : sOn a f = sOn a g := by
  refine fb_sm_cong (fun k hk => ?_)
  by_cases c : a.testBit k = true
  · rw [if_pos c, if_pos c, h k hk c]
  · rw [if_neg c, if_neg c]
theorem sOn_mul (c a : Nat) (f : Nat → Nat) : sOn a (fun i => c * f i) = c * sOn a f := by
  unfold sOn
  rw [← sm_mul]
  refine fb_sm_cong (fun k hk => ?_)
  by_cases d : a.testBit k = true
  · rw [if_pos d, if_pos d]
  · rw [if_neg d, if_neg d, Nat.mul_zero]
theorem sOn_add (a : Nat) (f g : Nat → Nat) : sOn a (fun i => f i + g i) = sOn a f + sOn a g := by
  unfold sOn
  rw [← fb_sm_add]
  refine fb_sm_cong (fun k hk => ?_)
  by_cases d : a.testBit k = true
  · rw [if_pos d, if_pos d, if_pos d]
  · rw [if_neg d, if_neg d, if_neg d]
theorem sOn_zero (a : Nat) : sOn a (fun _ => 0) = 0 := by
  unfold sOn
  refine sm_z (fun k hk => ?_)
  by_cases d : a.testBit k = true
  · rw [if_pos d]
  · rw [if_neg d]
theorem sOn_swap (a b : Nat) (f : Nat → Nat → Nat) : sOn a (fun i => sOn b (fun j => f i j)) = sOn b (fun j => sOn a (fun i => f i j)) := by
  unfold sOn
  have e1 : fb_sm (fun i => if a.testBit i = true then fb_sm (fun j => if b.testBit j = true then f i j else 0) 6 else 0) 6 = fb_sm (fun i => fb_sm (fun j => if a.testBit i = true then (if b.testBit j = true then f i j else 0) else 0) 6) 6 := by
    refine fb_sm_cong (fun k hk => ?_)
    by_cases d : a.testBit k = true
    · rw [if_pos d]
      refine fb_sm_cong (fun j hj => ?_)
      rw [if_pos d]
    · rw [if_neg d]
      refine (sm_z (fun j hj => ?_)).symm
      rw [if_neg d]
  rw [e1, sm_swap]
  refine fb_sm_cong (fun k hk => ?_)
  by_cases d : b.testBit k = true
  · rw [if_pos d]
    refine fb_sm_cong (fun j hj => ?_)
    rw [if_pos d]
  · rw [if_neg d]
    refine sm_z (fun j hj => ?_)
    rw [if_neg d]
    by_cases e : a.testBit j = true
    · rw [if_pos e]
    · rw [if_neg e]
theorem ct_zero {f : Nat → Bool} (m : Nat) : ∀ n, (∀ i, m ≤ i → f i = false) → fb_ct f (m + n) = fb_ct f m
  | 0, _ => rfl
  | n + 1, h => by
    have e : m + (n + 1) = (m + n) + 1 := by omega
    rw [e, fb_ct_succ, ct_zero m n h, h (m + n) (by omega)]
    rfl
theorem pcn6 {a : Nat} (ha : a < 64) : pcn a = fb_ct a.testBit 6 := by
  refine ct_zero 6 6 (fun i hi => ?_)
  cases hb : a.testBit i with
  | false => rfl
  | true => have := bits_lt (n := 6) ha hb; omega
theorem sm_ct (a c : Nat) : ∀ n, fb_sm (fun i => if a.testBit i = true then c else 0) n = fb_ct a.testBit n * c
  | 0 => by rw [show fb_sm (fun i => if a.testBit i = true then c else 0) 0 = 0 from rfl, show fb_ct a.testBit 0 = 0 from rfl, Nat.zero_mul]
  | n + 1 => by
    rw [fb_sm_succ, fb_ct_succ, sm_ct a c n, Nat.add_mul]
    by_cases d : a.testBit n = true
    · rw [if_pos d, if_pos d, Nat.one_mul]
    · rw [if_neg d, if_neg d, Nat.zero_mul]
theorem sOn_const {a : Nat} (ha : a < 64) (c : Nat) : sOn a (fun _ => c) = pcn a * c := by
  rw [pcn6 ha]; exact sm_ct a c 6
/-- a set and its part -/
theorem sOn_part {a b : Nat} (f : Nat → Nat) (hab : sbs b a) : sOn a f = sOn b f + sOn (dif a b) f := by
  unfold sOn
  rw [← fb_sm_add]
  refine fb_sm_cong (fun k hk => ?_)
  by_cases d : b.testBit k = true
  · have h2 : (dif a b).testBit k = false := by rw [dif_bit, d]; simp
    rw [if_pos (hab k d), if_pos d, h2]; simp
  · by_cases e : a.testBit k = true
    · have h2 : (dif a b).testBit k = true := by rw [dif_bit, e]; simp [d]
      rw [if_pos e, if_neg d, if_pos h2, Nat.zero_add]
    · have h2 : (dif a b).testBit k = false := by rw [dif_bit]; simp [e]
      rw [if_neg e, if_neg d, h2]; simp
def Wn (v : Nat → Nat) (ok : Nat → Nat → Bool) (Q : Nat) : Nat → Nat → Nat
  | 0, S => if ok 0 S then 1 else 0
  | j + 1, S => if ok (j + 1) S then (pcn (v S &&& Q) - j) * sOn S (fun l => Wn v ok Q j (clr S l)) else 0
def Nn (v : Nat → Nat) (ok : Nat → Nat → Bool) : Nat → Nat → Nat → Nat
  | 0, _, S => if ok 0 S then 1 else 0
  | j + 1, P, S => if ok (j + 1) S then sOn (v S &&& P) (fun p => sOn S (fun l => Nn v ok j (clr P p) (clr S l))) else 0
theorem Wn_skip {v : Nat → Nat} (hv : ∀ a b, sbs a b → sbs (v a) (v b)) {ok : Nat → Nat → Bool} {Q p : Nat} : ∀ j S, (v S).testBit p = false → Wn v ok (clr Q p) j S = Wn v ok Q j S
  | 0, S, _ => rfl
  | j + 1, S, h => by
    have e : v S &&& clr Q p = v S &&& Q := by
      apply Nat.eq_of_testBit_eq
      intro i
      rw [Nat.testBit_and, Nat.testBit_and, clr_bit]
      by_cases e : i = p
      · subst e; rw [h]; rfl
      · simp [e]
    rw [Wn, Wn, e]
    have e2 : sOn S (fun l => Wn v ok (clr Q p) j (clr S l)) = sOn S (fun l => Wn v ok Q j (clr S l)) := by
      refine sOn_cong (fun l _ _ => Wn_skip hv j _ ?_)
      cases hq : (v (clr S l)).testBit p with
      | false => rfl
      | true => rw [hv _ _ (clr_sbs S l) p hq] at h; cases h
    rw [e2]
theorem and64 {M Q : Nat} (hQ : Q < 64) : M &&& Q < 64 := Nat.and_lt_two_pow (n := 6) _ hQ
theorem dif64 {M Q : Nat} (hQ : M < 64) : dif M Q < 64 := Nat.lt_of_le_of_lt (dif_le _ _) hQ
/-- the arithmetic of the step -/
theorem fac {a m j : Nat} (h : a ≤ m) : ((a - 1) - j) * (a - j) + (m - a) * (a - j) = (m - (j + 1)) * (a - j) := by
  rcases Nat.eq_zero_or_pos (a - j) with q | q
  · rw [q]; simp
  · rw [← Nat.add_mul]
    congr 1
    omega
theorem Wn_key {v : Nat → Nat} (hv : ∀ a b, sbs a b → sbs (v a) (v b)) {ok : Nat → Nat → Bool} {Q : Nat} (hQ : Q < 64) : ∀ j T M, sbs (v T) M → sOn (M &&& Q) (fun p => Wn v ok (clr Q p) j T) = (pcn (M &&& Q) - j) * Wn v ok Q j T
  | 0, T, M, hM => by
    have e : ∀ p, Wn v ok (clr Q p) 0 T = Wn v ok Q 0 T := fun p => rfl
    rw [sOn_cong (fun p _ _ => e p), sOn_const (and64 hQ), Nat.sub_zero]
  | j + 1, T, M, hM => by
    by_cases hok : ok (j + 1) T = true
    · have hsub : sbs (v T &&& Q) (M &&& Q) := hM.and (sbs.rf Q)
      have hle := pcn_sub hsub
      have hsp := pcn_split hsub
      rw [sOn_part _ hsub]
      -- those who can leave by T
      have e1 : sOn (v T &&& Q) (fun p => Wn v ok (clr Q p) (j + 1) T) = ((pcn (v T &&& Q) - 1) - j) * ((pcn (v T &&& Q) - j) * sOn T (fun l => Wn v ok Q j (clr T l))) := by
        have e2 : sOn (v T &&& Q) (fun p => Wn v ok (clr Q p) (j + 1) T) = sOn (v T &&& Q) (fun p => ((pcn (v T &&& Q) - 1) - j) * sOn T (fun l => Wn v ok (clr Q p) j (clr T l))) := by
          refine sOn_cong (fun p hp hb => ?_)
          rw [Wn, if_pos hok, and_clr]
          have := pcn_clr (show p < 12 by omega) hb
          congr 2
          omega
        rw [e2, sOn_mul, sOn_swap]
        congr 1
        rw [← sOn_mul]
        refine sOn_cong (fun l hl hb => ?_)
        exact Wn_key hv hQ j (clr T l) (v T) (hv _ _ (clr_sbs T l))
      -- the others
      have e3 : sOn (dif (M &&& Q) (v T &&& Q)) (fun p => Wn v ok (clr Q p) (j + 1) T) = (pcn (M &&& Q) - pcn (v T &&& Q)) * ((pcn (v T &&& Q) - j) * sOn T (fun l => Wn v ok Q j (clr T l))) := by
        have e4 : sOn (dif (M &&& Q) (v T &&& Q)) (fun p => Wn v ok (clr Q p) (j + 1) T) = sOn (dif (M &&& Q) (v T &&& Q)) (fun _ => (pcn (v T &&& Q) - j) * sOn T (fun l => Wn v ok Q j (clr T l))) := by
          refine sOn_cong (fun p hp hb => ?_)
          have hn : (v T).testBit p = false := by
            rw [dif_bit, Bool.and_eq_true, Nat.testBit_and, Nat.testBit_and, Bool.and_eq_true] at hb
            have h1 := hb.1.2
            have h2 := hb.2
            rw [h1] at h2
            simpa using h2
          rw [Wn_skip hv _ _ hn, Wn, if_pos hok]
        rw [e4, sOn_const (dif64 (and64 hQ))]
        congr 1
        omega
      rw [e1, e3, Wn, if_pos hok, ← Nat.mul_assoc, ← Nat.mul_assoc, ← Nat.mul_assoc, ← Nat.add_mul, fac hle]
    · have e : ∀ p, Wn v ok (clr Q p) (j + 1) T = 0 := fun p => by rw [Wn, if_neg hok]
      rw [sOn_cong (fun p _ _ => e p), sOn_zero, Wn, if_neg hok, Nat.mul_zero]
theorem NW {v : Nat → Nat} (hv : ∀ a b, sbs a b → sbs (v a) (v b)) {ok : Nat → Nat → Bool} : ∀ j P S, P < 64 → Nn v ok j P S = Wn v ok P j S
  | 0, P, S, _ => rfl
  | j + 1, P, S, hP => by
    rw [Nn, Wn]
    by_cases hok : ok (j + 1) S = true
    · rw [if_pos hok, if_pos hok, sOn_swap, ← sOn_mul]
      refine sOn_cong (fun l hl hb => ?_)
      have e : sOn (v S &&& P) (fun p => Nn v ok j (clr P p) (clr S l)) = sOn (v S &&& P) (fun p => Wn v ok (clr P p) j (clr S l)) := sOn_cong (fun p hp _ => NW hv j _ _ (Nat.lt_of_le_of_lt (clr_le P p) hP))
      rw [e]
      exact Wn_key hv hP j (clr S l) (v S) (hv _ _ (clr_sbs S l))
    · rw [if_neg hok, if_neg hok]
