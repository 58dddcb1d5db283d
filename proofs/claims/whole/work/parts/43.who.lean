/-! who: rows in which one puts out a certain lamp. -/
theorem sOn_z {a : Nat} {f : Nat → Nat} (h : ∀ i, i < 6 → a.testBit i = true → f i = 0) : sOn a f = 0 := by
  rw [sOn_cong h, sOn_zero]
theorem clr_comm (a p q : Nat) : clr (clr a p) q = clr (clr a q) p := by
  apply Nat.eq_of_testBit_eq
  intro i
  rw [clr_bit, clr_bit, clr_bit, clr_bit, Bool.and_assoc, Bool.and_assoc, Bool.and_comm (!decide (i = p))]
theorem pow_inj {a b : Nat} (h : (2 : Nat) ^ a = 2 ^ b) : a = b := by
  have h1 : ((2 : Nat) ^ a).testBit b = true := by rw [h, Nat.testBit_two_pow]; simp
  rw [Nat.testBit_two_pow] at h1
  exact of_decide_eq_true h1
theorem and_pow_t {S l : Nat} (h : S.testBit l = true) : S &&& 2 ^ l ≠ 0 := by
  rw [and_pow, if_pos h]
  have := p2pos l
  omega
theorem and_pow_f {S l : Nat} (h : ¬ S.testBit l = true) : S &&& 2 ^ l = 0 := by rw [and_pow, if_neg h]
theorem Cw_noL {v : Nat → Nat} {ok : Nat → Nat → Bool} {Q p0 l0 : Nat} : ∀ j S, ¬ S.testBit l0 = true → Cw v ok Q (2 ^ p0) (2 ^ l0) j S = Wn v ok Q j S
  | 0, S, h => by rw [Cw, Wn, if_pos (and_pow_f h)]
  | j + 1, S, h => by
    have e2 : ¬ (S &&& 2 ^ l0 ≠ 0 ∧ v S &&& 2 ^ p0 ≠ 0) := fun q => q.1 (and_pow_f h)
    rw [Cw, Wn, if_pos (and_pow_f h), if_neg e2]
    have e : fb_sm (fun l => if S.testBit l = true ∧ 2 ^ l ≠ 2 ^ l0 then Cw v ok Q (2 ^ p0) (2 ^ l0) j (clr S l) else 0) 6 = sOn S (fun l => Wn v ok Q j (clr S l)) := by
      unfold sOn
      refine fb_sm_cong (fun l hl => ?_)
      by_cases c : S.testBit l = true
      · have ne : l ≠ l0 := fun e => h (e ▸ c)
        rw [if_pos ⟨c, fun q => ne (pow_inj q)⟩, if_pos c, Cw_noL j _ (fun q => h (clr_sbs S l l0 q))]
      · rw [if_neg (fun q => c q.1), if_neg c]
    rw [e]
    rfl
theorem Cw_L {v : Nat → Nat} {ok : Nat → Nat → Bool} {Q p0 l0 j S : Nat} (h : S.testBit l0 = true) (hok : ok (j + 1) S = true) : Cw v ok Q (2 ^ p0) (2 ^ l0) (j + 1) S = (pcn (v S &&& Q) - (j - 1)) * sOn (clr S l0) (fun l => Cw v ok Q (2 ^ p0) (2 ^ l0) j (clr S l)) + (if (v S).testBit p0 = true then Cw v ok Q (2 ^ p0) (2 ^ l0) j (clr S l0) else 0) := by
  rw [Cw, if_pos hok, if_neg (and_pow_t h)]
  have e : fb_sm (fun l => if S.testBit l = true ∧ 2 ^ l ≠ 2 ^ l0 then Cw v ok Q (2 ^ p0) (2 ^ l0) j (clr S l) else 0) 6 = sOn (clr S l0) (fun l => Cw v ok Q (2 ^ p0) (2 ^ l0) j (clr S l)) := by
    unfold sOn
    refine fb_sm_cong (fun l hl => ?_)
    by_cases c : (clr S l0).testBit l = true
    · have c2 := c
      rw [clr_bit, Bool.and_eq_true] at c2
      have ne : l ≠ l0 := fun e => by rw [e] at c2; simp at c2
      rw [if_pos c, if_pos ⟨c2.1, fun q => ne (pow_inj q)⟩]
    · rw [if_neg c, if_neg]
      rintro ⟨q1, q2⟩
      apply c
      rw [clr_bit, q1]
      have ne : ¬ l = l0 := fun e => q2 (by rw [e])
      simp [ne]
  rw [e, dif_pow]
  congr 1
  by_cases c : (v S).testBit p0 = true
  · rw [if_pos c, if_pos ⟨and_pow_t h, and_pow_t c⟩]
  · rw [if_neg c, if_neg (fun q => q.2 (and_pow_f c))]
theorem Cw_skip {v : Nat → Nat} (hv : ∀ a b, sbs a b → sbs (v a) (v b)) {ok : Nat → Nat → Bool} {Q pr lm p : Nat} : ∀ j S, (v S).testBit p = false → Cw v ok (clr Q p) pr lm j S = Cw v ok Q pr lm j S
  | 0, S, _ => rfl
  | j + 1, S, h => by
    have e : v S &&& clr Q p = v S &&& Q := by
      apply Nat.eq_of_testBit_eq
      intro i
      rw [Nat.testBit_and, Nat.testBit_and, clr_bit]
      by_cases e : i = p
      · subst e; rw [h]; rfl
      · simp [e]
    have hsub : ∀ T, sbs T S → (v T).testBit p = false := by
      intro T hT
      cases hq : (v T).testBit p with
      | false => rfl
      | true => rw [hv _ _ hT p hq] at h; cases h
    rw [Cw, Cw, e]
    have e2 : fb_sm (fun l => if S.testBit l = true ∧ 2 ^ l ≠ lm then Cw v ok (clr Q p) pr lm j (clr S l) else 0) 6 = fb_sm (fun l => if S.testBit l = true ∧ 2 ^ l ≠ lm then Cw v ok Q pr lm j (clr S l) else 0) 6 := by
      refine fb_sm_cong (fun l _ => ?_)
      rw [Cw_skip hv j _ (hsub _ (clr_sbs S l))]
    rw [e2, Cw_skip hv j _ (hsub _ (dif_sbs S lm))]
theorem fac2 {a m j : Nat} (h : a ≤ m) : ((a - 1) - (j - 1)) * (a - (j - 1)) + (m - a) * (a - (j - 1)) = (m - ((j + 1) - 1)) * (a - (j - 1)) ∨ j = 0 := by
  cases j with
  | zero => exact Or.inr rfl
  | succ j =>
    left
    have := fac (a := a) (m := m) (j := j) h
    simpa using this
theorem Cw_key {v : Nat → Nat} (hv : ∀ a b, sbs a b → sbs (v a) (v b)) {ok : Nat → Nat → Bool} {Q p0 l0 : Nat} (hQ : Q < 64) : ∀ j T M, T.testBit l0 = true → sbs (v T) M → sOn (M &&& Q) (fun p => Cw v ok (clr Q p) (2 ^ p0) (2 ^ l0) j T) = (pcn (M &&& Q) - (j - 1)) * Cw v ok Q (2 ^ p0) (2 ^ l0) j T
  | 0, T, M, hT, hM => by
    have e : ∀ R, Cw v ok R (2 ^ p0) (2 ^ l0) 0 T = 0 := fun R => by
      rw [Cw, if_neg (and_pow_t hT)]
      by_cases c : ok 0 T = true
      · rw [if_pos c]
      · rw [if_neg c]
    rw [sOn_cong (fun p _ _ => e _), sOn_zero, e, Nat.mul_zero]
  | j + 1, T, M, hT, hM => by
    by_cases hok : ok (j + 1) T = true
    · have hsub : sbs (v T &&& Q) (M &&& Q) := hM.and (sbs.rf Q)
      have hle := pcn_sub hsub
      have hsp := pcn_split hsub
      -- the lamp itself
      have hlamp : sOn (M &&& Q) (fun p => if (v T).testBit p0 = true then Cw v ok (clr Q p) (2 ^ p0) (2 ^ l0) j (clr T l0) else 0) = (pcn (M &&& Q) - j) * (if (v T).testBit p0 = true then Cw v ok Q (2 ^ p0) (2 ^ l0) j (clr T l0) else 0) := by
        by_cases c : (v T).testBit p0 = true
        · have hno : ¬ (clr T l0).testBit l0 = true := by rw [clr_bit]; simp
          rw [if_pos c, Cw_noL j _ hno, ← Wn_key hv hQ j (clr T l0) M ((hv _ _ (clr_sbs T l0)).tr hM)]
          refine sOn_cong (fun p _ _ => ?_)
          rw [if_pos c, Cw_noL j _ hno]
        · rw [if_neg c, Nat.mul_zero]
          refine sOn_z (fun p _ _ => ?_)
          rw [if_neg c]
      -- the other lamps
      have hoth : sOn (M &&& Q) (fun p => (pcn (v T &&& clr Q p) - (j - 1)) * sOn (clr T l0) (fun l => Cw v ok (clr Q p) (2 ^ p0) (2 ^ l0) j (clr T l))) = (pcn (M &&& Q) - j) * ((pcn (v T &&& Q) - (j - 1)) * sOn (clr T l0) (fun l => Cw v ok Q (2 ^ p0) (2 ^ l0) j (clr T l))) := by
        cases j with
        | zero =>
          have z : ∀ R, sOn (clr T l0) (fun l => Cw v ok R (2 ^ p0) (2 ^ l0) 0 (clr T l)) = 0 := by
            intro R
            refine sOn_z (fun l _ hb => ?_)
            have h0 : (clr T l).testBit l0 = true := by
              rw [clr_bit, Bool.and_eq_true] at hb
              rw [clr_bit, hT]
              have : ¬ l0 = l := fun e => by rw [e] at hb; simp at hb
              simp [this]
            rw [Cw, if_neg (and_pow_t h0)]
            by_cases c : ok 0 (clr T l) = true
            · rw [if_pos c]
            · rw [if_neg c]
          rw [z, Nat.mul_zero, Nat.mul_zero]
          refine sOn_z (fun p _ _ => ?_)
          rw [z, Nat.mul_zero]
        | succ j =>
          have ht : ∀ l, (clr T l0).testBit l = true → (clr T l).testBit l0 = true := by
            intro l hb
            rw [clr_bit, Bool.and_eq_true] at hb
            rw [clr_bit, hT]
            have : ¬ l0 = l := fun e => by rw [e] at hb; simp at hb
            simp [this]
          rw [sOn_part _ hsub]
          have e1 : sOn (v T &&& Q) (fun p => (pcn (v T &&& clr Q p) - (j + 1 - 1)) * sOn (clr T l0) (fun l => Cw v ok (clr Q p) (2 ^ p0) (2 ^ l0) (j + 1) (clr T l))) = ((pcn (v T &&& Q) - 1) - j) * ((pcn (v T &&& Q) - j) * sOn (clr T l0) (fun l => Cw v ok Q (2 ^ p0) (2 ^ l0) (j + 1) (clr T l))) := by
            have e2 : sOn (v T &&& Q) (fun p => (pcn (v T &&& clr Q p) - (j + 1 - 1)) * sOn (clr T l0) (fun l => Cw v ok (clr Q p) (2 ^ p0) (2 ^ l0) (j + 1) (clr T l))) = sOn (v T &&& Q) (fun p => ((pcn (v T &&& Q) - 1) - j) * sOn (clr T l0) (fun l => Cw v ok (clr Q p) (2 ^ p0) (2 ^ l0) (j + 1) (clr T l))) := by
              refine sOn_cong (fun p hp hb => ?_)
              rw [and_clr]
              have := pcn_clr (show p < 12 by omega) hb
              congr 1
              omega
            rw [e2, sOn_mul, sOn_swap]
            congr 1
            rw [← sOn_mul]
            refine sOn_cong (fun l hl hb => ?_)
            exact Cw_key hv hQ (j + 1) (clr T l) (v T) (ht l hb) (hv _ _ (clr_sbs T l))
          have e3 : sOn (dif (M &&& Q) (v T &&& Q)) (fun p => (pcn (v T &&& clr Q p) - (j + 1 - 1)) * sOn (clr T l0) (fun l => Cw v ok (clr Q p) (2 ^ p0) (2 ^ l0) (j + 1) (clr T l))) = (pcn (M &&& Q) - pcn (v T &&& Q)) * ((pcn (v T &&& Q) - j) * sOn (clr T l0) (fun l => Cw v ok Q (2 ^ p0) (2 ^ l0) (j + 1) (clr T l))) := by
            have e4 : sOn (dif (M &&& Q) (v T &&& Q)) (fun p => (pcn (v T &&& clr Q p) - (j + 1 - 1)) * sOn (clr T l0) (fun l => Cw v ok (clr Q p) (2 ^ p0) (2 ^ l0) (j + 1) (clr T l))) = sOn (dif (M &&& Q) (v T &&& Q)) (fun _ => (pcn (v T &&& Q) - j) * sOn (clr T l0) (fun l => Cw v ok Q (2 ^ p0) (2 ^ l0) (j + 1) (clr T l))) := by
              refine sOn_cong (fun p hp hb => ?_)
              have hn : (v T).testBit p = false := by
                rw [dif_bit, Bool.and_eq_true, Nat.testBit_and, Nat.testBit_and, Bool.and_eq_true] at hb
                have h1 := hb.1.2
                have h2 := hb.2
                rw [h1] at h2
                simpa using h2
              have e5 : v T &&& clr Q p = v T &&& Q := by
                apply Nat.eq_of_testBit_eq
                intro i
                rw [Nat.testBit_and, Nat.testBit_and, clr_bit]
                by_cases e : i = p
                · subst e; rw [hn]; rfl
                · simp [e]
              rw [e5]
              congr 1
              refine sOn_cong (fun l _ _ => Cw_skip hv _ _ ?_)
              cases hq : (v (clr T l)).testBit p with
              | false => rfl
              | true => rw [hv _ _ (clr_sbs T l) p hq] at hn; cases hn
            rw [e4, sOn_const (dif64 (and64 hQ))]
            congr 1
            omega
          rw [e1, e3, ← Nat.mul_assoc, ← Nat.mul_assoc, ← Nat.add_mul, fac hle, Nat.mul_assoc]
          rfl
      rw [Cw_L hT hok, Nat.mul_add, Nat.add_sub_cancel, ← hoth, ← hlamp, ← sOn_add]
      refine sOn_cong (fun p _ _ => ?_)
      rw [Cw_L hT hok]
    · have e : ∀ R, Cw v ok R (2 ^ p0) (2 ^ l0) (j + 1) T = 0 := fun R => Cw_0 (by simpa using hok)
      rw [sOn_cong (fun p _ _ => e _), sOn_zero, e, Nat.mul_zero]
def Np (v : Nat → Nat) (ok : Nat → Nat → Bool) (p0 l0 : Nat) : Nat → Nat → Nat → Nat
  | 0, _, _ => 0
  | j + 1, P, S => if ok (j + 1) S then sOn (clr (v S &&& P) p0) (fun p => sOn (clr S l0) (fun l => Np v ok p0 l0 j (clr P p) (clr S l))) + (if (v S &&& P).testBit p0 = true ∧ S.testBit l0 = true then Nn v ok j (clr P p0) (clr S l0) else 0) else 0
theorem NpC {v : Nat → Nat} (hv : ∀ a b, sbs a b → sbs (v a) (v b)) {ok : Nat → Nat → Bool} {p0 l0 : Nat} : ∀ j P S, P < 64 → P.testBit p0 = true → S.testBit l0 = true → Np v ok p0 l0 j P S = Cw v ok (clr P p0) (2 ^ p0) (2 ^ l0) j S
  | 0, P, S, hP, hp, hS => by
    rw [Np, Cw, if_neg (and_pow_t hS)]
    by_cases c : ok 0 S = true
    · rw [if_pos c]
    · rw [if_neg c]
  | j + 1, P, S, hP, hp, hS => by
    by_cases hok : ok (j + 1) S = true
    · rw [Np, if_pos hok, Cw_L hS hok]
      have hcl := clr_le P p0
      congr 1
      · rw [← and_clr, sOn_swap, ← sOn_mul]
        refine sOn_cong (fun l hl hb => ?_)
        have ht : (clr S l).testBit l0 = true := by
          rw [clr_bit, Bool.and_eq_true] at hb
          rw [clr_bit, hS]
          have : ¬ l0 = l := fun e => by rw [e] at hb; simp at hb
          simp [this]
        rw [← Cw_key hv (by omega) j (clr S l) (v S) ht (hv _ _ (clr_sbs S l))]
        refine sOn_cong (fun p hp6 hbp => ?_)
        have hpb : (clr P p).testBit p0 = true := by
          rw [Nat.testBit_and, Bool.and_eq_true, clr_bit, Bool.and_eq_true] at hbp
          rw [clr_bit, hp]
          have : ¬ p0 = p := fun e => by rw [e] at hbp; simp at hbp
          simp [this]
        have hcp := clr_le P p
        rw [NpC hv j (clr P p) (clr S l) (by omega) hpb ht, clr_comm]
      · have hno : ¬ (clr S l0).testBit l0 = true := by rw [clr_bit]; simp
        rw [Nat.testBit_and, hp, Bool.and_true]
        by_cases c : (v S).testBit p0 = true
        · rw [if_pos c, if_pos ⟨c, hS⟩, Cw_noL j _ hno, NW hv _ _ _ (by omega)]
        · rw [if_neg c, if_neg (fun q => c q.1)]
    · rw [Np, if_neg hok, Cw_0 (by simpa using hok)]
theorem sm_pos {f : Nat → Nat} : ∀ {n : Nat}, 0 < fb_sm f n ↔ ∃ i, i < n ∧ 0 < f i
  | 0 => ⟨fun h => absurd h (Nat.lt_irrefl 0), fun ⟨i, hi, _⟩ => absurd hi (Nat.not_lt_zero _)⟩
  | n + 1 => by
    rw [fb_sm_succ]
    constructor
    · intro h
      rcases Nat.eq_zero_or_pos (f n) with q | q
      · obtain ⟨i, h1, h2⟩ := sm_pos.mp (show 0 < fb_sm f n by omega)
        exact ⟨i, by omega, h2⟩
      · exact ⟨n, by omega, q⟩
    · rintro ⟨i, h1, h2⟩
      rcases Nat.lt_or_ge i n with q | q
      · have := sm_pos.mpr ⟨i, q, h2⟩
        omega
      · have : i = n := by omega
        subst this
        omega
theorem sOn_pos {a : Nat} {f : Nat → Nat} : 0 < sOn a f ↔ ∃ i, i < 6 ∧ a.testBit i = true ∧ 0 < f i := by
  unfold sOn
  rw [sm_pos]
  constructor
  · rintro ⟨i, h1, h2⟩
    by_cases c : a.testBit i = true
    · rw [if_pos c] at h2; exact ⟨i, h1, c, h2⟩
    · rw [if_neg c] at h2; omega
  · rintro ⟨i, h1, c, h2⟩
    exact ⟨i, h1, by rw [if_pos c]; exact h2⟩
theorem Nn_pos {v : Nat → Nat} {ok : Nat → Nat → Bool} {j P S : Nat} : 0 < Nn v ok (j + 1) P S ↔ ok (j + 1) S = true ∧ ∃ p l, p < 6 ∧ l < 6 ∧ (v S &&& P).testBit p = true ∧ S.testBit l = true ∧ 0 < Nn v ok j (clr P p) (clr S l) := by
  rw [Nn]
  constructor
  · intro h
    by_cases c : ok (j + 1) S = true
    · rw [if_pos c] at h
      obtain ⟨p, h1, h2, h3⟩ := sOn_pos.mp h
      obtain ⟨l, h4, h5, h6⟩ := sOn_pos.mp h3
      exact ⟨c, p, l, h1, h4, h2, h5, h6⟩
    · rw [if_neg c] at h; omega
  · rintro ⟨c, p, l, h1, h4, h2, h5, h6⟩
    rw [if_pos c]
    exact sOn_pos.mpr ⟨p, h1, h2, sOn_pos.mpr ⟨l, h4, h5, h6⟩⟩
theorem Np_pos {v : Nat → Nat} {ok : Nat → Nat → Bool} {p0 l0 j P S : Nat} : 0 < Np v ok p0 l0 (j + 1) P S ↔ ok (j + 1) S = true ∧ ((∃ p l, p < 6 ∧ l < 6 ∧ (clr (v S &&& P) p0).testBit p = true ∧ (clr S l0).testBit l = true ∧ 0 < Np v ok p0 l0 j (clr P p) (clr S l)) ∨ ((v S &&& P).testBit p0 = true ∧ S.testBit l0 = true ∧ 0 < Nn v ok j (clr P p0) (clr S l0))) := by
  rw [Np]
  constructor
  · intro h
    by_cases c : ok (j + 1) S = true
    · rw [if_pos c] at h
      refine ⟨c, ?_⟩
      rcases Nat.eq_zero_or_pos (sOn (clr (v S &&& P) p0) (fun p => sOn (clr S l0) (fun l => Np v ok p0 l0 j (clr P p) (clr S l)))) with q | q
      · right
        rw [q, Nat.zero_add] at h
        by_cases d : (v S &&& P).testBit p0 = true ∧ S.testBit l0 = true
        · rw [if_pos d] at h; exact ⟨d.1, d.2, h⟩
        · rw [if_neg d] at h; omega
      · left
        obtain ⟨p, h1, h2, h3⟩ := sOn_pos.mp q
        obtain ⟨l, h4, h5, h6⟩ := sOn_pos.mp h3
        exact ⟨p, l, h1, h4, h2, h5, h6⟩
    · rw [if_neg c] at h; omega
  · rintro ⟨c, h⟩
    rw [if_pos c]
    rcases h with ⟨p, l, h1, h4, h2, h5, h6⟩ | ⟨h1, h2, h3⟩
    · have := (sOn_pos (a := clr (v S &&& P) p0) (f := fun p => sOn (clr S l0) (fun l => Np v ok p0 l0 j (clr P p) (clr S l)))).mpr ⟨p, h1, h2, sOn_pos.mpr ⟨l, h4, h5, h6⟩⟩
      omega
    · rw [if_pos ⟨h1, h2⟩]; omega
theorem Np_has {v : Nat → Nat} {ok : Nat → Nat → Bool} {p0 l0 : Nat} (z : p0 < 6 ∧ l0 < 6) : ∀ j P S, 0 < Np v ok p0 l0 j P S → P.testBit p0 = true ∧ S.testBit l0 = true ∧ 0 < Nn v ok j P S
  | 0, P, S, h => absurd h (Nat.lt_irrefl 0)
  | j + 1, P, S, h => by
    obtain ⟨c, h⟩ := Np_pos.mp h
    rcases h with ⟨p, l, h1, h4, h2, h5, h6⟩ | ⟨h1, h2, h3⟩
    · obtain ⟨q1, q2, q3⟩ := Np_has z j _ _ h6
      refine ⟨clr_sbs P p p0 q1, clr_sbs S l l0 q2, Nn_pos.mpr ⟨c, p, l, h1, h4, clr_sbs _ _ p h2, clr_sbs _ _ l h5, q3⟩⟩
    · refine ⟨by rw [Nat.testBit_and, Bool.and_eq_true] at h1; exact h1.2, h2, ?_⟩
      rw [Nn, if_pos c]
      exact sOn_pos.mpr ⟨p0, z.1, h1, sOn_pos.mpr ⟨l0, z.2, h2, h3⟩⟩
theorem sOn_le {a : Nat} {f g : Nat → Nat} (h : ∀ i, i < 6 → a.testBit i = true → f i ≤ g i) : sOn a f ≤ sOn a g := by
  refine fb_sm_le (fun k hk => ?_)
  by_cases c : a.testBit k = true
  · rw [if_pos c, if_pos c]; exact h k hk c
  · rw [if_neg c, if_neg c]; exact Nat.le_refl _
theorem sOn_clr {a i : Nat} (hi : i < 6) (h : a.testBit i = true) (f : Nat → Nat) : sOn a f = sOn (clr a i) f + f i := by
  rw [sOn_part f (clr_sbs a i)]
  congr 1
  have e : dif a (clr a i) = 2 ^ i := by
    apply Nat.eq_of_testBit_eq
    intro k
    rw [dif_bit, clr_bit, Nat.testBit_two_pow]
    by_cases e : k = i
    · subst e; simp [h]
    · have : ¬ i = k := fun q => e q.symm
      simp [e, this]
  rw [e]
  have e2 : sOn (2 ^ i) f = sOn (2 ^ i) (fun _ => f i) := sOn_cong (fun k _ hb => by
    rw [Nat.testBit_two_pow] at hb
    rw [of_decide_eq_true hb])
  have h64 : (2 : Nat) ^ i < 64 := Nat.pow_lt_pow_right (n := 6) (by decide) hi
  have h1 : pcn (2 ^ i) = 1 := by
    have : ∀ q, q < 12 → pcn (2 ^ q) = 1 := by decide +kernel
    exact this i (by omega)
  rw [e2, sOn_const h64, h1, Nat.one_mul]
theorem sOn_sub {a b : Nat} (f : Nat → Nat) (h : sbs b a) : sOn b f ≤ sOn a f := by
  rw [sOn_part f h]; omega
theorem Np_le {v : Nat → Nat} {ok : Nat → Nat → Bool} {p0 l0 : Nat} (z : p0 < 6 ∧ l0 < 6) : ∀ j P S, Np v ok p0 l0 j P S ≤ Nn v ok j P S
  | 0, P, S => Nat.zero_le _
  | j + 1, P, S => by
    rw [Np, Nn]
    by_cases c : ok (j + 1) S = true
    · rw [if_pos c, if_pos c]
      have h1 : sOn (clr (v S &&& P) p0) (fun p => sOn (clr S l0) (fun l => Np v ok p0 l0 j (clr P p) (clr S l))) ≤ sOn (clr (v S &&& P) p0) (fun p => sOn S (fun l => Nn v ok j (clr P p) (clr S l))) := by
        refine sOn_le (fun p _ _ => ?_)
        refine Nat.le_trans (sOn_le (fun l _ _ => Np_le z j _ _)) (sOn_sub _ (clr_sbs S l0))
      by_cases d : (v S &&& P).testBit p0 = true ∧ S.testBit l0 = true
      · rw [if_pos d, sOn_clr z.1 d.1]
        refine Nat.add_le_add h1 ?_
        rw [sOn_clr z.2 d.2]
        omega
      · rw [if_neg d, Nat.add_zero]
        exact Nat.le_trans h1 (sOn_sub _ (clr_sbs _ _))
    · rw [if_neg c]; exact Nat.zero_le _
def bnd : Nat → Nat
  | 0 => 1
  | j + 1 => (6 - j) * (6 * bnd j)
theorem bnd_lt : ∀ j, j < 7 → bnd j < 2 ^ 31 := by decide +kernel
theorem Wn_le {v : Nat → Nat} {ok : Nat → Nat → Bool} {Q : Nat} (hQ : Q < 64) : ∀ j S, Wn v ok Q j S ≤ bnd j
  | 0, S => by
    rw [Wn, bnd]
    by_cases c : ok 0 S = true
    · rw [if_pos c]; exact Nat.le_refl _
    · rw [if_neg c]; exact Nat.zero_le _
  | j + 1, S => by
    rw [Wn, bnd]
    by_cases c : ok (j + 1) S = true
    · rw [if_pos c]
      refine Nat.mul_le_mul ?_ ?_
      · have := pcn_s64 (and64 (M := v S) hQ)
        omega
      · refine fb_sm_bound (fun k hk => ?_)
        by_cases d : S.testBit k = true
        · rw [if_pos d]; exact Wn_le hQ j _
        · rw [if_neg d]; exact Nat.zero_le _
    · rw [if_neg c]; exact Nat.zero_le _
theorem Nn_lt {h : Hal} {ok : Nat → Nat → Bool} {j P S : Nat} (hP : P < 64) (hj : j < 7) : Nn (lvN h) ok j P S < 2 ^ 31 := by
  rw [NW (fun a b (k : sbs a b) => lvN_mono (h := h) k) _ _ _ hP]
  exact Nat.lt_of_le_of_lt (Wn_le hP _ _) (bnd_lt j hj)
/-! which states a row that fits can come to -/
def NN (h : Hal) (w : Nw) (g S : Nat) : Nat := Nn (lvN h) (okF h w) (pcn (dif (allP h) g)) (dif (allP h) g) S
def good (h : Hal) (w : Nw) (g S p l : Nat) : Prop := p < 6 ∧ l < 6 ∧ (lvN h S &&& dif (allP h) g).testBit p = true ∧ S.testBit l = true ∧ 0 < NN h w (g ||| 2 ^ p) (clr S l)
def RchK (h : Hal) (w : Nw) : Nat → Nat → Nat → Prop
  | 0, g, S => g = 0 ∧ S = allL h ∧ 0 < NN h w 0 (allL h)
  | k + 1, g2, S2 => ∃ g S p l, RchK h w k g S ∧ good h w g S p l ∧ g2 = g ||| 2 ^ p ∧ S2 = clr S l
def Rch (h : Hal) (w : Nw) (g S : Nat) : Prop := ∃ k, RchK h w k g S
theorem RchK_ok {h : Hal} {w : Nw} (o : OkH h) : ∀ k g S, RchK h w k g S → g < 2 ^ hNp h ∧ S < 2 ^ hNl h ∧ 0 < NN h w g S
  | 0, g, S, ⟨h1, h2, h3⟩ => by
    subst h1
    subst h2
    exact ⟨p2pos _, allL_lt h, h3⟩
  | k + 1, g2, S2, ⟨g, S, p, l, h1, h2, h3, h4⟩ => by
    obtain ⟨a, b, c⟩ := RchK_ok o k g S h1
    obtain ⟨q1, q2, q3, q4, q5, q6⟩ := stepG a b o h2.2.2.1 h2.2.2.2.1
    subst h3
    subst h4
    exact ⟨q2, q5, h2.2.2.2.2⟩
theorem Rch_go {h : Hal} {w : Nw} {g S p l : Nat} (r : Rch h w g S) (q : good h w g S p l) : Rch h w (g ||| 2 ^ p) (clr S l) := by
  obtain ⟨k, r⟩ := r
  exact ⟨k + 1, g, S, p, l, r, q, rfl, rfl⟩
theorem NN_succ {h : Hal} {w : Nw} (o : OkH h) {g S p l : Nat} (hg : g < 2 ^ hNp h) (hS : S < 2 ^ hNl h) (hp : (lvN h S &&& dif (allP h) g).testBit p = true) (hb : S.testBit l = true) : ∃ j, pcn (dif (allP h) g) = j + 1 ∧ NN h w (g ||| 2 ^ p) (clr S l) = Nn (lvN h) (okF h w) j (clr (dif (allP h) g) p) (clr S l) := by
  obtain ⟨q1, q2, q3, q4, q5, q6⟩ := stepG hg hS o hp hb
  refine ⟨pcn (clr (dif (allP h) g) p), q6.symm, ?_⟩
  unfold NN
  rw [q4]
def whoN (h : Hal) (w : Nw) (p0 l0 : Nat) : Nat := Np (lvN h) (okF h w) p0 l0 (hNp h) (allP h) (allL h)
theorem who_iff {h : Hal} {w : Nw} (o : OkH h) {p0 l0 : Nat} (z : p0 < 6 ∧ l0 < 6) : (∃ g S, Rch h w g S ∧ good h w g S p0 l0) ↔ 0 < whoN h w p0 l0 := by
  have hnp := o.2.2.2.2.2.2.1
  have e0 : dif (allP h) 0 = allP h := dif_0 _
  have eP : pcn (allP h) = hNp h := pcn_all (hNp h) (by omega)
  constructor
  · rintro ⟨g, S, ⟨k, r⟩, q⟩
    have bwd : ∀ k g S, RchK h w k g S → 0 < Np (lvN h) (okF h w) p0 l0 (pcn (dif (allP h) g)) (dif (allP h) g) S → 0 < whoN h w p0 l0 := by
      intro k
      induction k with
      | zero =>
        rintro g S ⟨h1, h2, h3⟩ hq
        subst h1
        subst h2
        rw [e0, eP] at hq
        exact hq
      | succ k ih =>
        rintro g2 S2 ⟨g, S, p, l, h1, h2, h3, h4⟩ hq
        subst h3
        subst h4
        obtain ⟨a, b, c⟩ := RchK_ok o k g S h1
        obtain ⟨q1, q2, q3, q4, q5, q6⟩ := stepG a b o h2.2.2.1 h2.2.2.2.1
        refine ih g S h1 ?_
        rw [q4] at hq
        obtain ⟨n1, n2, n3⟩ := Np_has z _ _ _ hq
        unfold NN at c
        rw [← q6] at c ⊢
        obtain ⟨ok1, -⟩ := Nn_pos.mp c
        refine Np_pos.mpr ⟨ok1, Or.inl ⟨p, l, h2.1, h2.2.1, ?_, ?_, hq⟩⟩
        · rw [clr_bit, h2.2.2.1]
          have : ¬ p = p0 := fun e => by rw [e, clr_bit] at n1; simp at n1
          simp [this]
        · rw [clr_bit, h2.2.2.2.1]
          have : ¬ l = l0 := fun e => by rw [e, clr_bit] at n2; simp at n2
          simp [this]
    obtain ⟨a, b, c⟩ := RchK_ok o k g S r
    refine bwd k g S r ?_
    obtain ⟨j, hj, e⟩ := NN_succ (w := w) o a b q.2.2.1 q.2.2.2.1
    have hq := q.2.2.2.2
    rw [e] at hq
    unfold NN at c
    rw [hj] at c ⊢
    obtain ⟨ok1, -⟩ := Nn_pos.mp c
    exact Np_pos.mpr ⟨ok1, Or.inr ⟨q.2.2.1, q.2.2.2.1, hq⟩⟩
  · intro hq
    have fwd : ∀ j g S, Rch h w g S → pcn (dif (allP h) g) = j → 0 < Np (lvN h) (okF h w) p0 l0 j (dif (allP h) g) S → ∃ g S, Rch h w g S ∧ good h w g S p0 l0 := by
      intro j
      induction j with
      | zero => intro g S r e hz; exact absurd hz (Nat.lt_irrefl 0)
      | succ j ih =>
        intro g S r e hz
        obtain ⟨a, b, c⟩ := RchK_ok o r.choose g S r.choose_spec
        obtain ⟨ok1, hz⟩ := Np_pos.mp hz
        rcases hz with ⟨p, l, h1, h4, h2, h5, h6⟩ | ⟨h1, h2, h3⟩
        · have hp2 := clr_sbs _ _ p h2
          have hl2 := clr_sbs _ _ l h5
          obtain ⟨q1, q2, q3, q4, q5, q6⟩ := stepG a b o hp2 hl2
          have hpc : pcn (clr (dif (allP h) g) p) = j := by omega
          have hN := (Np_has z _ _ _ h6).2.2
          have hgood : good h w g S p l := ⟨h1, h4, hp2, hl2, by unfold NN; rw [q4, hpc]; exact hN⟩
          refine ih (g ||| 2 ^ p) (clr S l) (Rch_go r hgood) (by rw [q4]; exact hpc) (by rw [q4]; exact h6)
        · obtain ⟨q1, q2, q3, q4, q5, q6⟩ := stepG a b o h1 h2
          have hpc : pcn (clr (dif (allP h) g) p0) = j := by omega
          exact ⟨g, S, r, z.1, z.2, h1, h2, by unfold NN; rw [q4, hpc]; exact h3⟩
    have hN := (Np_has z _ _ _ hq).2.2
    have hst : Rch h w 0 (allL h) := ⟨0, rfl, rfl, by unfold NN; rw [e0, eP]; exact hN⟩
    exact fwd (hNp h) 0 (allL h) hst (by rw [e0]; exact eP) (by rw [e0]; exact hq)
