/-! A lamp less never lets anybody leave who could not before. -/
def sbs (a b : Nat) : Prop := ∀ i, a.testBit i = true → b.testBit i = true
theorem sbs.rf (a : Nat) : sbs a a := fun _ h => h
theorem sbs.tr {a b c : Nat} (h : sbs a b) (k : sbs b c) : sbs a c := fun i q => k i (h i q)
theorem sbs.or {a b c d : Nat} (h : sbs a b) (k : sbs c d) : sbs (a ||| c) (b ||| d) := by
  intro i q
  rw [Nat.testBit_or, Bool.or_eq_true] at q ⊢
  exact q.elim (fun x => Or.inl (h i x)) (fun x => Or.inr (k i x))
theorem sbs.and {a b c d : Nat} (h : sbs a b) (k : sbs c d) : sbs (a &&& c) (b &&& d) := by
  intro i q
  rw [Nat.testBit_and, Bool.and_eq_true] at q ⊢
  exact ⟨h i q.1, k i q.2⟩
theorem sbs.dif {a b : Nat} (h : sbs a b) (c : Nat) : sbs (dif a c) (dif b c) := by
  intro i q
  rw [dif_bit, Bool.and_eq_true] at q ⊢
  exact ⟨h i q.1, q.2⟩
theorem sbs.mul {a b : Nat} (h : sbs a b) (k : Nat) : sbs (a * 2 ^ k) (b * 2 ^ k) := by
  intro i q
  rw [← Nat.shiftLeft_eq, Nat.testBit_shiftLeft, Bool.and_eq_true] at q ⊢
  exact ⟨q.1, h _ q.2⟩
theorem sbs.div {a b : Nat} (h : sbs a b) (k : Nat) : sbs (a / 2 ^ k) (b / 2 ^ k) := by
  intro i q
  rw [← Nat.shiftRight_eq_div_pow, Nat.testBit_shiftRight] at q ⊢
  exact h _ q
theorem clr_sbs (a k : Nat) : sbs (clr a k) a := by
  intro i q
  rw [clr_bit, Bool.and_eq_true] at q
  exact q.1
theorem dif_sbs (a b : Nat) : sbs (dif a b) a := by
  intro i q
  rw [dif_bit, Bool.and_eq_true] at q
  exact q.1
theorem sbs.le {a b : Nat} (h : sbs a b) : a ≤ b := Nat.le_of_testBit h
theorem clr_lt {a k : Nat} (h : a.testBit k = true) : clr a k < a := by
  have h1 := (clr_sbs a k).le
  have h2 : clr a k ≠ a := fun e => by
    have h3 := clr_bit a k k
    rw [e, h] at h3
    simp at h3
  omega
theorem besN_mono {W H a b : Nat} (h : sbs a b) : sbs (besN W H a) (besN W H b) := by
  unfold besN
  refine sbs.or (sbs.or (h.mul W) (h.div W)) (sbs.or ?_ ?_)
  · exact (h.dif _).mul 1
  · exact (h.dif _).div 1
theorem widN_mono {W H a b g g2 : Nat} (h : sbs a b) (k : sbs g g2) : sbs (widN W H a g) (widN W H b g2) := h.or ((besN_mono h).and k)
theorem itr_mono {W H g g2 : Nat} (k : sbs g g2) : ∀ n a b, sbs a b → sbs (itr (fun x => widN W H x g) n a) (itr (fun x => widN W H x g2) n b)
  | 0, _, _, h => h
  | n + 1, _, _, h => itr_mono k n _ _ (widN_mono h k)
theorem outN_mono {h : Hal} {a b : Nat} (k : sbs a b) : sbs (outN h a) (outN h b) := by
  unfold outN
  by_cases c : hLaw h = 1
  · rw [if_pos c, if_pos c]; exact itr_mono k 12 _ _ ((sbs.rf _).and k)
  · rw [if_neg c, if_neg c]; exact k
theorem mayN_mono {h : Hal} {a b : Nat} (k : sbs a b) : sbs (mayN h a) (mayN h b) := by
  intro i q
  unfold mayN at q ⊢
  rw [mkM_bit, Bool.and_eq_true] at q ⊢
  exact ⟨q.1, outN_mono k _ q.2⟩
theorem oN_mono {f : Nat → Nat} {a b n : Nat} (k : sbs a b) : sbs (oN f a n) (oN f b n) := by
  intro i q
  obtain ⟨l, h1, h2, h3⟩ := (oN_bit f a i n).mp q
  exact (oN_bit f b i n).mpr ⟨l, h1, k l h2, h3⟩
theorem lvN_mono {h : Hal} {a b : Nat} (k : sbs a b) : sbs (lvN h a) (lvN h b) := mayN_mono (oN_mono k)
theorem oN_0 (f : Nat → Nat) : ∀ n, oN f 0 n = 0
  | 0 => rfl
  | n + 1 => by rw [oN, oN_0 f n]; simp
theorem wid0 (W H : Nat) : widN W H 0 0 = 0 := by unfold widN; simp
theorem mayN_0 (h : Hal) : mayN h 0 = 0 := by
  have e : outN h 0 = 0 := by
    unfold outN
    by_cases c : hLaw h = 1
    · rw [if_pos c, Nat.and_zero]; exact itr_fix (F := fun x => widN (hW h) (hH h) x 0) (wid0 _ _) 12
    · rw [if_neg c]
  apply Nat.eq_of_testBit_eq
  intro i
  unfold mayN
  rw [mkM_bit, e]; simp
theorem lvN_0 (h : Hal) : lvN h 0 = 0 := by
  unfold lvN liN
  rw [oN_0]; exact mayN_0 h
/-! the greatest of a row -/
def maxF (f : Nat → Nat) : Nat → Nat
  | 0 => 0
  | n + 1 => if maxF f n < f n then f n else maxF f n
theorem le_maxF {f : Nat → Nat} {l : Nat} : ∀ {n : Nat}, l < n → f l ≤ maxF f n
  | 0, h => absurd h (Nat.not_lt_zero _)
  | n + 1, h => by
    rw [maxF]
    rcases Nat.lt_or_ge l n with q | q
    · have := le_maxF (f := f) q
      by_cases c : maxF f n < f n
      · rw [if_pos c]; omega
      · rw [if_neg c]; exact this
    · have e : l = n := by omega
      subst e
      by_cases c : maxF f l < f l
      · rw [if_pos c]; exact Nat.le_refl _
      · rw [if_neg c]; omega
theorem maxF_le {f : Nat → Nat} {b : Nat} : ∀ {n : Nat}, (∀ l, l < n → f l ≤ b) → maxF f n ≤ b
  | 0, _ => Nat.zero_le _
  | n + 1, h => by
    rw [maxF]
    have h1 := maxF_le (fun l hl => h l (Nat.lt_succ_of_lt hl))
    by_cases c : maxF f n < f n
    · rw [if_pos c]; exact h n (Nat.lt_succ_self n)
    · rw [if_neg c]; exact h1
theorem maxF_ex {f : Nat → Nat} {k : Nat} {n : Nat} (hk : 0 < k) (h : k ≤ maxF f n) : ∃ l, l < n ∧ k ≤ f l := by
  apply Classical.byContradiction
  intro hno
  have : maxF f n ≤ k - 1 := maxF_le (fun l hl => by
    rcases Nat.lt_or_ge (f l) k with q | q
    · omega
    · exact absurd ⟨l, hl, q⟩ hno)
  omega
theorem maxF_cong {f g : Nat → Nat} : ∀ {n : Nat}, (∀ l, l < n → f l = g l) → maxF f n = maxF g n
  | 0, _ => rfl
  | n + 1, h => by
    rw [maxF, maxF, maxF_cong (fun l hl => h l (Nat.lt_succ_of_lt hl)), h n (Nat.lt_succ_self n)]
/-! how many can leave: by sets of lamps alone (D), by both sets (R) -/
def D (v : Nat → Nat) (P : Nat) (S : Nat) : Nat := min (pcn (v S &&& P)) (maxF (fun l => if h : S.testBit l = true then D v P (clr S l) + 1 else 0) 7)
termination_by S
decreasing_by exact clr_lt h
def R (v : Nat → Nat) (P : Nat) (S : Nat) : Nat := maxF (fun p => if (v S &&& P).testBit p = true then maxF (fun l => if h : S.testBit l = true then R v (clr P p) (clr S l) + 1 else 0) 7 else 0) 6
termination_by S
decreasing_by exact clr_lt h
theorem D_le {v : Nat → Nat} {P S : Nat} : D v P S ≤ pcn (v S &&& P) := by
  rw [D]; exact Nat.min_le_left _ _
theorem D_ge {v : Nat → Nat} {P S k l : Nat} (h1 : k ≤ pcn (v S &&& P)) (hl : l < 7) (hb : S.testBit l = true) (h2 : k ≤ D v P (clr S l) + 1) : k ≤ D v P S := by
  rw [D]
  refine Nat.le_min.mpr ⟨h1, Nat.le_trans h2 ?_⟩
  have := le_maxF (f := fun l => if h : S.testBit l = true then D v P (clr S l) + 1 else 0) hl
  simp only [hb] at this
  exact this
theorem D_ex {v : Nat → Nat} {P S k : Nat} (hk : 0 < k) (h : k ≤ D v P S) : k ≤ pcn (v S &&& P) ∧ ∃ l, l < 7 ∧ S.testBit l = true ∧ k ≤ D v P (clr S l) + 1 := by
  rw [D] at h
  obtain ⟨h1, h2⟩ := Nat.le_min.mp h
  refine ⟨h1, ?_⟩
  obtain ⟨l, hl, h3⟩ := maxF_ex hk h2
  by_cases c : S.testBit l = true
  · simp only [c] at h3
    exact ⟨l, hl, c, h3⟩
  · simp only [c] at h3
    simp at h3; omega
theorem D_mono {v : Nat → Nat} {P P2 : Nat} (hP : sbs P P2) : ∀ S, D v P S ≤ D v P2 S := by
  intro S
  induction S using Nat.strongRecOn with
  | ind S ih =>
    rcases Nat.eq_zero_or_pos (D v P S) with q | q
    · omega
    · obtain ⟨h1, l, hl, hb, h2⟩ := D_ex q (Nat.le_refl _)
      have h3 := ih (clr S l) (clr_lt hb)
      exact D_ge (Nat.le_trans h1 (pcn_sub ((sbs.rf _).and hP))) hl hb (by omega)
theorem D_skip {v : Nat → Nat} (hv : ∀ a b, sbs a b → sbs (v a) (v b)) {P p : Nat} : ∀ S, (v S).testBit p = false → D v (clr P p) S = D v P S := by
  intro S
  induction S using Nat.strongRecOn with
  | ind S ih =>
    intro hp
    have e1 : v S &&& clr P p = v S &&& P := by
      apply Nat.eq_of_testBit_eq
      intro i
      rw [Nat.testBit_and, Nat.testBit_and, clr_bit]
      by_cases e : i = p
      · subst e; rw [hp]; rfl
      · simp [e]
    rw [D, D, e1]
    congr 1
    apply maxF_cong
    intro l hl
    by_cases c : S.testBit l = true
    · simp only [c]
      have h2 : (v (clr S l)).testBit p = false := by
        cases hq : (v (clr S l)).testBit p with
        | false => rfl
        | true => rw [hv _ _ (clr_sbs S l) p hq] at hp; cases hp
      simp [ih (clr S l) (clr_lt c) h2]
    · simp [c]
theorem pcn_clr {a p : Nat} (hp : p < 12) (h : a.testBit p = true) : pcn (clr a p) + 1 = pcn a := by
  have h1 := pcn_split (clr_sbs a p)
  have e : dif a (clr a p) = 2 ^ p := by
    apply Nat.eq_of_testBit_eq
    intro i
    rw [dif_bit, clr_bit, Nat.testBit_two_pow]
    by_cases e : i = p
    · subst e; simp [h]
    · have : ¬ p = i := fun q => e q.symm
      simp [e, this]
  rw [e] at h1
  have h2 : pcn (2 ^ p) = 1 := by
    have : ∀ q, q < 12 → pcn (2 ^ q) = 1 := by decide +kernel
    exact this p hp
  omega
theorem and_clr (a P p : Nat) : a &&& clr P p = clr (a &&& P) p := by
  apply Nat.eq_of_testBit_eq
  intro i
  rw [Nat.testBit_and, clr_bit, clr_bit, Nat.testBit_and, Bool.and_assoc]
theorem D_pick {v : Nat → Nat} (hv : ∀ a b, sbs a b → sbs (v a) (v b)) {P : Nat} (hP : P < 2 ^ 12) : ∀ T k Q, k ≤ D v P T → sbs (v T) Q → k + 1 ≤ pcn (Q &&& P) → ∃ p, (Q &&& P).testBit p = true ∧ k ≤ D v (clr P p) T := by
  intro T
  induction T using Nat.strongRecOn with
  | ind T ih =>
    intro k Q hk hQ hc
    have some1 : ∃ p, (Q &&& P).testBit p = true := by
      have : 0 < fb_ct (Q &&& P).testBit 12 := by show 0 < pcn (Q &&& P); omega
      obtain ⟨p, -, h⟩ := fb_ct_pos.mp this
      exact ⟨p, h⟩
    rcases Nat.eq_zero_or_pos k with q | q
    · obtain ⟨p, hp⟩ := some1
      exact ⟨p, hp, by omega⟩
    · obtain ⟨h1, l, hl, hb, h2⟩ := D_ex q hk
      by_cases c : ∃ p, (Q &&& P).testBit p = true ∧ (v T).testBit p = false
      · obtain ⟨p, hp, hn⟩ := c
        exact ⟨p, hp, by rw [D_skip hv T hn]; exact hk⟩
      · have hsub : sbs (Q &&& P) (v T &&& P) := by
          intro i hi
          rw [Nat.testBit_and, Bool.and_eq_true]
          refine ⟨?_, ?_⟩
          · cases hz : (v T).testBit i with
            | true => rfl
            | false => exact absurd ⟨i, hi, hz⟩ c
          · rw [Nat.testBit_and, Bool.and_eq_true] at hi; exact hi.2
        have h3 := pcn_sub hsub
        obtain ⟨p, hp, h4⟩ := ih (clr T l) (clr_lt hb) (k - 1) (v T) (by omega) (hv _ _ (clr_sbs T l)) (by omega)
        refine ⟨p, ((hQ.and (sbs.rf P)) p hp), ?_⟩
        have hp12 : p < 12 := by
          rw [Nat.testBit_and, Bool.and_eq_true] at hp
          exact bits_lt hP hp.2
        have h5 := pcn_clr hp12 hp
        refine D_ge ?_ hl hb (by omega)
        rw [and_clr]; omega
theorem R_ge {v : Nat → Nat} {P S p l : Nat} (hp6 : p < 6) (hp : (v S &&& P).testBit p = true) (hl : l < 7) (hb : S.testBit l = true) : R v (clr P p) (clr S l) + 1 ≤ R v P S := by
  rw [R.eq_def v P S]
  have h1 := le_maxF (f := fun p => if (v S &&& P).testBit p = true then maxF (fun l => if h : S.testBit l = true then R v (clr P p) (clr S l) + 1 else 0) 7 else 0) hp6
  have h2 := le_maxF (f := fun l => if h : S.testBit l = true then R v (clr P p) (clr S l) + 1 else 0) hl
  simp only [hp, hb] at h1 h2
  exact Nat.le_trans h2 h1
theorem R_ex {v : Nat → Nat} {P S k : Nat} (hk : 0 < k) (h : k ≤ R v P S) : ∃ p l, p < 6 ∧ (v S &&& P).testBit p = true ∧ l < 7 ∧ S.testBit l = true ∧ k ≤ R v (clr P p) (clr S l) + 1 := by
  rw [R.eq_def v P S] at h
  obtain ⟨p, hp6, h1⟩ := maxF_ex hk h
  by_cases c : (v S &&& P).testBit p = true
  · simp only [c] at h1
    obtain ⟨l, hl, h2⟩ := maxF_ex hk h1
    by_cases d : S.testBit l = true
    · simp only [d] at h2
      exact ⟨p, l, hp6, c, hl, d, h2⟩
    · simp only [d] at h2
      simp at h2; omega
  · simp only [c] at h1
    simp at h1; omega
theorem RD {v : Nat → Nat} (hv : ∀ a b, sbs a b → sbs (v a) (v b)) : ∀ S P, P < 2 ^ 6 → R v P S = D v P S := by
  intro S
  induction S using Nat.strongRecOn with
  | ind S ih =>
    intro P hP
    have hP12 : P < 2 ^ 12 := Nat.lt_of_lt_of_le hP (by decide)
    apply Nat.le_antisymm
    · rcases Nat.eq_zero_or_pos (R v P S) with q | q
      · omega
      · obtain ⟨p, l, hp6, hp, hl, hb, h1⟩ := R_ex q (Nat.le_refl _)
        have hcl : clr P p < 2 ^ 6 := Nat.lt_of_le_of_lt (clr_le P p) hP
        rw [ih (clr S l) (clr_lt hb) (clr P p) hcl] at h1
        have h2 := D_mono (v := v) (clr_sbs P p) (clr S l)
        have h3 := D_le (v := v) (P := clr P p) (S := clr S l)
        have h4 : pcn (v (clr S l) &&& clr P p) ≤ pcn (v S &&& clr P p) := pcn_sub ((hv _ _ (clr_sbs S l)).and (sbs.rf _))
        have h6 : pcn (v S &&& clr P p) = pcn (clr (v S &&& P) p) := by rw [and_clr]
        have h5 := pcn_clr (by omega) hp
        exact D_ge (by omega) hl hb (by omega)
    · rcases Nat.eq_zero_or_pos (D v P S) with q | q
      · omega
      · obtain ⟨h1, l, hl, hb, h2⟩ := D_ex q (Nat.le_refl _)
        obtain ⟨p, hp, h3⟩ := D_pick hv hP12 (clr S l) (D v P S - 1) (v S) (by omega) (hv _ _ (clr_sbs S l)) (by omega)
        have hp6 : p < 6 := by
          have hp2 := hp
          rw [Nat.testBit_and, Bool.and_eq_true] at hp2
          exact bits_lt hP hp2.2
        have hcl : clr P p < 2 ^ 6 := Nat.lt_of_le_of_lt (clr_le P p) hP
        have h4 := R_ge hp6 hp hl hb
        rw [ih (clr S l) (clr_lt hb) (clr P p) hcl] at h4
        omega
