/-! order: the first choice, turn by turn. -/
def up (q : Nat → Bool) : Nat → Nat
  | 0 => 36
  | m + 1 => if q (35 - m) then 35 - m else up q m
theorem up_spec (q : Nat → Bool) : ∀ m, m ≤ 36 → (up q m < 36 → q (up q m) = true) ∧ (∀ c, 36 - m ≤ c → c < up q m → c < 36 → q c = false) ∧ (up q m = 36 ∨ (36 - m ≤ up q m ∧ up q m < 36))
  | 0, _ => ⟨fun h => absurd h (by simp [up]), fun c h1 h2 h3 => by omega, Or.inl rfl⟩
  | m + 1, h => by
    obtain ⟨h1, h2, h3⟩ := up_spec q m (by omega)
    rw [up]
    by_cases c : q (35 - m) = true
    · rw [if_pos c]
      exact ⟨fun _ => c, fun c' a b _ => by omega, Or.inr ⟨by omega, by omega⟩⟩
    · rw [if_neg c]
      refine ⟨h1, fun c' a b d => ?_, by omega⟩
      by_cases e : c' = 35 - m
      · rw [e]; simpa using c
      · exact h2 c' (by omega) b d
def chk (v : Nat → Nat) (P S c : Nat) : Bool := (v S &&& P).testBit (c / 6) && S.testBit (c % 6) && decide (D v (clr P (c / 6)) (clr S (c % 6)) + 1 = D v P S)
def ordC (v : Nat → Nat) (P S : Nat) : Nat := up (chk v P S) 36
theorem D_step {v : Nat → Nat} (hv : ∀ a b, sbs a b → sbs (v a) (v b)) {P S p l : Nat} (hP : P < 64) (hp : (v S &&& P).testBit p = true) (hl : l < 7) (hb : S.testBit l = true) : D v (clr P p) (clr S l) + 1 ≤ D v P S := by
  have hp6 : p < 6 := by
    rw [Nat.testBit_and, Bool.and_eq_true] at hp
    exact bits_lt (n := 6) hP hp.2
  have h1 := R_ge hp6 hp hl hb
  have hc := clr_le P p
  rw [RD hv _ _ (show P < 2 ^ 6 from hP), RD hv _ _ (show clr P p < 2 ^ 6 by show clr P p < 64; omega)] at h1
  exact h1
theorem ordC_spec {v : Nat → Nat} (hv : ∀ a b, sbs a b → sbs (v a) (v b)) {P S : Nat} (hP : P < 64) (hS : S < 64) (hD : 0 < D v P S) : ordC v P S < 36 ∧ chk v P S (ordC v P S) = true ∧ ∀ c, c < ordC v P S → chk v P S c = false := by
  obtain ⟨h1, h2, h3⟩ := up_spec (chk v P S) 36 (Nat.le_refl _)
  have hlt : ordC v P S < 36 := by
    rcases h3 with h3 | h3
    · exfalso
      have hR : 0 < R v P S := by rw [RD hv _ _ (show P < 2 ^ 6 from hP)]; exact hD
      obtain ⟨p, l, hp6, hp, hl, hb, h4⟩ := R_ex hR (Nat.le_refl _)
      have hc := clr_le P p
      have hl6 := bits_lt (n := 6) hS hb
      rw [RD hv _ _ (show P < 2 ^ 6 from hP), RD hv _ _ (show clr P p < 2 ^ 6 by show clr P p < 64; omega)] at h4
      have h5 := D_step hv hP hp hl hb
      have e1 : (6 * p + l) / 6 = p := by omega
      have e2 : (6 * p + l) % 6 = l := by omega
      have h6 := h2 (6 * p + l) (by omega) (by rw [h3]; omega) (by omega)
      unfold chk at h6
      rw [e1, e2, hp, hb] at h6
      simp at h6
      omega
    · exact h3.2
  exact ⟨hlt, h1 hlt, fun c hc => h2 c (by omega) hc (by have : ordC v P S < 36 := hlt; unfold ordC at *; omega)⟩
def nxP (v : Nat → Nat) (P S : Nat) : Nat := clr P (ordC v P S / 6)
def nxS (v : Nat → Nat) (P S : Nat) : Nat := clr S (ordC v P S % 6)
def sq (v : Nat → Nat) : Nat → Nat → Nat → Nat × Nat
  | 0, P, S => (P, S)
  | t + 1, P, S => (nxP v (sq v t P S).1 (sq v t P S).2, nxS v (sq v t P S).1 (sq v t P S).2)
theorem sq_lt (v : Nat → Nat) (P S : Nat) : ∀ t, (sq v t P S).1 ≤ P ∧ (sq v t P S).2 ≤ S
  | 0 => ⟨Nat.le_refl _, Nat.le_refl _⟩
  | t + 1 => by
    have h := sq_lt v P S t
    have h1 := clr_le (sq v t P S).1 (ordC v (sq v t P S).1 (sq v t P S).2 / 6)
    have h2 := clr_le (sq v t P S).2 (ordC v (sq v t P S).1 (sq v t P S).2 % 6)
    exact ⟨Nat.le_trans h1 h.1, Nat.le_trans h2 h.2⟩
theorem sq_D {v : Nat → Nat} (hv : ∀ a b, sbs a b → sbs (v a) (v b)) {P S : Nat} (hP : P < 64) (hS : S < 64) : ∀ t, t ≤ D v P S → D v (sq v t P S).1 (sq v t P S).2 + t = D v P S
  | 0, _ => rfl
  | t + 1, h => by
    have ih := sq_D hv hP hS t (by omega)
    have hl := sq_lt v P S t
    have hs := ordC_spec hv (P := (sq v t P S).1) (S := (sq v t P S).2) (by omega) (by omega) (by omega)
    have hc := hs.2.1
    unfold chk at hc
    rw [Bool.and_eq_true, Bool.and_eq_true, decide_eq_true_eq] at hc
    have h2 := hc.2
    show D v (nxP v (sq v t P S).1 (sq v t P S).2) (nxS v (sq v t P S).1 (sq v t P S).2) + (t + 1) = _
    unfold nxP nxS
    omega
theorem c_choose {v : Nat → Nat} (hv : ∀ a b, sbs a b → sbs (v a) (v b)) {P S nl np : Nat} (hnl : nl ≤ 6) (hnp : np ≤ 6) (hP : P < 2 ^ np) (hS : S < 2 ^ nl) (hD : 0 < D v P S) {lv lg : Nat → Int32} (hlv : ∀ lit, lit < 2 ^ nl → lv lit = nI (v lit)) {cp cl : Int32} {post : (Nat → Int32) → Int32 → Int32 → Prop} (k : ∀ lg2, post lg2 (nI (ordC v P S / 6)) (nI (ordC v P S % 6))) : wp_X2_choose (nI P) (nI S) (nI (D v P S) - 1) lg cp cl (nI nl) (nI np) lv post := by
  unfold wp_X2_choose
  have h64 := two6 hnl
  have h64p := two6 hnp
  have hDs := D_16 v P S
  obtain ⟨ho, hc, hmin⟩ := ordC_spec hv (by omega) (by omega) hD
  have hc2 := hc
  unfold chk at hc2
  rw [Bool.and_eq_true, Bool.and_eq_true, decide_eq_true_eq] at hc2
  obtain ⟨⟨hb1, hb2⟩, hDe⟩ := hc2
  have hpn : ordC v P S / 6 < np := by
    rw [Nat.testBit_and, Bool.and_eq_true] at hb1
    exact bits_lt hP hb1.2
  have hln : ordC v P S % 6 < nl := bits_lt hS hb2
  have etf : nI (D v P S) - 1 = nI (D v P S - 1) := pk_sub (b := 1) hD
  rw [etf]
  have key : ∀ m i, i + m = ordC v P S / 6 + 1 → 1 ≤ m → ∀ (lg1 : Nat → Int32) (a b : Int32), wp_X2_choose_L3 (nI P) (nI S) (nI (D v P S - 1)) (nI nl) (nI np) lv post m (nI i) lg1 a b := by
    intro m
    induction m with
    | zero => intro i hi h1; omega
    | succ m ih =>
      intro i hi h1 lg1 a b
      unfold wp_X2_choose_L3
      refine br_f (nI_ge (by omega) (by omega)) ⟨vp_in_nI (by omega) (by omega), ?_⟩
      have hvP : P &&& v S < 64 := by
        rw [Nat.and_comm]
        have : v S &&& P ≤ P := Nat.and_le_right
        omega
      rw [ix_nI (by omega), hlv S hS, fa_and]
      refine c_bit (by omega) (by omega) ?_
      have ecomm : (P &&& v S).testBit i = (v S &&& P).testBit i := by rw [Nat.and_comm]
      rw [ecomm]
      -- inner loop
      have inner : ∀ (K : (Nat → Int32) → Int32 → Int32 → Prop), (v S &&& P).testBit i = true → (i < ordC v P S / 6 → ∀ lg2, K lg2 a b) → wp_X2_fillLongest (nI P &&& (jshl 1 (nI i) ^^^ -1)) (jshl 1 (nI nl)) lg1 lv (fun k_longest_55 => jn (fun (K119 : Int32 → Int32 → Prop) => (∃ n61 : Nat, wp_X2_choose_L61 (nI S) (nI (D v P S - 1)) (nI i) k_longest_55 (nI nl) post K119 n61 0 a b)) (fun k_chosenPerson_119 k_chosenLamp_119 => K k_longest_55 k_chosenPerson_119 k_chosenLamp_119)) := by
        intro K hbi hK
        have hcl := clr_le P i
        rw [b_clr (by omega) (by omega), b_one (by omega)]
        refine c_fillLongest (v := v) (by omega) (by omega) hlv (fun lg2 hlg => ?_)
        unfold jn
        have key2 : ∀ m2 j, j + m2 = nl → (i = ordC v P S / 6 → j ≤ ordC v P S % 6) → wp_X2_choose_L61 (nI S) (nI (D v P S - 1)) (nI i) lg2 (nI nl) post (fun k_chosenPerson_119 k_chosenLamp_119 => K lg2 k_chosenPerson_119 k_chosenLamp_119) (m2 + 1) (nI j) a b := by
          intro m2
          induction m2 with
          | zero =>
            intro j hj hle
            unfold wp_X2_choose_L61
            have e : j = nl := by omega
            subst e
            refine br_t (nI_le (by omega) (by omega)) ?_
            refine hK ?_ lg2
            rcases Nat.lt_or_ge i (ordC v P S / 6) with q | q
            · exact q
            · have := hle (by omega); omega
          | succ m2 ih2 =>
            intro j hj hle
            unfold wp_X2_choose_L61
            refine br_f (nI_ge (by omega) (by omega)) (c_bit (by omega) (by omega) ?_)
            have hcs := clr_le S j
            rw [b_clr (by omega) (by omega)]
            unfold jn
            have e1 : (6 * i + j) / 6 = i := by omega
            have e2 : (6 * i + j) % 6 = j := by omega
            have hstep : chk v P S (6 * i + j) = false → wp_X2_choose_L61 (nI S) (nI (D v P S - 1)) (nI i) lg2 (nI nl) post (fun k_chosenPerson_119 k_chosenLamp_119 => K lg2 k_chosenPerson_119 k_chosenLamp_119) (m2 + 1) (nI j + 1) a b := by
              intro hf
              rw [nI_1]
              refine ih2 (j + 1) (by omega) (fun he => ?_)
              have := hle he
              rcases Nat.lt_or_ge j (ordC v P S % 6) with q | q
              · omega
              · exfalso
                have : 6 * i + j = ordC v P S := by omega
                rw [this, hc] at hf; cases hf
            refine b01_o (fun c => ⟨vp_in_nI (by omega) (by omega), ?_⟩) (fun c => ?_)
            · rw [ix_nI (by omega), hlg _ (by omega)]
              have hds := D_step hv (by omega) hbi (show j < 7 by omega) c
              have hDc := D_16 v (clr P i) (clr S j)
              refine ⟨fun d => ?_, fun d => ?_⟩
              · have d1 := (nI_ltI (by omega) (by omega)).mp d
                refine hstep ?_
                unfold chk
                rw [e1, e2, hbi, c]
                simp; omega
              · have d1 : ¬ D v (clr P i) (clr S j) < D v P S - 1 := fun z => d ((nI_ltI (by omega) (by omega)).mpr z)
                have hck : chk v P S (6 * i + j) = true := by
                  unfold chk
                  rw [e1, e2, hbi, c]
                  simp; omega
                have hge : ¬ 6 * i + j < ordC v P S := fun z => by rw [hmin _ z] at hck; cases hck
                have hi2 : i = ordC v P S / 6 := by omega
                have hj2 : j = ordC v P S % 6 := by
                  have := hle hi2
                  omega
                have := k lg2
                rw [← hi2, ← hj2] at this
                exact this
            · refine hstep ?_
              unfold chk
              rw [e2, c]
              simp
        exact ⟨_, key2 nl 0 (by omega) (fun _ => Nat.zero_le _)⟩
      unfold jn
      rw [nI_1]
      refine b01_z (fun c => ?_) (fun c => ?_)
      · -- not this one
        have hlt : i < ordC v P S / 6 := by
          rcases Nat.lt_or_ge i (ordC v P S / 6) with q | q
          · exact q
          · have e : i = ordC v P S / 6 := by omega
            rw [e, hb1] at c; cases c
        exact ih (i + 1) (by omega) (by omega) _ _ _
      · refine inner (fun k_longest_119 k_chosenPerson_119 k_chosenLamp_119 => wp_X2_choose_L3 (nI P) (nI S) (nI (D v P S - 1)) (nI nl) (nI np) lv post m (nI (i + 1)) k_longest_119 k_chosenPerson_119 k_chosenLamp_119) c (fun hlt lg2 => ih (i + 1) (by omega) (by omega) _ _ _)
  exact ⟨_, key (ordC v P S / 6 + 1) 0 (by omega) (by omega) lg cp cl⟩
theorem c_follow {v : Nat → Nat} (hv : ∀ a b, sbs a b → sbs (v a) (v b)) {P S nl np kk : Nat} (hnl : nl ≤ 6) (hnp : np ≤ 6) (hP : P < 2 ^ np) (hS : S < 2 ^ nl) (hk : kk < D v P S) {lv lg : Nat → Int32} (hlv : ∀ lit, lit < 2 ^ nl → lv lit = nI (v lit)) {cp cl : Int32} {post : (Nat → Int32) → Int32 → Int32 → Prop} (k : ∀ lg2, post lg2 (nI (ordC v (sq v kk P S).1 (sq v kk P S).2 / 6)) (nI (ordC v (sq v kk P S).1 (sq v kk P S).2 % 6))) : wp_X2_follow (nI P) (nI S) (nI kk) lg cp cl (nI nl) (nI np) lv post := by
  unfold wp_X2_follow
  have h64 := two6 hnl
  have h64p := two6 hnp
  have hDs := D_16 v P S
  refine c_mostOf (v := v) hnl (by omega) hS hlv (fun lg2 hlg => ?_)
  have key : ∀ m i, i + m = kk → ∀ (lg1 : Nat → Int32) (a b : Int32), wp_X2_follow_L17 (nI kk) (nI (D v P S)) (nI nl) (nI np) lv post (m + 2) (nI (sq v i P S).1) (nI (sq v i P S).2) (nI i) lg1 a b := by
    intro m
    induction m with
    | zero =>
      intro i hi lg1 a b
      have e : i = kk := by omega
      subst e
      have hsl := sq_lt v P S i
      have hsD := sq_D hv (P := P) (S := S) (by omega) (by omega) i (by omega)
      have hcle1 := clr_le (sq v i P S).1 (ordC v (sq v i P S).1 (sq v i P S).2 / 6)
      have hsp := ordC_spec hv (P := (sq v i P S).1) (S := (sq v i P S).2) (by omega) (by omega) (by omega)
      unfold wp_X2_follow_L17
      refine br_f (nI_nlt (by omega) (by omega)) (br_f (nI_ge (by omega) (by omega)) ?_)
      have e1 : nI (D v P S) - nI i = nI (D v (sq v i P S).1 (sq v i P S).2) := by
        rw [pk_sub (by omega)]; congr 1; omega
      rw [e1]
      refine c_choose hv hnl hnp (by omega) (by omega) (by omega) hlv (fun lg3 => ?_)
      refine nm_e (nm_e ?_)
      unfold wp_X2_follow_L17
      rw [nI_1]
      exact br_t (nI_lt (by omega) (by omega)) (k lg3)
    | succ m ih =>
      intro i hi lg1 a b
      have hsl := sq_lt v P S i
      have hsD := sq_D hv (P := P) (S := S) (by omega) (by omega) i (by omega)
      have hsp := ordC_spec hv (P := (sq v i P S).1) (S := (sq v i P S).2) (by omega) (by omega) (by omega)
      unfold wp_X2_follow_L17
      refine br_f (nI_nlt (by omega) (by omega)) (br_f (nI_ge (by omega) (by omega)) ?_)
      have e1 : nI (D v P S) - nI i = nI (D v (sq v i P S).1 (sq v i P S).2) := by
        rw [pk_sub (by omega)]; congr 1; omega
      rw [e1]
      refine c_choose hv hnl hnp (by omega) (by omega) (by omega) hlv (fun lg3 => ?_)
      rw [b_clr (by omega) (by omega), b_clr (by omega) (by omega), nI_1]
      refine nm_e (nm_e ?_)
      exact ih (i + 1) (by omega) _ _ _
  exact ⟨_, key kk 0 (by omega) lg2 cp cl⟩
