/-! game: who wins, both sides. -/
def anyB (f : Nat → Bool) : Nat → Bool
  | 0 => false
  | n + 1 => anyB f n || f n
theorem anyB_ext {f : Nat → Bool} {m : Nat} (h : ∀ k, m ≤ k → f k = false) : ∀ n, anyB f (m + n) = anyB f m
  | 0 => rfl
  | n + 1 => by
    have e : m + (n + 1) = (m + n) + 1 := by omega
    rw [e, anyB, anyB_ext h n, h (m + n) (by omega), Bool.or_false]
theorem anyB_cong {f g : Nat → Bool} : ∀ {n : Nat}, (∀ k, k < n → f k = g k) → anyB f n = anyB g n
  | 0, _ => rfl
  | n + 1, h => by rw [anyB, anyB, anyB_cong (fun k hk => h k (by omega)), h n (by omega)]
theorem anyB_t {f : Nat → Bool} {n k : Nat} (hk : k < n) (h : f k = true) : anyB f n = true := by
  induction n with
  | zero => omega
  | succ n ih =>
    rw [anyB]
    rcases Nat.lt_or_ge k n with q | q
    · rw [ih q]; rfl
    · have : k = n := by omega
      subst this
      rw [h]; simp
def w2 (a b : Bool) : Nat := (if a then 1 else 0) + (if b then 2 else 0)
theorem w2_bit (f : Nat → Bool) {s : Nat} (hs : s ≤ 1) : (w2 (f 0) (f 1)).testBit s = f s := by
  have : s = 0 ∨ s = 1 := by omega
  rcases this with q | q
  · subst q
    generalize f 0 = a
    generalize f 1 = b
    cases a <;> cases b <;> decide
  · subst q
    generalize f 0 = a
    generalize f 1 = b
    cases a <;> cases b <;> decide
theorem w2_lt (a b : Bool) : w2 a b < 4 := by cases a <;> cases b <;> decide
theorem w2_set (f g : Nat → Bool) {s : Nat} (hs : s ≤ 1) (hg : ∀ i, g i = (f i || decide (i = s))) : nI (w2 (f 0) (f 1)) ||| jshl 1 (nI s) = nI (w2 (g 0) (g 1)) := by
  have : s = 0 ∨ s = 1 := by omega
  rcases this with q | q
  · subst q
    rw [hg, hg]
    generalize f 0 = a
    generalize f 1 = b
    cases a <;> cases b <;> decide
  · subst q
    rw [hg, hg]
    generalize f 0 = a
    generalize f 1 = b
    cases a <;> cases b <;> decide
def Bt (W : Nat → Nat → Nat → Nat → Bool) (j P S p s : Nat) : Bool := anyB (fun l => S.testBit l && !(W j (clr P p) (clr S l) (1 - s))) 6
def Wb (h : Hal) : Nat → Nat → Nat → Nat → Bool
  | 0, _, _, _ => false
  | j + 1, P, S, s => anyB (fun p => (lvN h S &&& P).testBit p && decide (hPs h p = s) && anyB (fun l => S.testBit l && !(Wb h j (clr P p) (clr S l) (1 - s))) 6) 6
/-- sides that win by the first i people -/
def Wi (h : Hal) (j P S i s : Nat) : Bool := anyB (fun p => (lvN h S &&& P).testBit p && decide (hPs h p = s) && Bt (Wb h) j P S p s) i
theorem Wb_s (h : Hal) (j P S s : Nat) : Wb h (j + 1) P S s = Wi h j P S 6 s := by rw [Wb]; rfl
theorem Wi_np {h : Hal} (o : OkH h) (j P S s : Nat) : Wi h j P S (hNp h) s = Wi h j P S 6 s := by
  have hnp := o.2.2.2.2.2.2.1
  unfold Wi
  have e6 : hNp h + (6 - hNp h) = 6 := by omega
  have := anyB_ext (f := fun p => (lvN h S &&& P).testBit p && decide (hPs h p = s) && Bt (Wb h) j P S p s) (m := hNp h) (fun q hq => by
    have hf : (lvN h S &&& P).testBit q = false := by
      cases hb : (lvN h S &&& P).testBit q with
      | false => rfl
      | true =>
        rw [Nat.testBit_and, Bool.and_eq_true] at hb
        have := bits_lt (mayN_lt _ _) hb.1
        omega
    rw [hf]; rfl) (6 - hNp h)
  rw [e6] at this
  exact this.symm
theorem c_canBeat {h : Hal} (o : OkH h) {P S j p s : Nat} (hs : s ≤ 1) (hP : P < 64) (hS : S < 2 ^ hNl h) {wi : Nat → Int32} (hch : ∀ l, l < 6 → S.testBit l = true → wi (64 * clr P p + clr S l) = nI (w2 (Wb h j (clr P p) (clr S l) 0) (Wb h j (clr P p) (clr S l) 1))) {post : Int32 → Prop} (k : post (b01 (Bt (Wb h) j P S p s))) : wp_X2_canBeat (1 - nI s) (nI (clr P p)) (nI S) wi (nI (hNl h)) post := by
  unfold wp_X2_canBeat
  have hnl := o.2.2.2.2.2.1
  have h64l := two6 hnl
  have e1 : (1 : Int32) - nI s = nI (1 - s) := pk_sub (a := 1) hs
  rw [e1]
  have key : ∀ m i, i + m = hNl h → anyB (fun l => S.testBit l && !(Wb h j (clr P p) (clr S l) (1 - s))) i = false → wp_X2_canBeat_L3 (nI (1 - s)) (nI (clr P p)) (nI S) wi (nI (hNl h)) post (m + 1) (nI i) := by
    intro m
    induction m with
    | zero =>
      intro i hi hf
      unfold wp_X2_canBeat_L3
      have e : i = hNl h := by omega
      subst e
      refine br_t (nI_le (by omega) (by omega)) ?_
      have e6 : hNl h + (6 - hNl h) = 6 := by omega
      have := anyB_ext (f := fun l => S.testBit l && !(Wb h j (clr P p) (clr S l) (1 - s))) (m := hNl h) (fun q hq => by
        have : S.testBit q = false := by
          cases hb : S.testBit q with
          | false => rfl
          | true => have := bits_lt hS hb; omega
        rw [this]; rfl) (6 - hNl h)
      rw [e6, hf] at this
      unfold Bt at k
      rw [this] at k
      exact k
    | succ m ih =>
      intro i hi hf
      unfold wp_X2_canBeat_L3
      have hc1 := clr_le P p
      have hc2 := clr_le S i
      refine br_f (nI_ge (by omega) (by omega)) (c_bit (by omega) (by omega) ?_)
      rw [b_clr (by omega) (by omega), nI_1]
      unfold jn
      refine b01_o (fun d => c_place ⟨vp_in_nI (by omega) (by omega), ?_⟩) (fun d => ?_)
      · have hw := w2_lt (Wb h j (clr P p) (clr S i) 0) (Wb h j (clr P p) (clr S i) 1)
        rw [ix_nI (by omega), hch i (by omega) d]
        refine c_bit (by omega) (by omega) ?_
        rw [w2_bit (fun s => Wb h j (clr P p) (clr S i) s) (show 1 - s ≤ 1 by omega)]
        refine b01_z (fun e => ?_) (fun e => ?_)
        · have : Bt (Wb h) j P S p s = true := anyB_t (k := i) (by omega) (by rw [d, e]; rfl)
          rw [this] at k
          exact k
        · refine ih (i + 1) (by omega) ?_
          rw [anyB, hf, d, e]; rfl
      · refine ih (i + 1) (by omega) ?_
        rw [anyB, hf, d]; rfl
  exact ⟨_, key (hNl h) 0 (by omega) rfl⟩
theorem c_sides {h : Hal} (o : OkH h) {P S j : Nat} (hP : P < 2 ^ hNp h) (hS : S < 2 ^ hNl h) {wi lv side : Nat → Int32} (hlv : lv S = nI (lvN h S)) (hsd : ∀ p, p < hNp h → side p = nI (hPs h p)) (hch : ∀ p l, p < 6 → l < 6 → P.testBit p = true → S.testBit l = true → wi (64 * clr P p + clr S l) = nI (w2 (Wb h j (clr P p) (clr S l) 0) (Wb h j (clr P p) (clr S l) 1))) {post : Int32 → Prop} (k : post (nI (w2 (Wi h j P S 6 0) (Wi h j P S 6 1)))) : wp_X2_sidesThatWin (nI P) (nI S) wi (nI (hNl h)) (nI (hNp h)) side lv post := by
  unfold wp_X2_sidesThatWin
  have hnl := o.2.2.2.2.2.1
  have hnp := o.2.2.2.2.2.2.1
  have h64 := two6 hnp
  have h64l := two6 hnl
  have key : ∀ m i, i + m = hNp h → wp_X2_sidesThatWin_L5 (nI P) (nI S) wi (nI (hNl h)) (nI (hNp h)) side lv post (m + 1) (nI (w2 (Wi h j P S i 0) (Wi h j P S i 1))) (nI i) := by
    intro m
    induction m with
    | zero =>
      intro i hi
      unfold wp_X2_sidesThatWin_L5
      have e : i = hNp h := by omega
      subst e
      rw [Wi_np o, Wi_np o]
      exact br_t (nI_le (by omega) (by omega)) k
    | succ m ih =>
      intro i hi
      unfold wp_X2_sidesThatWin_L5
      have hsi := (o.2.2.2.2.2.2.2.2 i (by omega)).2.2
      have hw := w2_lt (Wi h j P S i 0) (Wi h j P S i 1)
      have hPv : P &&& lvN h S < 64 := by rw [Nat.and_comm]; exact and64 (by omega)
      refine br_f (nI_ge (by omega) (by omega)) ⟨vp_in_nI (by omega) (by omega), vp_in_nI (by omega) (by omega), ?_⟩
      rw [ix_nI (by omega), hlv, ix_nI (by omega), hsd i (by omega), fa_and, b_clr (by omega) (by omega), nI_1]
      refine c_bit (by omega) (by omega) ?_
      have ecomm : (P &&& lvN h S).testBit i = (lvN h S &&& P).testBit i := by rw [Nat.and_comm]
      rw [ecomm]
      refine jn_i (b01 ((lvN h S &&& P).testBit i && !(Wi h j P S i (hPs h i)))) (fun K hK => ?_) ?_
      · unfold jn
        refine b01_o (fun c => c_bit (by omega) (by omega) ?_) (fun c => ?_)
        · rw [w2_bit (fun s => Wi h j P S i s) hsi]
          refine b01_z (fun d => ?_) (fun d => ?_)
          · rw [c, d] at hK; exact hK
          · rw [c, d] at hK; exact hK
        · rw [c] at hK; exact hK
      · have h9 := ih (i + 1) (by omega)
        have hstep : ∀ s, Wi h j P S (i + 1) s = (Wi h j P S i s || ((lvN h S &&& P).testBit i && decide (hPs h i = s) && Bt (Wb h) j P S i s)) := fun s => rfl
        have same : (∀ s, ((lvN h S &&& P).testBit i && decide (hPs h i = s) && Bt (Wb h) j P S i s) = true → Wi h j P S i s = true) → nI (w2 (Wi h j P S i 0) (Wi h j P S i 1)) = nI (w2 (Wi h j P S (i + 1) 0) (Wi h j P S (i + 1) 1)) := by
          intro hq
          have : ∀ s, Wi h j P S (i + 1) s = Wi h j P S i s := by
            intro s
            rw [hstep]
            cases ha : Wi h j P S i s with
            | true => rfl
            | false =>
              cases hb : ((lvN h S &&& P).testBit i && decide (hPs h i = s) && Bt (Wb h) j P S i s) with
              | false => rfl
              | true => rw [hq s hb] at ha; cases ha
          rw [this, this]
        refine jn_i (nI (w2 (Wi h j P S (i + 1) 0) (Wi h j P S (i + 1) 1))) (fun K hK => b01_z (fun c => ?_) (fun c => ?_)) h9
        · rw [same]
          · exact hK
          · intro s hq
            rw [Bool.and_eq_true, Bool.and_eq_true, decide_eq_true_eq] at hq
            rw [hq.1.1] at c
            rw [← hq.1.2]
            simpa using c
        · rw [Bool.and_eq_true] at c
          have hbP : P.testBit i = true := by
            have := c.1
            rw [Nat.testBit_and, Bool.and_eq_true] at this
            exact this.2
          refine c_canBeat (j := j) o hsi (by omega) hS (fun l hl hb => hch i l (by omega) hl hbP hb) (b01_z (fun d => ?_) (fun d => ?_))
          · rw [same]
            · exact hK
            · intro s hq
              rw [Bool.and_eq_true, Bool.and_eq_true, decide_eq_true_eq] at hq
              rw [hq.1.2] at d
              rw [d] at hq
              exact absurd hq.2 (by decide)
          · rw [w2_set (fun s => Wi h j P S i s) (fun s => Wi h j P S (i + 1) s) hsi]
            · exact nm_e hK
            · intro s
              rw [hstep]
              by_cases q : s = hPs h i
              · subst q
                rw [c.1, d]; simp
              · have q2 : ¬ hPs h i = s := fun z => q z.symm
                simp [q, q2]
  exact ⟨_, key (hNp h) 0 (by omega)⟩
/-- the class's tables -/
def TBc (h : Hal) (gr wi : Nat → Int32) (P S : Nat) : Prop := pcn S + hNp h = hNl h + pcn P → gr (64 * P + S) = nI (min 1000 (Gr h (pcn P) P S)) ∧ wi (64 * P + S) = nI (w2 (Wb h (pcn P) P S 0) (Wb h (pcn P) P S 1))
theorem burn_t : ∀ a, a < 7 → ∀ b, b < 7 → ∀ c, c < 7 → ∀ d, d < 7 → (decide (nI d = (nI a - nI b) + nI c)) = decide (d + b = a + c) := by decide +kernel
theorem c_tables {h : Hal} (o : OkH h) {gr wi lv wish side : Nat → Int32} {kn : Int32} (hlv : ∀ lit, lit < 2 ^ hNl h → lv lit = nI (lvN h lit)) (hw : ∀ p, p < hNp h → wish p = nI (hPw h p) ∧ side p = nI (hPs h p)) (hkn : ¬ kn = 0 → ∀ P, P < 2 ^ hNp h → ∀ S, S < 2 ^ hNl h → TBc h gr wi P S) {post : (Nat → Int32) → (Nat → Int32) → Int32 → Prop} (k : ∀ gr2 wi2 kn2, (∀ P, P < 2 ^ hNp h → ∀ S, S < 2 ^ hNl h → TBc h gr2 wi2 P S) → isB kn2 → post gr2 wi2 kn2) (hkB : isB kn) : wp_X2_fillTables gr wi kn (nI (hNl h)) (nI (hNp h)) wish side lv post := by
  unfold wp_X2_fillTables
  have hnl := o.2.2.2.2.2.1
  have hnp := o.2.2.2.2.2.2.1
  have h64 := two6 hnp
  have h64l := two6 hnl
  have hpp := p2pos (hNp h)
  have hpl := p2pos (hNl h)
  have hAP := allP_lt h
  have hAL := allL_lt h
  refine ⟨fun _ => ?_, fun c => k gr wi kn (hkn c) hkB⟩
  have key : ∀ m P, P + m = 2 ^ hNp h → ∀ gr1 wi1 : Nat → Int32, (∀ P2, P2 < P → ∀ S, S < 2 ^ hNl h → TBc h gr1 wi1 P2 S) → wp_X2_fillTables_L15 1 (nI (hNl h)) (nI (hNp h)) wish side lv post (m + 1) (nI P) gr1 wi1 := by
    intro m
    induction m with
    | zero =>
      intro P hP gr1 wi1 h1
      unfold wp_X2_fillTables_L15
      refine c_allP o (br_t (nI_lt (by omega) (by omega)) (k gr1 wi1 1 (fun P2 h2 S hS => h1 P2 (by omega) S hS) (Or.inr rfl)))
    | succ m ih =>
      intro P hP gr1 wi1 h1
      unfold wp_X2_fillTables_L15
      refine c_allP o (br_f (nI_nlt (by unfold allP; omega) (by omega)) (c_bc (by omega) ?_))
      refine nm_e ?_
      unfold jn
      have hpP := pcn_s64 (show P < 64 by omega)
      have key2 : ∀ m2 S, S + m2 = 2 ^ hNl h → ∀ gr2 wi2 : Nat → Int32, (∀ P2, P2 < P → ∀ S, S < 2 ^ hNl h → TBc h gr2 wi2 P2 S) → (∀ S2, S2 < S → TBc h gr2 wi2 P S2) → wp_X2_fillTables_L49 (nI P) (nI (hNl h) - nI (hNp h) + nI (pcn P)) (nI (hNl h)) (nI (hNp h)) wish side lv (fun a b => wp_X2_fillTables_L15 1 (nI (hNl h)) (nI (hNp h)) wish side lv post (m + 1) (nI P + 1) a b) (m2 + 1) (nI S) gr2 wi2 := by
        intro m2
        induction m2 with
        | zero =>
          intro S hS gr2 wi2 h2 h3
          unfold wp_X2_fillTables_L49
          refine c_allL o (br_t (nI_lt (by omega) (by omega)) ?_)
          rw [nI_1]
          refine ih (P + 1) (by omega) gr2 wi2 ?_
          intro P2 hP2 S2 hS2
          rcases Nat.lt_or_ge P2 P with q | q
          · exact h2 P2 q S2 hS2
          · have : P2 = P := by omega
            rw [this]; exact h3 S2 (by omega)
        | succ m2 ih2 =>
          intro S hS gr2 wi2 h2 h3
          unfold wp_X2_fillTables_L49
          have hpS := pcn_s64 (show S < 64 by omega)
          refine c_allL o (br_f (nI_nlt (by unfold allL; omega) (by omega)) (c_bc (by omega) ?_))
          rw [nI_1 S]
          have hbt := burn_t (hNl h) (by omega) (hNp h) (by omega) (pcn P) (by omega) (pcn S) (by omega)
          unfold jn
          refine ⟨fun c => ?_, fun c => ?_⟩
          · have c1 : pcn S + hNp h = hNl h + pcn P := of_decide_eq_true (by rw [← hbt]; exact decide_eq_true c)
            refine c_place ?_
            have hcl : ∀ p l, p < 6 → l < 6 → P.testBit p = true → S.testBit l = true → gr2 (64 * clr P p + clr S l) = nI (min 1000 (Gr h (pcn P - 1) (clr P p) (clr S l))) ∧ wi2 (64 * clr P p + clr S l) = nI (w2 (Wb h (pcn P - 1) (clr P p) (clr S l) 0) (Wb h (pcn P - 1) (clr P p) (clr S l) 1)) := by
              intro p l hp hl hb1 hb2
              have h5 := pcn_clr (show p < 12 by omega) hb1
              have h6 := pcn_clr (show l < 12 by omega) hb2
              have h7 := clr_lt hb1
              have h8 := clr_le S l
              have h9 := h2 (clr P p) h7 (clr S l) (by omega) (by omega)
              have e : pcn (clr P p) = pcn P - 1 := by omega
              rw [e] at h9
              exact h9
            refine c_leastGrief o (by omega) (by omega) (hlv S (by omega)) (fun p hp => (hw p hp).1) (fun p l hp hl hb1 hb2 => (hcl p l hp hl hb1 hb2).1) ⟨vp_in_nI (by omega) (by omega), c_place ?_⟩
            refine c_sides (j := pcn P - 1) o (by omega) (by omega) (hlv S (by omega)) (fun p hp => (hw p hp).2) (fun p l hp hl hb1 hb2 => (hcl p l hp hl hb1 hb2).2) ⟨vp_in_nI (by omega) (by omega), ?_⟩
            rw [ix_nI (by omega)]
            refine ih2 (S + 1) (by omega) _ _ ?_ ?_
            · intro P2 hP2 S2 hS2 hc2
              have ne : 64 * P2 + S2 ≠ 64 * P + S := by omega
              rw [upd_n ne, upd_n ne]; exact h2 P2 hP2 S2 hS2 hc2
            · intro S2 hS2 hc2
              by_cases q : S2 = S
              · subst q
                rw [upd_s, upd_s]
                refine ⟨rfl, ?_⟩
                cases hq : pcn P with
                | zero =>
                  have hP0 : P = 0 := pcn_0 (show P < 2 ^ 12 by omega) hq
                  have hz : ∀ s, Wi h (0 - 1) P S2 6 s = false := by
                    intro s
                    unfold Wi
                    have : anyB (fun p => (lvN h S2 &&& P).testBit p && decide (hPs h p = s) && Bt (Wb h) (0 - 1) P S2 p s) (0 + 6) = anyB _ 0 := anyB_ext (m := 0) (fun q _ => by rw [hP0, Nat.and_zero]; simp) 6
                    exact this
                  rw [hz, hz]
                  rfl
                | succ j =>
                  rw [Wb_s, Wb_s]
                  rfl
              · have ne : 64 * P + S2 ≠ 64 * P + S := by omega
                rw [upd_n ne, upd_n ne]; exact h3 S2 (by omega) hc2
          · have c1 : ¬ pcn S + hNp h = hNl h + pcn P := of_decide_eq_false (by rw [← hbt]; exact decide_eq_false c)
            refine ih2 (S + 1) (by omega) _ _ h2 ?_
            intro S2 hS2 hc2
            by_cases q : S2 = S
            · subst q; exact absurd hc2 c1
            · exact h3 S2 (by omega) hc2
      exact ⟨_, key2 (2 ^ hNl h) 0 (by omega) gr1 wi1 h1 (fun S hS => by omega)⟩
  exact ⟨_, key (2 ^ hNp h) 0 (by omega) gr wi (fun P hP => by omega)⟩
