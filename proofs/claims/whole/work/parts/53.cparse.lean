/-! The class reads a text as it is told. -/
def AR (h : Hal) (lc lr pc ws sd : Nat → Int32) : Prop := (∀ l, l < hNl h → lc l = nI (hLc h l) ∧ lr l = nI (hLr h l)) ∧ (∀ p, p < hNp h → pc p = nI (hPc h p) ∧ ws p = nI (hPw h p) ∧ sd p = nI (hPs h p))
section
variable {b : Nat → Nat} {len : Nat} {tb : Nat → Int32} {post : Int32 → Int32 → Int32 → Int32 → Int32 → Int32 → Int32 → Int32 → (Nat → Int32) → Int32 → Int32 → Int32 → Int32 → Int32 → Int32 → Int32 → Int32 → (Nat → Int32) → (Nat → Int32) → (Nat → Int32) → (Nat → Int32) → (Nat → Int32) → Prop} {K79 : Int32 → Int32 → Int32 → Int32 → Int32 → Int32 → Int32 → (Nat → Int32) → Int32 → Int32 → Int32 → Int32 → Int32 → Int32 → Int32 → Int32 → (Nat → Int32) → (Nat → Int32) → (Nat → Int32) → (Nat → Int32) → (Nat → Int32) → Prop}
theorem nof_2 {it : Nat} (h : it = 4 ∨ it = 5 ∨ it = 6) : ∀ P : Int32 → Prop, P (nI 2) → wp_X3_numbersOf (nI it) P := by
  intro P k
  unfold wp_X3_numbersOf
  rcases h with q | q | q <;> subst q <;> exact br_f (by decide) (br_f (by decide) (br_f (by decide) k))
theorem nof_3 : ∀ P : Int32 → Prop, P (nI 3) → wp_X3_numbersOf (nI 7) P := by
  intro P k
  unfold wp_X3_numbersOf
  exact br_t rfl k
theorem nof_4 : ∀ P : Int32 → Prop, P (nI 4) → wp_X3_numbersOf (nI 8) P := by
  intro P k
  unfold wp_X3_numbersOf
  exact br_f (by decide) (br_t rfl k)
theorem nof_1 : ∀ P : Int32 → Prop, P (nI 1) → wp_X3_numbersOf (nI 9) P := by
  intro P k
  unfold wp_X3_numbersOf
  exact br_f (by decide) (br_f (by decide) (br_t rfl k))
theorem cr_place {h : Hal} (o : OkH h) (hl : len ≤ 300) (Y : BY b len tb) {it cnt : Nat} (hit : it = 5 ∨ it = 6 ∨ it = 7 ∨ it = 8) (hcnt : ∀ P : Int32 → Prop, P (nI cnt) → wp_X3_numbersOf (nI it) P) (h2 : 2 ≤ cnt) (h4 : cnt ≤ 4) {n i e : Nat} (hie : i ≤ e) (he : e ≤ len) (hn : len + 1 ≤ n + i) {its : Int32} {nums : Nat → Int32} {lt dr la lm pe : Int32} {lc lr pc ws sd : Nat → Int32} (kb : pOK b len e h (decide (it = 5)) = false → FPo post (pF b len e h)) (kg : pOK b len e h (decide (it = 5)) = true → ∀ n2 i2 nums2, i2 ≤ pE b len e → pE b len e ≤ len → len + 1 ≤ n2 + i2 → nums2 0 = nI (dg b len e) → nums2 1 = nI (dg b len (tE b len e)) → CR tb len post K79 n2 i2 (pE b len e) (nI it) (nI 2) its nums2 lt (nI (hW h)) (nI (hH h)) (nI (hWal h)) dr la lm pe lc lr pc ws sd) : CR tb len post K79 n i e (nI it) (nI 0) its nums lt (nI (hW h)) (nI (hH h)) (nI (hWal h)) dr la lm pe lc lr pc ws sd := by
  have hc12 := o.c12
  have w1 := o.1
  have w2 := o.2.1
  obtain ⟨m, rfl⟩ : ∃ m, n = m + 1 := ⟨n - 1, by omega⟩
  have hlo : (0 : Nat) = if it = 4 then 1 else 0 := by rw [if_neg (by omega)]
  have gW : nI (hW h) - 1 = nI (hW h - 1) := pk_sub (b := 1) (by omega)
  have gH : nI (hH h) - 1 = nI (hH h - 1) := pk_sub (b := 1) (by omega)
  have gr0 : ∀ P : Int32 → Prop, P (nI (hW h - 1)) → wp_X3_greatest (nI it) (nI 0) (nI (hW h)) (nI (hH h)) P := by
    intro P k
    unfold wp_X3_greatest
    rw [gW]
    rcases hit with q | q | q | q <;> subst q <;> exact br_f (by decide) (br_t rfl (br_f (by decide) k))
  have gr1 : ∀ P : Int32 → Prop, P (nI (hH h - 1)) → wp_X3_greatest (nI it) (nI 1) (nI (hW h)) (nI (hH h)) P := by
    intro P k
    unfold wp_X3_greatest
    rw [gH]
    rcases hit with q | q | q | q <;> subst q <;> exact br_f (by decide) (br_f (by decide) (br_t rfl (br_f (by decide) k)))
  refine cr_num (t := 0) (lo := 0) (g := hW h - 1) hl Y hie he (by omega) hcnt (by omega) h4 hlo (by omega) gr0 false (fun _ => rfl) (fun _ q => by omega) (fun q => ?_) (fun q => ?_)
  · have q1 : nOK b len e 0 (hW h - 1) = false := by simpa using q
    have := kb (by unfold pOK; rw [q1]; rfl)
    unfold pF at this
    rw [q1] at this
    exact this
  · have q1 : nOK b len e 0 (hW h - 1) = true := by simpa using q
    have r1 := nOK_a he q1
    obtain ⟨m2, rfl⟩ : ∃ m2, m = m2 + 1 := ⟨m - 1, by omega⟩
    have epF : pF b len e h = tS b len (tE b len e) := by unfold pF; rw [q1]; rfl
    rw [epF] at kb
    have epOK : pOK b len e h (decide (it = 5)) = (nOK b len (tE b len e) 0 (hH h - 1) && (decide (it = 5) || !(hWal h).testBit (pC b len e h))) := by unfold pOK; rw [q1]; rfl
    refine cr_num (t := 1) (lo := 0) (g := hH h - 1) hl Y (by omega) r1.2 (by omega) hcnt (by omega) h4 hlo (by omega) gr1 (!decide (it = 5) && (hWal h).testBit (pC b len e h)) ?_ ?_ (fun z => kb ?_) (fun z => ?_)
    · intro z
      have : it = 5 := by
        rcases hit with y | y | y | y
        · exact y
        · exact absurd ⟨Or.inl y, rfl⟩ z
        · exact absurd ⟨Or.inr (Or.inl y), rfl⟩ z
        · exact absurd ⟨Or.inr (Or.inr y), rfl⟩ z
      simp [this]
    · intro z _ q2
      have a1 := (nOK_t q1).2.2
      have a2 := (nOK_t q2).2.2
      have hlt : pC b len e h < 32 := by
        unfold pC
        have : hW h * dg b len (tE b len e) ≤ 4 * 2 := Nat.mul_le_mul w1.2 (by omega)
        omega
      refine ⟨hWal h, pC b len e h, hlt, walls_lt o, rfl, ?_, ?_⟩
      · rw [upd_s, pk_mul, nI_add]; rfl
      · have : ¬ it = 5 := by omega
        simp [this]
    · rw [epOK]
      cases hd : decide (it = 5) <;> rw [hd] at z <;> simpa using z
    · have z1 : pOK b len e h (decide (it = 5)) = true := by
        rw [epOK]
        cases hd : decide (it = 5) <;> rw [hd] at z <;> simpa using z
      have q2 : nOK b len (tE b len e) 0 (hH h - 1) = true := (pOK_t o z1).2.1
      have r2 := nOK_a r1.2 q2
      exact kg z1 _ _ _ (by unfold pE; omega) r2.2 (by omega) (by rw [upd_n (by omega), upd_s]) (by rw [upd_s])
theorem c_item {h : Hal} {its laws a : Nat} (hl : len ≤ 300) (Y : BY b len tb) (P : PI b len a h its laws) (h0 : tK b len a ≠ 0) {n i : Nat} (hia : i ≤ a) (hn : len + 1 ≤ n + i) {nt : Int32} {nums : Nat → Int32} {lc lr pc ws sd : Nat → Int32} (A : AR h lc lr pc ws sd) (kF : ∀ s, itF b len (itm0 b len a h its laws) = .inl s → FPo post s) (kG : ∀ a2 h2 l2, itF b len (itm0 b len a h its laws) = .inr (a2, h2, l2) → ∀ n2 i2 nt2 nums2 lc2 lr2 pc2 ws2 sd2, i2 ≤ a2 → len + 1 ≤ n2 + i2 → AR h2 lc2 lr2 pc2 ws2 sd2 → CR tb len post K79 n2 i2 a2 0 nt2 (nI (its + 1)) nums2 (nI l2) (nI (hW h2)) (nI (hH h2)) (nI (hWal h2)) (nI (hDor h2)) (nI (hLaw h2)) (nI (hNl h2)) (nI (hNp h2)) lc2 lr2 pc2 ws2 sd2) : CR tb len post K79 n i a 0 nt (nI its) nums (nI laws) (nI (hW h)) (nI (hH h)) (nI (hWal h)) (nI (hDor h)) (nI (hLaw h)) (nI (hNl h)) (nI (hNp h)) lc lr pc ws sd := by
  obtain ⟨o, ha, hits, hlaw, hno⟩ := P
  have h1 := tE_b b ha
  have hae := h1.2.2.2 h0
  have hc12 := o.c12
  have hnl := o.2.2.2.2.2.1
  have hnp := o.2.2.2.2.2.2.1
  obtain ⟨m, rfl⟩ : ∃ m, n = m + 1 := ⟨n - 1, by omega⟩
  have bad : ∀ s, itm0 b len a h its laws = .inl s → FPo post s := fun s e => kF s (by rw [e]; rfl)
  have fin : ∀ a3 h3 l3, itm0 b len a h its laws = .inr (a3, h3, l3) → (tK b len a3 ≠ 3 → FPo post (tS b len a3)) ∧ (tK b len a3 = 3 → itF b len (itm0 b len a h its laws) = .inr (tE b len a3, h3, l3)) := by
    intro a3 h3 l3 e
    rw [e] at kF ⊢
    unfold itF at kF ⊢
    refine ⟨fun q => kF _ (by simp [q]), fun q => by simp [q]⟩
  have no0 : ∀ s : Nat, tK b len a = 0 → ∀ x1 x2 x3 x4, post (nI its) x1 x2 x3 x4 0 nt (nI its) nums (nI laws) (nI (hW h)) (nI (hH h)) (nI (hWal h)) (nI (hDor h)) (nI (hLaw h)) (nI (hNl h)) (nI (hNp h)) lc lr pc ws sd := fun s q => absurd q h0
  have e1 : ∀ k, k ≤ len → tK b len k = 3 → k < tE b len k ∧ tE b len k ≤ len := fun k hk q => by
    have := tE_b b hk
    exact ⟨this.2.2.2 (by rw [q]; decide), this.2.1⟩
  by_cases c0 : vB b len a = 0
  · have ck : cK b len a = nI 4 := by rw [cK_v (by omega), c0]
    refine cr_begin hl Y hia ha (no0 0) (decide (its = 0)) (fun _ Q k => ?_) (fun _ q => ?_) (fun _ q => ?_)
    · unfold wp_X3_beginItem
      rw [ck] at k ⊢
      refine br_t rfl (ne0_nI (by omega) (fun z => ?_) (fun z => ?_))
      · simp [z] at k; exact k
      · simp [z] at k; exact k
    · exact bad _ (by unfold itm0; rw [if_pos c0, if_neg (of_decide_eq_false q)])
    · have d1 := of_decide_eq_true q
      rw [ck]
      obtain ⟨m2, rfl⟩ : ∃ m2, m = m2 + 1 := ⟨m - 1, by omega⟩
      have gr0 : ∀ P : Int32 → Prop, P (nI 4) → wp_X3_greatest (nI 4) (nI 0) (nI (hW h)) (nI (hH h)) P := by
        intro P k
        unfold wp_X3_greatest
        exact br_f (by decide) (br_t rfl (br_t rfl k))
      have gr1 : ∀ P : Int32 → Prop, P (nI 3) → wp_X3_greatest (nI 4) (nI 1) (nI (hW h)) (nI (hH h)) P := by
        intro P k
        unfold wp_X3_greatest
        exact br_f (by decide) (br_f (by decide) (br_t rfl (br_t rfl k)))
      refine cr_num (t := 0) (cnt := 2) (lo := 1) (g := 4) hl Y (by omega) h1.2.1 (by omega) (nof_2 (Or.inl rfl)) (by omega) (by omega) rfl (by omega) gr0 false (fun _ => rfl) (fun z => by omega) (fun z => ?_) (fun z => ?_)
      · have z1 : ¬ nOK b len (tE b len a) 1 4 = true := by simpa using z
        exact bad _ (by unfold itm0; rw [if_pos c0, if_pos d1, if_neg z1])
      · have z1 : nOK b len (tE b len a) 1 4 = true := by simpa using z
        have r1 := nOK_a h1.2.1 z1
        obtain ⟨m3, rfl⟩ : ∃ m3, m2 = m3 + 1 := ⟨m2 - 1, by omega⟩
        refine cr_num (t := 1) (cnt := 2) (lo := 1) (g := 3) hl Y (by omega) r1.2 (by omega) (nof_2 (Or.inl rfl)) (by omega) (by omega) rfl (by omega) gr1 false (fun _ => rfl) (fun z => by omega) (fun z => ?_) (fun z => ?_)
        · have z2 : ¬ nOK b len (tE b len (tE b len a)) 1 3 = true := by simpa using z
          exact bad _ (by unfold itm0; rw [if_pos c0, if_pos d1, if_pos z1, if_neg z2])
        · have z2 : nOK b len (tE b len (tE b len a)) 1 3 = true := by simpa using z
          have r2 := nOK_a r1.2 z2
          obtain ⟨m4, rfl⟩ : ∃ m4, m3 = m4 + 1 := ⟨m3 - 1, by omega⟩
          obtain ⟨f1, f2⟩ := fin _ _ _ (show itm0 b len a h its laws = .inr (tE b len (tE b len (tE b len a)), sWH h (dg b len (tE b len a)) (dg b len (tE b len (tE b len a))), laws) by unfold itm0; rw [if_pos c0, if_pos d1, if_pos z1, if_pos z2])
          refine cr_end (cnt := 2) hl Y (by omega) r2.2 (by omega) (nof_2 (Or.inl rfl)) (by omega) f1 (fun y => ?_)
          have r3 := e1 _ r2.2 y
          unfold wp_X3_endItem jn
          refine br_t rfl ?_
          rw [nI_1, upd_n (by omega), upd_s, upd_s]
          exact kG _ _ _ (f2 y) _ _ _ _ _ _ _ _ _ (by omega) (by omega) A
  · by_cases c1 : vB b len a = 1
    · have ck : cK b len a = nI 5 := by rw [cK_v (by omega), c1]
      refine cr_begin hl Y hia ha (no0 0) (decide (hDor h = 0 ∧ hNl h = 0 ∧ hNp h = 0)) (fun _ Q k => ?_) (fun _ q => ?_) (fun _ q => ?_)
      · unfold wp_X3_beginItem
        rw [ck] at k ⊢
        unfold jn
        refine br_f (by decide) (br_t rfl (ne0_nI (by have := doors_lt o; omega) (fun y1 => ne0_nI (by omega) (fun y2 => ne0_nI (by omega) (fun y3 => ?_) (fun y3 => ?_)) (fun y2 => ?_)) (fun y1 => ?_)))
        · simp [y1, y2, y3] at k; exact k
        · simp [y1, y2, y3] at k; exact k
        · simp [y1, y2] at k; exact k
        · simp [y1] at k; exact k
      · exact bad _ (by unfold itm0; rw [if_neg c0, if_pos c1, if_neg (of_decide_eq_false q)])
      · have d1 := of_decide_eq_true q
        rw [ck]
        refine cr_place (cnt := 2) o hl Y (Or.inl rfl) (nof_2 (Or.inr (Or.inl rfl))) (by omega) (by omega) (by omega) h1.2.1 (by omega) (fun z => ?_) (fun z n2 i2 nums2 z1 z2 z3 z4 z5 => ?_)
        · have z1 : ¬ pOK b len (tE b len a) h true = true := by
            have : pOK b len (tE b len a) h true = false := z
            rw [this]; decide
          exact bad _ (by unfold itm0; rw [if_neg c0, if_pos c1, if_pos d1, if_neg z1])
        · have y1 : pOK b len (tE b len a) h true = true := z
          obtain ⟨m4, rfl⟩ : ∃ m4, n2 = m4 + 1 := ⟨n2 - 1, by omega⟩
          obtain ⟨f1, f2⟩ := fin _ _ _ (show itm0 b len a h its laws = .inr (pE b len (tE b len a), sWal h (hWal h ||| 2 ^ pC b len (tE b len a) h), laws) by unfold itm0; rw [if_neg c0, if_pos c1, if_pos d1, if_pos y1])
          have hpc := (pOK_t o y1).2.2.2
          refine cr_end (cnt := 2) hl Y z1 z2 (by omega) (nof_2 (Or.inr (Or.inl rfl))) (by omega) f1 (fun y => ?_)
          have r3 := e1 _ z2 y
          unfold wp_X3_endItem jn wp_X3_cellTold
          refine br_f (by decide) (br_t rfl ?_)
          rw [z4, z5, pk_mul, nI_add, nI_1]
          dsimp only
          rw [b_set (show hW h * dg b len (tE b len (tE b len a)) + dg b len (tE b len a) < 32 by unfold pC at hpc; omega)]
          exact kG _ _ _ (f2 y) _ _ _ _ _ _ _ _ _ (by omega) (by omega) A
    · by_cases c2 : vB b len a = 2
      · have ck : cK b len a = nI 6 := by rw [cK_v (by omega), c2]
        refine cr_begin hl Y hia ha (no0 0) true (fun _ Q k => ?_) (fun _ q => by cases q) (fun _ q => ?_)
        · unfold wp_X3_beginItem
          rw [ck] at k ⊢
          exact br_f (by decide) (br_f (by decide) (br_t rfl k))
        · rw [ck]
          refine cr_place (cnt := 2) o hl Y (Or.inr (Or.inl rfl)) (nof_2 (Or.inr (Or.inr rfl))) (by omega) (by omega) (by omega) h1.2.1 (by omega) (fun z => ?_) (fun z n2 i2 nums2 z1 z2 z3 z4 z5 => ?_)
          · have z1 : ¬ pOK b len (tE b len a) h false = true := by
              have : pOK b len (tE b len a) h false = false := z
              rw [this]; decide
            exact bad _ (by unfold itm0; rw [if_neg c0, if_neg c1, if_pos c2, if_neg z1])
          · have y1 : pOK b len (tE b len a) h false = true := z
            obtain ⟨m4, rfl⟩ : ∃ m4, n2 = m4 + 1 := ⟨n2 - 1, by omega⟩
            obtain ⟨f1, f2⟩ := fin _ _ _ (show itm0 b len a h its laws = .inr (pE b len (tE b len a), sDor h (hDor h ||| 2 ^ pC b len (tE b len a) h), laws) by unfold itm0; rw [if_neg c0, if_neg c1, if_pos c2, if_pos y1])
            have hpc := (pOK_t o y1).2.2.2
            refine cr_end (cnt := 2) hl Y z1 z2 (by omega) (nof_2 (Or.inr (Or.inr rfl))) (by omega) f1 (fun y => ?_)
            have r3 := e1 _ z2 y
            unfold wp_X3_endItem jn wp_X3_cellTold
            refine br_f (by decide) (br_f (by decide) (br_t rfl ?_))
            rw [z4, z5, pk_mul, nI_add, nI_1]
            dsimp only
            rw [b_set (show hW h * dg b len (tE b len (tE b len a)) + dg b len (tE b len a) < 32 by unfold pC at hpc; omega)]
            exact kG _ _ _ (f2 y) _ _ _ _ _ _ _ _ _ (by omega) (by omega) A
      · by_cases c3 : vB b len a = 3
        · have ck : cK b len a = nI 7 := by rw [cK_v (by omega), c3]
          refine cr_begin hl Y hia ha (no0 0) (decide (hNl h < 6)) (fun _ Q k => ?_) (fun _ q => ?_) (fun _ q => ?_)
          · unfold wp_X3_beginItem
            rw [ck] at k ⊢
            refine br_f (by decide) (br_f (by decide) (br_f (by decide) (br_t rfl (pk_le 6 (hNl h) (fun y => ?_) (fun y => ?_)))))
            · have : ¬ hNl h < 6 := by omega
              simp [this] at k; exact k
            · simp [y] at k; exact k
          · exact bad _ (by unfold itm0; rw [if_neg c0, if_neg c1, if_neg c2, if_pos c3, if_neg (of_decide_eq_false q)])
          · have d1 := of_decide_eq_true q
            rw [ck]
            refine cr_place (cnt := 3) o hl Y (Or.inr (Or.inr (Or.inl rfl))) nof_3 (by omega) (by omega) (by omega) h1.2.1 (by omega) (fun z => ?_) (fun z n2 i2 nums2 z1 z2 z3 z4 z5 => ?_)
            · have z1 : ¬ pOK b len (tE b len a) h false = true := by
                have : pOK b len (tE b len a) h false = false := z
                rw [this]; decide
              exact bad _ (by unfold itm0; rw [if_neg c0, if_neg c1, if_neg c2, if_pos c3, if_pos d1, if_neg z1])
            · have y1 : pOK b len (tE b len a) h false = true := z
              obtain ⟨m4, rfl⟩ : ∃ m4, n2 = m4 + 1 := ⟨n2 - 1, by omega⟩
              have hpc := (pOK_t o y1).2.2.2
              have gr2 : ∀ P : Int32 → Prop, P (nI 9) → wp_X3_greatest (nI 7) (nI 2) (nI (hW h)) (nI (hH h)) P := by
                intro P k
                unfold wp_X3_greatest
                exact br_f (by decide) (br_f (by decide) (br_f (by decide) (br_t rfl (br_t rfl k))))
              refine cr_num (t := 2) (cnt := 3) (lo := 0) (g := 9) hl Y z1 z2 (by omega) nof_3 (by omega) (by omega) rfl (by omega) gr2 false (fun _ => rfl) (fun _ y => by omega) (fun y => ?_) (fun y => ?_)
              · have y2 : ¬ nOK b len (pE b len (tE b len a)) 0 9 = true := by simpa using y
                exact bad _ (by unfold itm0; rw [if_neg c0, if_neg c1, if_neg c2, if_pos c3, if_pos d1, if_pos y1, if_neg y2])
              · have y2 : nOK b len (pE b len (tE b len a)) 0 9 = true := by simpa using y
                have r2 := nOK_a z2 y2
                obtain ⟨m5, rfl⟩ : ∃ m5, m4 = m5 + 1 := ⟨m4 - 1, by omega⟩
                obtain ⟨f1, f2⟩ := fin _ _ _ (show itm0 b len a h its laws = .inr (tE b len (pE b len (tE b len a)), aLmp h (pC b len (tE b len a) h) (dg b len (pE b len (tE b len a))), laws) by unfold itm0; rw [if_neg c0, if_neg c1, if_neg c2, if_pos c3, if_pos d1, if_pos y1, if_pos y2])
                refine cr_end (cnt := 3) hl Y (by omega) r2.2 (by omega) nof_3 (by omega) f1 (fun y => ?_)
                have r3 := e1 _ r2.2 y
                unfold wp_X3_endItem jn wp_X3_cellTold wp_X0_addLamp
                refine br_f (by decide) (br_f (by decide) (br_f (by decide) (br_t rfl (br_f (nI_ge (b := 6) d1 (by omega)) ⟨vp_in_nI (by omega) (by omega), vp_in_nI (by omega) (by omega), ?_⟩))))
                rw [upd_n (by omega), upd_n (by omega), upd_s, z4, z5, pk_mul, nI_add, nI_1, nI_1, ix_nI (by omega)]
                refine kG _ _ _ (f2 y) _ _ _ _ _ _ _ _ _ (by omega) (by omega) ⟨fun l hl2 => ?_, A.2⟩
                have hl3 : l < hNl h + 1 := hl2
                show _ = nI (st1 (hLc h) (hNl h) _ l) ∧ _ = nI (st1 (hLr h) (hNl h) _ l)
                by_cases e9 : l = hNl h
                · rw [e9, upd_s, upd_s, st1_s, st1_s]; exact ⟨rfl, rfl⟩
                · rw [upd_n e9, upd_n e9, st1_n e9, st1_n e9]; exact A.1 l (by omega)
        · by_cases c4 : vB b len a = 4
          · have ck : cK b len a = nI 8 := by rw [cK_v (by omega), c4]
            refine cr_begin hl Y hia ha (no0 0) (decide (hNp h < 6)) (fun _ Q k => ?_) (fun _ q => ?_) (fun _ q => ?_)
            · unfold wp_X3_beginItem
              rw [ck] at k ⊢
              refine br_f (by decide) (br_f (by decide) (br_f (by decide) (br_f (by decide) (br_t rfl (pk_le 6 (hNp h) (fun y => ?_) (fun y => ?_))))))
              · have : ¬ hNp h < 6 := by omega
                simp [this] at k; exact k
              · simp [y] at k; exact k
            · exact bad _ (by unfold itm0; rw [if_neg c0, if_neg c1, if_neg c2, if_neg c3, if_pos c4, if_neg (of_decide_eq_false q)])
            · have d1 := of_decide_eq_true q
              rw [ck]
              refine cr_place (cnt := 4) o hl Y (Or.inr (Or.inr (Or.inr rfl))) nof_4 (by omega) (by omega) (by omega) h1.2.1 (by omega) (fun z => ?_) (fun z n2 i2 nums2 z1 z2 z3 z4 z5 => ?_)
              · have z1 : ¬ pOK b len (tE b len a) h false = true := by
                  have : pOK b len (tE b len a) h false = false := z
                  rw [this]; decide
                exact bad _ (by unfold itm0; rw [if_neg c0, if_neg c1, if_neg c2, if_neg c3, if_pos c4, if_pos d1, if_neg z1])
              · have y1 : pOK b len (tE b len a) h false = true := z
                obtain ⟨m4, rfl⟩ : ∃ m4, n2 = m4 + 1 := ⟨n2 - 1, by omega⟩
                have hpc := (pOK_t o y1).2.2.2
                have gr2 : ∀ P : Int32 → Prop, P (nI 9) → wp_X3_greatest (nI 8) (nI 2) (nI (hW h)) (nI (hH h)) P := by
                  intro P k
                  unfold wp_X3_greatest
                  exact br_f (by decide) (br_f (by decide) (br_f (by decide) (br_t rfl (br_f (by decide) k))))
                have gr3 : ∀ P : Int32 → Prop, P (nI 1) → wp_X3_greatest (nI 8) (nI 3) (nI (hW h)) (nI (hH h)) P := by
                  intro P k
                  unfold wp_X3_greatest
                  exact br_f (by decide) (br_f (by decide) (br_f (by decide) (br_f (by decide) k)))
                refine cr_num (t := 2) (cnt := 4) (lo := 0) (g := 9) hl Y z1 z2 (by omega) nof_4 (by omega) (by omega) rfl (by omega) gr2 false (fun _ => rfl) (fun _ y => by omega) (fun y => ?_) (fun y => ?_)
                · have y2 : ¬ nOK b len (pE b len (tE b len a)) 0 9 = true := by simpa using y
                  exact bad _ (by unfold itm0; rw [if_neg c0, if_neg c1, if_neg c2, if_neg c3, if_pos c4, if_pos d1, if_pos y1, if_neg y2])
                · have y2 : nOK b len (pE b len (tE b len a)) 0 9 = true := by simpa using y
                  have r2 := nOK_a z2 y2
                  obtain ⟨m5, rfl⟩ : ∃ m5, m4 = m5 + 1 := ⟨m4 - 1, by omega⟩
                  refine cr_num (t := 3) (cnt := 4) (lo := 0) (g := 1) hl Y (by omega) r2.2 (by omega) nof_4 (by omega) (by omega) rfl (by omega) gr3 false (fun _ => rfl) (fun _ y => by omega) (fun y => ?_) (fun y => ?_)
                  · have y3 : ¬ nOK b len (tE b len (pE b len (tE b len a))) 0 1 = true := by simpa using y
                    exact bad _ (by unfold itm0; rw [if_neg c0, if_neg c1, if_neg c2, if_neg c3, if_pos c4, if_pos d1, if_pos y1, if_pos y2, if_neg y3])
                  · have y3 : nOK b len (tE b len (pE b len (tE b len a))) 0 1 = true := by simpa using y
                    have r4 := nOK_a r2.2 y3
                    obtain ⟨m6, rfl⟩ : ∃ m6, m5 = m6 + 1 := ⟨m5 - 1, by omega⟩
                    obtain ⟨f1, f2⟩ := fin _ _ _ (show itm0 b len a h its laws = .inr (tE b len (tE b len (pE b len (tE b len a))), aPer h (pC b len (tE b len a) h) (dg b len (pE b len (tE b len a))) (dg b len (tE b len (pE b len (tE b len a)))), laws) by unfold itm0; rw [if_neg c0, if_neg c1, if_neg c2, if_neg c3, if_pos c4, if_pos d1, if_pos y1, if_pos y2, if_pos y3])
                    refine cr_end (cnt := 4) hl Y (by omega) r4.2 (by omega) nof_4 (by omega) f1 (fun y => ?_)
                    have r3 := e1 _ r4.2 y
                    unfold wp_X3_endItem jn wp_X3_cellTold wp_X0_addPerson
                    refine br_f (by decide) (br_f (by decide) (br_f (by decide) (br_f (by decide) (br_t rfl (br_f (nI_ge (b := 6) d1 (by omega)) ⟨vp_in_nI (by omega) (by omega), vp_in_nI (by omega) (by omega), vp_in_nI (by omega) (by omega), ?_⟩)))))
                    have u0 : upd (upd nums2 2 (nI (dg b len (pE b len (tE b len a))))) 3 (nI (dg b len (tE b len (pE b len (tE b len a))))) 0 = nI (dg b len (tE b len a)) := by rw [upd_n (by omega), upd_n (by omega)]; exact z4
                    have u1 : upd (upd nums2 2 (nI (dg b len (pE b len (tE b len a))))) 3 (nI (dg b len (tE b len (pE b len (tE b len a))))) 1 = nI (dg b len (tE b len (tE b len a))) := by rw [upd_n (by omega), upd_n (by omega)]; exact z5
                    have u2 : upd (upd nums2 2 (nI (dg b len (pE b len (tE b len a))))) 3 (nI (dg b len (tE b len (pE b len (tE b len a))))) 2 = nI (dg b len (pE b len (tE b len a))) := by rw [upd_n (by omega), upd_s]
                    rw [u0, u1, u2, upd_s, pk_mul, nI_add, nI_1, nI_1, ix_nI (by omega)]
                    refine kG _ _ _ (f2 y) _ _ _ _ _ _ _ _ _ (by omega) (by omega) ⟨A.1, fun p hp2 => ?_⟩
                    have hp3 : p < hNp h + 1 := hp2
                    show _ = nI (st1 (hPc h) (hNp h) _ p) ∧ _ = nI (st1 (hPw h) (hNp h) _ p) ∧ _ = nI (st1 (hPs h) (hNp h) _ p)
                    by_cases e9 : p = hNp h
                    · rw [e9, upd_s, upd_s, upd_s, st1_s, st1_s, st1_s]; exact ⟨rfl, rfl, rfl⟩
                    · rw [upd_n e9, upd_n e9, upd_n e9, st1_n e9, st1_n e9, st1_n e9]; exact A.2 p (by omega)
          · by_cases c5 : vB b len a = 5
            · have ck : cK b len a = nI 9 := by rw [cK_v (by omega), c5]
              refine cr_begin hl Y hia ha (no0 0) (decide (laws = 0)) (fun _ Q k => ?_) (fun _ q => ?_) (fun _ q => ?_)
              · unfold wp_X3_beginItem
                rw [ck] at k ⊢
                refine br_f (by decide) (br_f (by decide) (br_f (by decide) (br_f (by decide) (br_f (by decide) (br_t rfl (ne0_nI (by omega) (fun y => ?_) (fun y => ?_)))))))
                · simp [y] at k; exact k
                · simp [y] at k; exact k
              · exact bad _ (by unfold itm0; rw [if_neg c0, if_neg c1, if_neg c2, if_neg c3, if_neg c4, if_pos c5, if_neg (of_decide_eq_false q)])
              · have d1 := of_decide_eq_true q
                rw [ck]
                obtain ⟨m2, rfl⟩ : ∃ m2, m = m2 + 1 := ⟨m - 1, by omega⟩
                have gr0 : ∀ P : Int32 → Prop, P (nI 1) → wp_X3_greatest (nI 9) (nI 0) (nI (hW h)) (nI (hH h)) P := by
                  intro P k
                  unfold wp_X3_greatest
                  exact br_t rfl k
                refine cr_num (t := 0) (cnt := 1) (lo := 0) (g := 1) hl Y (by omega) h1.2.1 (by omega) nof_1 (by omega) (by omega) rfl (by omega) gr0 false (fun _ => rfl) (fun z => by omega) (fun z => ?_) (fun z => ?_)
                · have z1 : ¬ nOK b len (tE b len a) 0 1 = true := by simpa using z
                  exact bad _ (by unfold itm0; rw [if_neg c0, if_neg c1, if_neg c2, if_neg c3, if_neg c4, if_pos c5, if_pos d1, if_neg z1])
                · have z1 : nOK b len (tE b len a) 0 1 = true := by simpa using z
                  have r1 := nOK_a h1.2.1 z1
                  obtain ⟨m3, rfl⟩ : ∃ m3, m2 = m3 + 1 := ⟨m2 - 1, by omega⟩
                  obtain ⟨f1, f2⟩ := fin _ _ _ (show itm0 b len a h its laws = .inr (tE b len (tE b len a), sLaw h (dg b len (tE b len a)), 1) by unfold itm0; rw [if_neg c0, if_neg c1, if_neg c2, if_neg c3, if_neg c4, if_pos c5, if_pos d1, if_pos z1])
                  refine cr_end (cnt := 1) hl Y (by omega) r1.2 (by omega) nof_1 (by omega) f1 (fun y => ?_)
                  have r3 := e1 _ r1.2 y
                  unfold wp_X3_endItem jn
                  refine br_f (by decide) (br_f (by decide) (br_f (by decide) (br_f (by decide) (br_f (by decide) ?_))))
                  rw [nI_1, upd_s]
                  exact kG _ _ _ (f2 y) _ _ _ _ _ _ _ _ _ (by omega) (by omega) A
            · have h6 := vB_6 (b := b) (len := len) a
              obtain ⟨j, hj, ck⟩ := cK_n (b := b) (len := len) (a := a) (by omega)
              refine cr_begin hl Y hia ha (no0 0) false (fun _ Q k => ?_) (fun _ _ => ?_) (fun _ q => by cases q)
              · unfold wp_X3_beginItem
                rw [ck] at k ⊢
                have ne : ∀ c, 4 ≤ c → c < 10 → ¬ nI j = nI c := fun c g1 g2 e => by
                  have := nI_small e (by omega) (by omega)
                  omega
                exact br_f (ne 4 (by omega) (by omega)) (br_f (ne 5 (by omega) (by omega)) (br_f (ne 6 (by omega) (by omega)) (br_f (ne 7 (by omega) (by omega)) (br_f (ne 8 (by omega) (by omega)) (br_f (ne 9 (by omega) (by omega)) k)))))
              · exact bad _ (by unfold itm0; rw [if_neg c0, if_neg c1, if_neg c2, if_neg c3, if_neg c4, if_neg c5])
theorem c_parse (hl : len ≤ 300) (Y : BY b len tb) : ∀ f a h its laws, len - a < f → PI b len a h its laws → ∀ n i nt nums lc lr pc ws sd, i ≤ a → len + 1 ≤ n + i → AR h lc lr pc ws sd → (∀ s, prs b len f a h its laws = .inl s → FPo post s) → (∀ h2 its2, prs b len f a h its laws = .inr (h2, its2) → OkH h2 → its2 ≤ 300 → ∀ x1 x2 x3 x4 x5 x6 x7 x8 lc2 lr2 pc2 ws2 sd2, AR h2 lc2 lr2 pc2 ws2 sd2 → post (nI its2) x1 x2 x3 x4 x5 x6 (nI its2) x7 x8 (nI (hW h2)) (nI (hH h2)) (nI (hWal h2)) (nI (hDor h2)) (nI (hLaw h2)) (nI (hNl h2)) (nI (hNp h2)) lc2 lr2 pc2 ws2 sd2) → CR tb len post K79 n i a 0 nt (nI its) nums (nI laws) (nI (hW h)) (nI (hH h)) (nI (hWal h)) (nI (hDor h)) (nI (hLaw h)) (nI (hNl h)) (nI (hNp h)) lc lr pc ws sd := by
  intro f
  induction f with
  | zero => intro a h its laws hf; omega
  | succ f ih =>
    intro a h its laws hf P n i nt nums lc lr pc ws sd hia hn A kF kS
    by_cases c : tK b len a = 0
    · have e : prs b len (f + 1) a h its laws = .inr (h, its) := by rw [prs, if_pos c]
      obtain ⟨m, rfl⟩ : ∃ m, n = m + 1 := ⟨n - 1, by have := P.2.1; omega⟩
      refine cr_begin hl Y hia P.2.1 (fun _ x1 x2 x3 x4 => kS _ _ e P.1 (by have := P.2.1; have := P.2.2.1; omega) _ _ _ _ _ _ _ _ _ _ _ _ _ A) false (fun q => absurd c q) (fun q => absurd c q) (fun q => absurd c q)
    · refine c_item hl Y P c hia hn A (fun s e => kF s (by rw [prs, if_neg c, e])) (fun a2 h2 l2 e n2 i2 nt2 nums2 lc2 lr2 pc2 ws2 sd2 g1 g2 g3 => ?_)
      have hok := itm_ok P c e
      have hok2 := hok.1.2.1
      have e2 : prs b len (f + 1) a h its laws = prs b len f a2 h2 (its + 1) l2 := by rw [prs, if_neg c, e]
      rw [e2] at kF kS
      exact ih a2 h2 (its + 1) l2 (by omega) hok.1 n2 i2 nt2 nums2 lc2 lr2 pc2 ws2 sd2 g1 g2 g3 kF kS
end
