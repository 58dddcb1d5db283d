/-! The reference reads a text as it is told. -/
def DM (h : Hal) (its laws : Nat) (d : Nat → Int32) : Prop := RM h d ∧ d 37 = nI laws ∧ d 38 = nI its
theorem ne9 {a : Nat} (h : a < 2 ^ 31) : ¬ nI a = (-9) := by
  intro q
  have q1 := nI_toInt h
  rw [q] at q1
  have q2 : (-9 : Int32).toInt = -9 := by decide
  omega
theorem br9 {q : Bool} {v : Nat} (hv : v < 2 ^ 31) {A B : Prop} (f : q = false → A) (t : q = true → B) : ((if q then nI v else (-9 : Int32)) = (-9) → A) ∧ (¬ (if q then nI v else (-9 : Int32)) = (-9) → B) := by
  cases q with
  | false => exact ⟨fun _ => f rfl, fun c => absurd rfl c⟩
  | true => exact ⟨fun c => absurd c (ne9 hv), fun _ => t rfl⟩
theorem dg_lt {b : Nat → Nat} {len a : Nat} (ha : a ≤ len) (hb : ∀ k, k < len → b k < 256) (h : tK b len a = 2) : dg b len a < 256 := by
  have := hb _ (sK_D.mp h).1
  unfold dg
  omega
theorem m_place {b : Nat → Nat} {len e : Nat} {mt d : Nat → Int32} {so st sz : Int32} {h : Hal} {its laws : Nat} (o : OkH h) (hl : len ≤ 300) (Y : BY b len mt) (he : e ≤ len) (M : DM h its laws d) (mw : Bool) {post : Int32 → Int32 → Int32 → Int32 → Int32 → Prop} (kb : pOK b len e h mw = false → ∀ x y z, post (-9) x y (nI (pF b len e h)) z) (kg : pOK b len e h mw = true → ∀ y z w, post (nI (pC b len e h)) (nI (pE b len e)) y z w) : wp_X5_place (b01 mw) mt (nI len) d (nI e) so st sz post := by
  unfold wp_X5_place
  have w1 := o.1
  have w2 := o.2.1
  have gW : d 0 - 1 = nI (hW h - 1) := by rw [M.1.1]; exact pk_sub (b := 1) (by omega)
  have gH : d 1 - 1 = nI (hH h - 1) := by rw [M.1.2.1]; exact pk_sub (b := 1) (by omega)
  rw [gW, gH, M.1.1, M.1.2.2.2.2.2.1]
  have hbb : ∀ k, k < len → b k < 256 := fun k hk => (Y k hk).1
  refine m_number (lo := 0) (hi := hW h - 1) hl Y he (by omega) (by omega) rfl rfl ?_
  cases q1 : nOK b len e 0 (hW h - 1) with
  | false =>
    refine br_t rfl ?_
    have := kb (by unfold pOK; rw [q1]; rfl)
    unfold pF at this
    rw [q1] at this
    exact this _ _ _
  | true =>
    have t1 := nOK_t q1
    have r1 := nOK_a he q1
    have epF : pF b len e h = tS b len (tE b len e) := by unfold pF; rw [q1]; rfl
    rw [epF] at kb
    refine br_f (ne9 (by omega)) (m_number (lo := 0) (hi := hH h - 1) hl Y r1.2 (by omega) (by omega) rfl rfl ?_)
    cases q2 : nOK b len (tE b len e) 0 (hH h - 1) with
    | false =>
      intro x ex
      unfold jn
      refine br_t rfl ?_
      exact kb (by unfold pOK; rw [q1, q2]; rfl) _ _ _
    | true =>
      have t2 := nOK_t q2
      have e4 : nI (hW h) * (if true = true then nI (dg b len (tE b len e)) else (-9)) + (if true = true then nI (dg b len e) else (-9)) = nI (pC b len e h) := by
        show nI (hW h) * nI (dg b len (tE b len e)) + nI (dg b len e) = _
        rw [pk_mul, nI_add]; rfl
      rw [e4]
      refine nm_e ?_
      have hlt : pC b len e h < 32 := by
        unfold pC
        have : hW h * dg b len (tE b len e) ≤ 4 * 2 := Nat.mul_le_mul w1.2 (by omega)
        omega
      unfold jn
      refine br_f (ne9 (by omega)) ?_
      rw [b_bit (walls_lt o) hlt]
      cases mw with
      | true => exact br_f (by decide) (kg (by unfold pOK; rw [q1, q2]; rfl) _ _ _)
      | false =>
        refine br_t rfl (b01_o (fun y => kb (by unfold pOK; rw [q1, q2, y]; rfl) _ _ _) (fun y => kg (by unfold pOK; rw [q1, q2, y]; rfl) _ _ _))
theorem RM_upd {h : Hal} {t : Nat → Int32} (R : RM h t) {k : Nat} {x : Int32} (hk : 37 ≤ k) (o : OkH h) : RM h (upd t k x) := by
  have h1 := o.2.2.2.2.2.1
  have h2 := o.2.2.2.2.2.2.1
  refine ⟨by rw [upd_n (by omega)]; exact R.1, by rw [upd_n (by omega)]; exact R.2.1, by rw [upd_n (by omega)]; exact R.2.2.1, by rw [upd_n (by omega)]; exact R.2.2.2.1, by rw [upd_n (by omega)]; exact R.2.2.2.2.1, by rw [upd_n (by omega)]; exact R.2.2.2.2.2.1, by rw [upd_n (by omega)]; exact R.2.2.2.2.2.2.1, fun l hl => ?_, fun p hp => ?_⟩
  · rw [upd_n (by omega), upd_n (by omega)]; exact R.2.2.2.2.2.2.2.1 l hl
  · rw [upd_n (by omega), upd_n (by omega), upd_n (by omega)]; exact R.2.2.2.2.2.2.2.2 p hp
theorem m_item {b : Nat → Nat} {len a : Nat} {mt d : Nat → Int32} {h : Hal} {its laws : Nat} (hl : len ≤ 300) (Y : BY b len mt) (P : PI b len a h its laws) (M : DM h its laws d) {post : Int32 → (Nat → Int32) → Int32 → Int32 → Int32 → Int32 → Prop} (kF : ∀ s, itm0 b len a h its laws = .inl s → ∀ d2 x y z, post 0 d2 x y (nI s) z) (kG : ∀ a3 h3 l3, itm0 b len a h its laws = .inr (a3, h3, l3) → ∀ d2 y z w, DM h3 its l3 d2 → post 1 d2 (nI a3) y z w) : wp_X5_readsItem (vI (vB b len a)) mt (nI len) d (nI (tE b len a)) (nI (tK b len a)) (nI (tS b len a)) (nI (tE b len a - tS b len a)) post := by
  obtain ⟨o, ha, hits, hlaw, hno⟩ := P
  have h1 := tE_b b ha
  have hc12 := o.c12
  have hnl := o.2.2.2.2.2.1
  have hnp := o.2.2.2.2.2.2.1
  have hlaw1 := o.2.2.2.2.1
  have hbb : ∀ k, k < len → b k < 256 := fun k hk => (Y k hk).1
  have hwl := walls_lt o
  have hdl := doors_lt o
  have h6 := vB_6 (b := b) (len := len) a
  obtain ⟨⟨m0, m1, m2, m3, m4, m5, m6, m7, m8⟩, m37, m38⟩ := id M
  unfold wp_X5_readsItem
  by_cases c5 : vB b len a = 5
  · rw [c5]
    refine br_t rfl ?_
    have c0 : ¬ vB b len a = 0 := by omega
    have c1 : ¬ vB b len a = 1 := by omega
    have c2 : ¬ vB b len a = 2 := by omega
    have c3 : ¬ vB b len a = 3 := by omega
    have c4 : ¬ vB b len a = 4 := by omega
    unfold jn
    rw [m37]
    refine pk_le laws 0 (fun q => m_number (lo := 0) (hi := 1) hl Y h1.2.1 (by omega) (by omega) rfl rfl ?_) (fun q => br_t rfl (kF _ (by unfold itm0; rw [if_neg c0, if_neg c1, if_neg c2, if_neg c3, if_neg c4, if_pos c5, if_neg (by omega)]) _ _ _ _))
    cases z1 : nOK b len (tE b len a) 0 1 with
    | false => exact br_t rfl (kF _ (by unfold itm0; rw [if_neg c0, if_neg c1, if_neg c2, if_neg c3, if_neg c4, if_pos c5, if_pos (by omega), if_neg (by rw [z1]; decide)]) _ _ _ _)
    | true =>
      have t1 := nOK_t z1
      refine br_f (ne9 (by omega)) (kG _ _ _ (by unfold itm0; rw [if_neg c0, if_neg c1, if_neg c2, if_neg c3, if_neg c4, if_pos c5, if_pos (show laws = 0 by omega), if_pos z1]) _ _ _ _ ⟨?_, ?_, ?_⟩)
      · refine ⟨?_, ?_, ?_, ?_, ?_, ?_, ?_, fun l hl2 => ?_, fun p hp2 => ?_⟩
        · rw [upd_n (by omega), upd_n (by omega)]; exact m0
        · rw [upd_n (by omega), upd_n (by omega)]; exact m1
        · rw [upd_n (by omega), upd_s]; rfl
        · rw [upd_n (by omega), upd_n (by omega)]; exact m3
        · rw [upd_n (by omega), upd_n (by omega)]; exact m4
        · rw [upd_n (by omega), upd_n (by omega)]; exact m5
        · rw [upd_n (by omega), upd_n (by omega)]; exact m6
        · have hl3 : l < hNl h := hl2
          rw [upd_n (by omega), upd_n (by omega), upd_n (by omega), upd_n (by omega)]; exact m7 l hl3
        · have hp3 : p < hNp h := hp2
          rw [upd_n (by omega), upd_n (by omega), upd_n (by omega), upd_n (by omega), upd_n (by omega), upd_n (by omega)]; exact m8 p hp3
      · rw [upd_s]; rfl
      · rw [upd_n (by omega), upd_n (by omega)]; exact m38
  have n5 : ¬ vI (vB b len a) = 5 := by
    unfold vI
    by_cases c : vB b len a < 6
    · rw [if_pos c]
      exact fun q => c5 (nI_small (b := 5) q (by omega) (by omega))
    · rw [if_neg c]; decide
  refine br_f n5 ?_
  by_cases c0 : vB b len a = 0
  · rw [c0]
    refine br_t rfl ?_
    unfold wp_X5_readsHall
    rw [m38]
    refine pk_le its 0 (fun q => m_number (lo := 1) (hi := 4) hl Y h1.2.1 (by omega) (by omega) rfl rfl ?_) (fun q => kF _ (by unfold itm0; rw [if_pos c0, if_neg (by omega)]) _ _ _ _)
    have d1 : its = 0 := by omega
    cases z1 : nOK b len (tE b len a) 1 4 with
    | false => exact br_t rfl (kF _ (by unfold itm0; rw [if_pos c0, if_pos d1, if_neg (by rw [z1]; decide)]) _ _ _ _)
    | true =>
      have t1 := nOK_t z1
      have r1 := nOK_a h1.2.1 z1
      refine br_f (ne9 (by omega)) (m_number (lo := 1) (hi := 3) hl Y r1.2 (by omega) (by omega) rfl rfl ?_)
      cases z2 : nOK b len (tE b len (tE b len a)) 1 3 with
      | false => exact br_t rfl (kF _ (by unfold itm0; rw [if_pos c0, if_pos d1, if_pos z1, if_neg (by rw [z2]; decide)]) _ _ _ _)
      | true =>
        have t2 := nOK_t z2
        refine br_f (ne9 (by omega)) (kG _ _ _ (by unfold itm0; rw [if_pos c0, if_pos d1, if_pos z1, if_pos z2]) _ _ _ _ ⟨?_, ?_, ?_⟩)
        · refine ⟨?_, ?_, ?_, ?_, ?_, ?_, ?_, fun l hl2 => ?_, fun p hp2 => ?_⟩
          · rw [upd_n (by omega), upd_s]; rfl
          · rw [upd_s]; rfl
          · rw [upd_n (by omega), upd_n (by omega)]; exact m2
          · rw [upd_n (by omega), upd_n (by omega)]; exact m3
          · rw [upd_n (by omega), upd_n (by omega)]; exact m4
          · rw [upd_n (by omega), upd_n (by omega)]; exact m5
          · rw [upd_n (by omega), upd_n (by omega)]; exact m6
          · have hl3 : l < hNl h := hl2
            rw [upd_n (by omega), upd_n (by omega), upd_n (by omega), upd_n (by omega)]; exact m7 l hl3
          · have hp3 : p < hNp h := hp2
            rw [upd_n (by omega), upd_n (by omega), upd_n (by omega), upd_n (by omega), upd_n (by omega), upd_n (by omega)]; exact m8 p hp3
        · rw [upd_n (by omega), upd_n (by omega)]; exact m37
        · rw [upd_n (by omega), upd_n (by omega)]; exact m38
  have n0 : ¬ vI (vB b len a) = 0 := by
    unfold vI
    by_cases c : vB b len a < 6
    · rw [if_pos c]
      exact fun q => c0 (nI_small (b := 0) q (by omega) (by omega))
    · rw [if_neg c]; decide
  refine br_f n0 ?_
  by_cases c3 : vB b len a = 3
  · have c1 : ¬ vB b len a = 1 := by omega
    have c2 : ¬ vB b len a = 2 := by omega
    rw [c3]
    refine br_t rfl ?_
    unfold wp_X5_readsLamp
    rw [m3]
    unfold jn
    refine pk_eq (hNl h) 6 (fun q => br_t rfl (kF _ (by unfold itm0; rw [if_neg c0, if_neg c1, if_neg c2, if_pos c3, if_neg (by omega)]) _ _ _ _)) (fun q => ?_)
    have d1 : hNl h < 6 := by omega
    refine m_place o hl Y h1.2.1 M false (fun z1 x y z => br_t rfl (kF _ (by unfold itm0; rw [if_neg c0, if_neg c1, if_neg c2, if_pos c3, if_pos d1, if_neg (by rw [z1]; decide)]) _ _ _ _)) (fun z1 x y z => ?_)
    obtain ⟨p1, p2, p3, p4⟩ := pOK_t o z1
    have r1 := nOK_a h1.2.1 p1
    have r2 := nOK_a r1.2 p2
    have hpl : pE b len (tE b len a) ≤ len := r2.2
    refine br_f (ne9 (by omega)) (m_number (lo := 0) (hi := 9) hl Y hpl (by omega) (by omega) rfl rfl ?_)
    cases z2 : nOK b len (pE b len (tE b len a)) 0 9 with
    | false => exact br_t rfl (kF _ (by unfold itm0; rw [if_neg c0, if_neg c1, if_neg c2, if_pos c3, if_pos d1, if_pos z1, if_neg (by rw [z2]; decide)]) _ _ _ _)
    | true =>
      have t2 := nOK_t z2
      have i7 := ixa (a := 7) (i := hNl h) (n := 43) (c := 7) rfl (by omega) (by omega)
      have i13 := ixa (a := 13) (i := hNl h) (n := 43) (c := 13) rfl (by omega) (by omega)
      refine br_f (ne9 (by omega)) ⟨i7.1, i13.1, ?_⟩
      rw [i7.2, i13.2]
      have u3 : ∀ xx yy : Int32, upd (upd d (7 + hNl h) xx) (13 + hNl h) yy 3 = nI (hNl h) := fun xx yy => by rw [upd_n (by omega), upd_n (by omega)]; exact m3
      rw [u3, nI_1]
      refine kG _ _ _ (by unfold itm0; rw [if_neg c0, if_neg c1, if_neg c2, if_pos c3, if_pos d1, if_pos z1, if_pos z2]) _ _ _ _ ⟨?_, ?_, ?_⟩
      · refine ⟨?_, ?_, ?_, ?_, ?_, ?_, ?_, fun l hl2 => ?_, fun p hp2 => ?_⟩
        · rw [upd_n (by omega), upd_n (by omega), upd_n (by omega)]; exact m0
        · rw [upd_n (by omega), upd_n (by omega), upd_n (by omega)]; exact m1
        · rw [upd_n (by omega), upd_n (by omega), upd_n (by omega)]; exact m2
        · rw [upd_s]; rfl
        · rw [upd_n (by omega), upd_n (by omega), upd_n (by omega)]; exact m4
        · rw [upd_n (by omega), upd_n (by omega), upd_n (by omega)]; exact m5
        · rw [upd_n (by omega), upd_n (by omega), upd_n (by omega)]; exact m6
        · have hl3 : l < hNl h + 1 := hl2
          show _ = nI (st1 (hLc h) (hNl h) _ l) ∧ _ = nI (st1 (hLr h) (hNl h) _ l)
          by_cases e9 : l = hNl h
          · subst e9
            rw [st1_s, st1_s, upd_n (show 7 + hNl h ≠ 3 by omega), upd_n (show 7 + hNl h ≠ 13 + hNl h by omega), upd_s, upd_n (show 13 + hNl h ≠ 3 by omega), upd_s]
            exact ⟨rfl, rfl⟩
          · rw [st1_n e9, st1_n e9, upd_n (show 7 + l ≠ 3 by omega), upd_n (show 7 + l ≠ 13 + hNl h by omega), upd_n (show 7 + l ≠ 7 + hNl h by omega), upd_n (show 13 + l ≠ 3 by omega), upd_n (show 13 + l ≠ 13 + hNl h by omega), upd_n (show 13 + l ≠ 7 + hNl h by omega)]
            exact m7 l (by omega)
        · have hp3 : p < hNp h := hp2
          have := m8 p hp3
          refine ⟨?_, ?_, ?_⟩
          · rw [upd_n (by omega), upd_n (by omega), upd_n (by omega)]; exact this.1
          · rw [upd_n (by omega), upd_n (by omega), upd_n (by omega)]; exact this.2.1
          · rw [upd_n (by omega), upd_n (by omega), upd_n (by omega)]; exact this.2.2
      · rw [upd_n (by omega), upd_n (by omega), upd_n (by omega)]; exact m37
      · rw [upd_n (by omega), upd_n (by omega), upd_n (by omega)]; exact m38
  have n3 : ¬ vI (vB b len a) = 3 := by
    unfold vI
    by_cases c : vB b len a < 6
    · rw [if_pos c]
      exact fun q => c3 (nI_small (b := 3) q (by omega) (by omega))
    · rw [if_neg c]; decide
  refine br_f n3 ?_
  by_cases c4 : vB b len a = 4
  · have c1 : ¬ vB b len a = 1 := by omega
    have c2 : ¬ vB b len a = 2 := by omega
    rw [c4]
    refine br_t rfl ?_
    unfold wp_X5_readsPerson
    rw [m4]
    unfold jn
    refine pk_eq (hNp h) 6 (fun q => br_t rfl (kF _ (by unfold itm0; rw [if_neg c0, if_neg c1, if_neg c2, if_neg c3, if_pos c4, if_neg (by omega)]) _ _ _ _)) (fun q => ?_)
    have d1 : hNp h < 6 := by omega
    refine m_place o hl Y h1.2.1 M false (fun z1 x y z => br_t rfl (kF _ (by unfold itm0; rw [if_neg c0, if_neg c1, if_neg c2, if_neg c3, if_pos c4, if_pos d1, if_neg (by rw [z1]; decide)]) _ _ _ _)) (fun z1 x y z => ?_)
    obtain ⟨p1, p2, p3, p4⟩ := pOK_t o z1
    have r1 := nOK_a h1.2.1 p1
    have r2 := nOK_a r1.2 p2
    have hpl : pE b len (tE b len a) ≤ len := r2.2
    refine br_f (ne9 (by omega)) (m_number (lo := 0) (hi := 9) hl Y hpl (by omega) (by omega) rfl rfl ?_)
    cases z2 : nOK b len (pE b len (tE b len a)) 0 9 with
    | false => exact br_t rfl (kF _ (by unfold itm0; rw [if_neg c0, if_neg c1, if_neg c2, if_neg c3, if_pos c4, if_pos d1, if_pos z1, if_neg (by rw [z2]; decide)]) _ _ _ _)
    | true =>
      have t2 := nOK_t z2
      have r3 := nOK_a hpl z2
      refine br_f (ne9 (by omega)) (m_number (lo := 0) (hi := 1) hl Y r3.2 (by omega) (by omega) rfl rfl ?_)
      cases z3 : nOK b len (tE b len (pE b len (tE b len a))) 0 1 with
      | false => exact br_t rfl (kF _ (by unfold itm0; rw [if_neg c0, if_neg c1, if_neg c2, if_neg c3, if_pos c4, if_pos d1, if_pos z1, if_pos z2, if_neg (by rw [z3]; decide)]) _ _ _ _)
      | true =>
        have t3 := nOK_t z3
        have i19 := ixa (a := 19) (i := hNp h) (n := 43) (c := 19) rfl (by omega) (by omega)
        have i25 := ixa (a := 25) (i := hNp h) (n := 43) (c := 25) rfl (by omega) (by omega)
        have i31 := ixa (a := 31) (i := hNp h) (n := 43) (c := 31) rfl (by omega) (by omega)
        refine br_f (ne9 (by omega)) ⟨i19.1, i25.1, i31.1, ?_⟩
        rw [i19.2, i25.2, i31.2]
        have u4 : ∀ xx yy zz : Int32, upd (upd (upd d (19 + hNp h) xx) (25 + hNp h) yy) (31 + hNp h) zz 4 = nI (hNp h) := fun xx yy zz => by rw [upd_n (by omega), upd_n (by omega), upd_n (by omega)]; exact m4
        rw [u4, nI_1]
        refine kG _ _ _ (by unfold itm0; rw [if_neg c0, if_neg c1, if_neg c2, if_neg c3, if_pos c4, if_pos d1, if_pos z1, if_pos z2, if_pos z3]) _ _ _ _ ⟨?_, ?_, ?_⟩
        · refine ⟨?_, ?_, ?_, ?_, ?_, ?_, ?_, fun l hl2 => ?_, fun p hp2 => ?_⟩
          · rw [upd_n (by omega), upd_n (by omega), upd_n (by omega), upd_n (by omega)]; exact m0
          · rw [upd_n (by omega), upd_n (by omega), upd_n (by omega), upd_n (by omega)]; exact m1
          · rw [upd_n (by omega), upd_n (by omega), upd_n (by omega), upd_n (by omega)]; exact m2
          · rw [upd_n (by omega), upd_n (by omega), upd_n (by omega), upd_n (by omega)]; exact m3
          · rw [upd_s]; rfl
          · rw [upd_n (by omega), upd_n (by omega), upd_n (by omega), upd_n (by omega)]; exact m5
          · rw [upd_n (by omega), upd_n (by omega), upd_n (by omega), upd_n (by omega)]; exact m6
          · have hl3 : l < hNl h := hl2
            have := m7 l hl3
            refine ⟨?_, ?_⟩
            · rw [upd_n (by omega), upd_n (by omega), upd_n (by omega), upd_n (by omega)]; exact this.1
            · rw [upd_n (by omega), upd_n (by omega), upd_n (by omega), upd_n (by omega)]; exact this.2
          · have hp3 : p < hNp h + 1 := hp2
            show _ = nI (st1 (hPc h) (hNp h) _ p) ∧ _ = nI (st1 (hPw h) (hNp h) _ p) ∧ _ = nI (st1 (hPs h) (hNp h) _ p)
            by_cases e9 : p = hNp h
            · subst e9
              rw [st1_s, st1_s, st1_s]
              refine ⟨?_, ?_, ?_⟩
              · rw [upd_n (by omega), upd_n (by omega), upd_n (by omega), upd_s]
              · rw [upd_n (by omega), upd_n (by omega), upd_s]; rfl
              · rw [upd_n (by omega), upd_s]; rfl
            · have := m8 p (by omega)
              rw [st1_n e9, st1_n e9, st1_n e9]
              refine ⟨?_, ?_, ?_⟩
              · rw [upd_n (by omega), upd_n (by omega), upd_n (by omega), upd_n (by omega)]; exact this.1
              · rw [upd_n (by omega), upd_n (by omega), upd_n (by omega), upd_n (by omega)]; exact this.2.1
              · rw [upd_n (by omega), upd_n (by omega), upd_n (by omega), upd_n (by omega)]; exact this.2.2
        · rw [upd_n (by omega), upd_n (by omega), upd_n (by omega), upd_n (by omega)]; exact m37
        · rw [upd_n (by omega), upd_n (by omega), upd_n (by omega), upd_n (by omega)]; exact m38
  have n4 : ¬ vI (vB b len a) = 4 := by
    unfold vI
    by_cases c : vB b len a < 6
    · rw [if_pos c]
      exact fun q => c4 (nI_small (b := 4) q (by omega) (by omega))
    · rw [if_neg c]; decide
  refine br_f n4 ?_
  unfold jn
  by_cases c6 : vB b len a = 6
  · rw [c6]
    refine br_t rfl (kF _ (by unfold itm0; rw [if_neg c0, if_neg (by omega), if_neg (by omega), if_neg c3, if_neg c4, if_neg c5]) _ _ _ _)
  · have n9 : ¬ vI (vB b len a) = (-9) := by
      unfold vI
      rw [if_pos (by omega)]
      exact ne9 (by omega)
    refine br_f n9 ?_
    unfold wp_X5_readsCell jn
    by_cases c1 : vB b len a = 1
    · rw [c1]
      refine br_t rfl ?_
      rw [m6, m3, m4]
      have dno : ¬ (hDor h = 0 ∧ hNl h = 0 ∧ hNp h = 0) → ∀ x1 x2 x3, post 0 x1 x2 x3 (nI (tS b len a)) (nI (tE b len a - tS b len a)) := fun q x1 x2 x3 => kF _ (by unfold itm0; rw [if_neg c0, if_pos c1, if_neg q]) _ _ _ _
      refine ne0_nI (by omega) (fun y1 => pk_lt 0 (hNl h) (fun y2 => br_t rfl (dno (fun q => by omega) _ _ _)) (fun y2 => pk_le (hNp h) 0 (fun y3 => ?_) (fun y3 => br_t rfl (dno (fun q => by omega) _ _ _)))) (fun y1 => br_t rfl (dno (fun q => y1 q.1) _ _ _))
      have d1 : hDor h = 0 ∧ hNl h = 0 ∧ hNp h = 0 := ⟨y1, by omega, by omega⟩
      refine br_t rfl (m_place o hl Y h1.2.1 M true (fun z1 x y z => br_t rfl (br_t rfl (kF _ (by unfold itm0; rw [if_neg c0, if_pos c1, if_pos d1, if_neg (by rw [z1]; decide)]) _ _ _ _))) (fun z1 x y z => ?_))
      obtain ⟨p1, p2, p3, p4⟩ := pOK_t o z1
      refine br_f (ne9 (by omega)) (br_t rfl ⟨pk_in 5 43 (by omega), pk_in 5 43 (by omega), br_f (by decide) ?_⟩)
      have e5 : ix 5 = 5 := ix_nI (n := 5) (by omega)
      rw [e5, m5, b_set (by omega)]
      refine kG _ _ _ (by unfold itm0; rw [if_neg c0, if_pos c1, if_pos d1, if_pos z1]) _ _ _ _ ⟨?_, ?_, ?_⟩
      · refine ⟨?_, ?_, ?_, ?_, ?_, ?_, ?_, fun l hl2 => ?_, fun p hp2 => ?_⟩
        · rw [upd_n (by omega)]; exact m0
        · rw [upd_n (by omega)]; exact m1
        · rw [upd_n (by omega)]; exact m2
        · rw [upd_n (by omega)]; exact m3
        · rw [upd_n (by omega)]; exact m4
        · rw [upd_s]; rfl
        · rw [upd_n (by omega)]; exact m6
        · have hl3 : l < hNl h := hl2
          rw [upd_n (by omega), upd_n (by omega)]; exact m7 l hl3
        · have hp3 : p < hNp h := hp2
          rw [upd_n (by omega), upd_n (by omega), upd_n (by omega)]; exact m8 p hp3
      · rw [upd_n (by omega)]; exact m37
      · rw [upd_n (by omega)]; exact m38
    · have c2 : vB b len a = 2 := by omega
      rw [c2]
      refine br_f (by decide) (br_f (by decide) (m_place o hl Y h1.2.1 M false (fun z1 x y z => br_t rfl (br_t rfl (kF _ (by unfold itm0; rw [if_neg c0, if_neg c1, if_pos c2, if_neg (by rw [z1]; decide)]) _ _ _ _))) (fun z1 x y z => ?_)))
      obtain ⟨p1, p2, p3, p4⟩ := pOK_t o z1
      refine br_f (ne9 (by omega)) (br_f (by decide) ⟨pk_in 6 43 (by omega), pk_in 6 43 (by omega), br_f (by decide) ?_⟩)
      have e6 : ix 6 = 6 := ix_nI (n := 6) (by omega)
      rw [e6, m6, b_set (by omega)]
      refine kG _ _ _ (by unfold itm0; rw [if_neg c0, if_neg c1, if_pos c2, if_pos z1]) _ _ _ _ ⟨?_, ?_, ?_⟩
      · refine ⟨?_, ?_, ?_, ?_, ?_, ?_, ?_, fun l hl2 => ?_, fun p hp2 => ?_⟩
        · rw [upd_n (by omega)]; exact m0
        · rw [upd_n (by omega)]; exact m1
        · rw [upd_n (by omega)]; exact m2
        · rw [upd_n (by omega)]; exact m3
        · rw [upd_n (by omega)]; exact m4
        · rw [upd_n (by omega)]; exact m5
        · rw [upd_s]; rfl
        · have hl3 : l < hNl h := hl2
          rw [upd_n (by omega), upd_n (by omega)]; exact m7 l hl3
        · have hp3 : p < hNp h := hp2
          rw [upd_n (by omega), upd_n (by omega), upd_n (by omega)]; exact m8 p hp3
      · rw [upd_n (by omega)]; exact m37
      · rw [upd_n (by omega)]; exact m38
theorem itm_end {b : Nat → Nat} {len a : Nat} {h : Hal} {its laws : Nat} (P : PI b len a h its laws) {a3 : Nat} {h3 : Hal} {l3 : Nat} (e : itm0 b len a h its laws = .inr (a3, h3, l3)) : a3 ≤ len := by
  have ha := P.2.1
  have t : ∀ k, k ≤ len → tE b len k ≤ len := fun k hk => (tE_b b hk).2.1
  unfold itm0 at e
  repeat' split at e
  all_goals first
    | (cases e; done)
    | (have e5 := (Prod.mk.inj (Sum.inr.inj e)).1
       rw [← e5]
       first
         | exact t _ (t _ ha)
         | exact t _ (t _ (t _ ha))
         | exact t _ (t _ (t _ (t _ ha)))
         | exact t _ (t _ (t _ (t _ (t _ ha)))))
theorem m_parse {b : Nat → Nat} {len : Nat} {mt : Nat → Int32} (hl : len ≤ 300) (Y : BY b len mt) {post : Int32 → (Nat → Int32) → Int32 → Int32 → Int32 → Int32 → Prop} : ∀ f a h its laws d, len - a < f → PI b len a h its laws → DM h its laws d → (∀ s, prs b len f a h its laws = .inl s → ∀ d2 x y z, post 0 d2 x y (nI s) z) → (∀ h2 its2, prs b len f a h its laws = .inr (h2, its2) → OkH h2 → its2 ≤ 300 → ∀ d2 x y z w, RM h2 d2 → d2 38 = nI its2 → post 1 d2 x y z w) → wp_X5_reads_L44 mt (nI len) post f d (nI (tE b len a)) (nI (tK b len a)) (nI (tS b len a)) (nI (tE b len a - tS b len a)) := by
  intro f
  induction f with
  | zero => intro a h its laws d hf; omega
  | succ f ih =>
    intro a h its laws d hf P M kF kS
    have hk4 : tK b len a ≤ 4 := sK_4 _ _ _
    have ha := P.2.1
    unfold wp_X5_reads_L44
    refine ne0_nI (by omega) (fun c => ?_) (fun c => ?_)
    · refine kS h its (by rw [prs, if_pos c]) P.1 (by have := P.2.2.1; omega) _ _ _ _ _ M.1 M.2.2
    · refine m_verb hl Y ha (m_item hl Y P M (fun s e d2 x y z => br_t rfl (kF s (by rw [prs, if_neg c, e]; rfl) _ _ _ _)) (fun a3 h3 l3 e d2 y z w M3 => br_f (by decide) ?_))
      have h0 : tK b len a ≠ 0 := c
      -- the place behind the numbers
      have ha3 : a3 ≤ len := itm_end P e
      have hk43 : tK b len a3 ≤ 4 := sK_4 _ _ _
      refine m_tok hl Y ha3 (pk_eq (tK b len a3) 3 (fun q => ?_) (fun q => ?_))
      · have e2 : itF b len (itm0 b len a h its laws) = .inr (tE b len a3, h3, l3) := by rw [e]; unfold itF; simp [q]
        have hok := itm_ok P h0 e2
        have hok2 := hok.1.2.1
        have e3 : prs b len (f + 1) a h its laws = prs b len f (tE b len a3) h3 (its + 1) l3 := by rw [prs, if_neg c, e2]
        rw [e3] at kF kS
        refine m_tok hl Y hok2 ?_
        rw [M3.2.2, nI_1]
        refine ih (tE b len a3) h3 (its + 1) l3 _ (by omega) hok.1 ⟨RM_upd M3.1 (by omega) hok.1.1, ?_, ?_⟩ kF kS
        · rw [upd_n (by omega)]; exact M3.2.1
        · rw [upd_s]
      · have e2 : itF b len (itm0 b len a h its laws) = .inl (tS b len a3) := by rw [e]; unfold itF; simp [q]
        exact kF _ (by rw [prs, if_neg c, e2]) _ _ _ _
