/-! What a text tells: items one behind another; the class reads them so. -/
def sWH (h : Hal) (x y : Nat) : Hal := ((x, y, hWal h, hDor h, hLaw h, hNl h, hNp h), hLc h, hLr h, hPc h, hPw h, hPs h)
def sWal (h : Hal) (v : Nat) : Hal := ((hW h, hH h, v, hDor h, hLaw h, hNl h, hNp h), hLc h, hLr h, hPc h, hPw h, hPs h)
def sDor (h : Hal) (v : Nat) : Hal := ((hW h, hH h, hWal h, v, hLaw h, hNl h, hNp h), hLc h, hLr h, hPc h, hPw h, hPs h)
def sLaw (h : Hal) (v : Nat) : Hal := ((hW h, hH h, hWal h, hDor h, v, hNl h, hNp h), hLc h, hLr h, hPc h, hPw h, hPs h)
def aLmp (h : Hal) (c r : Nat) : Hal := ((hW h, hH h, hWal h, hDor h, hLaw h, hNl h + 1, hNp h), st1 (hLc h) (hNl h) c, st1 (hLr h) (hNl h) r, hPc h, hPw h, hPs h)
def aPer (h : Hal) (c t s : Nat) : Hal := ((hW h, hH h, hWal h, hDor h, hLaw h, hNl h, hNp h + 1), hLc h, hLr h, st1 (hPc h) (hNp h) c, st1 (hPw h) (hNp h) t, st1 (hPs h) (hNp h) s)
def h00 : Hal := ((4, 3, 0, 0, 0, 0, 0), (fun _ => 0), (fun _ => 0), (fun _ => 0), (fun _ => 0), (fun _ => 0))
theorem h00_ok : OkH h00 := ⟨by decide, by decide, by decide, by decide, by decide, by decide, by decide, fun l hl => absurd hl (Nat.not_lt_zero _), fun p hp => absurd hp (Nat.not_lt_zero _)⟩
def pC (b : Nat → Nat) (len e : Nat) (h : Hal) : Nat := hW h * dg b len (tE b len e) + dg b len e
def pE (b : Nat → Nat) (len e : Nat) : Nat := tE b len (tE b len e)
def pF (b : Nat → Nat) (len e : Nat) (h : Hal) : Nat := if nOK b len e 0 (hW h - 1) then tS b len (tE b len e) else tS b len e
def pOK (b : Nat → Nat) (len e : Nat) (h : Hal) (mw : Bool) : Bool := nOK b len e 0 (hW h - 1) && (nOK b len (tE b len e) 0 (hH h - 1) && (mw || !(hWal h).testBit (pC b len e h)))
def itm0 (b : Nat → Nat) (len a : Nat) (h : Hal) (its laws : Nat) : Sum Nat (Nat × Hal × Nat) :=
  if vB b len a = 0 then (if its = 0 then (if nOK b len (tE b len a) 1 4 then (if nOK b len (tE b len (tE b len a)) 1 3 then .inr (tE b len (tE b len (tE b len a)), sWH h (dg b len (tE b len a)) (dg b len (tE b len (tE b len a))), laws) else .inl (tS b len (tE b len (tE b len a)))) else .inl (tS b len (tE b len a))) else .inl (tS b len a))
  else if vB b len a = 1 then (if hDor h = 0 ∧ hNl h = 0 ∧ hNp h = 0 then (if pOK b len (tE b len a) h true then .inr (pE b len (tE b len a), sWal h (hWal h ||| 2 ^ pC b len (tE b len a) h), laws) else .inl (pF b len (tE b len a) h)) else .inl (tS b len a))
  else if vB b len a = 2 then (if pOK b len (tE b len a) h false then .inr (pE b len (tE b len a), sDor h (hDor h ||| 2 ^ pC b len (tE b len a) h), laws) else .inl (pF b len (tE b len a) h))
  else if vB b len a = 3 then (if hNl h < 6 then (if pOK b len (tE b len a) h false then (if nOK b len (pE b len (tE b len a)) 0 9 then .inr (tE b len (pE b len (tE b len a)), aLmp h (pC b len (tE b len a) h) (dg b len (pE b len (tE b len a))), laws) else .inl (tS b len (pE b len (tE b len a)))) else .inl (pF b len (tE b len a) h)) else .inl (tS b len a))
  else if vB b len a = 4 then (if hNp h < 6 then (if pOK b len (tE b len a) h false then (if nOK b len (pE b len (tE b len a)) 0 9 then (if nOK b len (tE b len (pE b len (tE b len a))) 0 1 then .inr (tE b len (tE b len (pE b len (tE b len a))), aPer h (pC b len (tE b len a) h) (dg b len (pE b len (tE b len a))) (dg b len (tE b len (pE b len (tE b len a)))), laws) else .inl (tS b len (tE b len (pE b len (tE b len a))))) else .inl (tS b len (pE b len (tE b len a)))) else .inl (pF b len (tE b len a) h)) else .inl (tS b len a))
  else if vB b len a = 5 then (if laws = 0 then (if nOK b len (tE b len a) 0 1 then .inr (tE b len (tE b len a), sLaw h (dg b len (tE b len a)), 1) else .inl (tS b len (tE b len a))) else .inl (tS b len a))
  else .inl (tS b len a)
def itF (b : Nat → Nat) (len : Nat) : Sum Nat (Nat × Hal × Nat) → Sum Nat (Nat × Hal × Nat)
  | .inl s => .inl s
  | .inr (a, h, l) => if tK b len a = 3 then .inr (tE b len a, h, l) else .inl (tS b len a)
def prs (b : Nat → Nat) (len : Nat) : Nat → Nat → Hal → Nat → Nat → Sum Nat (Hal × Nat)
  | 0, _, _, _, _ => .inl 0
  | f + 1, a, h, its, laws => if tK b len a = 0 then .inr (h, its) else
    match itF b len (itm0 b len a h its laws) with
    | .inl s => .inl s
    | .inr (a2, h2, l2) => prs b len f a2 h2 (its + 1) l2
/-- what is kept while a text is read -/
def PI (b : Nat → Nat) (len a : Nat) (h : Hal) (its laws : Nat) : Prop := OkH h ∧ a ≤ len ∧ its ≤ a ∧ laws ≤ 1 ∧ (its = 0 → hWal h = 0 ∧ hDor h = 0 ∧ hNl h = 0 ∧ hNp h = 0)
theorem nOK_t {b : Nat → Nat} {len a lo hi : Nat} (h : nOK b len a lo hi = true) : tK b len a = 2 ∧ lo ≤ dg b len a ∧ dg b len a ≤ hi := by
  unfold nOK at h
  rw [Bool.and_eq_true, Bool.and_eq_true, Bool.and_eq_true, decide_eq_true_eq, decide_eq_true_eq, decide_eq_true_eq, decide_eq_true_eq] at h
  exact ⟨h.1.1.1, h.1.2, h.2⟩
theorem nOK_a {b : Nat → Nat} {len a lo hi : Nat} (ha : a ≤ len) (h : nOK b len a lo hi = true) : a < tE b len a ∧ tE b len a ≤ len := by
  have h1 := tE_b b ha
  exact ⟨h1.2.2.2 (by rw [(nOK_t h).1]; decide), h1.2.1⟩
theorem pOK_t {b : Nat → Nat} {len e : Nat} {h : Hal} {mw : Bool} (o : OkH h) (q : pOK b len e h mw = true) : nOK b len e 0 (hW h - 1) = true ∧ nOK b len (tE b len e) 0 (hH h - 1) = true ∧ (mw = false → (hWal h).testBit (pC b len e h) = false) ∧ pC b len e h < hC h := by
  unfold pOK at q
  rw [Bool.and_eq_true, Bool.and_eq_true, Bool.or_eq_true] at q
  obtain ⟨h1, h2, h3⟩ := q
  refine ⟨h1, h2, fun z => ?_, ?_⟩
  · rcases h3 with y | y
    · rw [z] at y; cases y
    · simpa using y
  · have a1 := (nOK_t h1).2.2
    have a2 := (nOK_t h2).2.2
    have w1 := o.1.1
    have w2 := o.2.1.1
    unfold pC hC
    have : hW h * dg b len (tE b len e) ≤ hW h * (hH h - 1) := Nat.mul_le_mul_left _ a2
    have e1 : hW h * (hH h - 1) = hW h * hH h - hW h := by rw [Nat.mul_sub, Nat.mul_one]
    have e2 : hW h ≤ hW h * hH h := Nat.le_mul_of_pos_right _ w2
    omega
theorem itm_ok {b : Nat → Nat} {len a : Nat} {h : Hal} {its laws : Nat} (P : PI b len a h its laws) (h0 : tK b len a ≠ 0) {a2 : Nat} {h2 : Hal} {l2 : Nat} (e : itF b len (itm0 b len a h its laws) = .inr (a2, h2, l2)) : PI b len a2 h2 (its + 1) l2 ∧ a < a2 := by
  obtain ⟨o, ha, hits, hlaw, hno⟩ := P
  have h1 := tE_b b ha
  have hae := h1.2.2.2 h0
  have hc12 := o.c12
  -- the end of an item
  have fin : ∀ a3 h3 l3, itm0 b len a h its laws = .inr (a3, h3, l3) → a3 ≤ len → a < a3 → OkH h3 → l3 ≤ 1 → PI b len a2 h2 (its + 1) l2 ∧ a < a2 := by
    intro a3 h3 l3 e3 q1 q2 q3 q4
    rw [e3] at e
    unfold itF at e
    by_cases c : tK b len a3 = 3
    · simp only [c, if_true] at e
      have e4 := Sum.inr.inj e
      have e5 := Prod.mk.inj e4
      have e6 := Prod.mk.inj e5.2
      have h5 := tE_b b q1
      have h6 := h5.2.2.2 (by rw [c]; decide)
      rw [← e5.1, ← e6.1, ← e6.2]
      exact ⟨⟨q3, h5.2.1, by omega, q4, fun z => by omega⟩, by omega⟩
    · simp only [c, if_false] at e
      cases e
  have no : ∀ s, itm0 b len a h its laws = .inl s → PI b len a2 h2 (its + 1) l2 ∧ a < a2 := by
    intro s e3
    rw [e3] at e
    cases e
  have plc : ∀ mw, pOK b len (tE b len a) h mw = true → pE b len (tE b len a) ≤ len ∧ a < pE b len (tE b len a) ∧ pC b len (tE b len a) h < hC h := by
    intro mw q
    obtain ⟨q1, q2, q3, q4⟩ := pOK_t o q
    have r1 := nOK_a h1.2.1 q1
    have r2 := nOK_a r1.2 q2
    unfold pE
    exact ⟨r2.2, by omega, q4⟩
  by_cases c0 : vB b len a = 0
  · by_cases d1 : its = 0
    · by_cases d2 : nOK b len (tE b len a) 1 4 = true
      · by_cases d3 : nOK b len (tE b len (tE b len a)) 1 3 = true
        · have r1 := nOK_a h1.2.1 d2
          have r2 := nOK_a r1.2 d3
          obtain ⟨z1, z2, z3, z4⟩ := hno d1
          refine fin _ _ _ (by unfold itm0; rw [if_pos c0, if_pos d1, if_pos d2, if_pos d3]) r2.2 (by omega) ?_ hlaw
          refine ⟨(nOK_t d2).2, (nOK_t d3).2, ?_, ?_, o.2.2.2.2.1, o.2.2.2.2.2.1, o.2.2.2.2.2.2.1, fun l hl => ?_, fun p hp => ?_⟩
          · show hWal h < _
            rw [z1]; exact p2pos _
          · show hDor h < _
            rw [z2]; exact p2pos _
          · have : l < hNl h := hl
            omega
          · have : p < hNp h := hp
            omega
        · exact no _ (by unfold itm0; rw [if_pos c0, if_pos d1, if_pos d2, if_neg d3])
      · exact no _ (by unfold itm0; rw [if_pos c0, if_pos d1, if_neg d2])
    · exact no _ (by unfold itm0; rw [if_pos c0, if_neg d1])
  · by_cases c1 : vB b len a = 1
    · by_cases d1 : hDor h = 0 ∧ hNl h = 0 ∧ hNp h = 0
      · by_cases d2 : pOK b len (tE b len a) h true = true
        · obtain ⟨r1, r2, r3⟩ := plc _ d2
          refine fin _ _ _ (by unfold itm0; rw [if_neg c0, if_pos c1, if_pos d1, if_pos d2]) r1 r2 ?_ hlaw
          exact ⟨o.1, o.2.1, Nat.or_lt_two_pow o.2.2.1 (Nat.pow_lt_pow_right (by decide) r3), o.2.2.2⟩
        · exact no _ (by unfold itm0; rw [if_neg c0, if_pos c1, if_pos d1, if_neg d2])
      · exact no _ (by unfold itm0; rw [if_neg c0, if_pos c1, if_neg d1])
    · by_cases c2 : vB b len a = 2
      · by_cases d2 : pOK b len (tE b len a) h false = true
        · obtain ⟨r1, r2, r3⟩ := plc _ d2
          refine fin _ _ _ (by unfold itm0; rw [if_neg c0, if_neg c1, if_pos c2, if_pos d2]) r1 r2 ?_ hlaw
          exact ⟨o.1, o.2.1, o.2.2.1, Nat.or_lt_two_pow o.2.2.2.1 (Nat.pow_lt_pow_right (by decide) r3), o.2.2.2.2⟩
        · exact no _ (by unfold itm0; rw [if_neg c0, if_neg c1, if_pos c2, if_neg d2])
      · by_cases c3 : vB b len a = 3
        · by_cases d1 : hNl h < 6
          · by_cases d2 : pOK b len (tE b len a) h false = true
            · by_cases d3 : nOK b len (pE b len (tE b len a)) 0 9 = true
              · obtain ⟨r1, r2, r3⟩ := plc _ d2
                have r4 := nOK_a r1 d3
                refine fin _ _ _ (by unfold itm0; rw [if_neg c0, if_neg c1, if_neg c2, if_pos c3, if_pos d1, if_pos d2, if_pos d3]) r4.2 (by omega) ?_ hlaw
                refine ⟨o.1, o.2.1, o.2.2.1, o.2.2.2.1, o.2.2.2.2.1, ?_, o.2.2.2.2.2.2.1, fun l hl => ?_, o.2.2.2.2.2.2.2.2⟩
                · show hNl h + 1 ≤ 6
                  omega
                · have hl2 : l < hNl h + 1 := hl
                  show st1 (hLc h) (hNl h) _ l < _ ∧ st1 (hLr h) (hNl h) _ l ≤ 9
                  by_cases e9 : l = hNl h
                  · rw [e9, st1_s, st1_s]; exact ⟨r3, (nOK_t d3).2.2⟩
                  · rw [st1_n e9, st1_n e9]; exact o.2.2.2.2.2.2.2.1 l (by omega)
              · exact no _ (by unfold itm0; rw [if_neg c0, if_neg c1, if_neg c2, if_pos c3, if_pos d1, if_pos d2, if_neg d3])
            · exact no _ (by unfold itm0; rw [if_neg c0, if_neg c1, if_neg c2, if_pos c3, if_pos d1, if_neg d2])
          · exact no _ (by unfold itm0; rw [if_neg c0, if_neg c1, if_neg c2, if_pos c3, if_neg d1])
        · by_cases c4 : vB b len a = 4
          · by_cases d1 : hNp h < 6
            · by_cases d2 : pOK b len (tE b len a) h false = true
              · by_cases d3 : nOK b len (pE b len (tE b len a)) 0 9 = true
                · by_cases d4 : nOK b len (tE b len (pE b len (tE b len a))) 0 1 = true
                  · obtain ⟨r1, r2, r3⟩ := plc _ d2
                    have r4 := nOK_a r1 d3
                    have r5 := nOK_a r4.2 d4
                    refine fin _ _ _ (by unfold itm0; rw [if_neg c0, if_neg c1, if_neg c2, if_neg c3, if_pos c4, if_pos d1, if_pos d2, if_pos d3, if_pos d4]) r5.2 (by omega) ?_ hlaw
                    refine ⟨o.1, o.2.1, o.2.2.1, o.2.2.2.1, o.2.2.2.2.1, o.2.2.2.2.2.1, ?_, o.2.2.2.2.2.2.2.1, fun p hp => ?_⟩
                    · show hNp h + 1 ≤ 6
                      omega
                    · have hp2 : p < hNp h + 1 := hp
                      show st1 (hPc h) (hNp h) _ p < _ ∧ st1 (hPw h) (hNp h) _ p ≤ 9 ∧ st1 (hPs h) (hNp h) _ p ≤ 1
                      by_cases e9 : p = hNp h
                      · rw [e9, st1_s, st1_s, st1_s]; exact ⟨r3, (nOK_t d3).2.2, (nOK_t d4).2.2⟩
                      · rw [st1_n e9, st1_n e9, st1_n e9]; exact o.2.2.2.2.2.2.2.2 p (by omega)
                  · exact no _ (by unfold itm0; rw [if_neg c0, if_neg c1, if_neg c2, if_neg c3, if_pos c4, if_pos d1, if_pos d2, if_pos d3, if_neg d4])
                · exact no _ (by unfold itm0; rw [if_neg c0, if_neg c1, if_neg c2, if_neg c3, if_pos c4, if_pos d1, if_pos d2, if_neg d3])
              · exact no _ (by unfold itm0; rw [if_neg c0, if_neg c1, if_neg c2, if_neg c3, if_pos c4, if_pos d1, if_neg d2])
            · exact no _ (by unfold itm0; rw [if_neg c0, if_neg c1, if_neg c2, if_neg c3, if_pos c4, if_neg d1])
          · by_cases c5 : vB b len a = 5
            · by_cases d1 : laws = 0
              · by_cases d2 : nOK b len (tE b len a) 0 1 = true
                · have r1 := nOK_a h1.2.1 d2
                  refine fin _ _ _ (by unfold itm0; rw [if_neg c0, if_neg c1, if_neg c2, if_neg c3, if_neg c4, if_pos c5, if_pos d1, if_pos d2]) r1.2 (by omega) ?_ (Nat.le_refl _)
                  exact ⟨o.1, o.2.1, o.2.2.1, o.2.2.2.1, (nOK_t d2).2.2, o.2.2.2.2.2⟩
                · exact no _ (by unfold itm0; rw [if_neg c0, if_neg c1, if_neg c2, if_neg c3, if_neg c4, if_pos c5, if_pos d1, if_neg d2])
              · exact no _ (by unfold itm0; rw [if_neg c0, if_neg c1, if_neg c2, if_neg c3, if_neg c4, if_pos c5, if_neg d1])
            · exact no _ (by unfold itm0; rw [if_neg c0, if_neg c1, if_neg c2, if_neg c3, if_neg c4, if_neg c5])
