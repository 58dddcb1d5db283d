/-! Tokens. -/
def run (q : Nat → Bool) : Nat → Nat → Nat
  | 0, a => a
  | f + 1, a => if q a then run q f (a + 1) else a
def rn (q : Nat → Bool) (len a : Nat) : Nat := run q (len - a) a
theorem rn_stop {q : Nat → Bool} {len a : Nat} (h : len ≤ a ∨ q a = false) : rn q len a = a := by
  unfold rn
  cases hf : len - a with
  | zero => rfl
  | succ f =>
    rw [run]
    rcases h with h | h
    · omega
    · rw [h]; rfl
theorem rn_step {q : Nat → Bool} {len a : Nat} (h : a < len) (hq : q a = true) : rn q len a = rn q len (a + 1) := by
  unfold rn
  have e : len - a = (len - (a + 1)) + 1 := by omega
  rw [e, run, hq]; rfl
theorem rn_le (q : Nat → Bool) {len : Nat} : ∀ m a, a + m = len → a ≤ rn q len a ∧ rn q len a ≤ len := by
  intro m
  induction m with
  | zero =>
    intro a ha
    rw [rn_stop (Or.inl (by omega))]
    omega
  | succ m ih =>
    intro a ha
    by_cases c : q a = true
    · have := ih (a + 1) (by omega)
      rw [rn_step (by omega) c]
      omega
    · rw [rn_stop (Or.inr (by simpa using c))]
      omega
theorem rn_b (q : Nat → Bool) {len a : Nat} (h : a ≤ len) : a ≤ rn q len a ∧ rn q len a ≤ len := rn_le q (len - a) a (by omega)
theorem rn_all {q : Nat → Bool} {len : Nat} : ∀ m a, a + m = len → ∀ i, a ≤ i → i < rn q len a → q i = true := by
  intro m
  induction m with
  | zero =>
    intro a ha i h1 h2
    rw [rn_stop (Or.inl (by omega))] at h2
    omega
  | succ m ih =>
    intro a ha i h1 h2
    by_cases c : q a = true
    · rw [rn_step (by omega) c] at h2
      by_cases e : i = a
      · rw [e]; exact c
      · exact ih (a + 1) (by omega) i (by omega) h2
    · rw [rn_stop (Or.inr (by simpa using c))] at h2
      omega
def isL (b : Nat) : Bool := decide (97 ≤ b) && decide (b ≤ 122)
def isD (b : Nat) : Bool := decide (48 ≤ b) && decide (b ≤ 57)
def tS (b : Nat → Nat) (len a : Nat) : Nat := rn (fun k => decide (b k = 32)) len a
def sK (b : Nat → Nat) (len s : Nat) : Nat := if s < len then (if isL (b s) then 1 else if isD (b s) then 2 else if b s = 59 then 3 else 4) else 0
def tK (b : Nat → Nat) (len a : Nat) : Nat := sK b len (tS b len a)
def sE (b : Nat → Nat) (len s : Nat) : Nat := if s < len then (if isL (b s) then rn (fun k => isL (b k)) len s else if isD (b s) then rn (fun k => isD (b k)) len s else s + 1) else s
def tE (b : Nat → Nat) (len a : Nat) : Nat := sE b len (tS b len a)
theorem tS_b (b : Nat → Nat) {len a : Nat} (h : a ≤ len) : a ≤ tS b len a ∧ tS b len a ≤ len := rn_b _ h
theorem sE_b (b : Nat → Nat) {len s : Nat} (h : s ≤ len) : s ≤ sE b len s ∧ sE b len s ≤ len ∧ (s < len → s < sE b len s) := by
  unfold sE
  by_cases c : s < len
  · rw [if_pos c]
    by_cases d : isL (b s) = true
    · rw [if_pos d, rn_step c d]
      have := rn_b (fun k => isL (b k)) (show s + 1 ≤ len by omega)
      omega
    · rw [if_neg d]
      by_cases e : isD (b s) = true
      · rw [if_pos e, rn_step c e]
        have := rn_b (fun k => isD (b k)) (show s + 1 ≤ len by omega)
        omega
      · rw [if_neg e]; omega
  · rw [if_neg c]; omega
theorem tE_b (b : Nat → Nat) {len a : Nat} (h : a ≤ len) : a ≤ tE b len a ∧ tE b len a ≤ len ∧ tS b len a ≤ tE b len a ∧ (tK b len a ≠ 0 → a < tE b len a) := by
  have h1 := tS_b b h
  have h2 := sE_b b h1.2
  unfold tE
  refine ⟨by omega, h2.2.1, h2.1, fun q => ?_⟩
  have : tS b len a < len := by
    apply Classical.byContradiction
    intro c
    unfold tK sK at q
    rw [if_neg c] at q
    exact q rfl
  have := h2.2.2 this
  omega
theorem sK_0 {b : Nat → Nat} {len s : Nat} (h : s ≤ len) : sK b len s = 0 ↔ s = len := by
  unfold sK
  by_cases c : s < len
  · rw [if_pos c]
    constructor
    · intro q
      by_cases d : isL (b s) = true
      · rw [if_pos d] at q; cases q
      · rw [if_neg d] at q
        by_cases e : isD (b s) = true
        · rw [if_pos e] at q; cases q
        · rw [if_neg e] at q
          by_cases f : b s = 59
          · rw [if_pos f] at q; cases q
          · rw [if_neg f] at q; cases q
    · intro q; omega
  · rw [if_neg c]
    exact ⟨fun _ => by omega, fun _ => rfl⟩
/-! bytes -/
def BY (b : Nat → Nat) (len : Nat) (tb : Nat → Int32) : Prop := ∀ k, k < len → b k < 256 ∧ tb k = nI (b k)
theorem cmp_between {x a c : Nat} {la lc : Int32} (ha : la = nI a) (hc : lc = nI c) (hx : x < 2 ^ 31) (ha2 : a < 2 ^ 31) (hc2 : c < 2 ^ 31) {A B : Prop} (h1 : (decide (a ≤ x) && decide (x ≤ c)) = true → A) (h0 : (decide (a ≤ x) && decide (x ≤ c)) = false → B) : (nI x < la → B) ∧ (¬ nI x < la → ((lc < nI x → B) ∧ (¬ lc < nI x → A))) := by
  subst ha hc
  refine pk_lt x a (fun q => h0 ?_) (fun q => pk_lt c x (fun q2 => h0 ?_) (fun q2 => h1 ?_))
  · have : ¬ a ≤ x := by omega
    simp [this]
  · have : ¬ x ≤ c := by omega
    simp [this]
  · simp [q, q2]
theorem c_isL {x : Nat} (hx : x < 256) {post : Int32 → Prop} (k : post (b01 (isL x))) : wp_X3_isLetter (nI x) post := by
  unfold wp_X3_isLetter jn
  unfold isL at k
  exact cmp_between (a := 97) (c := 122) rfl rfl (by omega) (by omega) (by omega) (fun q => by rw [q] at k; exact k) (fun q => by rw [q] at k; exact k)
theorem c_isD {x : Nat} (hx : x < 256) {post : Int32 → Prop} (k : post (b01 (isD x))) : wp_X3_isDigit (nI x) post := by
  unfold wp_X3_isDigit jn
  unfold isD at k
  exact cmp_between (a := 48) (c := 57) rfl rfl (by omega) (by omega) (by omega) (fun q => by rw [q] at k; exact k) (fun q => by rw [q] at k; exact k)
theorem c_skip {b : Nat → Nat} {len : Nat} {tb : Nat → Int32} (hl : len ≤ 300) (Y : BY b len tb) {K : Int32 → Prop} : ∀ m a, a + m = len → K (nI (tS b len a)) → wp_X3_readToken_L0 tb (nI len) K (m + 1) (nI a) := by
  intro m
  induction m with
  | zero =>
    intro a ha k
    unfold wp_X3_readToken_L0
    unfold tS at k
    rw [rn_stop (Or.inl (by omega))] at k
    exact br_t (nI_le (by omega) (by omega)) k
  | succ m ih =>
    intro a ha k
    unfold wp_X3_readToken_L0
    have hb := Y a (by omega)
    refine br_f (nI_ge (by omega) (by omega)) ⟨vp_in_nI (by omega) (by omega), ?_⟩
    rw [ix_nI (by omega), hb.2, nI_1]
    refine pk_eq (b a) 32 (fun e => ih (a + 1) (by omega) ?_) (fun e => ?_)
    · unfold tS at k ⊢
      rw [rn_step (by omega) (by simp [e])] at k
      exact k
    · unfold tS at k
      rw [rn_stop (Or.inr (by simp [e]))] at k
      exact k
theorem c_letters {b : Nat → Nat} {len : Nat} {tb : Nat → Int32} (hl : len ≤ 300) (Y : BY b len tb) {K : Int32 → Prop} : ∀ m a, a + m = len → K (nI (rn (fun k => isL (b k)) len a)) → wp_X3_takeWord_L0 tb (nI len) K (m + 1) (nI a) := by
  intro m
  induction m with
  | zero =>
    intro a ha k
    unfold wp_X3_takeWord_L0
    rw [rn_stop (Or.inl (by omega))] at k
    exact br_t (nI_le (by omega) (by omega)) k
  | succ m ih =>
    intro a ha k
    unfold wp_X3_takeWord_L0
    have hb := Y a (by omega)
    refine br_f (nI_ge (by omega) (by omega)) ⟨vp_in_nI (by omega) (by omega), ?_⟩
    rw [ix_nI (by omega), hb.2, nI_1]
    refine c_isL hb.1 (b01_z (fun e => ?_) (fun e => ih (a + 1) (by omega) ?_))
    · rw [rn_stop (q := fun k => isL (b k)) (Or.inr e)] at k
      exact k
    · rw [rn_step (q := fun k => isL (b k)) (by omega) e] at k
      exact k
/-! numbers -/
def vlF (b : Nat → Nat) (s : Nat) : Nat → Nat
  | 0 => 0
  | n + 1 => min (vlF b s n * 10 + (b (s + n) - 48)) 100
theorem vlF_le (b : Nat → Nat) (s : Nat) : ∀ n, vlF b s n ≤ 100
  | 0 => by rw [vlF]; omega
  | n + 1 => Nat.min_le_right _ _
theorem isD_r {x : Nat} (h : isD x = true) : 48 ≤ x ∧ x ≤ 57 := by
  unfold isD at h
  simpa using h
theorem isL_r {x : Nat} (h : isL x = true) : 97 ≤ x ∧ x ≤ 122 := by
  unfold isL at h
  simpa using h
theorem c_digits {b : Nat → Nat} {len s : Nat} {tb : Nat → Int32} (hl : len ≤ 300) (Y : BY b len tb) {K : Int32 → Int32 → Prop} : ∀ m a, a + m = len → s ≤ a → K (nI (rn (fun k => isD (b k)) len a)) (nI (vlF b s (rn (fun k => isD (b k)) len a - s))) → wp_X3_takeNumber_L5 tb (nI len) K (m + 1) (nI a) (nI (vlF b s (a - s))) := by
  intro m
  induction m with
  | zero =>
    intro a ha hs k
    unfold wp_X3_takeNumber_L5
    rw [rn_stop (Or.inl (by omega))] at k
    exact br_t (nI_le (by omega) (by omega)) k
  | succ m ih =>
    intro a ha hs k
    unfold wp_X3_takeNumber_L5
    have hb := Y a (by omega)
    refine br_f (nI_ge (by omega) (by omega)) ⟨vp_in_nI (by omega) (by omega), ?_⟩
    rw [ix_nI (by omega), hb.2, nI_1]
    refine c_isD hb.1 (b01_z (fun e => ?_) (fun e => ⟨vp_in_nI (by omega) (by omega), ?_⟩))
    · rw [rn_stop (q := fun k => isD (b k)) (Or.inr e)] at k
      exact k
    · have hr := isD_r e
      have hv := vlF_le b s (a - s)
      have e1 : nI (vlF b s (a - s)) * 10 + nI (b a) - 48 = nI (vlF b s (a - s) * 10 + (b a - 48)) := by
        show nI (vlF b s (a - s)) * nI 10 + nI (b a) - nI 48 = _
        rw [pk_mul, nI_add, pk_sub (by omega)]
        congr 1
        omega
      have e2 : jmin (nI (vlF b s (a - s) * 10 + (b a - 48))) 100 = nI (min (vlF b s (a - s) * 10 + (b a - 48)) 100) := jmin_nI (b := 100) (by omega) (by omega)
      rw [e1, e2]
      have e3 : min (vlF b s (a - s) * 10 + (b a - 48)) 100 = vlF b s (a + 1 - s) := by
        have : a + 1 - s = (a - s) + 1 := by omega
        rw [this, vlF, show s + (a - s) = a by omega]
      rw [e3]
      refine ih (a + 1) (by omega) (by omega) ?_
      rw [rn_step (q := fun k => isD (b k)) (by omega) e] at k
      exact k
/-- the number of a token of one figure; whether a token is such a number -/
def dg (b : Nat → Nat) (len a : Nat) : Nat := b (tS b len a) - 48
def nOK (b : Nat → Nat) (len a lo hi : Nat) : Bool := decide (tK b len a = 2) && decide (tE b len a - tS b len a = 1) && decide (lo ≤ dg b len a) && decide (dg b len a ≤ hi)
def nKd (b : Nat → Nat) (s e : Nat) : Bool := !(decide (b s = 48) && decide (1 < e - s)) && decide (vlF b s (e - s) ≤ 99)
theorem vl_big {b : Nat → Nat} {s : Nat} (h0 : 49 ≤ b s) : ∀ n, 10 ≤ vlF b s (n + 2)
  | 0 => by
    rw [vlF, vlF, vlF, Nat.add_zero]
    omega
  | n + 1 => by
    have := vl_big h0 n
    rw [vlF]
    omega
theorem vl_1 {b : Nat → Nat} {s : Nat} (h : b s ≤ 57) : vlF b s 1 = b s - 48 := by
  rw [vlF, vlF, Nat.zero_mul, Nat.zero_add, Nat.add_zero]
  omega
/-! words -/
def nmB : List (List Nat) := [[104, 97, 108, 108], [119, 97, 108, 108], [100, 111, 111, 114], [108, 97, 109, 112], [112, 101, 114, 115, 111, 110], [108, 97, 119]]
def nb (i k : Nat) : Nat := (nmB.getD i []).getD k 0
def nlJ (i : Nat) : Nat := lenJ.getD i 0
theorem chJ_nb : ∀ i, i < 6 → ∀ k, k < 8 → k < nlJ i → chJ i k = nI (nb i k) ∧ nb i k < 256 := by decide +kernel
theorem nlJ_8 : ∀ i, i < 6 → nlJ i < 8 := by decide +kernel
def wIs (b : Nat → Nat) (s e i : Nat) : Bool := decide (e - s = nlJ i) && allB (fun k => decide (b (s + k) = nb i k)) (nlJ i)
theorem c_wordIs {b : Nat → Nat} {len s e i : Nat} {tb : Nat → Int32} (hl : len ≤ 300) (Y : BY b len tb) (hi : i < 6) (hs : s ≤ e) (he : e ≤ len) {post : Int32 → Prop} (k : post (b01 (wIs b s e i))) : wp_X3_wordIs i tb (nI e) (nI s) post := by
  unfold wp_X3_wordIs
  have h8 := nlJ_8 i hi
  refine ⟨hi, ?_⟩
  rw [pk_sub hs]
  unfold wIs at k
  refine pk_eq (e - s) (nlJ i) (fun q => ?_) (fun q => ?_)
  · rw [decide_eq_true q, Bool.true_and] at k
    have key : ∀ m j, j + m = nlJ i → allB (fun k => decide (b (s + k) = nb i k)) j = true → wp_X3_wordIs_L20 i tb (nI s) post (m + 1) (nI j) := by
      intro m
      induction m with
      | zero =>
        intro j hj hg
        unfold wp_X3_wordIs_L20
        have e : j = nlJ i := by omega
        subst e
        rw [hg] at k
        exact ⟨hi, br_t (nI_le (a := nlJ i) (b := nlJ i) (by omega) (by omega)) k⟩
      | succ m ih =>
        intro j hj hg
        unfold wp_X3_wordIs_L20
        refine ⟨hi, br_f (nI_ge (b := nlJ i) (by omega) (by omega)) ?_⟩
        have hb := Y (s + j) (by omega)
        have hc := chJ_nb i hi j (by omega) (by omega)
        rw [nI_add]
        refine ⟨vp_in_nI (by omega) (by omega), hi, (show vp_in (nI j) (nlJ i) from vp_in_nI (by omega) (by omega)), ?_⟩
        rw [ix_nI (by omega), ix_nI (by omega), hb.2, hc.1, nI_1]
        refine pk_eq (b (s + j)) (nb i j) (fun e => ih (j + 1) (by omega) ?_) (fun e => ?_)
        · rw [allB, hg]; simp [e]
        · rw [allB_f (f := fun k => decide (b (s + k) = nb i k)) (k := j) (by omega) (by simp [e])] at k
          exact k
    exact ⟨_, key (nlJ i) 0 (by omega) rfl⟩
  · rw [decide_eq_false q, Bool.false_and] at k
    exact k
def wd (b : Nat → Nat) (s e : Nat) : Nat := if wIs b s e 0 then 0 else if wIs b s e 1 then 1 else if wIs b s e 2 then 2 else if wIs b s e 3 then 3 else if wIs b s e 4 then 4 else if wIs b s e 5 then 5 else 6
/-- the class's kind of a token -/
def cK (b : Nat → Nat) (len a : Nat) : Int32 := if tK b len a = 0 then 0 else if tK b len a = 1 then (if wd b (tS b len a) (tE b len a) < 6 then nI (4 + wd b (tS b len a) (tE b len a)) else 3) else if tK b len a = 2 then (if nKd b (tS b len a) (tE b len a) then 2 else 3) else if tK b len a = 3 then 1 else 3
theorem c_tok {b : Nat → Nat} {len a : Nat} {tb : Nat → Int32} {st kd vl : Int32} (hl : len ≤ 300) (Y : BY b len tb) (ha : a ≤ len) {post : Int32 → Int32 → Int32 → Int32 → Prop} (k : ∀ v, (tK b len a = 2 → v = nI (vlF b (tS b len a) (tE b len a - tS b len a))) → post (nI (tE b len a)) (nI (tS b len a)) (cK b len a) v) : wp_X3_readToken tb (nI len) (nI a) st kd vl post := by
  unfold wp_X3_readToken
  have h1 := tS_b b ha
  have h2 := tE_b b ha
  refine jn_i (nI (tS b len a)) (fun K hK => ⟨_, c_skip hl Y (len - a) a (by omega) hK⟩) ?_
  unfold cK tK tE sK sE at k
  unfold tE sE at h2
  generalize tS b len a = s at *
  refine pk_lt s len (fun q => ?_) (fun q => ?_)
  · rw [if_pos q, if_pos q] at k
    rw [if_pos q] at h2
    have hb := Y s q
    refine ⟨vp_in_nI (by omega) (by omega), ?_⟩
    rw [ix_nI (by omega), hb.2]
    refine c_isL hb.1 (b01_z (fun d => ⟨vp_in_nI (by omega) (by omega), ?_⟩) (fun d => ?_))
    · have d1 : ¬ isL (b s) = true := by rw [d]; decide
      rw [if_neg d1, if_neg d1] at k
      rw [if_neg d1] at h2
      refine c_isD hb.1 (b01_z (fun e => ⟨vp_in_nI (by omega) (by omega), ?_⟩) (fun e => ?_))
      · have e1 : ¬ isD (b s) = true := by rw [e]; decide
        rw [if_neg e1, if_neg e1] at k
        unfold jn
        rw [nI_1]
        refine pk_eq (b s) 59 (fun f => ?_) (fun f => ?_)
        · rw [if_pos f] at k
          exact k vl (fun z => by cases z)
        · rw [if_neg f] at k
          exact k vl (fun z => by cases z)
      · rw [if_pos e, if_pos e] at k
        rw [if_pos e] at h2
        unfold wp_X3_takeNumber jn
        have k2 := k (nI (vlF b s (rn (fun k => isD (b k)) len s - s))) (fun _ => rfl)
        generalize hen : rn (fun k => isD (b k)) len s = en at *
        have hgo : ∃ n5, wp_X3_takeNumber_L5 tb (nI len) (fun t_next_73 t_value_73 => (vp_in (nI s) 300 ∧ (jn (fun (K105 : Int32 → Prop) => (jn (fun (K104 : Prop) => (((tb (ix (nI s))) = (48 : Int32) → (((t_next_73 - nI s) ≤ (1 : Int32) → K104) ∧ (¬ (t_next_73 - nI s) ≤ (1 : Int32) → K105 (1 : Int32)))) ∧ (¬ (tb (ix (nI s))) = (48 : Int32) → K104))) (K105 (0 : Int32)))) (fun (y105 : Int32) => (jn (fun (K125 : Int32 → Prop) => (jn (fun (K120 : Prop) => ((y105 = (0 : Int32) → ((t_value_73 ≤ (99 : Int32) → K125 (2 : Int32)) ∧ (¬ t_value_73 ≤ (99 : Int32) → K120))) ∧ (¬ y105 = (0 : Int32) → K120))) (K125 (3 : Int32)))) (fun (y125 : Int32) => post t_next_73 (nI s) y125 t_value_73)))))) n5 (nI s) 0 := by
          have h9 := c_digits (s := s) hl Y (K := fun t_next_73 t_value_73 => (vp_in (nI s) 300 ∧ (jn (fun (K105 : Int32 → Prop) => (jn (fun (K104 : Prop) => (((tb (ix (nI s))) = (48 : Int32) → (((t_next_73 - nI s) ≤ (1 : Int32) → K104) ∧ (¬ (t_next_73 - nI s) ≤ (1 : Int32) → K105 (1 : Int32)))) ∧ (¬ (tb (ix (nI s))) = (48 : Int32) → K104))) (K105 (0 : Int32)))) (fun (y105 : Int32) => (jn (fun (K125 : Int32 → Prop) => (jn (fun (K120 : Prop) => ((y105 = (0 : Int32) → ((t_value_73 ≤ (99 : Int32) → K125 (2 : Int32)) ∧ (¬ t_value_73 ≤ (99 : Int32) → K120))) ∧ (¬ y105 = (0 : Int32) → K120))) (K125 (3 : Int32)))) (fun (y125 : Int32) => post t_next_73 (nI s) y125 t_value_73)))))) (len - s) s (by omega) (Nat.le_refl _) ?_
          · rw [Nat.sub_self] at h9
            exact ⟨_, h9⟩
          · rw [hen, ix_nI (by omega), hb.2, pk_sub (by omega)]
            refine ⟨vp_in_nI (by omega) (by omega), ?_⟩
            have hvl := vlF_le b s (en - s)
            refine jn_i (b01 (decide (b s = 48) && decide (1 < en - s))) (fun K hK => ?_) ?_
            · unfold jn
              refine pk_eq (b s) 48 (fun f => pk_le (en - s) 1 (fun g => ?_) (fun g => ?_)) (fun f => ?_)
              · have : ¬ 1 < en - s := by omega
                simp [this] at hK; exact hK
              · simp [f, g] at hK; exact hK
              · simp [f] at hK; exact hK
            · unfold nKd at k2
              unfold jn
              refine b01_z (fun f => pk_le (vlF b s (en - s)) 99 (fun g => ?_) (fun g => ?_)) (fun f => ?_)
              · rw [f] at k2
                simp [g] at k2
                exact k2
              · have g2 : ¬ vlF b s (en - s) ≤ 99 := by omega
                rw [f] at k2
                simp [g2] at k2
                exact k2
              · rw [f] at k2
                simp at k2
                exact k2
        exact hgo
    · rw [if_pos d, if_pos d] at k
      rw [if_pos d] at h2
      have k2 := k vl (fun z => by cases z)
      unfold wp_X3_takeWord
      refine jn_i (nI (rn (fun k => isL (b k)) len s)) (fun K hK => ⟨_, c_letters hl Y (len - s) s (by omega) hK⟩) ?_
      generalize hen : rn (fun k => isL (b k)) len s = en at *
      have hse : s ≤ en := h2.2.2.1
      have hel : en ≤ len := h2.2.1
      unfold wd at k2
      refine c_wordIs hl Y (i := 0) (by omega) hse hel (b01_z (fun e0 => c_wordIs hl Y (i := 1) (by omega) hse hel (b01_z (fun e1 => c_wordIs hl Y (i := 2) (by omega) hse hel (b01_z (fun e2 => c_wordIs hl Y (i := 3) (by omega) hse hel (b01_z (fun e3 => c_wordIs hl Y (i := 4) (by omega) hse hel (b01_z (fun e4 => c_wordIs hl Y (i := 5) (by omega) hse hel ?_) (fun e4 => ?_))) (fun e3 => ?_))) (fun e2 => ?_))) (fun e1 => ?_))) (fun e0 => ?_))
      · unfold jn
        refine b01_z (fun e5 => ?_) (fun e5 => ?_)
        · simp [e0, e1, e2, e3, e4, e5] at k2
          exact k2
        · simp [e0, e1, e2, e3, e4, e5] at k2
          exact k2
      · simp [e0, e1, e2, e3, e4] at k2
        exact k2
      · simp [e0, e1, e2, e3] at k2
        exact k2
      · simp [e0, e1, e2] at k2
        exact k2
      · simp [e0, e1] at k2
        exact k2
      · simp [e0] at k2
        exact k2
  · rw [if_neg (by omega), if_neg (by omega)] at k
    exact k vl (fun z => by cases z)
