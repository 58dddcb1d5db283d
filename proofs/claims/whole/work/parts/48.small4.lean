/-! mark, count, keep, back. -/
def markG (h : Hal) (w : Nw) (x y : Int32) : Int32 := if vpB x 6 && vpB y (hNp h) then (if x = 1 then nI (hPw h (ix y)) + nI (nLeft w) else if x = 2 then nI (hPw h (ix y)) + nI (pcn (litN h w)) else if x = 3 then (nI (hPw h (ix y)) + nI (nLeft w)) * 2 else if x = 4 then nI (hPw h (ix y)) + nI (pcn (litN h w)) - nI (hPc h (ix y)) else if x = 5 then nI (hPw h (ix y)) + nI (hPs h (ix y)) else nI (hPw h (ix y))) else (-1000000)
def markD (h : Hal) (x y : Int32) : Int64 := if vpB x 6 && vpB y (hNp h) then (if x = 1 then 11 else if x = 2 then 101 else if x = 3 then 1011 else if x = 4 then 10101 else if x = 5 then 100001 else 1) else 0
theorem l64_0 (t : Int64) : t + 0 = t := by simp
theorem c_mark {h : Hal} {w : Nw} (o : OkH h) {x y : Int32} {tr : Int64} {pcl wish side : Nat → Int32} (hp : ∀ p, p < hNp h → pcl p = nI (hPc h p) ∧ wish p = nI (hPw h p) ∧ side p = nI (hPs h p)) {post : Int32 → Int64 → Prop} (k : post (markG h w x y) (tr + markD h x y)) : wp_X4_mark x y tr (nI (nLeft w)) (nI (msk (nLmp w) (nLeft w))) (nI (hNl h)) (nI (hNp h)) pcl wish side post := by
  unfold wp_X4_mark
  have h6 := o.2.2.2.2.2.2.1
  have h64l := two6 o.2.2.2.2.2.1
  have hlt := litN_lt h w
  unfold markG markD at k
  have bad : (vpB x 6 && vpB y (hNp h)) = false → post (-1000000) tr := by
    intro q
    rw [q] at k
    rw [show (if false = true then _ else (0 : Int64)) = 0 from rfl, l64_0] at k
    exact k
  refine ⟨fun c => bad (by rw [vpB_f.mpr (vp_neg c)]; rfl), fun c => ⟨fun d => bad ?_, fun d => ?_⟩⟩
  · have : ¬ vp_in x 6 := fun q => by
      have h1 := (vp_in_iff.mp q).2
      have h2 := (fa_le _ _).mp d
      have e6 : (6 : Int32).toInt = 6 := by decide
      omega
    rw [vpB_f.mpr this]; rfl
  have v1 : vp_in x 6 := vp_of c (by
    have : ¬ (6 : Int32).toInt ≤ x.toInt := fun q => d ((fa_le _ _).mpr q)
    have e6 : (6 : Int32).toInt = 6 := by decide
    omega)
  refine c_isPerson h6 (fun q => br_f (by decide) ?_) (fun q => br_t rfl (bad (by rw [vpB_f.mpr q, Bool.and_false])))
  rw [vpB_t.mpr v1, vpB_t.mpr q] at k
  obtain ⟨p, hpn, e⟩ := vp_ex q (by omega)
  subst e
  have hP := hp p hpn
  have vin : vp_in (nI p) 6 := vp_in_nI (by omega) (by omega)
  unfold wp_X4_markOfAunt wp_X4_markOfWaiter wp_X4_markOfGreatAunt wp_X4_markOfPorter wp_X4_markOfFiddler wp_X4_markOfAunt wp_X4_markOfWaiter wp_X4_markOfGuest
  rw [ix_nI (by omega)] at k ⊢
  rw [hP.1, hP.2.1, hP.2.2]
  have a11 : tr + 10 + 1 = tr + 11 := by rw [Int64.add_assoc]; rfl
  have a101 : tr + 100 + 1 = tr + 101 := by rw [Int64.add_assoc]; rfl
  have a1011 : tr + 1000 + 10 + 1 = tr + 1011 := by rw [Int64.add_assoc, Int64.add_assoc]; rfl
  have a10101 : tr + 10000 + 100 + 1 = tr + 10101 := by rw [Int64.add_assoc, Int64.add_assoc]; rfl
  have a100001 : tr + 100000 + 1 = tr + 100001 := by rw [Int64.add_assoc]; rfl
  rw [a11, a101, a1011, a10101, a100001]
  refine ⟨fun e => ⟨vin, ?_⟩, fun e => ⟨fun e2 => ⟨vin, c_litNow o (c_bc (by omega) ?_)⟩, fun e2 => ⟨fun e3 => ⟨vin, ?_⟩, fun e3 => ⟨fun e4 => ⟨vin, c_litNow o (c_bc (by omega) ⟨vin, ?_⟩)⟩, fun e4 => ⟨fun e5 => ⟨vin, vin, ?_⟩, fun e5 => ⟨vin, ?_⟩⟩⟩⟩⟩⟩
  · simp only [if_pos e] at k; exact k
  · simp only [if_neg e, if_pos e2] at k; exact k
  · simp only [if_neg e, if_neg e2, if_pos e3] at k; exact k
  · simp only [if_neg e, if_neg e2, if_neg e3, if_pos e4] at k; exact k
  · simp only [if_neg e, if_neg e2, if_neg e3, if_neg e4, if_pos e5] at k; exact k
  · simp only [if_neg e, if_neg e2, if_neg e3, if_neg e4, if_neg e5] at k; exact k
theorem m_mark {h : Hal} {w : Nw} {t s : Nat → Int32} (o : OkH h) (n : OkN h w) (T : RM h t) (S : RS w s) {x y : Int32} {tr : Int64} {post : Int32 → Int64 → Prop} (k : post (markG h w x y) (tr + markD h x y)) : wp_X5_mark x y tr t s post := by
  unfold wp_X5_mark
  have h6 := o.2.2.2.2.2.2.1
  have h64l := two6 o.2.2.2.2.2.1
  have hlt := litN_lt h w
  unfold markG markD at k
  have bad : (vpB x 6 && vpB y (hNp h)) = false → post (-1000000) tr := by
    intro q
    rw [q] at k
    rw [show (if false = true then _ else (0 : Int64)) = 0 from rfl, l64_0] at k
    exact k
  refine in_rng (n := 6) (by omega) (by decide) (fun v1 => br_f (by decide) ?_) (fun v1 => br_t rfl (bad (by rw [vpB_f.mpr v1]; rfl)))
  refine m_isPerson o T (fun q => br_f (by decide) ?_) (fun q => br_t rfl (bad (by rw [vpB_f.mpr q, Bool.and_false])))
  rw [vpB_t.mpr v1, vpB_t.mpr q] at k
  obtain ⟨p, hpn, e⟩ := vp_ex q (by omega)
  obtain ⟨j, hj, ej⟩ := vp_ex v1 (by omega)
  subst e ej
  have hP := T.2.2.2.2.2.2.2.2 p hpn
  have i19 := ixa (a := 19) (i := p) (n := 43) (c := 19) rfl (by omega) (by omega)
  have i25 := ixa (a := 25) (i := p) (n := 43) (c := 25) rfl (by omega) (by omega)
  have i31 := ixa (a := 31) (i := p) (n := 43) (c := 31) rfl (by omega) (by omega)
  rw [ix_nI (n := p) (by omega)] at k
  rw [i19.2, i25.2, i31.2, hP.1, hP.2.1, hP.2.2, S.1]
  unfold jn
  have hj6 : j = 0 ∨ j = 1 ∨ j = 2 ∨ j = 3 ∨ j = 4 ∨ j = 5 := by omega
  have c2 : (2 : Int32) * (nI (hPw h p) + nI (nLeft w)) = (nI (hPw h p) + nI (nLeft w)) * 2 := Int32.mul_comm _ _
  rcases hj6 with z | z | z | z | z | z
  · subst z
    refine br_t rfl ⟨i25.1, nm_e (m_lit o n T S (m_ones (by omega) (nm_e (br_t rfl ?_))))⟩
    exact k
  · subst z
    refine br_f (by decide) (br_t rfl ⟨i25.1, nm_e (m_lit o n T S (m_ones (by omega) (nm_e (br_f (by decide) (br_t rfl ?_)))))⟩)
    exact k
  · subst z
    refine br_f (by decide) (br_f (by decide) (br_t rfl ⟨i25.1, nm_e (m_lit o n T S (m_ones (by omega) (nm_e (br_f (by decide) (br_f (by decide) (br_t rfl ?_))))))⟩))
    exact k
  · subst z
    refine br_f (by decide) (br_f (by decide) (br_f (by decide) (br_t rfl ⟨i25.1, nm_e (m_lit o n T S (m_ones (by omega) (nm_e (br_f (by decide) (br_f (by decide) (br_f (by decide) (br_t rfl ?_)))))))⟩)))
    rw [c2]
    exact k
  · subst z
    refine br_f (by decide) (br_f (by decide) (br_f (by decide) (br_f (by decide) (br_t rfl ⟨i25.1, nm_e (m_lit o n T S (m_ones (by omega) (nm_e (br_f (by decide) (br_f (by decide) (br_f (by decide) (br_f (by decide) (br_t rfl ⟨i19.1, ?_⟩)))))))) ⟩))))
    exact k
  · subst z
    refine br_f (by decide) (br_f (by decide) (br_f (by decide) (br_f (by decide) (br_f (by decide) ⟨i25.1, nm_e (m_lit o n T S (m_ones (by omega) (nm_e (br_f (by decide) (br_f (by decide) (br_f (by decide) (br_f (by decide) (br_f (by decide) ⟨i31.1, ?_⟩)))))))) ⟩))))
    exact k
def cntG (h : Hal) (w : Nw) (len : Nat) (x : Int32) : Int32 := if x = 0 then nI (hC h) else if x = 1 then nI (hNl h) else if x = 2 then nI (hNp h) else if x = 3 then nI (pcn (litN h w)) else if x = 4 then nI (nLeft w) else if x = 5 then nI (hLaw h) else if x = 6 then nI (nSeen w) else if x = 7 then nI len else (-1)
theorem c_count {h : Hal} {w : Nw} (o : OkH h) {len : Nat} {x : Int32} {post : Int32 → Prop} (k : post (cntG h w len x)) : wp_X4_count x (nI len) (nI (nLeft w)) (nI (msk (nLmp w) (nLeft w))) (nI (nSeen w)) (nI (hW h)) (nI (hH h)) (nI (hLaw h)) (nI (hNl h)) (nI (hNp h)) post := by
  unfold wp_X4_count wp_X0_cells
  have h64l := two6 o.2.2.2.2.2.1
  have hlt := litN_lt h w
  unfold cntG at k
  rw [pk_mul]
  refine ⟨fun e => ?_, fun e => ⟨fun e1 => ?_, fun e1 => ⟨fun e2 => ?_, fun e2 => ⟨fun e3 => c_litNow o (c_bc (by omega) ?_), fun e3 => ⟨fun e4 => ?_, fun e4 => ⟨fun e5 => ?_, fun e5 => ⟨fun e6 => ?_, fun e6 => ⟨fun e7 => ?_, fun e7 => ?_⟩⟩⟩⟩⟩⟩⟩⟩
  · rw [if_pos e] at k; exact k
  · rw [if_neg e, if_pos e1] at k; exact k
  · rw [if_neg e, if_neg e1, if_pos e2] at k; exact k
  · rw [if_neg e, if_neg e1, if_neg e2, if_pos e3] at k; exact k
  · rw [if_neg e, if_neg e1, if_neg e2, if_neg e3, if_pos e4] at k; exact k
  · rw [if_neg e, if_neg e1, if_neg e2, if_neg e3, if_neg e4, if_pos e5] at k; exact k
  · rw [if_neg e, if_neg e1, if_neg e2, if_neg e3, if_neg e4, if_neg e5, if_pos e6] at k; exact k
  · rw [if_neg e, if_neg e1, if_neg e2, if_neg e3, if_neg e4, if_neg e5, if_neg e6, if_pos e7] at k; exact k
  · rw [if_neg e, if_neg e1, if_neg e2, if_neg e3, if_neg e4, if_neg e5, if_neg e6, if_neg e7] at k; exact k
theorem m_count {h : Hal} {w : Nw} {t s : Nat → Int32} (o : OkH h) (n : OkN h w) (T : RM h t) (S : RS w s) {len : Nat} {x : Int32} {post : Int32 → Prop} (k : post (cntG h w len x)) : wp_X5_count x (nI len) t s post := by
  unfold wp_X5_count
  have h64l := two6 o.2.2.2.2.2.1
  have hlt := litN_lt h w
  unfold cntG at k
  refine in_rng (n := 8) (by omega) (by decide) (fun v1 => br_f (by decide) ?_) (fun v1 => br_t rfl ?_)
  · obtain ⟨j, hj, ej⟩ := vp_ex v1 (by omega)
    subst ej
    rw [T.2.2.2.1, T.2.2.2.2.1, T.2.2.1, S.1, S.2.1]
    unfold jn
    have hj8 : j = 0 ∨ j = 1 ∨ j = 2 ∨ j = 3 ∨ j = 4 ∨ j = 5 ∨ j = 6 ∨ j = 7 := by omega
    rcases hj8 with z | z | z | z | z | z | z | z
    · subst z
      exact br_t rfl (m_cells T (br_f (by decide) k))
    · subst z
      exact br_f (by decide) (br_t rfl (br_f (by decide) k))
    · subst z
      exact br_f (by decide) (br_f (by decide) (br_t rfl (br_f (by decide) k)))
    · subst z
      exact br_f (by decide) (br_f (by decide) (br_f (by decide) (m_lit o n T S (m_ones (by omega) (br_f (by decide) k)))))
    · subst z
      exact br_f (by decide) (br_f (by decide) (br_f (by decide) (m_lit o n T S (m_ones (by omega) (br_t (by decide) (br_t rfl k))))))
    · subst z
      exact br_f (by decide) (br_f (by decide) (br_f (by decide) (m_lit o n T S (m_ones (by omega) (br_t (by decide) (br_f (by decide) (br_t rfl k)))))))
    · subst z
      exact br_f (by decide) (br_f (by decide) (br_f (by decide) (m_lit o n T S (m_ones (by omega) (br_t (by decide) (br_f (by decide) (br_f (by decide) (br_t rfl k))))))))
    · subst z
      exact br_f (by decide) (br_f (by decide) (br_f (by decide) (m_lit o n T S (m_ones (by omega) (br_t (by decide) (br_f (by decide) (br_f (by decide) (br_f (by decide) k))))))))
  · have hn : ∀ j, j < 8 → ¬ x = nI j := fun j hj e => v1 (by rw [e]; exact vp_in_nI hj (by omega))
    have h0 : ¬ x = 0 := hn 0 (by omega)
    have h1 : ¬ x = 1 := hn 1 (by omega)
    have h2 : ¬ x = 2 := hn 2 (by omega)
    have h3 : ¬ x = 3 := hn 3 (by omega)
    have h4 : ¬ x = 4 := hn 4 (by omega)
    have h5 : ¬ x = 5 := hn 5 (by omega)
    have h6 : ¬ x = 6 := hn 6 (by omega)
    have h7 : ¬ x = 7 := hn 7 (by omega)
    rw [if_neg h0, if_neg h1, if_neg h2, if_neg h3, if_neg h4, if_neg h5, if_neg h6, if_neg h7] at k
    exact k
/-! images -/
theorem RS_cong {w : Nw} {s s2 : Nat → Int32} (hl : nLeft w ≤ 6) (h8 : nSeen w ≤ 8) (e : ∀ k, k < 38 → s2 k = s k) (S : RS w s) : RS w s2 := by
  refine ⟨by rw [e 0 (by omega)]; exact S.1, by rw [e 13 (by omega)]; exact S.2.1, fun k hk => ?_, fun k hk => ?_⟩
  · rw [e (1 + k) (by omega), e (7 + k) (by omega)]; exact S.2.2.1 k hk
  · rw [e (14 + k) (by omega), e (22 + k) (by omega), e (30 + k) (by omega)]; exact S.2.2.2 k hk
theorem RC_copy {w : Nw} {lf gn dk sn : Int32} {a b c d e a2 b2 c2 d2 e2 : Nat → Int32} (hl : nLeft w ≤ 6) (h8 : nSeen w ≤ 8) (R : RC w lf gn dk sn a b c d e) : RC w lf gn dk sn (va_cpy a a2 0 0 6) (va_cpy b b2 0 0 6) (va_cpy c c2 0 0 8) (va_cpy d d2 0 0 8) (va_cpy e e2 0 0 8) := by
  refine ⟨R.1, R.2.1, R.2.2.1, R.2.2.2.1, fun k hk => ?_, fun k hk => ?_⟩
  · rw [pk_cpy_in (Nat.zero_le k) (by omega), pk_cpy_in (Nat.zero_le k) (by omega), Nat.sub_zero, Nat.zero_add]
    exact R.2.2.2.2.1 k hk
  · rw [pk_cpy_in (Nat.zero_le k) (by omega), pk_cpy_in (Nat.zero_le k) (by omega), pk_cpy_in (Nat.zero_le k) (by omega), Nat.sub_zero, Nat.zero_add]
    exact R.2.2.2.2.2 k hk
theorem m_keep {w : Nw} {s im kp : Nat → Int32} {j : Nat} (hj : j < 2) (S : RS w s) {post : Int32 → (Nat → Int32) → (Nat → Int32) → Prop} (k : ∀ im2, (∀ i, i < 38 → im2 (38 * j + i) = s i) → (∀ i, i < 38 * j ∨ 38 * j + 38 ≤ i → im2 i = im i) → post (nI (nLeft w)) im2 (upd kp j 1)) : wp_X5_keep (nI j) s im kp post := by
  unfold wp_X5_keep
  refine in_rng (n := 2) (by omega) (by decide) (fun v => br_f (by decide) ?_) (fun v => absurd (vp_in_nI hj (by omega)) v)
  unfold jn
  have key : ∀ m i, i + m = 38 → ∀ im1 : Nat → Int32, (∀ q, q < i → im1 (38 * j + q) = s q) → (∀ q, q < 38 * j ∨ 38 * j + 38 ≤ q → im1 q = im q) → wp_X5_keep_L13 (nI j) s (fun a => vp_in (nI j) 2 ∧ post (s 0) a (upd kp (ix (nI j)) 1)) (m + 1) (nI i) im1 := by
    intro m
    induction m with
    | zero =>
      intro i hi im1 g1 g2
      unfold wp_X5_keep_L13
      have e : i = 38 := by omega
      subst e
      refine br_t (nI_le (a := 38) (b := 38) (by omega) (by omega)) ⟨vp_in_nI hj (by omega), ?_⟩
      rw [ix_nI (by omega), S.1]
      exact k im1 g1 g2
    | succ m ih =>
      intro i hi im1 g1 g2
      unfold wp_X5_keep_L13
      have e1 : (38 : Int32) * nI j = nI (38 * j) := pk_mul 38 j
      have ia := ixa (a := 38 * j) (i := i) (n := 76) e1 (by omega) (by omega)
      refine br_f (nI_ge (b := 38) (by omega) (by omega)) ⟨vp_in_nI (by omega) (by omega), ia.1, ?_⟩
      rw [ia.2, ix_nI (n := i) (by omega), nI_1]
      refine ih (i + 1) (by omega) _ ?_ ?_
      · intro q hq
        by_cases e : q = i
        · subst e; rw [upd_s]
        · rw [upd_n (by omega)]; exact g1 q (by omega)
      · intro q hq
        rw [upd_n (by omega)]; exact g2 q hq
  exact ⟨_, key 38 0 rfl im (fun q hq => by omega) (fun q _ => rfl)⟩
theorem m_back {w0 : Nw} {s im kp : Nat → Int32} {j : Nat} (hj : j < 2) {post : Int32 → (Nat → Int32) → Prop} (k0 : kp j = 0 → post (-2) s) (hl : nLeft w0 ≤ 6) (h8 : nSeen w0 ≤ 8) (S : ¬ kp j = 0 → RS w0 (fun k => im (38 * j + k))) (k1 : ¬ kp j = 0 → ∀ s2, RS w0 s2 → post (nI (nLeft w0)) s2) : wp_X5_back (nI j) s im kp post := by
  unfold wp_X5_back
  refine in_rng (n := 2) (by omega) (by decide) (fun v => br_f (by decide) ⟨vp_in_nI hj (by omega), ?_⟩) (fun v => absurd (vp_in_nI hj (by omega)) v)
  rw [ix_nI (by omega)]
  refine ⟨fun c => k0 c, fun c => ?_⟩
  unfold jn
  have key : ∀ m i, i + m = 38 → ∀ s1 : Nat → Int32, (∀ q, q < i → s1 q = im (38 * j + q)) → wp_X5_back_L25 (nI j) im (fun a => post (a 0) a) (m + 1) (nI i) s1 := by
    intro m
    induction m with
    | zero =>
      intro i hi s1 g1
      unfold wp_X5_back_L25
      have e : i = 38 := by omega
      subst e
      refine br_t (nI_le (a := 38) (b := 38) (by omega) (by omega)) ?_
      have hS : RS w0 s1 := RS_cong hl h8 g1 (S c)
      show post (s1 0) s1
      rw [hS.1]
      exact k1 c s1 hS
    | succ m ih =>
      intro i hi s1 g1
      unfold wp_X5_back_L25
      have e1 : (38 : Int32) * nI j = nI (38 * j) := pk_mul 38 j
      have ia := ixa (a := 38 * j) (i := i) (n := 76) e1 (by omega) (by omega)
      refine br_f (nI_ge (b := 38) (by omega) (by omega)) ⟨ia.1, vp_in_nI (by omega) (by omega), ?_⟩
      rw [ia.2, ix_nI (n := i) (by omega), nI_1]
      refine ih (i + 1) (by omega) _ ?_
      intro q hq
      by_cases e : q = i
      · subst e; rw [upd_s]
      · rw [upd_n e]; exact g1 q (by omega)
  exact ⟨_, key 38 0 rfl s (fun q hq => by omega)⟩
