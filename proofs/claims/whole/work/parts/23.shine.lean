/-! Steps over cells, what a lamp shines on, the ways to the doors. -/
def fcol (W : Nat) : Nat → Nat
  | 0 => 0
  | y + 1 => fcol W y ||| 2 ^ (W * y)
def besN (W H s : Nat) : Nat := ((s * 2 ^ W) ||| (s / 2 ^ W)) ||| ((dif s (fcol W H * 2 ^ (W - 1)) * 2) ||| (dif s (fcol W H) / 2))
def widN (W H s g : Nat) : Nat := s ||| (besN W H s &&& g)
def itr (F : Nat → Nat) : Nat → Nat → Nat
  | 0, x => x
  | n + 1, x => itr F n (F x)
theorem itr_succ (F : Nat → Nat) : ∀ n x, itr F (n + 1) x = F (itr F n x)
  | 0, _ => rfl
  | n + 1, x => by
    show itr F (n + 1) (F x) = F (itr F n (F x))
    exact itr_succ F n (F x)
theorem itr_fix {F : Nat → Nat} {x : Nat} (h : F x = x) : ∀ n, itr F n x = x
  | 0 => rfl
  | n + 1 => by show itr F n (F x) = x; rw [h]; exact itr_fix h n
theorem itr_add (F : Nat → Nat) (x : Nat) : ∀ a b, itr F (a + b) x = itr F b (itr F a x)
  | 0, b => by rw [Nat.zero_add]; rfl
  | a + 1, b => by
    rw [show a + 1 + b = (a + b) + 1 by omega]
    show itr F (a + b) (F x) = itr F b (itr F a (F x))
    exact itr_add F (F x) a b
theorem fcol_lt (W : Nat) (hW : W ≤ 4) : ∀ H, H ≤ 3 → fcol W H < 2 ^ 12
  | 0, _ => by simp [fcol]
  | y + 1, h => by
    rw [fcol]
    have h1 := fcol_lt W hW y (by omega)
    have h2 : W * y ≤ 4 * 2 := Nat.mul_le_mul hW (by omega)
    exact Nat.or_lt_two_pow h1 (Nat.lt_of_le_of_lt (p2lt h2) (by decide))
theorem c_beside {W H s : Nat} (hW : 1 ≤ W ∧ W ≤ 4) (hH : H ≤ 3) (hs : s < 2 ^ 12) {post : Int32 → Prop} (k : post (nI (besN W H s))) : wp_X0_beside (nI s) (nI W) (nI H) post := by
  unfold wp_X0_beside
  have hf := fcol_lt W hW.2 H hH
  have tail : ∀ x2 : Int32, x2 = nI (fcol W H) → (∀ x3_37 : Int32, x3_37 = jshl x2 (nI W - (1 : Int32)) → (∀ x4_51 : Int32, x4_51 = (jshl (nI s) (nI W)) ||| (jushr (nI s) (nI W)) → (∀ x5_68 : Int32, x5_68 = (jshl (nI s &&& (x3_37 ^^^ (-1 : Int32))) (1 : Int32)) ||| (jushr (nI s &&& (x2 ^^^ (-1 : Int32))) (1 : Int32)) → post (x4_51 ||| x5_68)))) := by
    intro x2 e2 x3 e3 x4 e4 x5 e5
    have w1 : nI W - 1 = nI (W - 1) := pk_sub (a := W) (b := 1) hW.1
    have p1 : (2 : Nat) ^ (W - 1) ≤ 8 := p2lt (b := 3) (by omega)
    have p2 : (2 : Nat) ^ W ≤ 16 := p2lt (b := 4) (by omega)
    have q1 : fcol W H * 2 ^ (W - 1) ≤ 4096 * 8 := Nat.mul_le_mul (by omega) p1
    have q2 : s * 2 ^ W ≤ 4096 * 16 := Nat.mul_le_mul (by omega) p2
    have d1 := dif_le s (fcol W H * 2 ^ (W - 1))
    have d2 := dif_le s (fcol W H)
    rw [w1, e2, b_shl (by omega) (by omega)] at e3
    rw [b_shl (by omega) (by omega), b_ushr (by omega) (by omega), fa_or] at e4
    have s1 : jshl (nI (dif s (fcol W H * 2 ^ (W - 1)))) 1 = nI (dif s (fcol W H * 2 ^ (W - 1)) * 2 ^ 1) := b_shl (k := 1) (by omega) (by omega)
    have s2 : jushr (nI (dif s (fcol W H))) 1 = nI (dif s (fcol W H) / 2 ^ 1) := b_ushr (k := 1) (by omega) (by omega)
    rw [e3, e2, b_andn (by omega), b_andn (by omega), s1, s2, fa_or] at e5
    rw [e4, e5, fa_or]
    exact k
  unfold jn
  have key : ∀ m i, i + m = H → wp_X0_beside_L4 (nI W) (nI H) (fun x2_29 => ∀ x3_37 : Int32, x3_37 = jshl x2_29 (nI W - (1 : Int32)) → (∀ x4_51 : Int32, x4_51 = (jshl (nI s) (nI W)) ||| (jushr (nI s) (nI W)) → (∀ x5_68 : Int32, x5_68 = (jshl (nI s &&& (x3_37 ^^^ (-1 : Int32))) (1 : Int32)) ||| (jushr (nI s &&& (x2_29 ^^^ (-1 : Int32))) (1 : Int32)) → post (x4_51 ||| x5_68)))) (m + 1) (nI (fcol W i)) (nI i) := by
    intro m
    induction m with
    | zero =>
      intro i hi
      unfold wp_X0_beside_L4
      have e : i = H := by omega
      subst e
      exact br_t (nI_le (by omega) (by omega)) (tail _ rfl)
    | succ m ih =>
      intro i hi
      unfold wp_X0_beside_L4
      refine br_f (nI_ge (by omega) (by omega)) ?_
      have h2 : W * i ≤ 4 * 2 := Nat.mul_le_mul hW.2 (by omega)
      rw [pk_mul, b_set (by omega), nI_1]
      intro x ex
      rw [ex]
      exact ih (i + 1) (by omega)
  exact ⟨_, key H 0 (by omega)⟩
theorem besN_lt {W H s : Nat} (hW : W ≤ 4) (hs : s < 2 ^ 12) : besN W H s < 2 ^ 20 := by
  unfold besN
  have p2 : (2 : Nat) ^ W ≤ 16 := p2lt (b := 4) (by omega)
  have q2 : s * 2 ^ W ≤ 4096 * 16 := Nat.mul_le_mul (by omega) p2
  have d1 := dif_le s (fcol W H * 2 ^ (W - 1))
  have d2 := dif_le s (fcol W H)
  have d3 := Nat.div_le_self s (2 ^ W)
  have d4 := Nat.div_le_self (dif s (fcol W H)) 2
  exact Nat.or_lt_two_pow (Nat.or_lt_two_pow (by omega) (by omega)) (Nat.or_lt_two_pow (by omega) (by omega))
theorem widN_lt {W H s g n : Nat} (hs : s < 2 ^ n) (hg : g < 2 ^ n) : widN W H s g < 2 ^ n := Nat.or_lt_two_pow hs (Nat.and_lt_two_pow _ hg)
theorem itr_lt {W H g n : Nat} (hg : g < 2 ^ n) : ∀ k s, s < 2 ^ n → itr (fun x => widN W H x g) k s < 2 ^ n
  | 0, _, h => h
  | k + 1, s, h => itr_lt hg k _ (widN_lt h hg)
theorem c_spread {W H f g n : Nat} (hW : 1 ≤ W ∧ W ≤ 4) (hH : H ≤ 3) (hf : f < 2 ^ 12) (hg : g < 2 ^ 12) (hn : n < 2 ^ 30) {post : Int32 → Prop} (k : post (nI (itr (fun x => widN W H x g) n f))) : wp_X0_spread (nI f) (nI g) (nI n) (nI W) (nI H) post := by
  unfold wp_X0_spread
  have key : ∀ m i, i + m = n → wp_X0_spread_L6 (nI g) (nI n) (nI W) (nI H) post (m + 1) (nI (itr (fun x => widN W H x g) i f)) (nI i) := by
    intro m
    induction m with
    | zero =>
      intro i hi
      unfold wp_X0_spread_L6
      have e : i = n := by omega
      subst e
      exact br_t (nI_le (by omega) (by omega)) k
    | succ m ih =>
      intro i hi
      have hx := itr_lt (W := W) (H := H) (n := 12) hg i f hf
      unfold wp_X0_spread_L6
      refine br_f (nI_ge (by omega) (by omega)) (c_beside hW hH hx ?_)
      rw [fa_and, fa_or]
      intro x ex
      have e1 : x = nI (itr (fun x => widN W H x g) (i + 1) f) := by rw [itr_succ]; exact ex
      have hx1 := itr_lt (W := W) (H := H) (n := 12) hg (i + 1) f hf
      rw [e1, nI_1]
      refine ⟨fun c => ?_, fun c => ih (i + 1) (by omega)⟩
      have c1 : itr (fun x => widN W H x g) (i + 1) f = itr (fun x => widN W H x g) i f := nI_small c (by omega) (by omega)
      rw [itr_succ] at c1
      have e2 : itr (fun x => widN W H x g) n f = itr (fun x => widN W H x g) i f := by
        rw [show n = i + (m + 1) by omega, itr_add, itr_fix c1]
      rw [← e2]; exact k
  exact ⟨_, key n 0 (by omega)⟩
/-- the ground: cells that are no walls -/
def grd (h : Hal) : Nat := dif (2 ^ hC h - 1) (hWal h)
def shN (h : Hal) (c r : Nat) : Nat := itr (fun x => widN (hW h) (hH h) x (grd h)) r (2 ^ c)
theorem grd_lt (h : Hal) : grd h < 2 ^ hC h := by
  have h1 := dif_le (2 ^ hC h - 1) (hWal h)
  have h2 := p2pos (hC h)
  unfold grd; omega
theorem up12 {a n : Nat} (h : a < 2 ^ n) (hn : n ≤ 12) : a < 2 ^ 12 := Nat.lt_of_lt_of_le h (p2lt hn)
theorem shN_lt {h : Hal} {c : Nat} (hc : c < hC h) (r : Nat) : shN h c r < 2 ^ hC h := itr_lt (grd_lt h) r _ (Nat.pow_lt_pow_right (by decide) hc)
theorem c_shineFrom {h : Hal} (o : OkH h) {c r : Nat} (hc : c < hC h) (hr : r ≤ 9) {post : Int32 → Prop} (k : post (nI (shN h c r))) : wp_X0_shineFrom (nI c) (nI r) (nI (hW h)) (nI (hH h)) (nI (hWal h)) post := by
  unfold wp_X0_shineFrom wp_X0_cells
  have h12 := o.c12
  have hw := o.2.2.1
  have e0 : nI (hW h) * nI (hH h) = nI (hC h) := pk_mul _ _
  have h4 := two12 h12.2
  have e1 : jshl 1 (nI (hC h)) - 1 = nI (2 ^ hC h - 1) := all1 (by omega)
  rw [e0]
  dsimp only
  rw [e1, b_andn (by omega), b_one (by omega)]
  exact c_spread o.1 o.2.1.2 (up12 (Nat.pow_lt_pow_right (by decide) hc) h12.2) (up12 (grd_lt h) h12.2) (by omega) k
