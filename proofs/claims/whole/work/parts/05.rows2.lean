abbrev ix (i : Int32) : Nat := i.toNatClampNeg
theorem vpd {i : Int32} {n : Nat} (h : decide (¬ (i < 0 ∨ n ≤ i.toNatClampNeg)) = true) : vp_in i n := by
  unfold vp_in
  exact of_decide_eq_true h
theorem tab_out {x : Int32} {lo hi : Int} (h : ∀ k : Int, lo ≤ k → k ≤ hi → ¬ x = Int32.ofInt k) : x.toInt < lo ∨ hi < x.toInt := by
  by_cases h1 : x.toInt < lo
  · exact Or.inl h1
  · by_cases h2 : hi < x.toInt
    · exact Or.inr h2
    · exact absurd (Int32.ofInt_toInt x).symm (h _ (by omega) (by omega))
section QR2
variable {E : MEnv} {cc : ByteArray} {nL : Nat} {own : String} {rm : Room} {D : va_G} {cI cZ : ClassId} {cs : va_W} {kc ks pc : Nat} {lv : List (Nat × Value)} {st : List Value}
theorem q_ialdk {a n k9 : Nat} {f : Nat → Int32} {i : Int32} (F : Fx E cc nL own rm D cI cZ) (z : Nat) (he : cs[z]? = some (a, .inl (cI, n, .inl f))) (hin : vp_in i n) (hk : i.toNatClampNeg = k9) (d : decode cc pc = .ok (.iaload, 1)) (k : Wg E cs kc ks (pc + 1) lv (.int (f k9) :: st)) : Wg E cs kc ks pc lv (.int i :: .ref a :: st) := q_iald F z he hin d (hk ▸ k)
theorem q_zaldk {a n k9 : Nat} {f : Nat → Int32} {i : Int32} (F : Fx E cc nL own rm D cI cZ) (z : Nat) (he : cs[z]? = some (a, .inl (cZ, n, .inl f))) (hin : vp_in i n) (hk : i.toNatClampNeg = k9) (d : decode cc pc = .ok (.baload, 1)) (k : Wg E cs kc ks (pc + 1) lv (.int (f k9) :: st)) : Wg E cs kc ks pc lv (.int i :: .ref a :: st) := q_zald F z he hin d (hk ▸ k)
theorem q_iastk {a n k9 : Nat} {f : Nat → Int32} {i x : Int32} {cs' : va_W} (F : Fx E cc nL own rm D cI cZ) (M : Mut E) (z : Nat) (he : cs[z]? = some (a, .inl (cI, n, .inl f))) (hin : vp_in i n) (hk : i.toNatClampNeg = k9) (hcs : cs.set z (a, .inl (cI, n, .inl (upd f k9 x))) = cs') (d : decode cc pc = .ok (.iastore, 1)) (k : Wg E cs' kc ks (pc + 1) lv (st)) : Wg E cs kc ks pc lv (.int x :: .int i :: .ref a :: st) := q_iast F M z he hin (hk ▸ hcs) d k
theorem q_zastk {a n k9 : Nat} {f : Nat → Int32} {i x : Int32} {cs' : va_W} (F : Fx E cc nL own rm D cI cZ) (M : Mut E) (z : Nat) (he : cs[z]? = some (a, .inl (cZ, n, .inl f))) (hin : vp_in i n) (hk : i.toNatClampNeg = k9) (hx9 : vp_nar .boolean x = x) (hcs : cs.set z (a, .inl (cZ, n, .inl (upd f k9 x))) = cs') (d : decode cc pc = .ok (.bastore, 1)) (k : Wg E cs' kc ks (pc + 1) lv (st)) : Wg E cs kc ks pc lv (.int x :: .int i :: .ref a :: st) := q_zast F M z he hin hx9 (hk ▸ hcs) d k
end QR2
