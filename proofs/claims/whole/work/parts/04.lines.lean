/-- what the reference's result asks behind its reads, its power and its plain -/
def bs_in (Q : Int32 → Prop) (o x y a p u : Int32) : Prop := (o = 0 → Q a) ∧ (¬ o = 0 → ((o = 1 → Q x) ∧ (¬ o = 1 → ((o = 11 → Q (x * p)) ∧ (¬ o = 11 → ((o = 12 → wpY_down Q x p) ∧ (¬ o = 12 → ((o = 15 → wpY_root Q u) ∧ (¬ o = 15 → ((o = 16 → wpY_ones Q u) ∧ (¬ o = 16 → wpY_two Q o x y)))))))))))
theorem bs_i7 (x : Int32) : vp_in (x &&& 7) 8 := pk_andIn x (m := 7) 3 (by decide) (by decide)
theorem bs_resY {Q : Int32 → Prop} (li ne : Int32) (w o t f s : Nat → Int32) (l : Nat) (hl : l < 32) (c : Int32) (hc : o (nI l).toNatClampNeg = c) (j : Nat) (hj : j ≤ 15) (hb : s (nI l).toNatClampNeg &&& 15 = nI j) (hw : ∀ j, bs_ok (w j))
    (H : bs_in Q c (w (f (nI l).toNatClampNeg &&& 7).toNatClampNeg) (w (s (nI l).toNatClampNeg &&& 7).toNatClampNeg) (f (nI l).toNatClampNeg) (nI (2 ^ j)) (nI (bs_u (w (f (nI l).toNatClampNeg &&& 7).toNatClampNeg)))) :
    wpY_result Q (li, ne, w, o, t, f, s) (nI l) := by
  have hin : vp_in (nI l) 32 := vp_in_nI hl (by decide)
  refine ⟨hin, nm_r hc ⟨hin, bs_i7 _, nm_e ⟨hin, bs_i7 _, nm_e ⟨hin, ?_⟩⟩⟩⟩
  rw [hb]
  exact bs_powY j hj (bs_plainY _ (hw _) ⟨fun e => ⟨hin, H.1 e⟩, H.2⟩)
theorem bs_at {P : Int32 → Prop} {a b : Int32} (e : a = b) (h : P a) : P b := e ▸ h
/-- one answer for both sides -/
def bs_one (o x y a b : Int32) (j : Nat) : Prop := ∃ r : Int32, (∀ P : Int32 → Prop, P r → wpX_result P o x y a b) ∧ (∀ Q : Int32 → Prop, Q r → bs_in Q o x y a (nI (2 ^ j)) (nI (bs_u x)))
theorem bs_op0 (x y a b : Int32) (j : Nat) (hj : j ≤ 15) (hb : b &&& 15 = nI j) : bs_one 0 x y a b j := 
  ⟨a, fun P hp => br_f (by decide) (br_f (by decide) (br_t (by decide) (hp))), fun Q hp => br_t (by decide) (hp)⟩
theorem bs_op1 (x y a b : Int32) (j : Nat) (hj : j ≤ 15) (hb : b &&& 15 = nI j) : bs_one 1 x y a b j := 
  ⟨x, fun P hp => br_f (by decide) (br_f (by decide) (br_f (by decide) (br_t (by decide) (hp)))), fun Q hp => br_f (by decide) (br_t (by decide) (hp))⟩
theorem bs_op2 (x y a b : Int32) (j : Nat) (hj : j ≤ 15) (hb : b &&& 15 = nI j) : bs_one 2 x y a b j := 
  ⟨x + y, fun P hp => br_f (by decide) (br_f (by decide) (br_f (by decide) (br_f (by decide) (br_t (by decide) (hp))))), fun Q hp => br_f (by decide) (br_f (by decide) (br_f (by decide) (br_f (by decide) (br_f (by decide) (br_f (by decide) (br_t (by decide) (hp)))))))⟩
theorem bs_op3 (x y a b : Int32) (j : Nat) (hj : j ≤ 15) (hb : b &&& 15 = nI j) : bs_one 3 x y a b j := 
  ⟨x - y, fun P hp => br_f (by decide) (br_f (by decide) (br_f (by decide) (br_f (by decide) (br_f (by decide) (br_t (by decide) (hp)))))), fun Q hp => br_f (by decide) (br_f (by decide) (br_f (by decide) (br_f (by decide) (br_f (by decide) (br_f (by decide) (br_f (by decide) (br_t (by decide) (hp))))))))⟩
theorem bs_op4 (x y a b : Int32) (j : Nat) (hj : j ≤ 15) (hb : b &&& 15 = nI j) : bs_one 4 x y a b j := 
  ⟨x * y, fun P hp => br_f (by decide) (br_f (by decide) (br_f (by decide) (br_f (by decide) (br_f (by decide) (br_f (by decide) (br_t (by decide) (hp))))))), fun Q hp => br_f (by decide) (br_f (by decide) (br_f (by decide) (br_f (by decide) (br_f (by decide) (br_f (by decide) (br_f (by decide) (br_f (by decide) (br_t (by decide) (hp)))))))))⟩
theorem bs_op5 (x y a b : Int32) (j : Nat) (hj : j ≤ 15) (hb : b &&& 15 = nI j) : bs_one 5 x y a b j := 
  ⟨(x * y) >>> ((16 : Int32) &&& 31), fun P hp => br_f (by decide) (br_f (by decide) (br_f (by decide) (br_f (by decide) (br_f (by decide) (br_f (by decide) (br_f (by decide) (br_t (by decide) (hp)))))))), fun Q hp => br_f (by decide) (br_f (by decide) (br_f (by decide) (br_f (by decide) (br_f (by decide) (br_f (by decide) (br_f (by decide) (br_f (by decide) (br_f (by decide) (br_t (by decide) (bs_downY (x * y) 65536 (by decide) (by decide) _ (bs_shr (x * y) (j := 16) (by decide)) hp))))))))))⟩
theorem bs_op6 (x y a b : Int32) (j : Nat) (hj : j ≤ 15) (hb : b &&& 15 = nI j) : bs_one 6 x y a b j := by
  by_cases z : y = 0
  · exact ⟨0, fun P hp => br_f (by decide) (br_f (by decide) (br_f (by decide) (br_f (by decide) (br_f (by decide) (br_f (by decide) (br_f (by decide) (br_f (by decide) (br_t (by decide) (br_t z hp))))))))), fun Q hp => br_f (by decide) (br_f (by decide) (br_f (by decide) (br_f (by decide) (br_f (by decide) (br_f (by decide) (br_f (by decide) (br_f (by decide) (br_f (by decide) (br_f (by decide) (br_t (by decide) (br_t z hp)))))))))))⟩
  · exact ⟨x / y, fun P hp => br_f (by decide) (br_f (by decide) (br_f (by decide) (br_f (by decide) (br_f (by decide) (br_f (by decide) (br_f (by decide) (br_f (by decide) (br_t (by decide) (br_f z ⟨z, hp⟩))))))))), fun Q hp => br_f (by decide) (br_f (by decide) (br_f (by decide) (br_f (by decide) (br_f (by decide) (br_f (by decide) (br_f (by decide) (br_f (by decide) (br_f (by decide) (br_f (by decide) (br_t (by decide) (br_f z ⟨z, hp⟩)))))))))))⟩
theorem bs_op7 (x y a b : Int32) (j : Nat) (hj : j ≤ 15) (hb : b &&& 15 = nI j) : bs_one 7 x y a b j := by
  by_cases z : y = 0
  · have e : x = x - y * 0 := by rw [Int32.mul_zero, Int32.sub_zero]
    exact ⟨x, fun P hp => br_f (by decide) (br_f (by decide) (br_f (by decide) (br_f (by decide) (br_f (by decide) (br_f (by decide) (br_f (by decide) (br_f (by decide) (br_f (by decide) (br_t (by decide) (br_t z hp)))))))))), fun Q hp => br_f (by decide) (br_f (by decide) (br_f (by decide) (br_f (by decide) (br_f (by decide) (br_f (by decide) (br_f (by decide) (br_f (by decide) (br_f (by decide) (br_f (by decide) (br_f (by decide) (br_t (by decide) (br_t z (bs_at e hp)))))))))))))⟩
  · have e : x - x / y * y = x - y * (x / y) := by rw [Int32.mul_comm]
    exact ⟨x - x / y * y, fun P hp => br_f (by decide) (br_f (by decide) (br_f (by decide) (br_f (by decide) (br_f (by decide) (br_f (by decide) (br_f (by decide) (br_f (by decide) (br_f (by decide) (br_t (by decide) (br_f z ⟨z, hp⟩)))))))))), fun Q hp => br_f (by decide) (br_f (by decide) (br_f (by decide) (br_f (by decide) (br_f (by decide) (br_f (by decide) (br_f (by decide) (br_f (by decide) (br_f (by decide) (br_f (by decide) (br_f (by decide) (br_t (by decide) (br_f z ⟨z, bs_at e hp⟩))))))))))))⟩
theorem bs_op8 (x y a b : Int32) (j : Nat) (hj : j ≤ 15) (hb : b &&& 15 = nI j) : bs_one 8 x y a b j := 
  ⟨x &&& y, fun P hp => br_f (by decide) (br_f (by decide) (br_f (by decide) (br_f (by decide) (br_f (by decide) (br_f (by decide) (br_f (by decide) (br_f (by decide) (br_f (by decide) (br_f (by decide) (br_t (by decide) (hp))))))))))), fun Q hp => br_f (by decide) (br_f (by decide) (br_f (by decide) (br_f (by decide) (br_f (by decide) (br_f (by decide) (br_f (by decide) (br_f (by decide) (br_f (by decide) (br_f (by decide) (br_f (by decide) (br_f (by decide) (br_t (by decide) (hp)))))))))))))⟩
theorem bs_op9 (x y a b : Int32) (j : Nat) (hj : j ≤ 15) (hb : b &&& 15 = nI j) : bs_one 9 x y a b j := 
  ⟨x ||| y, fun P hp => br_f (by decide) (br_f (by decide) (br_f (by decide) (br_f (by decide) (br_f (by decide) (br_f (by decide) (br_f (by decide) (br_f (by decide) (br_f (by decide) (br_f (by decide) (br_f (by decide) (br_t (by decide) (hp)))))))))))), fun Q hp => br_f (by decide) (br_f (by decide) (br_f (by decide) (br_f (by decide) (br_f (by decide) (br_f (by decide) (br_f (by decide) (br_f (by decide) (br_f (by decide) (br_f (by decide) (br_f (by decide) (br_f (by decide) (br_f (by decide) (br_t (by decide) (hp))))))))))))))⟩
theorem bs_op10 (x y a b : Int32) (j : Nat) (hj : j ≤ 15) (hb : b &&& 15 = nI j) : bs_one 10 x y a b j := 
  ⟨x ^^^ y, fun P hp => br_f (by decide) (br_f (by decide) (br_f (by decide) (br_f (by decide) (br_f (by decide) (br_f (by decide) (br_f (by decide) (br_f (by decide) (br_f (by decide) (br_f (by decide) (br_f (by decide) (br_f (by decide) (br_t (by decide) (hp))))))))))))), fun Q hp => br_f (by decide) (br_f (by decide) (br_f (by decide) (br_f (by decide) (br_f (by decide) (br_f (by decide) (br_f (by decide) (br_f (by decide) (br_f (by decide) (br_f (by decide) (br_f (by decide) (br_f (by decide) (br_f (by decide) (br_f (by decide) (br_t (by decide) (hp)))))))))))))))⟩
theorem bs_op11 (x y a b : Int32) (j : Nat) (hj : j ≤ 15) (hb : b &&& 15 = nI j) : bs_one 11 x y a b j := by
  have e : x * nI (2 ^ j) = x <<< ((b &&& 15) &&& 31) := by rw [hb, bs_shl x (j := j) (by omega)]
  exact ⟨x * nI (2 ^ j), fun P hp => br_f (by decide) (br_f (by decide) (br_f (by decide) (br_f (by decide) (br_f (by decide) (br_f (by decide) (br_f (by decide) (br_f (by decide) (br_f (by decide) (br_f (by decide) (br_f (by decide) (br_f (by decide) (br_f (by decide) (br_t (by decide) (bs_at e hp)))))))))))))), fun Q hp => br_f (by decide) (br_f (by decide) (br_t (by decide) (hp)))⟩
theorem bs_op12 (x y a b : Int32) (j : Nat) (hj : j ≤ 15) (hb : b &&& 15 = nI j) : bs_one 12 x y a b j := by
  have e : x >>> (nI j &&& 31) = x >>> ((b &&& 15) &&& 31) := by rw [hb]
  have h : 2 ^ j ≤ 2 ^ 15 := Nat.pow_le_pow_right (by decide) hj
  exact ⟨x >>> (nI j &&& 31), fun P hp => br_f (by decide) (br_f (by decide) (br_f (by decide) (br_f (by decide) (br_f (by decide) (br_f (by decide) (br_f (by decide) (br_f (by decide) (br_f (by decide) (br_f (by decide) (br_f (by decide) (br_f (by decide) (br_f (by decide) (br_f (by decide) (br_t (by decide) (bs_at e hp))))))))))))))), fun Q hp => br_f (by decide) (br_f (by decide) (br_f (by decide) (br_t (by decide) (bs_downY x (2 ^ j) (Nat.two_pow_pos j) (by omega) _ (bs_shr x (j := j) (by omega)) hp))))⟩
theorem bs_op13 (x y a b : Int32) (j : Nat) (hj : j ≤ 15) (hb : b &&& 15 = nI j) : bs_one 13 x y a b j := by
  by_cases z : y ≤ x
  · exact ⟨0, fun P hp => br_f (by decide) (br_f (by decide) (br_f (by decide) (br_f (by decide) (br_f (by decide) (br_f (by decide) (br_f (by decide) (br_f (by decide) (br_f (by decide) (br_f (by decide) (br_f (by decide) (br_f (by decide) (br_f (by decide) (br_f (by decide) (br_f (by decide) (br_t (by decide) (br_t z hp)))))))))))))))), fun Q hp => br_f (by decide) (br_f (by decide) (br_f (by decide) (br_f (by decide) (br_f (by decide) (br_f (by decide) (br_f (by decide) (br_f (by decide) (br_f (by decide) (br_f (by decide) (br_f (by decide) (br_f (by decide) (br_f (by decide) (br_f (by decide) (br_f (by decide) (br_t (by decide) (br_t z hp))))))))))))))))⟩
  · exact ⟨1, fun P hp => br_f (by decide) (br_f (by decide) (br_f (by decide) (br_f (by decide) (br_f (by decide) (br_f (by decide) (br_f (by decide) (br_f (by decide) (br_f (by decide) (br_f (by decide) (br_f (by decide) (br_f (by decide) (br_f (by decide) (br_f (by decide) (br_f (by decide) (br_t (by decide) (br_f z hp)))))))))))))))), fun Q hp => br_f (by decide) (br_f (by decide) (br_f (by decide) (br_f (by decide) (br_f (by decide) (br_f (by decide) (br_f (by decide) (br_f (by decide) (br_f (by decide) (br_f (by decide) (br_f (by decide) (br_f (by decide) (br_f (by decide) (br_f (by decide) (br_f (by decide) (br_t (by decide) (br_f z hp))))))))))))))))⟩
theorem bs_op14 (x y a b : Int32) (j : Nat) (hj : j ≤ 15) (hb : b &&& 15 = nI j) : bs_one 14 x y a b j := by
  by_cases z : x = y
  · exact ⟨1, fun P hp => br_f (by decide) (br_f (by decide) (br_f (by decide) (br_f (by decide) (br_f (by decide) (br_f (by decide) (br_f (by decide) (br_f (by decide) (br_f (by decide) (br_f (by decide) (br_f (by decide) (br_f (by decide) (br_f (by decide) (br_f (by decide) (br_f (by decide) (br_f (by decide) (br_t (by decide) (br_t z hp))))))))))))))))), fun Q hp => br_f (by decide) (br_f (by decide) (br_f (by decide) (br_f (by decide) (br_f (by decide) (br_f (by decide) (br_f (by decide) (br_f (by decide) (br_f (by decide) (br_f (by decide) (br_f (by decide) (br_f (by decide) (br_f (by decide) (br_f (by decide) (br_f (by decide) (br_f (by decide) (br_t z hp))))))))))))))))⟩
  · exact ⟨0, fun P hp => br_f (by decide) (br_f (by decide) (br_f (by decide) (br_f (by decide) (br_f (by decide) (br_f (by decide) (br_f (by decide) (br_f (by decide) (br_f (by decide) (br_f (by decide) (br_f (by decide) (br_f (by decide) (br_f (by decide) (br_f (by decide) (br_f (by decide) (br_f (by decide) (br_t (by decide) (br_f z hp))))))))))))))))), fun Q hp => br_f (by decide) (br_f (by decide) (br_f (by decide) (br_f (by decide) (br_f (by decide) (br_f (by decide) (br_f (by decide) (br_f (by decide) (br_f (by decide) (br_f (by decide) (br_f (by decide) (br_f (by decide) (br_f (by decide) (br_f (by decide) (br_f (by decide) (br_f (by decide) (br_f z hp))))))))))))))))⟩
theorem bs_op15 (x y a b : Int32) (j : Nat) (hj : j ≤ 15) (hb : b &&& 15 = nI j) : bs_one 15 x y a b j := by
  obtain ⟨r, hX, hY⟩ := bs_root x
  exact ⟨r, fun P hp => br_f (by decide) (br_f (by decide) (br_f (by decide) (br_f (by decide) (br_f (by decide) (br_f (by decide) (br_f (by decide) (br_f (by decide) (br_f (by decide) (br_f (by decide) (br_f (by decide) (br_f (by decide) (br_f (by decide) (br_f (by decide) (br_f (by decide) (br_f (by decide) (br_f (by decide) (br_t (by decide) (hX P hp)))))))))))))))))), fun Q hp => br_f (by decide) (br_f (by decide) (br_f (by decide) (br_f (by decide) (br_t (by decide) (hY Q hp)))))⟩
theorem bs_op16 (x y a b : Int32) (j : Nat) (hj : j ≤ 15) (hb : b &&& 15 = nI j) : bs_one 16 x y a b j := by
  obtain ⟨r, hX, hY⟩ := bs_ones x
  exact ⟨r, fun P hp => br_f (by decide) (br_f (by decide) (br_f (by decide) (br_f (by decide) (br_f (by decide) (br_f (by decide) (br_f (by decide) (br_f (by decide) (br_f (by decide) (br_f (by decide) (br_f (by decide) (br_f (by decide) (br_f (by decide) (br_f (by decide) (br_f (by decide) (br_f (by decide) (br_f (by decide) (br_f (by decide) (br_t (by decide) (hX P hp))))))))))))))))))), fun Q hp => br_f (by decide) (br_f (by decide) (br_f (by decide) (br_f (by decide) (br_f (by decide) (br_t (by decide) (hY Q hp))))))⟩
theorem bs_op (o : Nat) (ho : o ≤ 16) (x y a b : Int32) (j : Nat) (hj : j ≤ 15) (hb : b &&& 15 = nI j) : bs_one (nI o) x y a b j :=
  match o, ho with
  | 0, _ => bs_op0 x y a b j hj hb
  | 1, _ => bs_op1 x y a b j hj hb
  | 2, _ => bs_op2 x y a b j hj hb
  | 3, _ => bs_op3 x y a b j hj hb
  | 4, _ => bs_op4 x y a b j hj hb
  | 5, _ => bs_op5 x y a b j hj hb
  | 6, _ => bs_op6 x y a b j hj hb
  | 7, _ => bs_op7 x y a b j hj hb
  | 8, _ => bs_op8 x y a b j hj hb
  | 9, _ => bs_op9 x y a b j hj hb
  | 10, _ => bs_op10 x y a b j hj hb
  | 11, _ => bs_op11 x y a b j hj hb
  | 12, _ => bs_op12 x y a b j hj hb
  | 13, _ => bs_op13 x y a b j hj hb
  | 14, _ => bs_op14 x y a b j hj hb
  | 15, _ => bs_op15 x y a b j hj hb
  | 16, _ => bs_op16 x y a b j hj hb
  | n + 17, h => absurd h (by omega)
