theorem bs_upd_ok {w : Nat → Int32} (hw : ∀ j, bs_ok (w j)) (k : Nat) {x : Int32} (hx : bs_ok x) : ∀ j, bs_ok (upd w k x j) := by
  intro j
  by_cases e : j = k
  · rw [e, pk_us]
    exact hx
  · rw [pk_un e]
    exact hw j
theorem bs_carry (L nx : Nat) (w o t f s : Nat → Int32) (hL : L ≤ 32) (hn : nx < L) (hw : ∀ j, bs_ok (w j)) (ho : ∀ j, ∃ q : Nat, q ≤ 18 ∧ o j = nI q) :
    ∃ (nx' : Nat) (w' : Nat → Int32), nx' ≤ 40 ∧ (∀ j, bs_ok (w' j)) ∧
      (∀ P : SX → Prop, P (nI L, nI nx', w', o, t, f, s) → wpX_carryOut P (nI L, nI nx, w, o, t, f, s) (nI nx)) ∧
      (∀ Q : SY → Prop, Q (nI L, nI nx', w', o, (fun j => t j &&& 7), f, s) → wpY_carryOut Q (nI L, nI nx, w, o, (fun j => t j &&& 7), f, s) (nI nx)) := by
  have hin : vp_in (nI nx) 32 := vp_in_nI (by omega) (by decide)
  obtain ⟨q, hq, eo⟩ := ho (nI nx).toNatClampNeg
  by_cases h17 : q = 17
  · subst h17
    by_cases z : w (f (nI nx).toNatClampNeg &&& 7).toNatClampNeg = 0
    · obtain ⟨j, hj, ej⟩ := pk_andE (s (nI nx).toNatClampNeg) (m := 7) 3 (by decide)
      have e1 : nI (nx + 1) + (s (nI nx).toNatClampNeg &&& 7) = nI (nx + 1 + j) := by rw [ej, nI_add]
      have e2 : nI (nx + 1 + j) = nI nx + 1 + (s (nI nx).toNatClampNeg &&& 7) := by rw [nI_1, e1]
      refine ⟨nx + 1 + j, w, by omega, hw, fun P hp => ⟨hin, nm_r eo ⟨hin, bs_i7 _, nm_e ⟨hin, nm_e (br_t (by decide) (br_t z ?_))⟩⟩⟩, fun Q hp => ⟨hin, bs_i7 _, nm_e ⟨hin, nm_e (nm_r (nI_1 nx) ⟨hin, br_t eo (br_t z (nm_r e1 hp))⟩)⟩⟩⟩
      exact bs_at (P := fun r => P (nI L, r, w, o, t, f, s)) e2 hp
    · refine ⟨nx + 1, w, by omega, hw, fun P hp => ⟨hin, nm_r eo ⟨hin, bs_i7 _, nm_e ⟨hin, nm_e (br_t (by decide) (br_f z ?_))⟩⟩⟩, fun Q hp => ⟨hin, bs_i7 _, nm_e ⟨hin, nm_e (nm_r (nI_1 nx) ⟨hin, br_t eo (br_f z hp)⟩)⟩⟩⟩
      exact bs_at (P := fun r => P (nI L, r, w, o, t, f, s)) (nI_1 nx).symm hp
  · have n17 : ¬ nI q = 17 := fun e => h17 ((nI_eq (b := 17) (by omega) (by decide)).mp e)
    have m17 : ¬ o (nI nx).toNatClampNeg = 17 := by rw [eo]; exact n17
    by_cases h18 : q = 18
    · subst h18
      by_cases z : w (f (nI nx).toNatClampNeg &&& 7).toNatClampNeg = 0
      · refine ⟨nx + 1, w, by omega, hw, fun P hp => ⟨hin, nm_r eo ⟨hin, bs_i7 _, nm_e ⟨hin, nm_e (br_f n17 (br_t (by decide) (br_t z ?_)))⟩⟩⟩, fun Q hp => ⟨hin, bs_i7 _, nm_e ⟨hin, nm_e (nm_r (nI_1 nx) ⟨hin, br_f m17 ⟨hin, br_t eo (br_t z hp)⟩⟩)⟩⟩⟩
        exact bs_at (P := fun r => P (nI L, r, w, o, t, f, s)) (nI_1 nx).symm hp
      · obtain ⟨j, hj, ej⟩ := pk_andE (s (nI nx).toNatClampNeg) (m := 31) 5 (by decide)
        have hj2 : j < 32 := hj
        by_cases hc : j ≤ nx
        · have e1 : nI nx - (s (nI nx).toNatClampNeg &&& 31) = nI (nx - j) := by rw [ej, pk_sub hc]
          have h0 : (0 : Int32) ≤ nI (nx - j) := nI_pos' (by omega)
          have h1 : (0 : Int32) ≤ nI nx - (s (nI nx).toNatClampNeg &&& 31) := by rw [e1]; exact h0
          exact ⟨nx - j, w, by omega, hw, fun P hp => ⟨hin, nm_r eo ⟨hin, bs_i7 _, nm_e ⟨hin, nm_e (br_f n17 (br_t (by decide) (br_f z (nm_r e1 (br_t h0 hp)))))⟩⟩⟩, fun Q hp => ⟨hin, bs_i7 _, nm_e ⟨hin, nm_e (nm_r (nI_1 nx) ⟨hin, br_f m17 ⟨hin, br_t eo (br_f z (br_t h1 (nm_r e1 hp)))⟩⟩)⟩⟩⟩
        · have h1 : ¬ (0 : Int32) ≤ nI nx - (s (nI nx).toNatClampNeg &&& 31) := by
            rw [ej, Int32.le_iff_toInt_le, pk_sub_toInt (by omega) (by omega), show (0 : Int32).toInt = 0 from by decide]
            omega
          exact ⟨0, w, by omega, hw, fun P hp => ⟨hin, nm_r eo ⟨hin, bs_i7 _, nm_e ⟨hin, nm_e (br_f n17 (br_t (by decide) (br_f z (nm_e (br_f h1 hp)))))⟩⟩⟩, fun Q hp => ⟨hin, bs_i7 _, nm_e ⟨hin, nm_e (nm_r (nI_1 nx) ⟨hin, br_f m17 ⟨hin, br_t eo (br_f z (br_f h1 hp))⟩⟩)⟩⟩⟩
    · have n18 : ¬ nI q = 18 := fun e => h18 ((nI_eq (b := 18) (by omega) (by decide)).mp e)
      have m18 : ¬ o (nI nx).toNatClampNeg = 18 := by rw [eo]; exact n18
      obtain ⟨j, hj, ej⟩ := pk_andE (s (nI nx).toNatClampNeg) (m := 15) 4 (by decide)
      have hj2 : j < 16 := hj
      obtain ⟨r, hX, hY⟩ := bs_op q (by omega) (w (f (nI nx).toNatClampNeg &&& 7).toNatClampNeg) (w (s (nI nx).toNatClampNeg &&& 7).toNatClampNeg) (f (nI nx).toNatClampNeg) (s (nI nx).toNatClampNeg) j (by omega) ej
      refine ⟨nx + 1, upd w (t (nI nx).toNatClampNeg &&& 7).toNatClampNeg r.toInt16.toInt32, by omega, bs_upd_ok hw _ (bs_w_ok r), fun P hp => ?_, fun Q hp => ?_⟩
      · exact ⟨hin, nm_r eo ⟨hin, bs_i7 _, nm_e ⟨hin, nm_e (br_f n17 (br_f n18 ⟨bs_i7 _, nm_e ⟨hin, hX _ ⟨hin, ⟨bs_i7 _, nm_e (nm_r (nI_1 nx) hp)⟩⟩⟩⟩))⟩⟩⟩
      · exact ⟨hin, bs_i7 _, nm_e ⟨hin, nm_e (nm_r (nI_1 nx) ⟨hin, br_f m17 ⟨hin, br_f m18 (bs_resY _ _ w o _ f s nx (by omega) (nI q) eo j (by omega) ej hw (hY _ ⟨hin, bs_wY r ⟨bs_i7 _, nm_e hp⟩⟩))⟩⟩)⟩⟩
theorem bs_runL (m : Nat) (hm : m ≤ 60) (L : Nat) (hL : L ≤ 32) (o t f s : Nat → Int32) (ho : ∀ j, ∃ q : Nat, q ≤ 18 ∧ o j = nI q) :
    ∀ (d i nx : Nat) (w : Nat → Int32), i + d = m → nx ≤ 40 → (∀ j, bs_ok (w j)) →
      ∃ (r : Int32) (nx' : Nat) (w' : Nat → Int32), nx' ≤ 40 ∧ (∀ j, bs_ok (w' j)) ∧
        (∀ P : Int32 → SX → Prop, P r (nI L, nI nx', w', o, t, f, s) → wX_run_15 P (nI m) (d + 1) (nI i) (nI L) (nI nx) w o t f s) ∧
        (∀ Q : Int32 → SY → Prop, Q r (nI L, nI nx', w', o, (fun j => t j &&& 7), f, s) → wY_run_23 Q (nI m) (d + 1) (nI i) (nI L) (nI nx) w o (fun j => t j &&& 7) f s) := by
  intro d
  induction d with
  | zero =>
    intro i nx w hi hn hw
    have e : i = m := by omega
    subst e
    have h : nI i ≤ nI i := nI_le (Nat.le_refl i) (by omega)
    exact ⟨nI i, nx, w, hn, hw, fun P hp => br_t h hp, fun Q hp => br_t h hp⟩
  | succ d ih =>
    intro i nx w hi hn hw
    have h : ¬ nI m ≤ nI i := nI_ge (by omega) (by omega)
    by_cases hc : nx < L
    · obtain ⟨n1, w1, hn1, hw1, hX, hY⟩ := bs_carry L nx w o t f s hL hc hw ho
      obtain ⟨r, n2, w2, hn2, hw2, iX, iY⟩ := ih (i + 1) n1 w1 (by omega) hn1 hw1
      exact ⟨r, n2, w2, hn2, hw2, fun P hp => br_f h (br_f (nI_ge hc (by omega)) (hX _ (nm_r (nI_1 i) (iX P hp)))), fun Q hp => br_f h (br_t (nI_lt hc (by omega)) (hY _ (nm_r (nI_1 i) (iY Q hp))))⟩
    · exact ⟨nI i, nx, w, hn, hw, fun P hp => br_f h (br_t (nI_le (by omega) (by omega)) hp), fun Q hp => br_f h (br_f (nI_nlt (by omega) (by omega)) hp)⟩
