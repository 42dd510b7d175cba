def bs_ok (x : Int32) : Prop := -32768 ≤ x.toInt ∧ x.toInt ≤ 32767
theorem bs_nat (x : Int32) : (x.toBitVec.toNat : Int) = x.toInt ∨ (x.toBitVec.toNat : Int) = x.toInt + 4294967296 := by
  have h : x.toInt = x.toBitVec.toInt := rfl
  have hl := x.toBitVec.isLt
  rw [BitVec.toInt_eq_toNat_cond] at h
  split at h
  · exact Or.inl h.symm
  · right
    omega
/-- the low 16 bits of x, as a natural number -/
def bs_u (x : Int32) : Nat := x.toBitVec.toNat % 65536
theorem bs_u_lt (x : Int32) : bs_u x < 65536 := Nat.mod_lt _ (by decide)
theorem bs_u_and (x : Int32) : x &&& 65535 = nI (bs_u x) := pk_and x 16 (by decide)
theorem bs_u_int (x : Int32) : (bs_u x : Int) = x.toInt % 65536 := by
  have h := bs_nat x
  unfold bs_u
  omega
theorem bs_w_ok (r : Int32) : bs_ok r.toInt16.toInt32 := by
  have h := lg_i2s_range r
  exact ⟨h.1, by omega⟩
theorem bs_w_int (r : Int32) : r.toInt16.toInt32.toInt = if bs_u r ≤ 32767 then (bs_u r : Int) else (bs_u r : Int) - 65536 := by
  have h := bs_u_int r
  rw [Int16.toInt_toInt32, Int32.toInt_toInt16, Int.bmod_def]
  split <;> split <;> omega
theorem bs_wY {post : Int32 → Prop} (r : Int32) (hp : post r.toInt16.toInt32) : wpY_wrapped post r := by
  have hw := bs_w_int r
  have hl := bs_u_lt r
  refine nm_r (bs_u_and r) (pk_le (bs_u r) 32767 (fun h => ?_) (fun h => ?_))
  · have e : r.toInt16.toInt32 = nI (bs_u r) := by
      apply Int32.toInt_inj.mp
      rw [hw, nI_toInt (by omega), if_pos h]
    rw [← e]
    exact hp
  · have e : r.toInt16.toInt32 = nI (bs_u r) - 65536 := by
      apply Int32.toInt_inj.mp
      have e2 := pk_sub_toInt (a := bs_u r) (b := 65536) (by omega) (by decide)
      rw [hw, if_neg (by omega)]
      exact e2.symm
    rw [← e]
    exact hp
theorem bs_plainY {post : Int32 → Prop} (x : Int32) (hx : bs_ok x) (hp : post (nI (bs_u x))) : wpY_plain post x := by
  have hu := bs_u_int x
  have hl := bs_u_lt x
  have z0 : (0 : Int32).toInt = 0 := by decide
  have z1 : (65536 : Int32).toInt = 65536 := by decide
  obtain ⟨h1, h2⟩ := hx
  refine br_c (fun h => ?_) (fun h => ?_)
  · rw [Int32.le_iff_toInt_le, z0] at h
    have e : x = nI (bs_u x) := by
      apply Int32.toInt_inj.mp
      rw [nI_toInt (by omega)]
      omega
    rw [e]
    exact hp
  · rw [Int32.le_iff_toInt_le, z0] at h
    have e : x + 65536 = nI (bs_u x) := by
      apply Int32.toInt_inj.mp
      rw [nI_toInt (by omega), Int32.toInt_add, z1, Int.bmod_eq_of_le (by omega) (by omega)]
      omega
    rw [e]
    exact hp
theorem bs_unsX {post : Int32 → Prop} (x : Int32) (hp : post (nI (bs_u x))) : wpX_unsigned post x := by
  show post (x &&& 65535)
  rw [bs_u_and]
  exact hp
theorem bs_powL {post : Int32 → Prop} (j : Nat) (hj : j ≤ 15) (hp : post (nI (2 ^ j))) : ∀ d i : Nat, i + d = j → wY_power_4 post (nI j) (d + 1) (nI (2 ^ i)) (nI i) := by
  intro d
  induction d with
  | zero =>
    intro i hi
    have e : i = j := by omega
    subst e
    exact br_t (nI_le (Nat.le_refl i) (by omega)) hp
  | succ d ih =>
    intro i hi
    refine br_f (nI_ge (by omega) (by omega)) (br_f (nI_ge (b := 15) (by omega) (by decide)) (nm_r (e' := nI (2 ^ (i + 1))) ?_ (nm_r (nI_1 i) (ih (i + 1) (by omega)))))
    exact pk_mul (2 ^ i) 2
theorem bs_powY {post : Int32 → Prop} (j : Nat) (hj : j ≤ 15) (hp : post (nI (2 ^ j))) : wpY_power post (nI j) :=
  ⟨_, bs_powL j hj hp j 0 (by omega)⟩
theorem bs_downY {post : Int32 → Prop} (x : Int32) (p : Nat) (h0 : 0 < p) (h1 : p ≤ 65536) (r : Int32) (hr : r.toInt = x.toInt / (p : Int)) (hp : post r) : wpY_down post x (nI p) := by
  have hpI : (nI p).toInt = (p : Int) := nI_toInt (by omega)
  have hne : nI p ≠ 0 := nI_ne0 h0 (by omega)
  have z0 : (0 : Int32).toInt = 0 := by decide
  have zm : (-1 : Int32).toInt = -1 := by decide
  have z1 : (1 : Int32).toInt = 1 := by decide
  have hm1 : nI p ≠ -1 := by
    intro e
    have := congrArg Int32.toInt e
    rw [hpI, zm] at this
    omega
  have hq := Int32.toInt_div_of_ne_right x (nI p) hm1
  rw [hpI] at hq
  have hx1 := Int32.le_toInt x
  have hx2 := Int32.toInt_lt x
  have hr1 := Int32.le_toInt r
  have hr2 := Int32.toInt_lt r
  have hd := Int.ediv_mul_add_emod x.toInt (p : Int)
  have hm0 := Int.emod_nonneg x.toInt (b := (p : Int)) (by omega)
  have hm2 := Int.emod_lt_of_pos x.toInt (b := (p : Int)) (by omega)
  refine br_t (nI_lt (a := 0) h0 (by omega)) ⟨hne, nm_e ?_⟩
  by_cases hc : 0 ≤ x.toInt ∨ (p : Int) ∣ x.toInt
  · have e : x / nI p = r := by
      apply Int32.toInt_inj.mp
      rw [hq, hr, Int.tdiv_eq_ediv, if_pos hc]
      omega
    rw [e]
    have hmul : (r * nI p).toInt = x.toInt - x.toInt % (p : Int) := by
      rw [Int32.toInt_mul, hpI, hr, show x.toInt / (p : Int) * (p : Int) = x.toInt - x.toInt % (p : Int) from by omega]
      apply Int.bmod_eq_of_le
      · rcases hc with hc | hc
        · omega
        · have := Int.emod_eq_zero_of_dvd hc
          omega
      · omega
    refine br_t ?_ hp
    rw [Int32.le_iff_toInt_le, hmul]
    omega
  · have hs : Int.sign (p : Int) = 1 := Int.sign_eq_one_of_pos (by omega)
    have hnd : ¬ (p : Int) ∣ x.toInt := fun h => hc (Or.inr h)
    have hneg : x.toInt < 0 := Int.not_le.mp fun h => hc (Or.inl h)
    have hm3 : x.toInt % (p : Int) ≠ 0 := fun h => hnd (Int.dvd_of_emod_eq_zero h)
    have e : (x / nI p).toInt = r.toInt + 1 := by
      rw [hq, hr, Int.tdiv_eq_ediv, if_neg hc, hs]
    have hmul : (x / nI p * nI p).toInt = x.toInt - x.toInt % (p : Int) + (p : Int) := by
      rw [Int32.toInt_mul, hpI, e, hr, Int.add_mul, show x.toInt / (p : Int) * (p : Int) = x.toInt - x.toInt % (p : Int) from by omega, Int.one_mul]
      exact Int.bmod_eq_of_le (by omega) (by omega)
    refine br_f ?_ ?_
    · rw [Int32.le_iff_toInt_le, hmul]
      omega
    · have e2 : x / nI p - 1 = r := by
        apply Int32.toInt_inj.mp
        rw [Int32.toInt_sub, e, z1, show r.toInt + 1 - 1 = r.toInt from by omega]
        exact Int.bmod_eq_of_le (by omega) (by omega)
      rw [e2]
      exact hp
theorem bs_sm : ∀ j, j < 32 → ((nI j &&& 31).toBitVec.smod 32).toNat = j := by decide +kernel
theorem bs_m15 : ∀ j, j < 16 → nI j &&& 31 = nI j := by decide +kernel
/-- a shift to the right rounds down -/
theorem bs_shr (x : Int32) {j : Nat} (hj : j < 32) : (x >>> (nI j &&& 31)).toInt = x.toInt / ((2 ^ j : Nat) : Int) := by
  rw [pk_shr x _ j (bs_sm j hj), Int.shiftRight_eq_div_pow]
theorem bs_shl (x : Int32) {j : Nat} (hj : j < 32) : x <<< (nI j &&& 31) = x * nI (2 ^ j) := by
  apply Int32.toBitVec_inj.mp
  apply BitVec.eq_of_toNat_eq
  rw [pk_shl x _ j (bs_sm j hj), Int32.toBitVec_mul, BitVec.toNat_mul, pk_tn (Nat.pow_lt_pow_right (by decide) hj)]
