section
theorem pk_us {f : Nat → Int32} {k : Nat} {x : Int32} : upd f k x k = x := if_pos rfl
theorem pk_un {f : Nat → Int32} {k j : Nat} {x : Int32} (h : j ≠ k) : upd f k x j = f j := if_neg h
theorem pk_sub {a b : Nat} (h : b ≤ a) : nI a - nI b = nI (a - b) := by
  obtain ⟨c, rfl⟩ : ∃ c, a = c + b := ⟨a - b, by omega⟩
  rw [← nI_add, Int32.add_sub_cancel, Nat.add_sub_cancel]
theorem pk_mul (a b : Nat) : nI a * nI b = nI (a * b) := (Int32.ofNat_mul a b).symm
theorem pk_div {a d : Nat} (ha : a < 2 ^ 31) (h0 : 0 < d) (hd : d < 2 ^ 31) : nI a / nI d = nI (a / d) := by
  apply Int32.toInt_inj.mp
  rw [lg_idiv_nonneg (by rw [nI_toInt ha]; omega) (by rw [nI_toInt hd]; omega), nI_toInt ha, nI_toInt hd, nI_toInt (Nat.lt_of_le_of_lt (Nat.div_le_self a d) ha)]
  first | rfl | exact (Int.natCast_ediv _ _).symm
theorem pk_rem {a d : Nat} (ha : a < 2 ^ 31) (h0 : 0 < d) (hd : d < 2 ^ 31) : nI a - nI a / nI d * nI d = nI (a % d) := by
  rw [pk_div ha h0 hd, pk_mul, pk_sub (Nat.div_mul_le_self a d)]
  exact congrArg nI (by have := Nat.div_add_mod' a d; omega)
theorem pk_sub_toInt {a b : Nat} (ha : a < 2 ^ 30) (hb : b < 2 ^ 30) : (nI a - nI b).toInt = (a : Int) - b := by
  rw [Int32.toInt_sub, nI_toInt (by omega), nI_toInt (by omega)]
  exact Int.bmod_eq_of_le (by omega) (by omega)
theorem pk_le {x y : Int32} {A B : Prop} (a b : Nat) (f : a ≤ b → A) (g : b < a → B) (hx : x = nI a := by rfl) (hy : y = nI b := by rfl) (ha : a < 2 ^ 31 := by omega) (hb : b < 2 ^ 31 := by omega) : (x ≤ y → A) ∧ (¬ x ≤ y → B) := by
  subst hx hy
  rw [nI_leI ha hb]
  exact ⟨f, fun z => g (by omega)⟩
theorem pk_lt {x y : Int32} {A B : Prop} (a b : Nat) (f : a < b → A) (g : b ≤ a → B) (hx : x = nI a := by rfl) (hy : y = nI b := by rfl) (ha : a < 2 ^ 31 := by omega) (hb : b < 2 ^ 31 := by omega) : (x < y → A) ∧ (¬ x < y → B) := by
  subst hx hy
  rw [nI_ltI ha hb]
  exact ⟨f, fun z => g (by omega)⟩
theorem pk_eq {x y : Int32} {A B : Prop} (a b : Nat) (f : a = b → A) (g : a ≠ b → B) (hx : x = nI a := by rfl) (hy : y = nI b := by rfl) (ha : a < 2 ^ 31 := by omega) (hb : b < 2 ^ 31 := by omega) : (x = y → A) ∧ (¬ x = y → B) := by
  subst hx hy
  rw [nI_eq ha hb]
  exact ⟨f, g⟩
theorem pk_tn {n : Nat} (h : n < 2 ^ 32) : (nI n).toBitVec.toNat = n := Nat.mod_eq_of_lt h
theorem pk_and (x : Int32) {m : Int32} (k : Nat) (hm : m.toBitVec.toNat = 2 ^ k - 1) : x &&& m = nI (x.toBitVec.toNat % 2 ^ k) := by
  apply Int32.toBitVec_inj.mp
  apply BitVec.eq_of_toNat_eq
  rw [Int32.toBitVec_and, BitVec.toNat_and, hm, Nat.and_two_pow_sub_one_eq_mod]
  show _ = (BitVec.ofNat 32 _).toNat
  rw [BitVec.toNat_ofNat]
  exact (Nat.mod_eq_of_lt (Nat.lt_of_le_of_lt (Nat.mod_le _ _) x.toBitVec.isLt)).symm
theorem pk_andE (x : Int32) {m : Int32} (k : Nat) (hm : m.toBitVec.toNat = 2 ^ k - 1) : ∃ j : Nat, j < 2 ^ k ∧ x &&& m = nI j := ⟨_, Nat.mod_lt _ (Nat.two_pow_pos k), pk_and x k hm⟩
theorem pk_andIn (x : Int32) {m : Int32} (k : Nat) (hm : m.toBitVec.toNat = 2 ^ k - 1) (hk : k ≤ 30) : vp_in (x &&& m) (2 ^ k) := by
  obtain ⟨j, hj, e⟩ := pk_andE x k hm
  rw [e]
  exact vp_in_nI hj (Nat.lt_of_le_of_lt (Nat.pow_le_pow_right (by decide) hk) (by decide))
theorem pk_shl (a s : Int32) (k : Nat) (hs : (s.toBitVec.smod 32).toNat = k) : (a <<< s).toBitVec.toNat = a.toBitVec.toNat * 2 ^ k % 2 ^ 32 := by
  show (a.toBitVec <<< (s.toBitVec.smod 32).toNat).toNat = _
  rw [hs, BitVec.toNat_shiftLeft, Nat.shiftLeft_eq]
theorem pk_shr (a s : Int32) (k : Nat) (hs : (s.toBitVec.smod 32).toNat = k) : (a >>> s).toInt = a.toInt >>> k := by
  show (a.toBitVec.sshiftRight (s.toBitVec.smod 32).toNat).toInt = _
  rw [hs, BitVec.toInt_sshiftRight]
  rfl
end
section
def bs_ok (x : Int32) : Prop := -32768 ≤ x.toInt ∧ x.toInt ≤ 32767
theorem bs_nat (x : Int32) : (x.toBitVec.toNat : Int) = x.toInt ∨ (x.toBitVec.toNat : Int) = x.toInt + 4294967296 := by
  have h : x.toInt = x.toBitVec.toInt := rfl
  have hl := x.toBitVec.isLt
  rw [BitVec.toInt_eq_toNat_cond] at h
  split at h
  · exact Or.inl h.symm
  · right
    omega
/-- the low 16 bits of x, as a natural number -/
def bs_u (x : Int32) : Nat := x.toBitVec.toNat % 65536
theorem bs_u_lt (x : Int32) : bs_u x < 65536 := Nat.mod_lt _ (by decide)
theorem bs_u_and (x : Int32) : x &&& 65535 = nI (bs_u x) := pk_and x 16 (by decide)
theorem bs_u_int (x : Int32) : (bs_u x : Int) = x.toInt % 65536 := by
  have h := bs_nat x
  unfold bs_u
  omega
theorem bs_w_ok (r : Int32) : bs_ok r.toInt16.toInt32 := by
  have h := lg_i2s_range r
  exact ⟨h.1, by omega⟩
theorem bs_w_int (r : Int32) : r.toInt16.toInt32.toInt = if bs_u r ≤ 32767 then (bs_u r : Int) else (bs_u r : Int) - 65536 := by
  have h := bs_u_int r
  rw [Int16.toInt_toInt32, Int32.toInt_toInt16, Int.bmod_def]
  split <;> split <;> omega
theorem bs_wY {post : Int32 → Prop} (r : Int32) (hp : post r.toInt16.toInt32) : wpY_wrapped post r := by
  have hw := bs_w_int r
  have hl := bs_u_lt r
  refine nm_r (bs_u_and r) (pk_le (bs_u r) 32767 (fun h => ?_) (fun h => ?_))
  · have e : r.toInt16.toInt32 = nI (bs_u r) := by
      apply Int32.toInt_inj.mp
      rw [hw, nI_toInt (by omega), if_pos h]
    rw [← e]
    exact hp
  · have e : r.toInt16.toInt32 = nI (bs_u r) - 65536 := by
      apply Int32.toInt_inj.mp
      have e2 := pk_sub_toInt (a := bs_u r) (b := 65536) (by omega) (by decide)
      rw [hw, if_neg (by omega)]
      exact e2.symm
    rw [← e]
    exact hp
theorem bs_plainY {post : Int32 → Prop} (x : Int32) (hx : bs_ok x) (hp : post (nI (bs_u x))) : wpY_plain post x := by
  have hu := bs_u_int x
  have hl := bs_u_lt x
  have z0 : (0 : Int32).toInt = 0 := by decide
  have z1 : (65536 : Int32).toInt = 65536 := by decide
  obtain ⟨h1, h2⟩ := hx
  refine br_c (fun h => ?_) (fun h => ?_)
  · rw [Int32.le_iff_toInt_le, z0] at h
    have e : x = nI (bs_u x) := by
      apply Int32.toInt_inj.mp
      rw [nI_toInt (by omega)]
      omega
    rw [e]
    exact hp
  · rw [Int32.le_iff_toInt_le, z0] at h
    have e : x + 65536 = nI (bs_u x) := by
      apply Int32.toInt_inj.mp
      rw [nI_toInt (by omega), Int32.toInt_add, z1, Int.bmod_eq_of_le (by omega) (by omega)]
      omega
    rw [e]
    exact hp
theorem bs_unsX {post : Int32 → Prop} (x : Int32) (hp : post (nI (bs_u x))) : wpX_unsigned post x := by
  show post (x &&& 65535)
  rw [bs_u_and]
  exact hp
theorem bs_powL {post : Int32 → Prop} (j : Nat) (hj : j ≤ 15) (hp : post (nI (2 ^ j))) : ∀ d i : Nat, i + d = j → wY_power_4 post (nI j) (d + 1) (nI (2 ^ i)) (nI i) := by
  intro d
  induction d with
  | zero =>
    intro i hi
    have e : i = j := by omega
    subst e
    exact br_t (nI_le (Nat.le_refl i) (by omega)) hp
  | succ d ih =>
    intro i hi
    refine br_f (nI_ge (by omega) (by omega)) (br_f (nI_ge (b := 15) (by omega) (by decide)) (nm_r (e' := nI (2 ^ (i + 1))) ?_ (nm_r (nI_1 i) (ih (i + 1) (by omega)))))
    exact pk_mul (2 ^ i) 2
theorem bs_powY {post : Int32 → Prop} (j : Nat) (hj : j ≤ 15) (hp : post (nI (2 ^ j))) : wpY_power post (nI j) :=
  ⟨_, bs_powL j hj hp j 0 (by omega)⟩
theorem bs_downY {post : Int32 → Prop} (x : Int32) (p : Nat) (h0 : 0 < p) (h1 : p ≤ 65536) (r : Int32) (hr : r.toInt = x.toInt / (p : Int)) (hp : post r) : wpY_down post x (nI p) := by
  have hpI : (nI p).toInt = (p : Int) := nI_toInt (by omega)
  have hne : nI p ≠ 0 := nI_ne0 h0 (by omega)
  have z0 : (0 : Int32).toInt = 0 := by decide
  have zm : (-1 : Int32).toInt = -1 := by decide
  have z1 : (1 : Int32).toInt = 1 := by decide
  have hm1 : nI p ≠ -1 := by
    intro e
    have := congrArg Int32.toInt e
    rw [hpI, zm] at this
    omega
  have hq := Int32.toInt_div_of_ne_right x (nI p) hm1
  rw [hpI] at hq
  have hx1 := Int32.le_toInt x
  have hx2 := Int32.toInt_lt x
  have hr1 := Int32.le_toInt r
  have hr2 := Int32.toInt_lt r
  have hd := Int.ediv_mul_add_emod x.toInt (p : Int)
  have hm0 := Int.emod_nonneg x.toInt (b := (p : Int)) (by omega)
  have hm2 := Int.emod_lt_of_pos x.toInt (b := (p : Int)) (by omega)
  refine br_t (nI_lt (a := 0) h0 (by omega)) ⟨hne, nm_e ?_⟩
  by_cases hc : 0 ≤ x.toInt ∨ (p : Int) ∣ x.toInt
  · have e : x / nI p = r := by
      apply Int32.toInt_inj.mp
      rw [hq, hr, Int.tdiv_eq_ediv, if_pos hc]
      omega
    rw [e]
    have hmul : (r * nI p).toInt = x.toInt - x.toInt % (p : Int) := by
      rw [Int32.toInt_mul, hpI, hr, show x.toInt / (p : Int) * (p : Int) = x.toInt - x.toInt % (p : Int) from by omega]
      apply Int.bmod_eq_of_le
      · rcases hc with hc | hc
        · omega
        · have := Int.emod_eq_zero_of_dvd hc
          omega
      · omega
    refine br_t ?_ hp
    rw [Int32.le_iff_toInt_le, hmul]
    omega
  · have hs : Int.sign (p : Int) = 1 := Int.sign_eq_one_of_pos (by omega)
    have hnd : ¬ (p : Int) ∣ x.toInt := fun h => hc (Or.inr h)
    have hneg : x.toInt < 0 := Int.not_le.mp fun h => hc (Or.inl h)
    have hm3 : x.toInt % (p : Int) ≠ 0 := fun h => hnd (Int.dvd_of_emod_eq_zero h)
    have e : (x / nI p).toInt = r.toInt + 1 := by
      rw [hq, hr, Int.tdiv_eq_ediv, if_neg hc, hs]
    have hmul : (x / nI p * nI p).toInt = x.toInt - x.toInt % (p : Int) + (p : Int) := by
      rw [Int32.toInt_mul, hpI, e, hr, Int.add_mul, show x.toInt / (p : Int) * (p : Int) = x.toInt - x.toInt % (p : Int) from by omega, Int.one_mul]
      exact Int.bmod_eq_of_le (by omega) (by omega)
    refine br_f ?_ ?_
    · rw [Int32.le_iff_toInt_le, hmul]
      omega
    · have e2 : x / nI p - 1 = r := by
        apply Int32.toInt_inj.mp
        rw [Int32.toInt_sub, e, z1, show r.toInt + 1 - 1 = r.toInt from by omega]
        exact Int.bmod_eq_of_le (by omega) (by omega)
      rw [e2]
      exact hp
theorem bs_sm : ∀ j, j < 32 → ((nI j &&& 31).toBitVec.smod 32).toNat = j := by decide +kernel
theorem bs_m15 : ∀ j, j < 16 → nI j &&& 31 = nI j := by decide +kernel
/-- a shift to the right rounds down -/
theorem bs_shr (x : Int32) {j : Nat} (hj : j < 32) : (x >>> (nI j &&& 31)).toInt = x.toInt / ((2 ^ j : Nat) : Int) := by
  rw [pk_shr x _ j (bs_sm j hj), Int.shiftRight_eq_div_pow]
theorem bs_shl (x : Int32) {j : Nat} (hj : j < 32) : x <<< (nI j &&& 31) = x * nI (2 ^ j) := by
  apply Int32.toBitVec_inj.mp
  apply BitVec.eq_of_toNat_eq
  rw [pk_shl x _ j (bs_sm j hj), Int32.toBitVec_mul, BitVec.toNat_mul, pk_tn (Nat.pow_lt_pow_right (by decide) hj)]
end
section
theorem bs_rootL (m : Nat) (hm : m < 65536) : ∀ d j : Nat, j + d = 255 → ∃ r : Int32, (∀ post : Int32 → Prop, post r → wX_root_7 post (nI m) (d + 1) (nI j)) ∧ (∀ post : Int32 → Prop, post r → wY_root_2 post (nI m) (d + 1) (nI j)) := by
  intro d
  induction d with
  | zero =>
    intro j hj
    have e : j = 255 := by omega
    subst e
    refine ⟨nI 255, fun post hp => br_t (nI_le (a := 255) (Nat.le_refl 255) (by decide)) hp, fun post hp => br_f (nI_ge (b := 256) (by decide) (by decide)) (br_t ?_ hp)⟩
    exact nI_lt (b := 65536) hm (by decide)
  | succ d ih =>
    intro j hj
    have hX : ¬ (255 : Int32) ≤ nI j := nI_ge (b := 255) (by omega) (by decide)
    have hY : ¬ (256 : Int32) ≤ nI j := nI_ge (b := 256) (by omega) (by decide)
    have hs : (nI j + 1) * (nI j + 1) = nI ((j + 1) * (j + 1)) := by rw [nI_1, pk_mul]
    have hb : (j + 1) * (j + 1) < 2 ^ 31 := Nat.lt_of_le_of_lt (Nat.mul_le_mul (show j + 1 ≤ 256 by omega) (show j + 1 ≤ 256 by omega)) (by decide)
    by_cases hc : m < (j + 1) * (j + 1)
    · have hc' : nI m < (nI j + 1) * (nI j + 1) := by rw [hs]; exact nI_lt hc hb
      exact ⟨nI j, fun post hp => br_f hX (br_t hc' hp), fun post hp => br_f hY (br_t hc' hp)⟩
    · have hc' : ¬ nI m < (nI j + 1) * (nI j + 1) := by rw [hs]; exact nI_nlt (by omega) (by omega)
      obtain ⟨r, h1, h2⟩ := ih (j + 1) (by omega)
      exact ⟨r, fun post hp => br_f hX (br_f hc' (nm_r (nI_1 j) (h1 post hp))), fun post hp => br_f hY (br_f hc' (nm_r (nI_1 j) (h2 post hp)))⟩
theorem bs_root (x : Int32) : ∃ r : Int32, (∀ post : Int32 → Prop, post r → wpX_root post x) ∧ (∀ post : Int32 → Prop, post r → wpY_root post (nI (bs_u x))) := by
  obtain ⟨r, h1, h2⟩ := bs_rootL (bs_u x) (bs_u_lt x) 255 0 rfl
  exact ⟨r, fun post hp => bs_unsX x ⟨_, h1 post hp⟩, fun post hp => ⟨_, h2 post hp⟩⟩
/-- bit i of x, by its low 16 bits -/
theorem bs_par (v : Int) (n u : Nat) (hn : (n : Int) = v ∨ (n : Int) = v + 4294967296) (hu : (u : Int) = v % 65536) (i : Nat) (hi : i < 16) (w : Int) (hw : w = v / ((2 ^ i : Nat) : Int)) : w % 2 = ((u / 2 ^ i % 2 : Nat) : Int) := by
  have h : i = 0 ∨ i = 1 ∨ i = 2 ∨ i = 3 ∨ i = 4 ∨ i = 5 ∨ i = 6 ∨ i = 7 ∨ i = 8 ∨ i = 9 ∨ i = 10 ∨ i = 11 ∨ i = 12 ∨ i = 13 ∨ i = 14 ∨ i = 15 := by omega
  clear hn hi
  rcases h with h | h | h | h | h | h | h | h | h | h | h | h | h | h | h | h <;> subst h <;> simp only [Nat.reducePow] at hw ⊢ <;> omega
theorem bs_bit (x : Int32) {i : Nat} (hi : i < 16) : (x >>> (nI i &&& 31)) &&& 1 = nI (bs_u x / 2 ^ i % 2) := by
  have h1 := bs_shr x (j := i) (by omega)
  have h2 := bs_nat (x >>> (nI i &&& 31))
  have h3 := bs_par x.toInt x.toBitVec.toNat (bs_u x) (bs_nat x) (bs_u_int x) i hi _ h1
  rw [pk_and _ 1 (by decide)]
  refine congrArg nI ?_
  generalize bs_u x / 2 ^ i % 2 = g at h3 ⊢
  generalize (x >>> (nI i &&& 31)).toInt = w at h2 h3
  generalize (x >>> (nI i &&& 31)).toBitVec.toNat = z at h2 ⊢
  omega
theorem bs_onesL (x : Int32) : ∀ (d i : Nat) (c : Int32), i + d = 16 → ∃ r : Int32, (∀ post : Int32 → Prop, post r → wX_ones_4 post x (d + 1) c (nI i)) ∧ (∀ post : Int32 → Prop, post r → wY_ones_6 post (d + 1) c (nI (bs_u x / 2 ^ i)) (nI i)) := by
  intro d
  induction d with
  | zero =>
    intro i c hi
    have e : i = 16 := by omega
    subst e
    have h : (16 : Int32) ≤ nI 16 := nI_le (a := 16) (Nat.le_refl 16) (by decide)
    exact ⟨c, fun post hp => br_t h hp, fun post hp => br_t h hp⟩
  | succ d ih =>
    intro i c hi
    have h : ¬ (16 : Int32) ≤ nI i := nI_ge (b := 16) (by omega) (by decide)
    have h2 : ¬ (2 : Int32) = 0 := by decide
    have hl : bs_u x / 2 ^ i < 2 ^ 31 := Nat.lt_of_le_of_lt (Nat.div_le_self _ _) (Nat.lt_trans (bs_u_lt x) (by decide))
    obtain ⟨r, hX, hY⟩ := ih (i + 1) (c + nI (bs_u x / 2 ^ i % 2)) (by omega)
    refine ⟨r, fun post hp => br_f h (nm_r (congrArg (c + ·) (bs_bit x (by omega))) (nm_r (nI_1 i) (hX post hp))), fun post hp => br_f h ⟨h2, nm_r (congrArg (c + ·) (pk_rem (d := 2) hl (by decide) (by decide))) ⟨h2, nm_r (e' := nI (bs_u x / 2 ^ (i + 1))) ?_ (nm_r (nI_1 i) (hY post hp))⟩⟩⟩
    have e := pk_div (d := 2) hl (by decide) (by decide)
    rw [Nat.div_div_eq_div_mul, ← Nat.pow_succ] at e
    exact e
theorem bs_ones (x : Int32) : ∃ r : Int32, (∀ post : Int32 → Prop, post r → wpX_ones post x) ∧ (∀ post : Int32 → Prop, post r → wpY_ones post (nI (bs_u x))) := by
  obtain ⟨r, h1, h2⟩ := bs_onesL x 16 0 0 rfl
  rw [Nat.pow_zero, Nat.div_one] at h2
  exact ⟨r, fun post hp => ⟨_, h1 post hp⟩, fun post hp => ⟨_, h2 post hp⟩⟩
theorem bs_totL (a b c d : Int32) (w o t f s o' t' f' s' : Nat → Int32) (hw : ∀ j, bs_ok (w j)) : ∀ (n i : Nat) (g : Int32), i + n = 8 → ∃ r : Int32, (∀ post : Int32 → Prop, post r → wX_total_4 post a b w o t f s (n + 1) g (nI i)) ∧ (∀ post : Int32 → Prop, post r → wY_total_4 post c d w o' t' f' s' (n + 1) g (nI i)) := by
  intro n
  induction n with
  | zero =>
    intro i g hi
    have e : i = 8 := by omega
    subst e
    have h : (8 : Int32) ≤ nI 8 := nI_le (a := 8) (Nat.le_refl 8) (by decide)
    exact ⟨g, fun post hp => br_t h hp, fun post hp => br_t h hp⟩
  | succ n ih =>
    intro i g hi
    have h : ¬ (8 : Int32) ≤ nI i := nI_ge (b := 8) (by omega) (by decide)
    have hin : vp_in (nI i) 8 := vp_in_nI (by omega) (by decide)
    obtain ⟨r, hX, hY⟩ := ih (i + 1) (g + nI (bs_u (w (nI i).toNatClampNeg))) (by omega)
    exact ⟨r, fun post hp => br_f h ⟨hin, bs_unsX _ (nm_e (nm_r (nI_1 i) (hX post hp)))⟩, fun post hp => br_f h ⟨hin, bs_plainY _ (hw _) (nm_e (nm_r (nI_1 i) (hY post hp)))⟩⟩
end
section
/-- what the reference's result asks behind its reads, its power and its plain -/
def bs_in (Q : Int32 → Prop) (o x y a p u : Int32) : Prop := (o = 0 → Q a) ∧ (¬ o = 0 → ((o = 1 → Q x) ∧ (¬ o = 1 → ((o = 11 → Q (x * p)) ∧ (¬ o = 11 → ((o = 12 → wpY_down Q x p) ∧ (¬ o = 12 → ((o = 15 → wpY_root Q u) ∧ (¬ o = 15 → ((o = 16 → wpY_ones Q u) ∧ (¬ o = 16 → wpY_two Q o x y)))))))))))
theorem bs_i7 (x : Int32) : vp_in (x &&& 7) 8 := pk_andIn x (m := 7) 3 (by decide) (by decide)
theorem bs_resY {Q : Int32 → Prop} (li ne : Int32) (w o t f s : Nat → Int32) (l : Nat) (hl : l < 32) (c : Int32) (hc : o (nI l).toNatClampNeg = c) (j : Nat) (hj : j ≤ 15) (hb : s (nI l).toNatClampNeg &&& 15 = nI j) (hw : ∀ j, bs_ok (w j))
    (H : bs_in Q c (w (f (nI l).toNatClampNeg &&& 7).toNatClampNeg) (w (s (nI l).toNatClampNeg &&& 7).toNatClampNeg) (f (nI l).toNatClampNeg) (nI (2 ^ j)) (nI (bs_u (w (f (nI l).toNatClampNeg &&& 7).toNatClampNeg)))) :
    wpY_result Q (li, ne, w, o, t, f, s) (nI l) := by
  have hin : vp_in (nI l) 32 := vp_in_nI hl (by decide)
  refine ⟨hin, nm_r hc ⟨hin, bs_i7 _, nm_e ⟨hin, bs_i7 _, nm_e ⟨hin, ?_⟩⟩⟩⟩
  rw [hb]
  exact bs_powY j hj (bs_plainY _ (hw _) ⟨fun e => ⟨hin, H.1 e⟩, H.2⟩)
theorem bs_at {P : Int32 → Prop} {a b : Int32} (e : a = b) (h : P a) : P b := e ▸ h
/-- one answer for both sides -/
def bs_one (o x y a b : Int32) (j : Nat) : Prop := ∃ r : Int32, (∀ P : Int32 → Prop, P r → wpX_result P o x y a b) ∧ (∀ Q : Int32 → Prop, Q r → bs_in Q o x y a (nI (2 ^ j)) (nI (bs_u x)))
theorem bs_op0 (x y a b : Int32) (j : Nat) (hj : j ≤ 15) (hb : b &&& 15 = nI j) : bs_one 0 x y a b j := 
  ⟨a, fun P hp => br_f (by decide) (br_f (by decide) (br_t (by decide) (hp))), fun Q hp => br_t (by decide) (hp)⟩
theorem bs_op1 (x y a b : Int32) (j : Nat) (hj : j ≤ 15) (hb : b &&& 15 = nI j) : bs_one 1 x y a b j := 
  ⟨x, fun P hp => br_f (by decide) (br_f (by decide) (br_f (by decide) (br_t (by decide) (hp)))), fun Q hp => br_f (by decide) (br_t (by decide) (hp))⟩
theorem bs_op2 (x y a b : Int32) (j : Nat) (hj : j ≤ 15) (hb : b &&& 15 = nI j) : bs_one 2 x y a b j := 
  ⟨x + y, fun P hp => br_f (by decide) (br_f (by decide) (br_f (by decide) (br_f (by decide) (br_t (by decide) (hp))))), fun Q hp => br_f (by decide) (br_f (by decide) (br_f (by decide) (br_f (by decide) (br_f (by decide) (br_f (by decide) (br_t (by decide) (hp)))))))⟩
theorem bs_op3 (x y a b : Int32) (j : Nat) (hj : j ≤ 15) (hb : b &&& 15 = nI j) : bs_one 3 x y a b j := 
  ⟨x - y, fun P hp => br_f (by decide) (br_f (by decide) (br_f (by decide) (br_f (by decide) (br_f (by decide) (br_t (by decide) (hp)))))), fun Q hp => br_f (by decide) (br_f (by decide) (br_f (by decide) (br_f (by decide) (br_f (by decide) (br_f (by decide) (br_f (by decide) (br_t (by decide) (hp))))))))⟩
theorem bs_op4 (x y a b : Int32) (j : Nat) (hj : j ≤ 15) (hb : b &&& 15 = nI j) : bs_one 4 x y a b j := 
  ⟨x * y, fun P hp => br_f (by decide) (br_f (by decide) (br_f (by decide) (br_f (by decide) (br_f (by decide) (br_f (by decide) (br_t (by decide) (hp))))))), fun Q hp => br_f (by decide) (br_f (by decide) (br_f (by decide) (br_f (by decide) (br_f (by decide) (br_f (by decide) (br_f (by decide) (br_f (by decide) (br_t (by decide) (hp)))))))))⟩
theorem bs_op5 (x y a b : Int32) (j : Nat) (hj : j ≤ 15) (hb : b &&& 15 = nI j) : bs_one 5 x y a b j := 
  ⟨(x * y) >>> ((16 : Int32) &&& 31), fun P hp => br_f (by decide) (br_f (by decide) (br_f (by decide) (br_f (by decide) (br_f (by decide) (br_f (by decide) (br_f (by decide) (br_t (by decide) (hp)))))))), fun Q hp => br_f (by decide) (br_f (by decide) (br_f (by decide) (br_f (by decide) (br_f (by decide) (br_f (by decide) (br_f (by decide) (br_f (by decide) (br_f (by decide) (br_t (by decide) (bs_downY (x * y) 65536 (by decide) (by decide) _ (bs_shr (x * y) (j := 16) (by decide)) hp))))))))))⟩
theorem bs_op6 (x y a b : Int32) (j : Nat) (hj : j ≤ 15) (hb : b &&& 15 = nI j) : bs_one 6 x y a b j := by
  by_cases z : y = 0
  · exact ⟨0, fun P hp => br_f (by decide) (br_f (by decide) (br_f (by decide) (br_f (by decide) (br_f (by decide) (br_f (by decide) (br_f (by decide) (br_f (by decide) (br_t (by decide) (br_t z hp))))))))), fun Q hp => br_f (by decide) (br_f (by decide) (br_f (by decide) (br_f (by decide) (br_f (by decide) (br_f (by decide) (br_f (by decide) (br_f (by decide) (br_f (by decide) (br_f (by decide) (br_t (by decide) (br_t z hp)))))))))))⟩
  · exact ⟨x / y, fun P hp => br_f (by decide) (br_f (by decide) (br_f (by decide) (br_f (by decide) (br_f (by decide) (br_f (by decide) (br_f (by decide) (br_f (by decide) (br_t (by decide) (br_f z ⟨z, hp⟩))))))))), fun Q hp => br_f (by decide) (br_f (by decide) (br_f (by decide) (br_f (by decide) (br_f (by decide) (br_f (by decide) (br_f (by decide) (br_f (by decide) (br_f (by decide) (br_f (by decide) (br_t (by decide) (br_f z ⟨z, hp⟩)))))))))))⟩
theorem bs_op7 (x y a b : Int32) (j : Nat) (hj : j ≤ 15) (hb : b &&& 15 = nI j) : bs_one 7 x y a b j := by
  by_cases z : y = 0
  · have e : x = x - y * 0 := by rw [Int32.mul_zero, Int32.sub_zero]
    exact ⟨x, fun P hp => br_f (by decide) (br_f (by decide) (br_f (by decide) (br_f (by decide) (br_f (by decide) (br_f (by decide) (br_f (by decide) (br_f (by decide) (br_f (by decide) (br_t (by decide) (br_t z hp)))))))))), fun Q hp => br_f (by decide) (br_f (by decide) (br_f (by decide) (br_f (by decide) (br_f (by decide) (br_f (by decide) (br_f (by decide) (br_f (by decide) (br_f (by decide) (br_f (by decide) (br_f (by decide) (br_t (by decide) (br_t z (bs_at e hp)))))))))))))⟩
  · have e : x - x / y * y = x - y * (x / y) := by rw [Int32.mul_comm]
    exact ⟨x - x / y * y, fun P hp => br_f (by decide) (br_f (by decide) (br_f (by decide) (br_f (by decide) (br_f (by decide) (br_f (by decide) (br_f (by decide) (br_f (by decide) (br_f (by decide) (br_t (by decide) (br_f z ⟨z, hp⟩)))))))))), fun Q hp => br_f (by decide) (br_f (by decide) (br_f (by decide) (br_f (by decide) (br_f (by decide) (br_f (by decide) (br_f (by decide) (br_f (by decide) (br_f (by decide) (br_f (by decide) (br_f (by decide) (br_t (by decide) (br_f z ⟨z, bs_at e hp⟩))))))))))))⟩
theorem bs_op8 (x y a b : Int32) (j : Nat) (hj : j ≤ 15) (hb : b &&& 15 = nI j) : bs_one 8 x y a b j := 
  ⟨x &&& y, fun P hp => br_f (by decide) (br_f (by decide) (br_f (by decide) (br_f (by decide) (br_f (by decide) (br_f (by decide) (br_f (by decide) (br_f (by decide) (br_f (by decide) (br_f (by decide) (br_t (by decide) (hp))))))))))), fun Q hp => br_f (by decide) (br_f (by decide) (br_f (by decide) (br_f (by decide) (br_f (by decide) (br_f (by decide) (br_f (by decide) (br_f (by decide) (br_f (by decide) (br_f (by decide) (br_f (by decide) (br_f (by decide) (br_t (by decide) (hp)))))))))))))⟩
theorem bs_op9 (x y a b : Int32) (j : Nat) (hj : j ≤ 15) (hb : b &&& 15 = nI j) : bs_one 9 x y a b j := 
  ⟨x ||| y, fun P hp => br_f (by decide) (br_f (by decide) (br_f (by decide) (br_f (by decide) (br_f (by decide) (br_f (by decide) (br_f (by decide) (br_f (by decide) (br_f (by decide) (br_f (by decide) (br_f (by decide) (br_t (by decide) (hp)))))))))))), fun Q hp => br_f (by decide) (br_f (by decide) (br_f (by decide) (br_f (by decide) (br_f (by decide) (br_f (by decide) (br_f (by decide) (br_f (by decide) (br_f (by decide) (br_f (by decide) (br_f (by decide) (br_f (by decide) (br_f (by decide) (br_t (by decide) (hp))))))))))))))⟩
theorem bs_op10 (x y a b : Int32) (j : Nat) (hj : j ≤ 15) (hb : b &&& 15 = nI j) : bs_one 10 x y a b j := 
  ⟨x ^^^ y, fun P hp => br_f (by decide) (br_f (by decide) (br_f (by decide) (br_f (by decide) (br_f (by decide) (br_f (by decide) (br_f (by decide) (br_f (by decide) (br_f (by decide) (br_f (by decide) (br_f (by decide) (br_f (by decide) (br_t (by decide) (hp))))))))))))), fun Q hp => br_f (by decide) (br_f (by decide) (br_f (by decide) (br_f (by decide) (br_f (by decide) (br_f (by decide) (br_f (by decide) (br_f (by decide) (br_f (by decide) (br_f (by decide) (br_f (by decide) (br_f (by decide) (br_f (by decide) (br_f (by decide) (br_t (by decide) (hp)))))))))))))))⟩
theorem bs_op11 (x y a b : Int32) (j : Nat) (hj : j ≤ 15) (hb : b &&& 15 = nI j) : bs_one 11 x y a b j := by
  have e : x * nI (2 ^ j) = x <<< ((b &&& 15) &&& 31) := by rw [hb, bs_shl x (j := j) (by omega)]
  exact ⟨x * nI (2 ^ j), fun P hp => br_f (by decide) (br_f (by decide) (br_f (by decide) (br_f (by decide) (br_f (by decide) (br_f (by decide) (br_f (by decide) (br_f (by decide) (br_f (by decide) (br_f (by decide) (br_f (by decide) (br_f (by decide) (br_f (by decide) (br_t (by decide) (bs_at e hp)))))))))))))), fun Q hp => br_f (by decide) (br_f (by decide) (br_t (by decide) (hp)))⟩
theorem bs_op12 (x y a b : Int32) (j : Nat) (hj : j ≤ 15) (hb : b &&& 15 = nI j) : bs_one 12 x y a b j := by
  have e : x >>> (nI j &&& 31) = x >>> ((b &&& 15) &&& 31) := by rw [hb]
  have h : 2 ^ j ≤ 2 ^ 15 := Nat.pow_le_pow_right (by decide) hj
  exact ⟨x >>> (nI j &&& 31), fun P hp => br_f (by decide) (br_f (by decide) (br_f (by decide) (br_f (by decide) (br_f (by decide) (br_f (by decide) (br_f (by decide) (br_f (by decide) (br_f (by decide) (br_f (by decide) (br_f (by decide) (br_f (by decide) (br_f (by decide) (br_f (by decide) (br_t (by decide) (bs_at e hp))))))))))))))), fun Q hp => br_f (by decide) (br_f (by decide) (br_f (by decide) (br_t (by decide) (bs_downY x (2 ^ j) (Nat.two_pow_pos j) (by omega) _ (bs_shr x (j := j) (by omega)) hp))))⟩
theorem bs_op13 (x y a b : Int32) (j : Nat) (hj : j ≤ 15) (hb : b &&& 15 = nI j) : bs_one 13 x y a b j := by
  by_cases z : y ≤ x
  · exact ⟨0, fun P hp => br_f (by decide) (br_f (by decide) (br_f (by decide) (br_f (by decide) (br_f (by decide) (br_f (by decide) (br_f (by decide) (br_f (by decide) (br_f (by decide) (br_f (by decide) (br_f (by decide) (br_f (by decide) (br_f (by decide) (br_f (by decide) (br_f (by decide) (br_t (by decide) (br_t z hp)))))))))))))))), fun Q hp => br_f (by decide) (br_f (by decide) (br_f (by decide) (br_f (by decide) (br_f (by decide) (br_f (by decide) (br_f (by decide) (br_f (by decide) (br_f (by decide) (br_f (by decide) (br_f (by decide) (br_f (by decide) (br_f (by decide) (br_f (by decide) (br_f (by decide) (br_t (by decide) (br_t z hp))))))))))))))))⟩
  · exact ⟨1, fun P hp => br_f (by decide) (br_f (by decide) (br_f (by decide) (br_f (by decide) (br_f (by decide) (br_f (by decide) (br_f (by decide) (br_f (by decide) (br_f (by decide) (br_f (by decide) (br_f (by decide) (br_f (by decide) (br_f (by decide) (br_f (by decide) (br_f (by decide) (br_t (by decide) (br_f z hp)))))))))))))))), fun Q hp => br_f (by decide) (br_f (by decide) (br_f (by decide) (br_f (by decide) (br_f (by decide) (br_f (by decide) (br_f (by decide) (br_f (by decide) (br_f (by decide) (br_f (by decide) (br_f (by decide) (br_f (by decide) (br_f (by decide) (br_f (by decide) (br_f (by decide) (br_t (by decide) (br_f z hp))))))))))))))))⟩
theorem bs_op14 (x y a b : Int32) (j : Nat) (hj : j ≤ 15) (hb : b &&& 15 = nI j) : bs_one 14 x y a b j := by
  by_cases z : x = y
  · exact ⟨1, fun P hp => br_f (by decide) (br_f (by decide) (br_f (by decide) (br_f (by decide) (br_f (by decide) (br_f (by decide) (br_f (by decide) (br_f (by decide) (br_f (by decide) (br_f (by decide) (br_f (by decide) (br_f (by decide) (br_f (by decide) (br_f (by decide) (br_f (by decide) (br_f (by decide) (br_t (by decide) (br_t z hp))))))))))))))))), fun Q hp => br_f (by decide) (br_f (by decide) (br_f (by decide) (br_f (by decide) (br_f (by decide) (br_f (by decide) (br_f (by decide) (br_f (by decide) (br_f (by decide) (br_f (by decide) (br_f (by decide) (br_f (by decide) (br_f (by decide) (br_f (by decide) (br_f (by decide) (br_f (by decide) (br_t z hp))))))))))))))))⟩
  · exact ⟨0, fun P hp => br_f (by decide) (br_f (by decide) (br_f (by decide) (br_f (by decide) (br_f (by decide) (br_f (by decide) (br_f (by decide) (br_f (by decide) (br_f (by decide) (br_f (by decide) (br_f (by decide) (br_f (by decide) (br_f (by decide) (br_f (by decide) (br_f (by decide) (br_f (by decide) (br_t (by decide) (br_f z hp))))))))))))))))), fun Q hp => br_f (by decide) (br_f (by decide) (br_f (by decide) (br_f (by decide) (br_f (by decide) (br_f (by decide) (br_f (by decide) (br_f (by decide) (br_f (by decide) (br_f (by decide) (br_f (by decide) (br_f (by decide) (br_f (by decide) (br_f (by decide) (br_f (by decide) (br_f (by decide) (br_f z hp))))))))))))))))⟩
theorem bs_op15 (x y a b : Int32) (j : Nat) (hj : j ≤ 15) (hb : b &&& 15 = nI j) : bs_one 15 x y a b j := by
  obtain ⟨r, hX, hY⟩ := bs_root x
  exact ⟨r, fun P hp => br_f (by decide) (br_f (by decide) (br_f (by decide) (br_f (by decide) (br_f (by decide) (br_f (by decide) (br_f (by decide) (br_f (by decide) (br_f (by decide) (br_f (by decide) (br_f (by decide) (br_f (by decide) (br_f (by decide) (br_f (by decide) (br_f (by decide) (br_f (by decide) (br_f (by decide) (br_t (by decide) (hX P hp)))))))))))))))))), fun Q hp => br_f (by decide) (br_f (by decide) (br_f (by decide) (br_f (by decide) (br_t (by decide) (hY Q hp)))))⟩
theorem bs_op16 (x y a b : Int32) (j : Nat) (hj : j ≤ 15) (hb : b &&& 15 = nI j) : bs_one 16 x y a b j := by
  obtain ⟨r, hX, hY⟩ := bs_ones x
  exact ⟨r, fun P hp => br_f (by decide) (br_f (by decide) (br_f (by decide) (br_f (by decide) (br_f (by decide) (br_f (by decide) (br_f (by decide) (br_f (by decide) (br_f (by decide) (br_f (by decide) (br_f (by decide) (br_f (by decide) (br_f (by decide) (br_f (by decide) (br_f (by decide) (br_f (by decide) (br_f (by decide) (br_f (by decide) (br_t (by decide) (hX P hp))))))))))))))))))), fun Q hp => br_f (by decide) (br_f (by decide) (br_f (by decide) (br_f (by decide) (br_f (by decide) (br_t (by decide) (hY Q hp))))))⟩
theorem bs_op (o : Nat) (ho : o ≤ 16) (x y a b : Int32) (j : Nat) (hj : j ≤ 15) (hb : b &&& 15 = nI j) : bs_one (nI o) x y a b j :=
  match o, ho with
  | 0, _ => bs_op0 x y a b j hj hb
  | 1, _ => bs_op1 x y a b j hj hb
  | 2, _ => bs_op2 x y a b j hj hb
  | 3, _ => bs_op3 x y a b j hj hb
  | 4, _ => bs_op4 x y a b j hj hb
  | 5, _ => bs_op5 x y a b j hj hb
  | 6, _ => bs_op6 x y a b j hj hb
  | 7, _ => bs_op7 x y a b j hj hb
  | 8, _ => bs_op8 x y a b j hj hb
  | 9, _ => bs_op9 x y a b j hj hb
  | 10, _ => bs_op10 x y a b j hj hb
  | 11, _ => bs_op11 x y a b j hj hb
  | 12, _ => bs_op12 x y a b j hj hb
  | 13, _ => bs_op13 x y a b j hj hb
  | 14, _ => bs_op14 x y a b j hj hb
  | 15, _ => bs_op15 x y a b j hj hb
  | 16, _ => bs_op16 x y a b j hj hb
  | n + 17, h => absurd h (by omega)
end
section
theorem bs_upd_ok {w : Nat → Int32} (hw : ∀ j, bs_ok (w j)) (k : Nat) {x : Int32} (hx : bs_ok x) : ∀ j, bs_ok (upd w k x j) := by
  intro j
  by_cases e : j = k
  · rw [e, pk_us]
    exact hx
  · rw [pk_un e]
    exact hw j
theorem bs_carry (L nx : Nat) (w o t f s : Nat → Int32) (hL : L ≤ 32) (hn : nx < L) (hw : ∀ j, bs_ok (w j)) (ho : ∀ j, ∃ q : Nat, q ≤ 18 ∧ o j = nI q) :
    ∃ (nx' : Nat) (w' : Nat → Int32), nx' ≤ 40 ∧ (∀ j, bs_ok (w' j)) ∧
      (∀ P : SX → Prop, P (nI L, nI nx', w', o, t, f, s) → wpX_carryOut P (nI L, nI nx, w, o, t, f, s) (nI nx)) ∧
      (∀ Q : SY → Prop, Q (nI L, nI nx', w', o, (fun j => t j &&& 7), f, s) → wpY_carryOut Q (nI L, nI nx, w, o, (fun j => t j &&& 7), f, s) (nI nx)) := by
  have hin : vp_in (nI nx) 32 := vp_in_nI (by omega) (by decide)
  obtain ⟨q, hq, eo⟩ := ho (nI nx).toNatClampNeg
  by_cases h17 : q = 17
  · subst h17
    by_cases z : w (f (nI nx).toNatClampNeg &&& 7).toNatClampNeg = 0
    · obtain ⟨j, hj, ej⟩ := pk_andE (s (nI nx).toNatClampNeg) (m := 7) 3 (by decide)
      have e1 : nI (nx + 1) + (s (nI nx).toNatClampNeg &&& 7) = nI (nx + 1 + j) := by rw [ej, nI_add]
      have e2 : nI (nx + 1 + j) = nI nx + 1 + (s (nI nx).toNatClampNeg &&& 7) := by rw [nI_1, e1]
      refine ⟨nx + 1 + j, w, by omega, hw, fun P hp => ⟨hin, nm_r eo ⟨hin, bs_i7 _, nm_e ⟨hin, nm_e (br_t (by decide) (br_t z ?_))⟩⟩⟩, fun Q hp => ⟨hin, bs_i7 _, nm_e ⟨hin, nm_e (nm_r (nI_1 nx) ⟨hin, br_t eo (br_t z (nm_r e1 hp))⟩)⟩⟩⟩
      exact bs_at (P := fun r => P (nI L, r, w, o, t, f, s)) e2 hp
    · refine ⟨nx + 1, w, by omega, hw, fun P hp => ⟨hin, nm_r eo ⟨hin, bs_i7 _, nm_e ⟨hin, nm_e (br_t (by decide) (br_f z ?_))⟩⟩⟩, fun Q hp => ⟨hin, bs_i7 _, nm_e ⟨hin, nm_e (nm_r (nI_1 nx) ⟨hin, br_t eo (br_f z hp)⟩)⟩⟩⟩
      exact bs_at (P := fun r => P (nI L, r, w, o, t, f, s)) (nI_1 nx).symm hp
  · have n17 : ¬ nI q = 17 := fun e => h17 ((nI_eq (b := 17) (by omega) (by decide)).mp e)
    have m17 : ¬ o (nI nx).toNatClampNeg = 17 := by rw [eo]; exact n17
    by_cases h18 : q = 18
    · subst h18
      by_cases z : w (f (nI nx).toNatClampNeg &&& 7).toNatClampNeg = 0
      · refine ⟨nx + 1, w, by omega, hw, fun P hp => ⟨hin, nm_r eo ⟨hin, bs_i7 _, nm_e ⟨hin, nm_e (br_f n17 (br_t (by decide) (br_t z ?_)))⟩⟩⟩, fun Q hp => ⟨hin, bs_i7 _, nm_e ⟨hin, nm_e (nm_r (nI_1 nx) ⟨hin, br_f m17 ⟨hin, br_t eo (br_t z hp)⟩⟩)⟩⟩⟩
        exact bs_at (P := fun r => P (nI L, r, w, o, t, f, s)) (nI_1 nx).symm hp
      · obtain ⟨j, hj, ej⟩ := pk_andE (s (nI nx).toNatClampNeg) (m := 31) 5 (by decide)
        have hj2 : j < 32 := hj
        by_cases hc : j ≤ nx
        · have e1 : nI nx - (s (nI nx).toNatClampNeg &&& 31) = nI (nx - j) := by rw [ej, pk_sub hc]
          have h0 : (0 : Int32) ≤ nI (nx - j) := nI_pos' (by omega)
          have h1 : (0 : Int32) ≤ nI nx - (s (nI nx).toNatClampNeg &&& 31) := by rw [e1]; exact h0
          exact ⟨nx - j, w, by omega, hw, fun P hp => ⟨hin, nm_r eo ⟨hin, bs_i7 _, nm_e ⟨hin, nm_e (br_f n17 (br_t (by decide) (br_f z (nm_r e1 (br_t h0 hp)))))⟩⟩⟩, fun Q hp => ⟨hin, bs_i7 _, nm_e ⟨hin, nm_e (nm_r (nI_1 nx) ⟨hin, br_f m17 ⟨hin, br_t eo (br_f z (br_t h1 (nm_r e1 hp)))⟩⟩)⟩⟩⟩
        · have h1 : ¬ (0 : Int32) ≤ nI nx - (s (nI nx).toNatClampNeg &&& 31) := by
            rw [ej, Int32.le_iff_toInt_le, pk_sub_toInt (by omega) (by omega), show (0 : Int32).toInt = 0 from by decide]
            omega
          exact ⟨0, w, by omega, hw, fun P hp => ⟨hin, nm_r eo ⟨hin, bs_i7 _, nm_e ⟨hin, nm_e (br_f n17 (br_t (by decide) (br_f z (nm_e (br_f h1 hp)))))⟩⟩⟩, fun Q hp => ⟨hin, bs_i7 _, nm_e ⟨hin, nm_e (nm_r (nI_1 nx) ⟨hin, br_f m17 ⟨hin, br_t eo (br_f z (br_f h1 hp))⟩⟩)⟩⟩⟩
    · have n18 : ¬ nI q = 18 := fun e => h18 ((nI_eq (b := 18) (by omega) (by decide)).mp e)
      have m18 : ¬ o (nI nx).toNatClampNeg = 18 := by rw [eo]; exact n18
      obtain ⟨j, hj, ej⟩ := pk_andE (s (nI nx).toNatClampNeg) (m := 15) 4 (by decide)
      have hj2 : j < 16 := hj
      obtain ⟨r, hX, hY⟩ := bs_op q (by omega) (w (f (nI nx).toNatClampNeg &&& 7).toNatClampNeg) (w (s (nI nx).toNatClampNeg &&& 7).toNatClampNeg) (f (nI nx).toNatClampNeg) (s (nI nx).toNatClampNeg) j (by omega) ej
      refine ⟨nx + 1, upd w (t (nI nx).toNatClampNeg &&& 7).toNatClampNeg r.toInt16.toInt32, by omega, bs_upd_ok hw _ (bs_w_ok r), fun P hp => ?_, fun Q hp => ?_⟩
      · exact ⟨hin, nm_r eo ⟨hin, bs_i7 _, nm_e ⟨hin, nm_e (br_f n17 (br_f n18 ⟨bs_i7 _, nm_e ⟨hin, hX _ ⟨hin, ⟨bs_i7 _, nm_e (nm_r (nI_1 nx) hp)⟩⟩⟩⟩))⟩⟩⟩
      · exact ⟨hin, bs_i7 _, nm_e ⟨hin, nm_e (nm_r (nI_1 nx) ⟨hin, br_f m17 ⟨hin, br_f m18 (bs_resY _ _ w o _ f s nx (by omega) (nI q) eo j (by omega) ej hw (hY _ ⟨hin, bs_wY r ⟨bs_i7 _, nm_e hp⟩⟩))⟩⟩)⟩⟩
theorem bs_runL (m : Nat) (hm : m ≤ 60) (L : Nat) (hL : L ≤ 32) (o t f s : Nat → Int32) (ho : ∀ j, ∃ q : Nat, q ≤ 18 ∧ o j = nI q) :
    ∀ (d i nx : Nat) (w : Nat → Int32), i + d = m → nx ≤ 40 → (∀ j, bs_ok (w j)) →
      ∃ (r : Int32) (nx' : Nat) (w' : Nat → Int32), nx' ≤ 40 ∧ (∀ j, bs_ok (w' j)) ∧
        (∀ P : Int32 → SX → Prop, P r (nI L, nI nx', w', o, t, f, s) → wX_run_15 P (nI m) (d + 1) (nI i) (nI L) (nI nx) w o t f s) ∧
        (∀ Q : Int32 → SY → Prop, Q r (nI L, nI nx', w', o, (fun j => t j &&& 7), f, s) → wY_run_23 Q (nI m) (d + 1) (nI i) (nI L) (nI nx) w o (fun j => t j &&& 7) f s) := by
  intro d
  induction d with
  | zero =>
    intro i nx w hi hn hw
    have e : i = m := by omega
    subst e
    have h : nI i ≤ nI i := nI_le (Nat.le_refl i) (by omega)
    exact ⟨nI i, nx, w, hn, hw, fun P hp => br_t h hp, fun Q hp => br_t h hp⟩
  | succ d ih =>
    intro i nx w hi hn hw
    have h : ¬ nI m ≤ nI i := nI_ge (by omega) (by omega)
    by_cases hc : nx < L
    · obtain ⟨n1, w1, hn1, hw1, hX, hY⟩ := bs_carry L nx w o t f s hL hc hw ho
      obtain ⟨r, n2, w2, hn2, hw2, iX, iY⟩ := ih (i + 1) n1 w1 (by omega) hn1 hw1
      exact ⟨r, n2, w2, hn2, hw2, fun P hp => br_f h (br_f (nI_ge hc (by omega)) (hX _ (nm_r (nI_1 i) (iX P hp)))), fun Q hp => br_f h (br_t (nI_lt hc (by omega)) (hY _ (nm_r (nI_1 i) (iY Q hp))))⟩
    · exact ⟨nI i, nx, w, hn, hw, fun P hp => br_f h (br_t (nI_le (by omega) (by omega)) hp), fun Q hp => br_f h (br_f (nI_nlt (by omega) (by omega)) hp)⟩
end
section
theorem bs_07 : (0 : Int32) = 0 &&& 7 := by decide
theorem bs_ok0 : bs_ok 0 := ⟨by decide, by decide⟩
theorem bs_tup {d : Nat → Int32} (e : (fun _ => 0) = d) : (((0 : Int32), (0 : Int32), (fun _ => 0), (fun _ => 0), (fun _ => 0), (fun _ => 0), (fun _ => 0)) : SY) = (nI 0, nI 0, (fun _ => 0), (fun _ => 0), d, (fun _ => 0), (fun _ => 0)) := by
  subst e
  rfl
def i_Rel (k : Nat) (u : SX) (v : SY) : Prop := ∃ (L nx : Nat) (w o t f s : Nat → Int32), u = (nI L, nI nx, w, o, t, f, s) ∧ v = (nI L, nI nx, w, o, (fun j => t j &&& 7), f, s) ∧ L ≤ 32 ∧ nx ≤ 40 ∧ (∀ j, bs_ok (w j)) ∧ (∀ j, ∃ q : Nat, q ≤ 18 ∧ o j = nI q)
theorem i_up {k : Nat} {u : SX} {v : SY} (h : i_Rel k u v) : i_Rel (k + 5) u v := h
theorem i_vc0 : wpX_init (fun u => wpY_init (fun v => i_Rel 0 u v)) := by
  have e : (fun _ => 0 : Nat → Int32) = fun _ => 0 &&& 7 := by
    funext j
    exact bs_07
  exact ⟨0, 0, fun _ => 0, fun _ => 0, fun _ => 0, fun _ => 0, fun _ => 0, rfl, bs_tup e, by decide, by decide, fun _ => bs_ok0, fun _ => ⟨0, by decide, rfl⟩⟩
theorem i_vc_emit {k : Nat} {u : SX} {v : SY} (I : i_Rel k u v) (hk : k + 5 ≤ 2560) (v1 : Int32) (v2 : Int32) (v3 : Int32) (v4 : Int32) : wpX_emit (fun r u' => wpY_emit (fun r' v' => r' = r ∧ i_Rel (k + 5) u' v') v v1 v2 v3 v4) u v1 v2 v3 v4 := by
  obtain ⟨L, nx, w, o, t, f, s, rfl, rfl, hL, hn, hw, ho⟩ := I
  by_cases h0 : v1 < 0
  · exact br_t h0 (br_t h0 ⟨rfl, L, nx, w, o, t, f, s, rfl, rfl, hL, hn, hw, ho⟩)
  · by_cases h18 : 18 < v1
    · exact br_f h0 (br_t h18 (br_f h0 (br_t h18 ⟨rfl, L, nx, w, o, t, f, s, rfl, rfl, hL, hn, hw, ho⟩)))
    · by_cases hc : L < 32
      · have hin : vp_in (nI L) 32 := vp_in_nI hc (by decide)
        have hX : nI L < 32 := nI_lt (b := 32) hc (by decide)
        have hY : ¬ nI L = 32 := fun e => absurd ((nI_eq (b := 32) (by omega) (by decide)).mp e) (by omega)
        have ed : upd (fun j => t j &&& 7) (nI L).toNatClampNeg (v2 &&& 7) = fun j => upd t (nI L).toNatClampNeg v2 j &&& 7 := by
          funext j
          by_cases e : j = (nI L).toNatClampNeg
          · rw [e, pk_us, pk_us]
          · rw [pk_un e, pk_un e]
        have ho' : ∀ j, ∃ q : Nat, q ≤ 18 ∧ upd o (nI L).toNatClampNeg v1 j = nI q := by
          intro j
          by_cases e : j = (nI L).toNatClampNeg
          · rw [e, pk_us]
            exact nI_of2 (M := 18) (n := 18) (by decide) h0 (Int32.not_lt.mp h18)
          · rw [pk_un e]
            exact ho j
        refine br_f h0 (br_f h18 (br_t hX ⟨hin, nm_e ⟨hin, nm_e ⟨hin, nm_e ⟨hin, nm_e (nm_r (nI_1 L) ?_)⟩⟩⟩⟩))
        refine br_f h0 (br_f h18 (br_f hY ⟨hin, nm_e ⟨hin, nm_r ed ⟨hin, nm_e ⟨hin, nm_e (nm_r (nI_1 L) ?_)⟩⟩⟩⟩))
        exact ⟨rfl, L + 1, nx, w, _, _, _, _, rfl, rfl, by omega, hn, hw, ho'⟩
      · have e : L = 32 := by omega
        subst e
        have hX : ¬ nI 32 < 32 := nI_nlt (b := 32) (Nat.le_refl 32) (by decide)
        exact br_f h0 (br_f h18 (br_f hX (br_f h0 (br_f h18 (br_t (by decide) ⟨rfl, 32, nx, w, o, t, f, s, rfl, rfl, hL, hn, hw, ho⟩)))))
theorem i_vc_clear {k : Nat} {u : SX} {v : SY} (I : i_Rel k u v) (hk : k + 5 ≤ 2560) : wpX_clear (fun u' => wpY_clear (fun v' => i_Rel (k + 5) u' v') v) u := by
  obtain ⟨L, nx, w, o, t, f, s, rfl, rfl, hL, hn, hw, ho⟩ := I
  exact ⟨0, 0, w, o, t, f, s, rfl, rfl, by decide, by decide, hw, ho⟩
theorem i_vc_set {k : Nat} {u : SX} {v : SY} (I : i_Rel k u v) (hk : k + 5 ≤ 2560) (v1 : Int32) (v2 : Int32) : wpX_set (fun u' => wpY_set (fun v' => i_Rel (k + 5) u' v') v v1 v2) u v1 v2 := by
  obtain ⟨L, nx, w, o, t, f, s, rfl, rfl, hL, hn, hw, ho⟩ := I
  exact ⟨bs_i7 _, nm_e (bs_wY v2 ⟨bs_i7 _, nm_e ⟨L, nx, _, o, t, f, s, rfl, rfl, hL, hn, bs_upd_ok hw _ (bs_w_ok v2), ho⟩⟩)⟩
theorem i_vc_get {k : Nat} {u : SX} {v : SY} (I : i_Rel k u v) (hk : k + 5 ≤ 2560) (v1 : Int32) : wpX_get (fun r => wpY_get (fun r' => r' = r ∧ i_Rel (k + 5) u v) v v1) u v1 := by
  obtain ⟨L, nx, w, o, t, f, s, rfl, rfl, hL, hn, hw, ho⟩ := I
  exact ⟨bs_i7 _, bs_i7 _, rfl, L, nx, w, o, t, f, s, rfl, rfl, hL, hn, hw, ho⟩
theorem i_vc_rewind {k : Nat} {u : SX} {v : SY} (I : i_Rel k u v) (hk : k + 5 ≤ 2560) : wpX_rewind (fun u' => wpY_rewind (fun v' => i_Rel (k + 5) u' v') v) u := by
  obtain ⟨L, nx, w, o, t, f, s, rfl, rfl, hL, hn, hw, ho⟩ := I
  exact ⟨L, 0, w, o, t, f, s, rfl, rfl, hL, by decide, hw, ho⟩
theorem i_vc_run {k : Nat} {u : SX} {v : SY} (I : i_Rel k u v) (hk : k + 5 ≤ 2560) (v1 : Int32) : wpX_run (fun r u' => wpY_run (fun r' v' => r' = r ∧ i_Rel (k + 5) u' v') v v1) u v1 := by
  obtain ⟨L, nx, w, o, t, f, s, rfl, rfl, hL, hn, hw, ho⟩ := I
  by_cases h0 : 0 ≤ v1
  · by_cases h60 : v1 ≤ 60
    · obtain ⟨m, hm, rfl⟩ := nI_of2 (M := 60) (n := 60) (by decide) (Int32.not_lt.mpr h0) h60
      obtain ⟨r, n2, w2, hn2, hw2, hX, hY⟩ := bs_runL m hm L hL o t f s ho m 0 nx w (by omega) hn hw
      exact br_t h60 ⟨_, hX _ (br_t h0 (br_t h60 ⟨_, hY _ ⟨rfl, L, n2, w2, o, t, f, s, rfl, rfl, hL, hn2, hw2, ho⟩⟩))⟩
    · obtain ⟨r, n2, w2, hn2, hw2, hX, hY⟩ := bs_runL 60 (by decide) L hL o t f s ho 60 0 nx w (by omega) hn hw
      exact br_f h60 ⟨_, hX _ (br_t h0 (br_f h60 ⟨_, hY _ ⟨rfl, L, n2, w2, o, t, f, s, rfl, rfl, hL, hn2, hw2, ho⟩⟩))⟩
  · have hl : v1 ≤ 0 := Int32.le_of_lt (Int32.not_le.mp h0)
    have h60 : v1 ≤ 60 := Int32.le_trans hl (by decide)
    exact br_t h60 ⟨1, br_t hl (br_f h0 ⟨1, br_t (by decide) ⟨rfl, L, nx, w, o, t, f, s, rfl, rfl, hL, hn, hw, ho⟩⟩)⟩
theorem i_vc_next {k : Nat} {u : SX} {v : SY} (I : i_Rel k u v) (hk : k + 5 ≤ 2560) : wpX_next (fun r => wpY_next (fun r' => r' = r ∧ i_Rel (k + 5) u v) v) u := by
  obtain ⟨L, nx, w, o, t, f, s, rfl, rfl, hL, hn, hw, ho⟩ := I
  exact ⟨rfl, L, nx, w, o, t, f, s, rfl, rfl, hL, hn, hw, ho⟩
theorem i_vc_total {k : Nat} {u : SX} {v : SY} (I : i_Rel k u v) (hk : k + 5 ≤ 2560) : wpX_total (fun r => wpY_total (fun r' => r' = r ∧ i_Rel (k + 5) u v) v) u := by
  obtain ⟨L, nx, w, o, t, f, s, rfl, rfl, hL, hn, hw, ho⟩ := I
  obtain ⟨r, hX, hY⟩ := bs_totL (nI L) (nI nx) (nI L) (nI nx) w o t f s o (fun j => t j &&& 7) f s hw 8 0 0 rfl
  exact ⟨_, hX _ ⟨_, hY _ ⟨rfl, L, nx, w, o, t, f, s, rfl, rfl, hL, hn, hw, ho⟩⟩⟩
end
