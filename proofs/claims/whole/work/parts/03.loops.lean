theorem bs_rootL (m : Nat) (hm : m < 65536) : ∀ d j : Nat, j + d = 255 → ∃ r : Int32, (∀ post : Int32 → Prop, post r → wX_root_7 post (nI m) (d + 1) (nI j)) ∧ (∀ post : Int32 → Prop, post r → wY_root_2 post (nI m) (d + 1) (nI j)) := by
  intro d
  induction d with
  | zero =>
    intro j hj
    have e : j = 255 := by omega
    subst e
    refine ⟨nI 255, fun post hp => br_t (nI_le (a := 255) (Nat.le_refl 255) (by decide)) hp, fun post hp => br_f (nI_ge (b := 256) (by decide) (by decide)) (br_t ?_ hp)⟩
    exact nI_lt (b := 65536) hm (by decide)
  | succ d ih =>
    intro j hj
    have hX : ¬ (255 : Int32) ≤ nI j := nI_ge (b := 255) (by omega) (by decide)
    have hY : ¬ (256 : Int32) ≤ nI j := nI_ge (b := 256) (by omega) (by decide)
    have hs : (nI j + 1) * (nI j + 1) = nI ((j + 1) * (j + 1)) := by rw [nI_1, pk_mul]
    have hb : (j + 1) * (j + 1) < 2 ^ 31 := Nat.lt_of_le_of_lt (Nat.mul_le_mul (show j + 1 ≤ 256 by omega) (show j + 1 ≤ 256 by omega)) (by decide)
    by_cases hc : m < (j + 1) * (j + 1)
    · have hc' : nI m < (nI j + 1) * (nI j + 1) := by rw [hs]; exact nI_lt hc hb
      exact ⟨nI j, fun post hp => br_f hX (br_t hc' hp), fun post hp => br_f hY (br_t hc' hp)⟩
    · have hc' : ¬ nI m < (nI j + 1) * (nI j + 1) := by rw [hs]; exact nI_nlt (by omega) (by omega)
      obtain ⟨r, h1, h2⟩ := ih (j + 1) (by omega)
      exact ⟨r, fun post hp => br_f hX (br_f hc' (nm_r (nI_1 j) (h1 post hp))), fun post hp => br_f hY (br_f hc' (nm_r (nI_1 j) (h2 post hp)))⟩
theorem bs_root (x : Int32) : ∃ r : Int32, (∀ post : Int32 → Prop, post r → wpX_root post x) ∧ (∀ post : Int32 → Prop, post r → wpY_root post (nI (bs_u x))) := by
  obtain ⟨r, h1, h2⟩ := bs_rootL (bs_u x) (bs_u_lt x) 255 0 rfl
  exact ⟨r, fun post hp => bs_unsX x ⟨_, h1 post hp⟩, fun post hp => ⟨_, h2 post hp⟩⟩
/-- bit i of x, by its low 16 bits -/
theorem bs_par (v : Int) (n u : Nat) (hn : (n : Int) = v ∨ (n : Int) = v + 4294967296) (hu : (u : Int) = v % 65536) (i : Nat) (hi : i < 16) (w : Int) (hw : w = v / ((2 ^ i : Nat) : Int)) : w % 2 = ((u / 2 ^ i % 2 : Nat) : Int) := by
  have h : i = 0 ∨ i = 1 ∨ i = 2 ∨ i = 3 ∨ i = 4 ∨ i = 5 ∨ i = 6 ∨ i = 7 ∨ i = 8 ∨ i = 9 ∨ i = 10 ∨ i = 11 ∨ i = 12 ∨ i = 13 ∨ i = 14 ∨ i = 15 := by omega
  clear hn hi
  rcases h with h | h | h | h | h | h | h | h | h | h | h | h | h | h | h | h <;> subst h <;> simp only [Nat.reducePow] at hw ⊢ <;> omega
theorem bs_bit (x : Int32) {i : Nat} (hi : i < 16) : (x >>> (nI i &&& 31)) &&& 1 = nI (bs_u x / 2 ^ i % 2) := by
  have h1 := bs_shr x (j := i) (by omega)
  have h2 := bs_nat (x >>> (nI i &&& 31))
  have h3 := bs_par x.toInt x.toBitVec.toNat (bs_u x) (bs_nat x) (bs_u_int x) i hi _ h1
  rw [pk_and _ 1 (by decide)]
  refine congrArg nI ?_
  generalize bs_u x / 2 ^ i % 2 = g at h3 ⊢
  generalize (x >>> (nI i &&& 31)).toInt = w at h2 h3
  generalize (x >>> (nI i &&& 31)).toBitVec.toNat = z at h2 ⊢
  omega
theorem bs_onesL (x : Int32) : ∀ (d i : Nat) (c : Int32), i + d = 16 → ∃ r : Int32, (∀ post : Int32 → Prop, post r → wX_ones_4 post x (d + 1) c (nI i)) ∧ (∀ post : Int32 → Prop, post r → wY_ones_6 post (d + 1) c (nI (bs_u x / 2 ^ i)) (nI i)) := by
  intro d
  induction d with
  | zero =>
    intro i c hi
    have e : i = 16 := by omega
    subst e
    have h : (16 : Int32) ≤ nI 16 := nI_le (a := 16) (Nat.le_refl 16) (by decide)
    exact ⟨c, fun post hp => br_t h hp, fun post hp => br_t h hp⟩
  | succ d ih =>
    intro i c hi
    have h : ¬ (16 : Int32) ≤ nI i := nI_ge (b := 16) (by omega) (by decide)
    have h2 : ¬ (2 : Int32) = 0 := by decide
    have hl : bs_u x / 2 ^ i < 2 ^ 31 := Nat.lt_of_le_of_lt (Nat.div_le_self _ _) (Nat.lt_trans (bs_u_lt x) (by decide))
    obtain ⟨r, hX, hY⟩ := ih (i + 1) (c + nI (bs_u x / 2 ^ i % 2)) (by omega)
    refine ⟨r, fun post hp => br_f h (nm_r (congrArg (c + ·) (bs_bit x (by omega))) (nm_r (nI_1 i) (hX post hp))), fun post hp => br_f h ⟨h2, nm_r (congrArg (c + ·) (pk_rem (d := 2) hl (by decide) (by decide))) ⟨h2, nm_r (e' := nI (bs_u x / 2 ^ (i + 1))) ?_ (nm_r (nI_1 i) (hY post hp))⟩⟩⟩
    have e := pk_div (d := 2) hl (by decide) (by decide)
    rw [Nat.div_div_eq_div_mul, ← Nat.pow_succ] at e
    exact e
theorem bs_ones (x : Int32) : ∃ r : Int32, (∀ post : Int32 → Prop, post r → wpX_ones post x) ∧ (∀ post : Int32 → Prop, post r → wpY_ones post (nI (bs_u x))) := by
  obtain ⟨r, h1, h2⟩ := bs_onesL x 16 0 0 rfl
  rw [Nat.pow_zero, Nat.div_one] at h2
  exact ⟨r, fun post hp => ⟨_, h1 post hp⟩, fun post hp => ⟨_, h2 post hp⟩⟩
theorem bs_totL (a b c d : Int32) (w o t f s o' t' f' s' : Nat → Int32) (hw : ∀ j, bs_ok (w j)) : ∀ (n i : Nat) (g : Int32), i + n = 8 → ∃ r : Int32, (∀ post : Int32 → Prop, post r → wX_total_4 post a b w o t f s (n + 1) g (nI i)) ∧ (∀ post : Int32 → Prop, post r → wY_total_4 post c d w o' t' f' s' (n + 1) g (nI i)) := by
  intro n
  induction n with
  | zero =>
    intro i g hi
    have e : i = 8 := by omega
    subst e
    have h : (8 : Int32) ≤ nI 8 := nI_le (a := 8) (Nat.le_refl 8) (by decide)
    exact ⟨g, fun post hp => br_t h hp, fun post hp => br_t h hp⟩
  | succ n ih =>
    intro i g hi
    have h : ¬ (8 : Int32) ≤ nI i := nI_ge (b := 8) (by omega) (by decide)
    have hin : vp_in (nI i) 8 := vp_in_nI (by omega) (by decide)
    obtain ⟨r, hX, hY⟩ := ih (i + 1) (g + nI (bs_u (w (nI i).toNatClampNeg))) (by omega)
    exact ⟨r, fun post hp => br_f h ⟨hin, bs_unsX _ (nm_e (nm_r (nI_1 i) (hX post hp)))⟩, fun post hp => br_f h ⟨hin, bs_plainY _ (hw _) (nm_e (nm_r (nI_1 i) (hY post hp)))⟩⟩
