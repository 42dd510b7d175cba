theorem bs_07 : (0 : Int32) = 0 &&& 7 := by decide
theorem bs_ok0 : bs_ok 0 := ⟨by decide, by decide⟩
theorem bs_tup {d : Nat → Int32} (e : (fun _ => 0) = d) : (((0 : Int32), (0 : Int32), (fun _ => 0), (fun _ => 0), (fun _ => 0), (fun _ => 0), (fun _ => 0)) : SY) = (nI 0, nI 0, (fun _ => 0), (fun _ => 0), d, (fun _ => 0), (fun _ => 0)) := by
  subst e
  rfl
def i_Rel (k : Nat) (u : SX) (v : SY) : Prop := ∃ (L nx : Nat) (w o t f s : Nat → Int32), u = (nI L, nI nx, w, o, t, f, s) ∧ v = (nI L, nI nx, w, o, (fun j => t j &&& 7), f, s) ∧ L ≤ 32 ∧ nx ≤ 40 ∧ (∀ j, bs_ok (w j)) ∧ (∀ j, ∃ q : Nat, q ≤ 18 ∧ o j = nI q)
theorem i_up {k : Nat} {u : SX} {v : SY} (h : i_Rel k u v) : i_Rel (k + 5) u v := h
theorem i_vc0 : wpX_init (fun u => wpY_init (fun v => i_Rel 0 u v)) := by
  have e : (fun _ => 0 : Nat → Int32) = fun _ => 0 &&& 7 := by
    funext j
    exact bs_07
  exact ⟨0, 0, fun _ => 0, fun _ => 0, fun _ => 0, fun _ => 0, fun _ => 0, rfl, bs_tup e, by decide, by decide, fun _ => bs_ok0, fun _ => ⟨0, by decide, rfl⟩⟩
theorem i_vc_emit {k : Nat} {u : SX} {v : SY} (I : i_Rel k u v) (hk : k + 5 ≤ 2560) (v1 : Int32) (v2 : Int32) (v3 : Int32) (v4 : Int32) : wpX_emit (fun r u' => wpY_emit (fun r' v' => r' = r ∧ i_Rel (k + 5) u' v') v v1 v2 v3 v4) u v1 v2 v3 v4 := by
  obtain ⟨L, nx, w, o, t, f, s, rfl, rfl, hL, hn, hw, ho⟩ := I
  by_cases h0 : v1 < 0
  · exact br_t h0 (br_t h0 ⟨rfl, L, nx, w, o, t, f, s, rfl, rfl, hL, hn, hw, ho⟩)
  · by_cases h18 : 18 < v1
    · exact br_f h0 (br_t h18 (br_f h0 (br_t h18 ⟨rfl, L, nx, w, o, t, f, s, rfl, rfl, hL, hn, hw, ho⟩)))
    · by_cases hc : L < 32
      · have hin : vp_in (nI L) 32 := vp_in_nI hc (by decide)
        have hX : nI L < 32 := nI_lt (b := 32) hc (by decide)
        have hY : ¬ nI L = 32 := fun e => absurd ((nI_eq (b := 32) (by omega) (by decide)).mp e) (by omega)
        have ed : upd (fun j => t j &&& 7) (nI L).toNatClampNeg (v2 &&& 7) = fun j => upd t (nI L).toNatClampNeg v2 j &&& 7 := by
          funext j
          by_cases e : j = (nI L).toNatClampNeg
          · rw [e, pk_us, pk_us]
          · rw [pk_un e, pk_un e]
        have ho' : ∀ j, ∃ q : Nat, q ≤ 18 ∧ upd o (nI L).toNatClampNeg v1 j = nI q := by
          intro j
          by_cases e : j = (nI L).toNatClampNeg
          · rw [e, pk_us]
            exact nI_of2 (M := 18) (n := 18) (by decide) h0 (Int32.not_lt.mp h18)
          · rw [pk_un e]
            exact ho j
        refine br_f h0 (br_f h18 (br_t hX ⟨hin, nm_e ⟨hin, nm_e ⟨hin, nm_e ⟨hin, nm_e (nm_r (nI_1 L) ?_)⟩⟩⟩⟩))
        refine br_f h0 (br_f h18 (br_f hY ⟨hin, nm_e ⟨hin, nm_r ed ⟨hin, nm_e ⟨hin, nm_e (nm_r (nI_1 L) ?_)⟩⟩⟩⟩))
        exact ⟨rfl, L + 1, nx, w, _, _, _, _, rfl, rfl, by omega, hn, hw, ho'⟩
      · have e : L = 32 := by omega
        subst e
        have hX : ¬ nI 32 < 32 := nI_nlt (b := 32) (Nat.le_refl 32) (by decide)
        exact br_f h0 (br_f h18 (br_f hX (br_f h0 (br_f h18 (br_t (by decide) ⟨rfl, 32, nx, w, o, t, f, s, rfl, rfl, hL, hn, hw, ho⟩)))))
theorem i_vc_clear {k : Nat} {u : SX} {v : SY} (I : i_Rel k u v) (hk : k + 5 ≤ 2560) : wpX_clear (fun u' => wpY_clear (fun v' => i_Rel (k + 5) u' v') v) u := by
  obtain ⟨L, nx, w, o, t, f, s, rfl, rfl, hL, hn, hw, ho⟩ := I
  exact ⟨0, 0, w, o, t, f, s, rfl, rfl, by decide, by decide, hw, ho⟩
theorem i_vc_set {k : Nat} {u : SX} {v : SY} (I : i_Rel k u v) (hk : k + 5 ≤ 2560) (v1 : Int32) (v2 : Int32) : wpX_set (fun u' => wpY_set (fun v' => i_Rel (k + 5) u' v') v v1 v2) u v1 v2 := by
  obtain ⟨L, nx, w, o, t, f, s, rfl, rfl, hL, hn, hw, ho⟩ := I
  exact ⟨bs_i7 _, nm_e (bs_wY v2 ⟨bs_i7 _, nm_e ⟨L, nx, _, o, t, f, s, rfl, rfl, hL, hn, bs_upd_ok hw _ (bs_w_ok v2), ho⟩⟩)⟩
theorem i_vc_get {k : Nat} {u : SX} {v : SY} (I : i_Rel k u v) (hk : k + 5 ≤ 2560) (v1 : Int32) : wpX_get (fun r => wpY_get (fun r' => r' = r ∧ i_Rel (k + 5) u v) v v1) u v1 := by
  obtain ⟨L, nx, w, o, t, f, s, rfl, rfl, hL, hn, hw, ho⟩ := I
  exact ⟨bs_i7 _, bs_i7 _, rfl, L, nx, w, o, t, f, s, rfl, rfl, hL, hn, hw, ho⟩
theorem i_vc_rewind {k : Nat} {u : SX} {v : SY} (I : i_Rel k u v) (hk : k + 5 ≤ 2560) : wpX_rewind (fun u' => wpY_rewind (fun v' => i_Rel (k + 5) u' v') v) u := by
  obtain ⟨L, nx, w, o, t, f, s, rfl, rfl, hL, hn, hw, ho⟩ := I
  exact ⟨L, 0, w, o, t, f, s, rfl, rfl, hL, by decide, hw, ho⟩
theorem i_vc_run {k : Nat} {u : SX} {v : SY} (I : i_Rel k u v) (hk : k + 5 ≤ 2560) (v1 : Int32) : wpX_run (fun r u' => wpY_run (fun r' v' => r' = r ∧ i_Rel (k + 5) u' v') v v1) u v1 := by
  obtain ⟨L, nx, w, o, t, f, s, rfl, rfl, hL, hn, hw, ho⟩ := I
  by_cases h0 : 0 ≤ v1
  · by_cases h60 : v1 ≤ 60
    · obtain ⟨m, hm, rfl⟩ := nI_of2 (M := 60) (n := 60) (by decide) (Int32.not_lt.mpr h0) h60
      obtain ⟨r, n2, w2, hn2, hw2, hX, hY⟩ := bs_runL m hm L hL o t f s ho m 0 nx w (by omega) hn hw
      exact br_t h60 ⟨_, hX _ (br_t h0 (br_t h60 ⟨_, hY _ ⟨rfl, L, n2, w2, o, t, f, s, rfl, rfl, hL, hn2, hw2, ho⟩⟩))⟩
    · obtain ⟨r, n2, w2, hn2, hw2, hX, hY⟩ := bs_runL 60 (by decide) L hL o t f s ho 60 0 nx w (by omega) hn hw
      exact br_f h60 ⟨_, hX _ (br_t h0 (br_f h60 ⟨_, hY _ ⟨rfl, L, n2, w2, o, t, f, s, rfl, rfl, hL, hn2, hw2, ho⟩⟩))⟩
  · have hl : v1 ≤ 0 := Int32.le_of_lt (Int32.not_le.mp h0)
    have h60 : v1 ≤ 60 := Int32.le_trans hl (by decide)
    exact br_t h60 ⟨1, br_t hl (br_f h0 ⟨1, br_t (by decide) ⟨rfl, L, nx, w, o, t, f, s, rfl, rfl, hL, hn, hw, ho⟩⟩)⟩
theorem i_vc_next {k : Nat} {u : SX} {v : SY} (I : i_Rel k u v) (hk : k + 5 ≤ 2560) : wpX_next (fun r => wpY_next (fun r' => r' = r ∧ i_Rel (k + 5) u v) v) u := by
  obtain ⟨L, nx, w, o, t, f, s, rfl, rfl, hL, hn, hw, ho⟩ := I
  exact ⟨rfl, L, nx, w, o, t, f, s, rfl, rfl, hL, hn, hw, ho⟩
theorem i_vc_total {k : Nat} {u : SX} {v : SY} (I : i_Rel k u v) (hk : k + 5 ≤ 2560) : wpX_total (fun r => wpY_total (fun r' => r' = r ∧ i_Rel (k + 5) u v) v) u := by
  obtain ⟨L, nx, w, o, t, f, s, rfl, rfl, hL, hn, hw, ho⟩ := I
  obtain ⟨r, hX, hY⟩ := bs_totL (nI L) (nI nx) (nI L) (nI nx) w o t f s o (fun j => t j &&& 7) f s hw 8 0 0 rfl
  exact ⟨_, hX _ ⟨_, hY _ ⟨rfl, L, nx, w, o, t, f, s, rfl, rfl, hL, hn, hw, ho⟩⟩⟩
