/-! the small calls -/
theorem i_vc_wipe {k : Nat} {u : SX} {v : SY} (I : i_Rel k u v) (hk : k + 3 ≤ 1536) : wpX_wipe (fun r u' => wpY_wipe (fun r' v' => r' = r ∧ i_Rel (k + 3) u' v') v) u := by
  obtain ⟨n, T, κ, ob, ed, od, el, be, ar, go, ph, ra, ov, bh, K, V, J, O, W, C, ST, SR, RD, AD, OP, OM, OD, VA, PL, SC, FI, DC, NN, OW, NX, ySR, yRD, yAD, AT, FY, SK, rfl, rfl, h3, h4, h5, h6, _⟩ := I
  exact ⟨rfl, 0, T, κ, ob, ed, od, el, be, ar, go, ph, ra, ov, bh, K, V, J, O, W, C, ST, SR, RD, AD, OP, OM, OD, VA, PL, SC, FI, DC, NN, OW, NX, ySR, yRD, yAD, AT, FY, SK, rfl, rfl, by omega, h4, h5, h6, rfl⟩
theorem i_vc_put {k : Nat} {u : SX} {v : SY} (I : i_Rel k u v) (hk : k + 3 ≤ 1536) (v1 : Int32) (v2 : Int32) : wpX_put (fun r u' => wpY_put (fun r' v' => r' = r ∧ i_Rel (k + 3) u' v') v v1 v2) u v1 v2 := by
  obtain ⟨n, T, κ, ob, ed, od, el, be, ar, go, ph, ra, ov, bh, K, V, J, O, W, C, ST, SR, RD, AD, OP, OM, OD, VA, PL, SC, FI, DC, NN, OW, NX, ySR, yRD, yAD, AT, FY, SK, rfl, rfl, h3, h4, h5, h6, _⟩ := I
  have hi : vp_in (v1 &&& 63) 64 := pk_andIn v1 (m := 63) 6 (by decide) (by decide)
  refine nm_e ⟨hi, nm_e ⟨hi, nm_e ⟨hi, nm_e ⟨hi, nm_e ⟨rfl, n, T, κ, ob, ed, od, el, be, ar, go, ph, ra, ov, bh, K, V, J, O, upd W (v1 &&& 63).toNatClampNeg v2, C, ST, SR, RD, AD, OP, OM, OD, VA, PL, SC, FI, DC, NN, OW, NX, ySR, yRD, yAD, AT, FY, SK, rfl, rfl, h3, h4, h5, h6, rfl⟩⟩⟩⟩⟩
theorem i_vc_word {k : Nat} {u : SX} {v : SY} (I : i_Rel k u v) (hk : k + 3 ≤ 1536) (v1 : Int32) : wpX_word (fun r => wpY_word (fun r' => r' = r ∧ i_Rel (k + 3) u v) v v1) u v1 := by
  have I' := i_up I
  obtain ⟨n, T, κ, ob, ed, od, el, be, ar, go, ph, ra, ov, bh, K, V, J, O, W, C, ST, SR, RD, AD, OP, OM, OD, VA, PL, SC, FI, DC, NN, OW, NX, ySR, yRD, yAD, AT, FY, SK, rfl, rfl, h3, h4, h5, h6, _⟩ := I
  have hi : vp_in (v1 &&& 63) 64 := pk_andIn v1 (m := 63) 6 (by decide) (by decide)
  exact ⟨hi, hi, rfl, I'⟩
theorem i_vc_counter {k : Nat} {u : SX} {v : SY} (I : i_Rel k u v) (hk : k + 3 ≤ 1536) (v1 : Int32) : wpX_counter (fun r => wpY_counter (fun r' => r' = r ∧ i_Rel (k + 3) u v) v v1) u v1 := by
  have I' := i_up I
  obtain ⟨n, T, κ, ob, ed, od, el, be, ar, go, ph, ra, ov, bh, K, V, J, O, W, C, ST, SR, RD, AD, OP, OM, OD, VA, PL, SC, FI, DC, NN, OW, NX, ySR, yRD, yAD, AT, FY, SK, rfl, rfl, h3, h4, h5, h6, _⟩ := I
  have hi : vp_in (v1 &&& 63) 64 := pk_andIn v1 (m := 63) 6 (by decide) (by decide)
  exact ⟨hi, hi, rfl, I'⟩
theorem i_vc_done {k : Nat} {u : SX} {v : SY} (I : i_Rel k u v) (hk : k + 3 ≤ 1536) (v1 : Int32) : wpX_done (fun r => wpY_done (fun r' => r' = r ∧ i_Rel (k + 3) u v) v v1) u v1 := by
  have I' := i_up I
  obtain ⟨n, T, κ, ob, ed, od, el, be, ar, go, ph, ra, ov, bh, K, V, J, O, W, C, ST, SR, RD, AD, OP, OM, OD, VA, PL, SC, FI, DC, NN, OW, NX, ySR, yRD, yAD, AT, FY, SK, rfl, rfl, h3, h4, h5, h6, _⟩ := I
  by_cases h0 : v1 < 0
  · exact br_t h0 (br_t h0 (br_t rfl ⟨rfl, I'⟩))
  · by_cases h1 : (64 : Int32) ≤ v1
    · exact br_f h0 (br_t h1 (br_f h0 (br_t h1 (br_t rfl ⟨rfl, I'⟩))))
    · have hi : vp_in v1 64 := by
        obtain ⟨j, hj, rfl⟩ := nI_of h0
        exact vp_in_nI (Nat.lt_of_not_le fun z => h1 (nI_le (a := 64) z hj)) (by decide)
      exact br_f h0 (br_f h1 ⟨hi, br_f h0 (br_f h1 (br_f (by decide) ⟨hi, rfl, I'⟩))⟩)
theorem wd_thr {T : Nat} (hT : T ≤ 32) {x : Int32} (h0 : ¬ x < 0) (h1 : ¬ nI T ≤ x) : ∃ j, j < T ∧ x = nI j := by
  obtain ⟨j, hj, rfl⟩ := nI_of h0
  exact ⟨j, Nat.lt_of_not_le fun z => h1 (nI_le z hj), rfl⟩
theorem i_vc_steps {k : Nat} {u : SX} {v : SY} (I : i_Rel k u v) (hk : k + 3 ≤ 1536) (v1 : Int32) : wpX_steps (fun r => wpY_steps (fun r' => r' = r ∧ i_Rel (k + 3) u v) v v1) u v1 := by
  have I' := i_up I
  obtain ⟨n, T, κ, ob, ed, od, el, be, ar, go, ph, ra, ov, bh, K, V, J, O, W, C, ST, SR, RD, AD, OP, OM, OD, VA, PL, SC, FI, DC, NN, OW, NX, ySR, yRD, yAD, AT, FY, SK, rfl, rfl, h3, h4, h5, h6, _⟩ := I
  by_cases h0 : v1 < 0
  · exact br_t h0 (br_t rfl (br_t h0 (br_t rfl ⟨rfl, I'⟩)))
  · by_cases h1 : nI T ≤ v1
    · exact br_f h0 (br_t h1 (br_t rfl (br_f h0 (br_t h1 (br_t rfl ⟨rfl, I'⟩)))))
    · have hi : vp_in v1 32 := by
        obtain ⟨j, hj, rfl⟩ := wd_thr h4 h0 h1
        exact vp_in_nI (by omega) (by decide)
      exact br_f h0 (br_f h1 (br_f (by decide) ⟨hi, br_f h0 (br_f h1 (br_f (by decide) ⟨hi, rfl, I'⟩))⟩))
theorem i_vc_variable {k : Nat} {u : SX} {v : SY} (I : i_Rel k u v) (hk : k + 3 ≤ 1536) (v1 : Int32) (v2 : Int32) : wpX_variable (fun r => wpY_variable (fun r' => r' = r ∧ i_Rel (k + 3) u v) v v1 v2) u v1 v2 := by
  have I' := i_up I
  obtain ⟨n, T, κ, ob, ed, od, el, be, ar, go, ph, ra, ov, bh, K, V, J, O, W, C, ST, SR, RD, AD, OP, OM, OD, VA, PL, SC, FI, DC, NN, OW, NX, ySR, yRD, yAD, AT, FY, SK, rfl, rfl, h3, h4, h5, h6, _⟩ := I
  by_cases h0 : v1 < 0
  · exact br_t h0 (br_t rfl (br_t h0 (br_t rfl ⟨rfl, I'⟩)))
  · by_cases h1 : nI T ≤ v1
    · exact br_f h0 (br_t h1 (br_t rfl (br_f h0 (br_t h1 (br_t rfl ⟨rfl, I'⟩)))))
    · by_cases g0 : v2 < 0
      · exact br_f h0 (br_f h1 (br_f (by decide) (br_t g0 (br_t rfl (br_f h0 (br_f h1 (br_f (by decide) (br_t g0 (br_t rfl ⟨rfl, I'⟩)))))))))
      · by_cases g1 : (6 : Int32) ≤ v2
        · exact br_f h0 (br_f h1 (br_f (by decide) (br_f g0 (br_t g1 (br_t rfl (br_f h0 (br_f h1 (br_f (by decide) (br_f g0 (br_t g1 (br_t rfl ⟨rfl, I'⟩)))))))))))
        · have hj : ∃ a b, a < T ∧ b < 6 ∧ v1 = nI a ∧ v2 = nI b := by
            obtain ⟨a, ha, e1⟩ := wd_thr h4 h0 h1
            obtain ⟨b, hb, e2⟩ := wd_thr (T := 6) (by decide) g0 g1
            exact ⟨a, b, ha, hb, e1, e2⟩
          obtain ⟨a, b, ha, hb, e1, e2⟩ := hj
          have eX : (v1 * 6) + v2 = nI (6 * a + b) := by rw [e1, e2, Nat.mul_comm, ← nI_add, ← pk_mul]; rfl
          have eY : (6 * v1) + v2 = nI (6 * a + b) := by rw [e1, e2, ← nI_add, ← pk_mul]; rfl
          have iX : vp_in ((v1 * 6) + v2) 192 := by rw [eX]; exact vp_in_nI (by omega) (by decide)
          have iY : vp_in ((6 * v1) + v2) 192 := by rw [eY]; exact vp_in_nI (by omega) (by decide)
          exact br_f h0 (br_f h1 (br_f (by decide) (br_f g0 (br_f g1 (br_f (by decide) ⟨iX, br_f h0 (br_f h1 (br_f (by decide) (br_f g0 (br_f g1 (br_f (by decide) ⟨iY, by rw [eX, eY], I'⟩)))))⟩)))))
