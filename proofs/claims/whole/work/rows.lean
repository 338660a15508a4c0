section
/-! rows of kit/rows, pasted: stores, numbers, masks, bits -/
theorem pk_us {f : Nat → Int32} {k : Nat} {x : Int32} : upd f k x k = x := if_pos rfl
theorem pk_un {f : Nat → Int32} {k j : Nat} {x : Int32} (h : j ≠ k) : upd f k x j = f j := if_neg h
theorem pk_sub {a b : Nat} (h : b ≤ a) : nI a - nI b = nI (a - b) := by
  obtain ⟨c, rfl⟩ : ∃ c, a = c + b := ⟨a - b, by omega⟩
  rw [← nI_add, Int32.add_sub_cancel, Nat.add_sub_cancel]
theorem pk_m1 (n : Nat) : nI (n + 1) + (-1) = nI n := by
  rw [← nI_1, Int32.add_assoc, show (1 : Int32) + (-1) = 0 from rfl, Int32.add_zero]
theorem pk_mul (a b : Nat) : nI a * nI b = nI (a * b) := (Int32.ofNat_mul a b).symm
theorem pk_le {x y : Int32} {A B : Prop} (a b : Nat) (f : a ≤ b → A) (g : b < a → B) (hx : x = nI a := by rfl) (hy : y = nI b := by rfl) (ha : a < 2 ^ 31 := by omega) (hb : b < 2 ^ 31 := by omega) : (x ≤ y → A) ∧ (¬ x ≤ y → B) := by
  subst hx hy
  rw [nI_leI ha hb]
  exact ⟨f, fun z => g (by omega)⟩
theorem pk_lt {x y : Int32} {A B : Prop} (a b : Nat) (f : a < b → A) (g : b ≤ a → B) (hx : x = nI a := by rfl) (hy : y = nI b := by rfl) (ha : a < 2 ^ 31 := by omega) (hb : b < 2 ^ 31 := by omega) : (x < y → A) ∧ (¬ x < y → B) := by
  subst hx hy
  rw [nI_ltI ha hb]
  exact ⟨f, fun z => g (by omega)⟩
theorem pk_eq {x y : Int32} {A B : Prop} (a b : Nat) (f : a = b → A) (g : a ≠ b → B) (hx : x = nI a := by rfl) (hy : y = nI b := by rfl) (ha : a < 2 ^ 31 := by omega) (hb : b < 2 ^ 31 := by omega) : (x = y → A) ∧ (¬ x = y → B) := by
  subst hx hy
  rw [nI_eq ha hb]
  exact ⟨f, g⟩
theorem pk_in {x : Int32} (n N : Nat) (h : n < N) (hx : x = nI n := by rfl) (hN : N < 2 ^ 31 := by omega) : vp_in x N := by
  subst hx
  exact vp_in_nI h hN
theorem pk_cl {x : Int32} (n : Nat) (hx : x = nI n := by rfl) (h : n < 2 ^ 31 := by omega) : x.toNatClampNeg = n := by
  subst hx
  exact nI_clamp h
theorem pk_tn {n : Nat} (h : n < 2 ^ 32) : (nI n).toBitVec.toNat = n := Nat.mod_eq_of_lt h
theorem pk_and (x : Int32) {m : Int32} (k : Nat) (hm : m.toBitVec.toNat = 2 ^ k - 1) : x &&& m = nI (x.toBitVec.toNat % 2 ^ k) := by
  apply Int32.toBitVec_inj.mp
  apply BitVec.eq_of_toNat_eq
  rw [Int32.toBitVec_and, BitVec.toNat_and, hm, Nat.and_two_pow_sub_one_eq_mod]
  show _ = (BitVec.ofNat 32 _).toNat
  rw [BitVec.toNat_ofNat]
  exact (Nat.mod_eq_of_lt (Nat.lt_of_le_of_lt (Nat.mod_le _ _) x.toBitVec.isLt)).symm
theorem pk_andE (x : Int32) {m : Int32} (k : Nat) (hm : m.toBitVec.toNat = 2 ^ k - 1) : ∃ j : Nat, j < 2 ^ k ∧ x &&& m = nI j := ⟨_, Nat.mod_lt _ (Nat.two_pow_pos k), pk_and x k hm⟩
theorem pk_andIn (x : Int32) {m : Int32} (k : Nat) (hm : m.toBitVec.toNat = 2 ^ k - 1) (hk : k ≤ 30) : vp_in (x &&& m) (2 ^ k) := by
  obtain ⟨j, hj, e⟩ := pk_andE x k hm
  rw [e]
  exact vp_in_nI hj (Nat.lt_of_le_of_lt (Nat.pow_le_pow_right (by decide) hk) (by decide))
theorem pk_ix (x : Int32) {n : Nat} (hn : n < 2 ^ 31) : x < 0 ∨ nI n ≤ x ∨ ∃ j : Nat, j < n ∧ x = nI j := by
  by_cases h : x < 0
  · exact Or.inl h
  · obtain ⟨j, hj, rfl⟩ := nI_of h
    by_cases h2 : j < n
    · exact Or.inr (Or.inr ⟨j, h2, rfl⟩)
    · exact Or.inr (Or.inl (nI_le (by omega) hj))
def bt (x : Int32) (i : Nat) : Bool := x.toBitVec.getLsbD i
theorem b_ext {x y : Int32} (h : ∀ i, i < 32 → bt x i = bt y i) : x = y := Int32.toBitVec_inj.mp (BitVec.eq_of_getLsbD_eq (fun i hi => h i hi))
theorem b_or (x y : Int32) (i : Nat) : bt (x ||| y) i = (bt x i || bt y i) := by unfold bt; rw [Int32.toBitVec_or, BitVec.getLsbD_or]
theorem b_and (x y : Int32) (i : Nat) : bt (x &&& y) i = (bt x i && bt y i) := by unfold bt; rw [Int32.toBitVec_and, BitVec.getLsbD_and]
theorem b_xor (x y : Int32) (i : Nat) : bt (x ^^^ y) i = (bt x i ^^ bt y i) := by unfold bt; rw [Int32.toBitVec_xor, BitVec.getLsbD_xor]
theorem b_big {x : Int32} {i : Nat} (h : 32 ≤ i) : bt x i = false := BitVec.getLsbD_of_ge _ _ h
theorem b_m1 : ∀ i, i < 32 → bt (-1) i = true := by decide +kernel
theorem b_0 (i : Nat) : bt 0 i = false := BitVec.getLsbD_zero
theorem s_l : ∀ n, n < 32 → ((nI n &&& 31).toBitVec.smod 32).toNat = n := by decide +kernel
theorem s_u : ∀ n, n < 32 → (((nI n).toUInt32 &&& Int32.toUInt32 31).toBitVec % 32).toNat = n := by decide +kernel
theorem b_shl (n : Nat) (hn : n < 32) (x : Int32) {i : Nat} (hi : i < 32) : bt (x <<< (nI n &&& 31)) i = (decide (n ≤ i) && bt x (i - n)) := by
  unfold bt
  rw [Int32.toBitVec_shiftLeft]
  show (x.toBitVec <<< ((nI n &&& 31).toBitVec.smod 32).toNat).getLsbD i = _
  rw [s_l n hn, BitVec.getLsbD_shiftLeft]
  rcases Nat.lt_or_ge i n with h | h
  · simp [h, Nat.not_le.mpr h]
  · simp [hi, h, Nat.not_lt.mpr h]
theorem b_ushr (n : Nat) (hn : n < 32) (x : Int32) (i : Nat) : bt ((x.toUInt32 >>> ((nI n).toUInt32 &&& Int32.toUInt32 31)).toInt32) i = bt x (n + i) := by
  show (x.toUInt32 >>> ((nI n).toUInt32 &&& Int32.toUInt32 31)).toBitVec.getLsbD i = x.toUInt32.toBitVec.getLsbD (n + i)
  rw [UInt32.toBitVec_shiftRight]
  show (x.toUInt32.toBitVec >>> (((nI n).toUInt32 &&& Int32.toUInt32 31).toBitVec % 32).toNat).getLsbD i = _
  rw [s_u n hn, BitVec.getLsbD_ushiftRight]
theorem b_sshr (n : Nat) (hn : n < 32) (x : Int32) {i : Nat} (hi : i < 32) : bt (x >>> (nI n &&& 31)) i = if n + i < 32 then bt x (n + i) else bt x 31 := by
  unfold bt
  rw [Int32.toBitVec_shiftRight]
  show (x.toBitVec.sshiftRight ((nI n &&& 31).toBitVec.smod 32).toNat).getLsbD i = _
  rw [s_l n hn, BitVec.getLsbD_sshiftRight, BitVec.msb_eq_getLsbD_last]
  simp [hi]
end
section
/-! the pure picture: kinds as naturals, arities, the relation between calls -/
def wd_ar (k : Nat) : Nat := if k < 15 then 0 else if k < 17 then 1 else if k = 29 then 1 else if k = 30 then 1 else if k = 31 then 3 else 2
def wd_ex (k : Nat) : Nat := if k = 1 then 2 else if k = 2 then 2 else if k = 0 then 1 else if k = 3 then 1 else if k = 6 then 1 else 0
def wd_kind (k : Nat) : Prop := k ≤ 8 ∨ (10 ≤ k ∧ k ≤ 16) ∨ (20 ≤ k ∧ k ≤ 31)
def wd_tok (κ : Nat → Nat) (K V : Nat → Int32) : Prop := ∀ i, K i = nI (κ i) ∧ wd_kind (κ i) ∧ ((κ i = 0 ∨ κ i = 11) → ∃ w, w < 6 ∧ V i = nI w)
def i_Rel (k : Nat) (u : SX) (v : SY) : Prop := ∃ (n T : Nat) (κ : Nat → Nat), ∃ (ob ed od el be ar go ph ra ov bh : Int32) (K V J O W C ST SR RD AD OP OM OD VA PL SC FI DC NN OW NX ySR yRD yAD AT FY SK : Nat → Int32),
  u = (nI n, ob, ed, od, el, be, nI T, ar, go, ph, ra, ov, K, V, J, O, W, C, ST, SR, RD, AD, OP, OM, OD, VA, PL, SC, FI, DC) ∧ v = (nI n, nI T, ar, ph, ra, bh, ov, K, V, NN, W, C, OW, NX, ySR, yRD, yAD, VA, AT, SC, FY, DC, SK) ∧ n ≤ 64 ∧ T ≤ 32 ∧ wd_tok κ K V ∧ (∀ j, j < 64 → SR j = 0 ∧ RD j = 0 ∧ AD j = 0) ∧ k = k
theorem i_up {k : Nat} {u : SX} {v : SY} (h : i_Rel k u v) : i_Rel (k + 3) u v := by
  obtain ⟨n, T, κ, ob, ed, od, el, be, ar, go, ph, ra, ov, bh, K, V, J, O, W, C, ST, SR, RD, AD, OP, OM, OD, VA, PL, SC, FI, DC, NN, OW, NX, ySR, yRD, yAD, AT, FY, SK, h1, h2, h3, h4, h5, h6, _⟩ := h
  exact ⟨n, T, κ, ob, ed, od, el, be, ar, go, ph, ra, ov, bh, K, V, J, O, W, C, ST, SR, RD, AD, OP, OM, OD, VA, PL, SC, FI, DC, NN, OW, NX, ySR, yRD, yAD, AT, FY, SK, h1, h2, h3, h4, h5, h6, rfl⟩
theorem i_vc0 : wpX_init (fun u => wpY_init (fun v => i_Rel 0 u v)) := by
  refine ⟨0, 0, fun _ => 0, 0, 0, 0, 0, 0, 0, 0, 0, 0, 0, 0, fun _ => 0, fun _ => 0, fun _ => 0, fun _ => 0, fun _ => 0, fun _ => 0, fun _ => 0, fun _ => 0, fun _ => 0, fun _ => 0, fun _ => 0, fun _ => 0, fun _ => 0, fun _ => 0, fun _ => 0, fun _ => 0, fun _ => 0, fun _ => 0, fun _ => 0, fun _ => 0, fun _ => 0, fun _ => 0, fun _ => 0, fun _ => 0, fun _ => 0, fun _ => 0, fun _ => 0, rfl, rfl, by decide, by decide, ?_, fun j _ => ⟨rfl, rfl, rfl⟩, rfl⟩
  exact fun i => ⟨rfl, Or.inl (Nat.zero_le _), fun _ => ⟨0, by decide, rfl⟩⟩
theorem wd_uu {f : Nat → Int32} {k : Nat} {x y : Int32} : upd (upd f k x) k y = upd f k y := by
  funext j
  unfold upd
  split <;> rfl
theorem wd_63 (x : Int32) : ∃ j : Nat, j < 64 ∧ x &&& 63 = nI j := pk_andE x (m := 63) 6 (by decide)
end
section
/-! the small calls -/
theorem i_vc_wipe {k : Nat} {u : SX} {v : SY} (I : i_Rel k u v) (hk : k + 3 ≤ 1536) : wpX_wipe (fun r u' => wpY_wipe (fun r' v' => r' = r ∧ i_Rel (k + 3) u' v') v) u := by
  obtain ⟨n, T, κ, ob, ed, od, el, be, ar, go, ph, ra, ov, bh, K, V, J, O, W, C, ST, SR, RD, AD, OP, OM, OD, VA, PL, SC, FI, DC, NN, OW, NX, ySR, yRD, yAD, AT, FY, SK, rfl, rfl, h3, h4, h5, h6, _⟩ := I
  exact ⟨rfl, 0, T, κ, ob, ed, od, el, be, ar, go, ph, ra, ov, bh, K, V, J, O, W, C, ST, SR, RD, AD, OP, OM, OD, VA, PL, SC, FI, DC, NN, OW, NX, ySR, yRD, yAD, AT, FY, SK, rfl, rfl, by omega, h4, h5, h6, rfl⟩
theorem i_vc_put {k : Nat} {u : SX} {v : SY} (I : i_Rel k u v) (hk : k + 3 ≤ 1536) (v1 : Int32) (v2 : Int32) : wpX_put (fun r u' => wpY_put (fun r' v' => r' = r ∧ i_Rel (k + 3) u' v') v v1 v2) u v1 v2 := by
  obtain ⟨n, T, κ, ob, ed, od, el, be, ar, go, ph, ra, ov, bh, K, V, J, O, W, C, ST, SR, RD, AD, OP, OM, OD, VA, PL, SC, FI, DC, NN, OW, NX, ySR, yRD, yAD, AT, FY, SK, rfl, rfl, h3, h4, h5, h6, _⟩ := I
  have hi : vp_in (v1 &&& 63) 64 := pk_andIn v1 (m := 63) 6 (by decide) (by decide)
  refine nm_e ⟨hi, nm_e ⟨hi, nm_e ⟨hi, nm_e ⟨hi, nm_e ⟨rfl, n, T, κ, ob, ed, od, el, be, ar, go, ph, ra, ov, bh, K, V, J, O, upd W (v1 &&& 63).toNatClampNeg v2, C, ST, SR, RD, AD, OP, OM, OD, VA, PL, SC, FI, DC, NN, OW, NX, ySR, yRD, yAD, AT, FY, SK, rfl, rfl, h3, h4, h5, h6, rfl⟩⟩⟩⟩⟩
theorem i_vc_word {k : Nat} {u : SX} {v : SY} (I : i_Rel k u v) (hk : k + 3 ≤ 1536) (v1 : Int32) : wpX_word (fun r => wpY_word (fun r' => r' = r ∧ i_Rel (k + 3) u v) v v1) u v1 := by
  have I' := i_up I
  obtain ⟨n, T, κ, ob, ed, od, el, be, ar, go, ph, ra, ov, bh, K, V, J, O, W, C, ST, SR, RD, AD, OP, OM, OD, VA, PL, SC, FI, DC, NN, OW, NX, ySR, yRD, yAD, AT, FY, SK, rfl, rfl, h3, h4, h5, h6, _⟩ := I
  have hi : vp_in (v1 &&& 63) 64 := pk_andIn v1 (m := 63) 6 (by decide) (by decide)
  exact ⟨hi, hi, rfl, I'⟩
theorem i_vc_counter {k : Nat} {u : SX} {v : SY} (I : i_Rel k u v) (hk : k + 3 ≤ 1536) (v1 : Int32) : wpX_counter (fun r => wpY_counter (fun r' => r' = r ∧ i_Rel (k + 3) u v) v v1) u v1 := by
  have I' := i_up I
  obtain ⟨n, T, κ, ob, ed, od, el, be, ar, go, ph, ra, ov, bh, K, V, J, O, W, C, ST, SR, RD, AD, OP, OM, OD, VA, PL, SC, FI, DC, NN, OW, NX, ySR, yRD, yAD, AT, FY, SK, rfl, rfl, h3, h4, h5, h6, _⟩ := I
  have hi : vp_in (v1 &&& 63) 64 := pk_andIn v1 (m := 63) 6 (by decide) (by decide)
  exact ⟨hi, hi, rfl, I'⟩
theorem i_vc_done {k : Nat} {u : SX} {v : SY} (I : i_Rel k u v) (hk : k + 3 ≤ 1536) (v1 : Int32) : wpX_done (fun r => wpY_done (fun r' => r' = r ∧ i_Rel (k + 3) u v) v v1) u v1 := by
  have I' := i_up I
  obtain ⟨n, T, κ, ob, ed, od, el, be, ar, go, ph, ra, ov, bh, K, V, J, O, W, C, ST, SR, RD, AD, OP, OM, OD, VA, PL, SC, FI, DC, NN, OW, NX, ySR, yRD, yAD, AT, FY, SK, rfl, rfl, h3, h4, h5, h6, _⟩ := I
  by_cases h0 : v1 < 0
  · exact br_t h0 (br_t h0 (br_t rfl ⟨rfl, I'⟩))
  · by_cases h1 : (64 : Int32) ≤ v1
    · exact br_f h0 (br_t h1 (br_f h0 (br_t h1 (br_t rfl ⟨rfl, I'⟩))))
    · have hi : vp_in v1 64 := by
        obtain ⟨j, hj, rfl⟩ := nI_of h0
        exact vp_in_nI (Nat.lt_of_not_le fun z => h1 (nI_le (a := 64) z hj)) (by decide)
      exact br_f h0 (br_f h1 ⟨hi, br_f h0 (br_f h1 (br_f (by decide) ⟨hi, rfl, I'⟩))⟩)
theorem wd_thr {T : Nat} (hT : T ≤ 32) {x : Int32} (h0 : ¬ x < 0) (h1 : ¬ nI T ≤ x) : ∃ j, j < T ∧ x = nI j := by
  obtain ⟨j, hj, rfl⟩ := nI_of h0
  exact ⟨j, Nat.lt_of_not_le fun z => h1 (nI_le z hj), rfl⟩
theorem i_vc_steps {k : Nat} {u : SX} {v : SY} (I : i_Rel k u v) (hk : k + 3 ≤ 1536) (v1 : Int32) : wpX_steps (fun r => wpY_steps (fun r' => r' = r ∧ i_Rel (k + 3) u v) v v1) u v1 := by
  have I' := i_up I
  obtain ⟨n, T, κ, ob, ed, od, el, be, ar, go, ph, ra, ov, bh, K, V, J, O, W, C, ST, SR, RD, AD, OP, OM, OD, VA, PL, SC, FI, DC, NN, OW, NX, ySR, yRD, yAD, AT, FY, SK, rfl, rfl, h3, h4, h5, h6, _⟩ := I
  by_cases h0 : v1 < 0
  · exact br_t h0 (br_t rfl (br_t h0 (br_t rfl ⟨rfl, I'⟩)))
  · by_cases h1 : nI T ≤ v1
    · exact br_f h0 (br_t h1 (br_t rfl (br_f h0 (br_t h1 (br_t rfl ⟨rfl, I'⟩)))))
    · have hi : vp_in v1 32 := by
        obtain ⟨j, hj, rfl⟩ := wd_thr h4 h0 h1
        exact vp_in_nI (by omega) (by decide)
      exact br_f h0 (br_f h1 (br_f (by decide) ⟨hi, br_f h0 (br_f h1 (br_f (by decide) ⟨hi, rfl, I'⟩))⟩))
theorem i_vc_variable {k : Nat} {u : SX} {v : SY} (I : i_Rel k u v) (hk : k + 3 ≤ 1536) (v1 : Int32) (v2 : Int32) : wpX_variable (fun r => wpY_variable (fun r' => r' = r ∧ i_Rel (k + 3) u v) v v1 v2) u v1 v2 := by
  have I' := i_up I
  obtain ⟨n, T, κ, ob, ed, od, el, be, ar, go, ph, ra, ov, bh, K, V, J, O, W, C, ST, SR, RD, AD, OP, OM, OD, VA, PL, SC, FI, DC, NN, OW, NX, ySR, yRD, yAD, AT, FY, SK, rfl, rfl, h3, h4, h5, h6, _⟩ := I
  by_cases h0 : v1 < 0
  · exact br_t h0 (br_t rfl (br_t h0 (br_t rfl ⟨rfl, I'⟩)))
  · by_cases h1 : nI T ≤ v1
    · exact br_f h0 (br_t h1 (br_t rfl (br_f h0 (br_t h1 (br_t rfl ⟨rfl, I'⟩)))))
    · by_cases g0 : v2 < 0
      · exact br_f h0 (br_f h1 (br_f (by decide) (br_t g0 (br_t rfl (br_f h0 (br_f h1 (br_f (by decide) (br_t g0 (br_t rfl ⟨rfl, I'⟩)))))))))
      · by_cases g1 : (6 : Int32) ≤ v2
        · exact br_f h0 (br_f h1 (br_f (by decide) (br_f g0 (br_t g1 (br_t rfl (br_f h0 (br_f h1 (br_f (by decide) (br_f g0 (br_t g1 (br_t rfl ⟨rfl, I'⟩)))))))))))
        · have hj : ∃ a b, a < T ∧ b < 6 ∧ v1 = nI a ∧ v2 = nI b := by
            obtain ⟨a, ha, e1⟩ := wd_thr h4 h0 h1
            obtain ⟨b, hb, e2⟩ := wd_thr (T := 6) (by decide) g0 g1
            exact ⟨a, b, ha, hb, e1, e2⟩
          obtain ⟨a, b, ha, hb, e1, e2⟩ := hj
          have eX : (v1 * 6) + v2 = nI (6 * a + b) := by rw [e1, e2, Nat.mul_comm, ← nI_add, ← pk_mul]; rfl
          have eY : (6 * v1) + v2 = nI (6 * a + b) := by rw [e1, e2, ← nI_add, ← pk_mul]; rfl
          have iX : vp_in ((v1 * 6) + v2) 192 := by rw [eX]; exact vp_in_nI (by omega) (by decide)
          have iY : vp_in ((6 * v1) + v2) 192 := by rw [eY]; exact vp_in_nI (by omega) (by decide)
          exact br_f h0 (br_f h1 (br_f (by decide) (br_f g0 (br_f g1 (br_f (by decide) ⟨iX, br_f h0 (br_f h1 (br_f (by decide) (br_f g0 (br_f g1 (br_f (by decide) ⟨iY, by rw [eX, eY], I'⟩)))))⟩)))))
end
section
/-! token, zero, ran -/
def wd_fl (e : Nat) (A : Nat → Int32) (i : Nat) (B : Nat → Int32) : Nat → Int32 := fun j => if i ≤ j ∧ j < e then A j else B j
theorem wd_fl_e {e : Nat} {A B : Nat → Int32} : wd_fl e A e B = B := by
  funext j
  unfold wd_fl
  rw [if_neg (by omega)]
theorem wd_fl_s {e i : Nat} {A B : Nat → Int32} {x : Int32} (h : i < e) (hx : x = A i) : wd_fl e A (i + 1) (upd B i x) = wd_fl e A i B := by
  funext j
  unfold wd_fl upd
  by_cases hj : j = i
  · subst hj
    rw [if_neg (by omega), if_pos rfl, if_pos (by omega), hx]
  · by_cases h2 : i ≤ j ∧ j < e
    · rw [if_pos (by omega), if_pos h2]
    · rw [if_neg (by omega), if_neg hj, if_neg h2]
theorem wd_fl_k {e i : Nat} {A B : Nat → Int32} (hx : B i = A i) : wd_fl e A (i + 1) B = wd_fl e A i B := by
  funext j
  unfold wd_fl
  by_cases hj : j = i
  · subst hj
    rw [if_neg (by omega)]
    split
    · exact hx
    · rfl
  · by_cases h2 : i ≤ j ∧ j < e
    · rw [if_pos (by omega), if_pos h2]
    · rw [if_neg (by omega), if_neg h2]
theorem wd_zX {c ob ed od el be th ar go ph ra ov : Int32} {K V J O ST SR RD AD OP OM OD VA PL SC FI DC : Nat → Int32} (P : SX → Prop) : ∀ f i (W C : Nat → Int32), i + f = 64 → P (c, ob, ed, od, el, be, th, ar, go, ph, ra, ov, K, V, J, O, wd_fl 64 (fun _ => 0) i W, wd_fl 64 (fun _ => 0) i C, ST, SR, RD, AD, OP, OM, OD, VA, PL, SC, FI, DC) → wX_zero_2 P c ob ed od el be th ar go ph ra ov (f + 1) (nI i) K V J O W C ST SR RD AD OP OM OD VA PL SC FI DC := by
  intro f
  induction f with
  | zero =>
    intro i W C hi hp
    obtain rfl : i = 64 := hi
    rw [wd_fl_e, wd_fl_e] at hp
    exact br_t (by decide) hp
  | succ f ih =>
    intro i W C hi hp
    have h1 : ¬ (64 : Int32) ≤ nI i := nI_ge (b := 64) (by omega) (by decide)
    have h2 : vp_in (nI i) 64 := vp_in_nI (by omega) (by decide)
    refine br_f h1 ⟨h2, nm_e ⟨h2, nm_e (nm_r (nI_1 i) (ih (i + 1) _ _ (by omega) ?_))⟩⟩
    rw [nI_clamp (by omega), wd_fl_s (by omega) rfl, wd_fl_s (by omega) rfl]
    exact hp
theorem wd_zY {c th ar ph ra bh ov : Int32} {K V NN OW NX SR RD AD VA AT SC FY DC SK : Nat → Int32} (P : SY → Prop) : ∀ f i (W C : Nat → Int32), i + f = 64 → P (c, th, ar, ph, ra, bh, ov, K, V, NN, wd_fl 64 (fun _ => 0) i W, wd_fl 64 (fun _ => 0) i C, OW, NX, SR, RD, AD, VA, AT, SC, FY, DC, SK) → wY_zero_2 P c th ar ph ra bh ov (f + 1) (nI i) K V NN W C OW NX SR RD AD VA AT SC FY DC SK := by
  intro f
  induction f with
  | zero =>
    intro i W C hi hp
    obtain rfl : i = 64 := hi
    rw [wd_fl_e, wd_fl_e] at hp
    exact br_t (by decide) hp
  | succ f ih =>
    intro i W C hi hp
    have h1 : ¬ (64 : Int32) ≤ nI i := nI_ge (b := 64) (by omega) (by decide)
    have h2 : vp_in (nI i) 64 := vp_in_nI (by omega) (by decide)
    refine br_f h1 ⟨h2, nm_e ⟨h2, nm_e (nm_r (nI_1 i) (ih (i + 1) _ _ (by omega) ?_))⟩⟩
    rw [nI_clamp (by omega), wd_fl_s (by omega) rfl, wd_fl_s (by omega) rfl]
    exact hp
theorem i_vc_zero {k : Nat} {u : SX} {v : SY} (I : i_Rel k u v) (hk : k + 3 ≤ 1536) : wpX_zero (fun u' => wpY_zero (fun v' => i_Rel (k + 3) u' v') v) u := by
  obtain ⟨n, T, κ, ob, ed, od, el, be, ar, go, ph, ra, ov, bh, K, V, J, O, W, C, ST, SR, RD, AD, OP, OM, OD, VA, PL, SC, FI, DC, NN, OW, NX, ySR, yRD, yAD, AT, FY, SK, rfl, rfl, h3, h4, h5, h6, _⟩ := I
  refine ⟨65, wd_zX _ 64 0 _ _ rfl ⟨65, wd_zY _ 64 0 _ _ rfl ?_⟩⟩
  exact ⟨n, T, κ, ob, ed, od, el, be, ar, go, ph, ra, ov, bh, K, V, J, O, _, _, ST, SR, RD, AD, OP, OM, OD, VA, PL, SC, FI, DC, NN, OW, NX, ySR, yRD, yAD, AT, FY, SK, rfl, rfl, h3, h4, h5, h6, rfl⟩
theorem wd_ran {c ob ed od el be ar go ph ra ov bh : Int32} {K V J O W C ST SR RD AD OP OM OD VA PL SC FI DC NN OW NX AT FY SK ySR yRD yAD : Nat → Int32} {T : Nat} (hT : T ≤ 32) : ∀ f i (a m : Int32), i + f = T → ∃ a' m' : Int32,
    (∀ P : Int32 → Prop, P a' → wX_allSteps_4 P c ob ed od el be (nI T) ar go ph ra ov K V J O W C ST SR RD AD OP OM OD VA PL SC FI DC (f + 1) a (nI i)) ∧
    (∀ P : Int32 → Prop, P m' → wX_mostSteps_4 P c ob ed od el be (nI T) ar go ph ra ov K V J O W C ST SR RD AD OP OM OD VA PL SC FI DC (f + 1) m (nI i)) ∧
    (∀ (Q : Int32 → Prop) (p : Int32), ((p = 0 → (Q ph)) ∧ (¬ p = 0 → (((p = 1 → (Q a')) ∧ (¬ p = 1 → (((p = 2 → (Q m')) ∧ (¬ p = 2 → (((p = 3 → (Q ra)) ∧ (¬ p = 3 → (((p = 4 → (Q (nI T))) ∧ (¬ p = 4 → (Q 0))))))))))))))) → wY_ran_7 Q p c (nI T) ar ph ra bh ov K V NN W C OW NX ySR yRD yAD VA AT SC FY DC SK (f + 1) a m (nI i)) := by
  intro f
  induction f with
  | zero =>
    intro i a m hi
    have h1 : nI T ≤ nI i := nI_le (by omega) (by omega)
    exact ⟨a, m, fun P hp => br_t h1 hp, fun P hp => br_t h1 hp, fun Q p hp => br_t h1 hp⟩
  | succ f ih =>
    intro i a m hi
    have h1 : ¬ nI T ≤ nI i := nI_ge (by omega) (by omega)
    have h2 : vp_in (nI i) 32 := vp_in_nI (by omega) (by decide)
    by_cases hm : SC (nI i).toNatClampNeg ≤ m
    · obtain ⟨a', m', hA, hM, hY⟩ := ih (i + 1) (a + SC (nI i).toNatClampNeg) m (by omega)
      exact ⟨a', m', fun P hp => br_f h1 ⟨h2, nm_e (nm_r (nI_1 i) (hA P hp))⟩, fun P hp => br_f h1 ⟨h2, br_t hm (nm_r (nI_1 i) (hM P hp))⟩, fun Q p hp => br_f h1 ⟨h2, nm_e ⟨h2, br_t hm (nm_r (nI_1 i) (hY Q p hp))⟩⟩⟩
    · obtain ⟨a', m', hA, hM, hY⟩ := ih (i + 1) (a + SC (nI i).toNatClampNeg) (SC (nI i).toNatClampNeg) (by omega)
      exact ⟨a', m', fun P hp => br_f h1 ⟨h2, nm_e (nm_r (nI_1 i) (hA P hp))⟩, fun P hp => br_f h1 ⟨h2, br_f hm ⟨h2, nm_e (nm_r (nI_1 i) (hM P hp))⟩⟩, fun Q p hp => br_f h1 ⟨h2, nm_e ⟨h2, br_f hm ⟨h2, nm_e (nm_r (nI_1 i) (hY Q p hp))⟩⟩⟩⟩
theorem i_vc_ran {k : Nat} {u : SX} {v : SY} (I : i_Rel k u v) (hk : k + 3 ≤ 1536) (v1 : Int32) : wpX_ran (fun r => wpY_ran (fun r' => r' = r ∧ i_Rel (k + 3) u v) v v1) u v1 := by
  have I' := i_up I
  obtain ⟨n, T, κ, ob, ed, od, el, be, ar, go, ph, ra, ov, bh, K, V, J, O, W, C, ST, SR, RD, AD, OP, OM, OD, VA, PL, SC, FI, DC, NN, OW, NX, ySR, yRD, yAD, AT, FY, SK, rfl, rfl, h3, h4, h5, h6, _⟩ := I
  obtain ⟨a', m', hA, hM, hY⟩ := wd_ran (c := nI n) (ob := ob) (ed := ed) (od := od) (el := el) (be := be) (ar := ar) (go := go) (ph := ph) (ra := ra) (ov := ov) (bh := bh) (K := K) (V := V) (J := J) (O := O) (W := W) (C := C) (ST := ST) (SR := SR) (RD := RD) (AD := AD) (OP := OP) (OM := OM) (OD := OD) (VA := VA) (PL := PL) (SC := SC) (FI := FI) (DC := DC) (NN := NN) (OW := OW) (NX := NX) (AT := AT) (FY := FY) (SK := SK) (ySR := ySR) (yRD := yRD) (yAD := yAD) h4 T 0 0 0 (by omega)
  have G : ∀ r : Int32, ((v1 = 0 → r = ph) ∧ (v1 = 1 → r = a') ∧ (v1 = 2 → r = m') ∧ (v1 = 3 → r = ra) ∧ (v1 = 4 → r = nI T) ∧ (v1 < 0 ∨ 4 < v1 → r = 0)) → wpY_ran (fun r' => r' = r ∧ i_Rel (k + 3) (nI n, ob, ed, od, el, be, nI T, ar, go, ph, ra, ov, K, V, J, O, W, C, ST, SR, RD, AD, OP, OM, OD, VA, PL, SC, FI, DC) (nI n, nI T, ar, ph, ra, bh, ov, K, V, NN, W, C, OW, NX, ySR, yRD, yAD, VA, AT, SC, FY, DC, SK)) (nI n, nI T, ar, ph, ra, bh, ov, K, V, NN, W, C, OW, NX, ySR, yRD, yAD, VA, AT, SC, FY, DC, SK) v1 := by
    intro r ⟨g0, g1, g2, g3, g4, g5⟩
    refine ⟨T + 1, hY _ _ ?_⟩
    refine br_c (fun h => ⟨(g0 h).symm, I'⟩) fun n0 => br_c (fun h => ⟨(g1 h).symm, I'⟩) fun n1 => br_c (fun h => ⟨(g2 h).symm, I'⟩) fun n2 => br_c (fun h => ⟨(g3 h).symm, I'⟩) fun n3 => br_c (fun h => ⟨(g4 h).symm, I'⟩) fun n4 => ⟨(g5 ?_).symm, I'⟩
    by_cases h0 : v1 < 0
    · exact Or.inl h0
    · by_cases h1 : 4 < v1
      · exact Or.inr h1
      · exfalso
        obtain ⟨j, hj, rfl⟩ := nI_of2 (M := 4) (n := 4) (by decide) h0 (Int32.not_lt.mp h1)
        have : j = 0 ∨ j = 1 ∨ j = 2 ∨ j = 3 ∨ j = 4 := by omega
        rcases this with rfl | rfl | rfl | rfl | rfl
        · exact n0 rfl
        · exact n1 rfl
        · exact n2 rfl
        · exact n3 rfl
        · exact n4 rfl
  refine br_c (fun h => G _ ?_) fun h0 => br_c (fun h => G _ ?_) fun h1 => br_c (fun h => G _ ?_) fun n0 => br_c (fun h => ⟨T + 1, hA _ (G _ ?_)⟩) fun n1 => br_c (fun h => ⟨T + 1, hM _ (G _ ?_)⟩) fun n2 => br_c (fun h => G _ ?_) fun n3 => br_c (fun h => G _ ?_) fun n4 => trivial
  · exact ⟨fun e => absurd h (by rw [e]; decide), fun e => absurd h (by rw [e]; decide), fun e => absurd h (by rw [e]; decide), fun e => absurd h (by rw [e]; decide), fun e => absurd h (by rw [e]; decide), fun _ => rfl⟩
  · exact ⟨fun e => absurd h (by rw [e]; decide), fun e => absurd h (by rw [e]; decide), fun e => absurd h (by rw [e]; decide), fun e => absurd h (by rw [e]; decide), fun e => absurd h (by rw [e]; decide), fun _ => rfl⟩
  · subst h; exact ⟨fun _ => rfl, fun e => absurd e (by decide), fun e => absurd e (by decide), fun e => absurd e (by decide), fun e => absurd e (by decide), fun e => absurd e (by decide)⟩
  · subst h; exact ⟨fun e => absurd e (by decide), fun _ => rfl, fun e => absurd e (by decide), fun e => absurd e (by decide), fun e => absurd e (by decide), fun e => absurd e (by decide)⟩
  · subst h; exact ⟨fun e => absurd e (by decide), fun e => absurd e (by decide), fun _ => rfl, fun e => absurd e (by decide), fun e => absurd e (by decide), fun e => absurd e (by decide)⟩
  · subst h; exact ⟨fun e => absurd e (by decide), fun e => absurd e (by decide), fun e => absurd e (by decide), fun _ => rfl, fun e => absurd e (by decide), fun e => absurd e (by decide)⟩
  · subst h; exact ⟨fun e => absurd e (by decide), fun e => absurd e (by decide), fun e => absurd e (by decide), fun e => absurd e (by decide), fun _ => rfl, fun e => absurd e (by decide)⟩
theorem wd_kXY (x : Int32) : (∃ k, wd_kind k ∧ x = nI k ∧ (∀ P : Int32 → Prop, P 1 → wpX_isKind P x) ∧ (∀ (Q : Int32 → SY → Prop) (x2 : Int32) (c th ar ph ra bh ov : Int32) (K V NN W C OW NX SR RD AD VA AT SC FY DC SK : Nat → Int32), wY_token_34 Q x x2 c th ar ph ra bh ov K V NN W C OW NX SR RD AD VA AT SC FY DC SK → wpY_token Q (c, th, ar, ph, ra, bh, ov, K, V, NN, W, C, OW, NX, SR, RD, AD, VA, AT, SC, FY, DC, SK) x x2)) ∨ ((∀ P : Int32 → Prop, P 0 → wpX_isKind P x) ∧ (∀ (Q : Int32 → SY → Prop) (x2 : Int32) (c th ar ph ra bh ov : Int32) (K V NN W C OW NX SR RD AD VA AT SC FY DC SK : Nat → Int32), wY_token_38 Q x x2 c th ar ph ra bh ov K V NN W C OW NX SR RD AD VA AT SC FY DC SK → wpY_token Q (c, th, ar, ph, ra, bh, ov, K, V, NN, W, C, OW, NX, SR, RD, AD, VA, AT, SC, FY, DC, SK) x x2)) := by
  by_cases h0 : x < 0
  · refine Or.inr ⟨fun P hp => br_t h0 (br_t (Int32.lt_trans h0 (by decide)) (br_t (Int32.lt_trans h0 (by decide)) hp)), ?_⟩
    intros
    exact br_t h0 (br_t (Int32.le_of_lt (Int32.lt_trans h0 (by decide))) (br_t (Int32.le_of_lt (Int32.lt_trans h0 (by decide))) (by assumption)))
  · obtain ⟨j, hj, rfl⟩ := nI_of h0
    by_cases hk : wd_kind j
    · refine Or.inl ⟨j, hk, rfl, fun P hp => ?_, ?_⟩
      · rcases hk with h | ⟨h, h'⟩ | ⟨h, h'⟩
        · exact br_f h0 (br_t (nI_le (b := 8) h (by decide)) hp)
        · exact br_f h0 (br_f (nI_ge (a := 8) (by omega) hj) (br_f (nI_nlt (b := 10) (by omega) hj) (br_t (nI_le (b := 16) h' (by decide)) hp)))
        · exact br_f h0 (br_f (nI_ge (a := 8) (by omega) hj) (br_f (nI_nlt (b := 10) (by omega) hj) (br_f (nI_ge (a := 16) (by omega) hj) (br_f (nI_nlt (b := 20) (by omega) hj) (br_f (nI_nlt (a := 31) (by omega) (by decide)) hp)))))
      · intros
        rcases hk with h | ⟨h, h'⟩ | ⟨h, h'⟩
        · exact br_f h0 (br_t (nI_lt (b := 9) (by omega) (by decide)) (by assumption))
        · exact br_f h0 (br_f (nI_nlt (b := 9) (by omega) hj) (br_f (nI_ge (a := 9) (by omega) hj) (br_t (nI_lt (b := 17) (by omega) (by decide)) (by assumption))))
        · exact br_f h0 (br_f (nI_nlt (b := 9) (by omega) hj) (br_f (nI_ge (a := 9) (by omega) hj) (br_f (nI_nlt (b := 17) (by omega) hj) (br_f (nI_ge (a := 19) (by omega) hj) (br_f (nI_ge (b := 32) (by omega) (by decide)) (by assumption))))))
    · have hk' : j = 9 ∨ (17 ≤ j ∧ j ≤ 19) ∨ 32 ≤ j := by unfold wd_kind at hk; omega
      refine Or.inr ⟨fun P hp => ?_, ?_⟩
      · rcases hk' with rfl | ⟨h, h'⟩ | h
        · exact br_f h0 (br_f (by decide) (br_t (by decide) (br_t (by decide) hp)))
        · exact br_f h0 (br_f (nI_ge (a := 8) (by omega) hj) (br_f (nI_nlt (b := 10) (by omega) hj) (br_f (nI_ge (a := 16) (by omega) hj) (br_t (nI_lt (b := 20) (by omega) (by decide)) hp))))
        · exact br_f h0 (br_f (nI_ge (a := 8) (by omega) hj) (br_f (nI_nlt (b := 10) (by omega) hj) (br_f (nI_ge (a := 16) (by omega) hj) (br_f (nI_nlt (b := 20) (by omega) hj) (br_t (nI_lt (a := 31) (by omega) hj) hp)))))
      · intros
        rcases hk' with rfl | ⟨h, h'⟩ | h
        · exact br_f h0 (br_f (by decide) (br_t (by decide) (br_t (by decide) (by assumption))))
        · exact br_f h0 (br_f (nI_nlt (b := 9) (by omega) hj) (br_f (nI_ge (a := 9) (by omega) hj) (br_f (nI_nlt (b := 17) (by omega) hj) (br_t (nI_le (b := 19) h' (by decide)) (by assumption)))))
        · exact br_f h0 (br_f (nI_nlt (b := 9) (by omega) hj) (br_f (nI_ge (a := 9) (by omega) hj) (br_f (nI_nlt (b := 17) (by omega) hj) (br_f (nI_ge (a := 19) (by omega) hj) (br_t (nI_le (a := 32) h hj) (by assumption))))))
theorem wd_tokU {κ : Nat → Nat} {K V : Nat → Int32} (h : wd_tok κ K V) (n k : Nat) (x : Int32) (hk : wd_kind k) (hx : k = 0 ∨ k = 11 → ∃ w, w < 6 ∧ x = nI w) : wd_tok (fun i => if i = n then k else κ i) (upd K n (nI k)) (upd V n x) := by
  intro i
  unfold upd
  by_cases e : i = n
  · rw [if_pos e, if_pos e]
    dsimp only
    rw [if_pos e]
    exact ⟨rfl, hk, hx⟩
  · rw [if_neg e, if_neg e]
    dsimp only
    rw [if_neg e]
    exact h i
theorem i_vc_token {k : Nat} {u : SX} {v : SY} (I : i_Rel k u v) (hk : k + 3 ≤ 1536) (v1 : Int32) (v2 : Int32) : wpX_token (fun r u' => wpY_token (fun r' v' => r' = r ∧ i_Rel (k + 3) u' v') v v1 v2) u v1 v2 := by
  have I' := i_up I
  obtain ⟨n, T, κ, ob, ed, od, el, be, ar, go, ph, ra, ov, bh, K, V, J, O, W, C, ST, SR, RD, AD, OP, OM, OD, VA, PL, SC, FI, DC, NN, OW, NX, ySR, yRD, yAD, AT, FY, SK, rfl, rfl, h3, h4, h5, h6, _⟩ := I
  have done_ : n < 64 → ∀ q : Nat, v1 = nI q → wd_kind q → (q = 0 ∨ q = 11 → ∃ w, w < 6 ∧ v2 = nI w) → (∀ (Q : Int32 → SY → Prop), wY_token_64 Q v1 v2 (nI n) (nI T) ar ph ra bh ov K V NN W C OW NX ySR yRD yAD VA AT SC FY DC SK → wpY_token Q (nI n, nI T, ar, ph, ra, bh, ov, K, V, NN, W, C, OW, NX, ySR, yRD, yAD, VA, AT, SC, FY, DC, SK) v1 v2) → wX_token_37 (fun r u' => wpY_token (fun r' v' => r' = r ∧ i_Rel (k + 3) u' v') (nI n, nI T, ar, ph, ra, bh, ov, K, V, NN, W, C, OW, NX, ySR, yRD, yAD, VA, AT, SC, FY, DC, SK) v1 v2) v1 v2 (nI n) ob ed od el be (nI T) ar go ph ra ov K V J O W C ST SR RD AD OP OM OD VA PL SC FI DC := by
    intro hn q e1 hq hv HY
    have hi : vp_in (nI n) 64 := vp_in_nI hn (by decide)
    have ec := nI_clamp (n := n) (by omega)
    refine ⟨hi, nm_e ⟨hi, nm_e (nm_e (HY _ (br_f ?_ ⟨hi, nm_e ⟨hi, nm_e (nm_e ⟨rfl, ?_⟩)⟩⟩)))⟩⟩
    · exact fun z => absurd ((nI_eq (b := 64) (by omega) (by decide)).mp z) (by omega)
    · rw [ec, e1, nI_1]
      exact ⟨n + 1, T, _, ob, ed, od, el, be, ar, go, ph, ra, ov, bh, _, _, J, O, W, C, ST, SR, RD, AD, OP, OM, OD, VA, PL, SC, FI, DC, NN, OW, NX, ySR, yRD, yAD, AT, FY, SK, rfl, rfl, by omega, h4, wd_tokU h5 n q v2 hq hv, h6, rfl⟩
  rcases wd_kXY v1 with ⟨q, hq, e1, hX, hY⟩ | ⟨hX, hY⟩
  · refine hX _ (br_f (by decide) ?_)
    by_cases hn : n < 64
    · refine br_t (nI_lt (b := 64) hn (by decide)) ?_
      by_cases hv : q = 0 ∨ q = 11
      · by_cases g : v2 < 0 ∨ 6 ≤ v2
        · have A : ∀ Q : Int32 → SY → Prop, Q (-1) (nI n, nI T, ar, ph, ra, bh, ov, K, V, NN, W, C, OW, NX, ySR, yRD, yAD, VA, AT, SC, FY, DC, SK) → wpY_token Q (nI n, nI T, ar, ph, ra, bh, ov, K, V, NN, W, C, OW, NX, ySR, yRD, yAD, VA, AT, SC, FY, DC, SK) v1 v2 := by
            intro Q hp
            refine hY Q v2 _ _ _ _ _ _ _ _ _ _ _ _ _ _ _ _ _ _ _ _ _ _ _ (br_f (by decide) ?_)
            have B : wY_token_54 Q v1 v2 (nI n) (nI T) ar ph ra bh ov K V NN W C OW NX ySR yRD yAD VA AT SC FY DC SK := by
              by_cases g0 : v2 < 0
              · exact br_t g0 (br_t rfl hp)
              · exact br_f g0 (br_t (g.resolve_left g0) (br_t rfl hp))
            rcases hv with rfl | rfl
            · exact br_t e1 B
            · exact br_f (by rw [e1]; decide) (br_t e1 B)
          have B : wX_token_28 (fun r u' => wpY_token (fun r' v' => r' = r ∧ i_Rel (k + 3) u' v') (nI n, nI T, ar, ph, ra, bh, ov, K, V, NN, W, C, OW, NX, ySR, yRD, yAD, VA, AT, SC, FY, DC, SK) v1 v2) v1 v2 (nI n) ob ed od el be (nI T) ar go ph ra ov K V J O W C ST SR RD AD OP OM OD VA PL SC FI DC := by
            by_cases g0 : v2 < 0
            · exact br_t g0 (br_t rfl (A _ ⟨rfl, I'⟩))
            · exact br_f g0 (br_t (g.resolve_left g0) (br_t rfl (A _ ⟨rfl, I'⟩)))
          rcases hv with rfl | rfl
          · exact br_t e1 B
          · exact br_f (by rw [e1]; decide) (br_t e1 B)
        · have g0 : ¬ v2 < 0 := fun z => g (Or.inl z)
          have g1 : ¬ 6 ≤ v2 := fun z => g (Or.inr z)
          have D := done_ hn q e1 hq (fun _ => wd_thr (T := 6) (by decide) g0 g1) (by
            intro Q hp
            refine hY Q v2 _ _ _ _ _ _ _ _ _ _ _ _ _ _ _ _ _ _ _ _ _ _ _ (br_f (by decide) ?_)
            rcases hv with rfl | rfl
            · exact br_t e1 (br_f g0 (br_f g1 (br_f (by decide) hp)))
            · exact br_f (by rw [e1]; decide) (br_t e1 (br_f g0 (br_f g1 (br_f (by decide) hp)))))
          rcases hv with rfl | rfl
          · exact br_t e1 (br_f g0 (br_f g1 (br_f (by decide) D)))
          · exact br_f (by rw [e1]; decide) (br_t e1 (br_f g0 (br_f g1 (br_f (by decide) D))))
      · have hq31 : q < 2 ^ 31 := by unfold wd_kind at hq; omega
        have m0 : ¬ v1 = 0 := by
          rw [e1]; exact fun z => hv (Or.inl ((nI_eq (b := 0) hq31 (by decide)).mp z))
        have m1 : ¬ v1 = 11 := by
          rw [e1]; exact fun z => hv (Or.inr ((nI_eq (b := 11) hq31 (by decide)).mp z))
        refine br_f m0 (br_f m1 (done_ hn q e1 hq (fun z => absurd z hv) ?_))
        intro Q hp
        exact hY Q v2 _ _ _ _ _ _ _ _ _ _ _ _ _ _ _ _ _ _ _ _ _ _ _ (br_f (by decide) (br_f m0 (br_f m1 hp)))
    · refine br_f (nI_nlt (b := 64) (by omega) (by omega)) ?_
      obtain rfl : n = 64 := by omega
      have A : wY_token_64 (fun r' v' => r' = -1 ∧ i_Rel (k + 3) (nI 64, ob, ed, od, el, be, nI T, ar, go, ph, ra, ov, K, V, J, O, W, C, ST, SR, RD, AD, OP, OM, OD, VA, PL, SC, FI, DC) v') v1 v2 (nI 64) (nI T) ar ph ra bh ov K V NN W C OW NX ySR yRD yAD VA AT SC FY DC SK := br_t (by decide) ⟨rfl, I'⟩
      have B : wY_token_54 (fun r' v' => r' = -1 ∧ i_Rel (k + 3) (nI 64, ob, ed, od, el, be, nI T, ar, go, ph, ra, ov, K, V, J, O, W, C, ST, SR, RD, AD, OP, OM, OD, VA, PL, SC, FI, DC) v') v1 v2 (nI 64) (nI T) ar ph ra bh ov K V NN W C OW NX ySR yRD yAD VA AT SC FY DC SK := by
        by_cases g0 : v2 < 0
        · exact br_t g0 (br_t rfl ⟨rfl, I'⟩)
        · by_cases g1 : 6 ≤ v2
          · exact br_f g0 (br_t g1 (br_t rfl ⟨rfl, I'⟩))
          · exact br_f g0 (br_f g1 (br_f (by decide) A))
      exact hY _ v2 _ _ _ _ _ _ _ _ _ _ _ _ _ _ _ _ _ _ _ _ _ _ _ (br_f (by decide) (br_c (fun _ => B) fun _ => br_c (fun _ => B) fun _ => A))
  · exact hX _ (br_t rfl (hY _ v2 _ _ _ _ _ _ _ _ _ _ _ _ _ _ _ _ _ _ _ _ _ _ _ (br_t rfl ⟨rfl, I'⟩)))
end
