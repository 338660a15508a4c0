section
/-! rows of kit/rows, pasted: stores, numbers, masks, bits -/
theorem pk_us {f : Nat → Int32} {k : Nat} {x : Int32} : upd f k x k = x := if_pos rfl
theorem pk_un {f : Nat → Int32} {k j : Nat} {x : Int32} (h : j ≠ k) : upd f k x j = f j := if_neg h
theorem pk_sub {a b : Nat} (h : b ≤ a) : nI a - nI b = nI (a - b) := by
  obtain ⟨c, rfl⟩ : ∃ c, a = c + b := ⟨a - b, by omega⟩
  rw [← nI_add, Int32.add_sub_cancel, Nat.add_sub_cancel]
theorem pk_m1 (n : Nat) : nI (n + 1) + (-1) = nI n := by
  rw [← nI_1, Int32.add_assoc, show (1 : Int32) + (-1) = 0 from rfl, Int32.add_zero]
theorem pk_mul (a b : Nat) : nI a * nI b = nI (a * b) := (Int32.ofNat_mul a b).symm
theorem pk_le {x y : Int32} {A B : Prop} (a b : Nat) (f : a ≤ b → A) (g : b < a → B) (hx : x = nI a := by rfl) (hy : y = nI b := by rfl) (ha : a < 2 ^ 31 := by omega) (hb : b < 2 ^ 31 := by omega) : (x ≤ y → A) ∧ (¬ x ≤ y → B) := by
  subst hx hy
  rw [nI_leI ha hb]
  exact ⟨f, fun z => g (by omega)⟩
theorem pk_lt {x y : Int32} {A B : Prop} (a b : Nat) (f : a < b → A) (g : b ≤ a → B) (hx : x = nI a := by rfl) (hy : y = nI b := by rfl) (ha : a < 2 ^ 31 := by omega) (hb : b < 2 ^ 31 := by omega) : (x < y → A) ∧ (¬ x < y → B) := by
  subst hx hy
  rw [nI_ltI ha hb]
  exact ⟨f, fun z => g (by omega)⟩
theorem pk_eq {x y : Int32} {A B : Prop} (a b : Nat) (f : a = b → A) (g : a ≠ b → B) (hx : x = nI a := by rfl) (hy : y = nI b := by rfl) (ha : a < 2 ^ 31 := by omega) (hb : b < 2 ^ 31 := by omega) : (x = y → A) ∧ (¬ x = y → B) := by
  subst hx hy
  rw [nI_eq ha hb]
  exact ⟨f, g⟩
theorem pk_in {x : Int32} (n N : Nat) (h : n < N) (hx : x = nI n := by rfl) (hN : N < 2 ^ 31 := by omega) : vp_in x N := by
  subst hx
  exact vp_in_nI h hN
theorem pk_cl {x : Int32} (n : Nat) (hx : x = nI n := by rfl) (h : n < 2 ^ 31 := by omega) : x.toNatClampNeg = n := by
  subst hx
  exact nI_clamp h
theorem pk_tn {n : Nat} (h : n < 2 ^ 32) : (nI n).toBitVec.toNat = n := Nat.mod_eq_of_lt h
theorem pk_and (x : Int32) {m : Int32} (k : Nat) (hm : m.toBitVec.toNat = 2 ^ k - 1) : x &&& m = nI (x.toBitVec.toNat % 2 ^ k) := by
  apply Int32.toBitVec_inj.mp
  apply BitVec.eq_of_toNat_eq
  rw [Int32.toBitVec_and, BitVec.toNat_and, hm, Nat.and_two_pow_sub_one_eq_mod]
  show _ = (BitVec.ofNat 32 _).toNat
  rw [BitVec.toNat_ofNat]
  exact (Nat.mod_eq_of_lt (Nat.lt_of_le_of_lt (Nat.mod_le _ _) x.toBitVec.isLt)).symm
theorem pk_andE (x : Int32) {m : Int32} (k : Nat) (hm : m.toBitVec.toNat = 2 ^ k - 1) : ∃ j : Nat, j < 2 ^ k ∧ x &&& m = nI j := ⟨_, Nat.mod_lt _ (Nat.two_pow_pos k), pk_and x k hm⟩
theorem pk_andIn (x : Int32) {m : Int32} (k : Nat) (hm : m.toBitVec.toNat = 2 ^ k - 1) (hk : k ≤ 30) : vp_in (x &&& m) (2 ^ k) := by
  obtain ⟨j, hj, e⟩ := pk_andE x k hm
  rw [e]
  exact vp_in_nI hj (Nat.lt_of_le_of_lt (Nat.pow_le_pow_right (by decide) hk) (by decide))
theorem pk_ix (x : Int32) {n : Nat} (hn : n < 2 ^ 31) : x < 0 ∨ nI n ≤ x ∨ ∃ j : Nat, j < n ∧ x = nI j := by
  by_cases h : x < 0
  · exact Or.inl h
  · obtain ⟨j, hj, rfl⟩ := nI_of h
    by_cases h2 : j < n
    · exact Or.inr (Or.inr ⟨j, h2, rfl⟩)
    · exact Or.inr (Or.inl (nI_le (by omega) hj))
def bt (x : Int32) (i : Nat) : Bool := x.toBitVec.getLsbD i
theorem b_ext {x y : Int32} (h : ∀ i, i < 32 → bt x i = bt y i) : x = y := Int32.toBitVec_inj.mp (BitVec.eq_of_getLsbD_eq (fun i hi => h i hi))
theorem b_or (x y : Int32) (i : Nat) : bt (x ||| y) i = (bt x i || bt y i) := by unfold bt; rw [Int32.toBitVec_or, BitVec.getLsbD_or]
theorem b_and (x y : Int32) (i : Nat) : bt (x &&& y) i = (bt x i && bt y i) := by unfold bt; rw [Int32.toBitVec_and, BitVec.getLsbD_and]
theorem b_xor (x y : Int32) (i : Nat) : bt (x ^^^ y) i = (bt x i ^^ bt y i) := by unfold bt; rw [Int32.toBitVec_xor, BitVec.getLsbD_xor]
theorem b_big {x : Int32} {i : Nat} (h : 32 ≤ i) : bt x i = false := BitVec.getLsbD_of_ge _ _ h
theorem b_m1 : ∀ i, i < 32 → bt (-1) i = true := by decide +kernel
theorem b_0 (i : Nat) : bt 0 i = false := BitVec.getLsbD_zero
theorem s_l : ∀ n, n < 32 → ((nI n &&& 31).toBitVec.smod 32).toNat = n := by decide +kernel
theorem s_u : ∀ n, n < 32 → (((nI n).toUInt32 &&& Int32.toUInt32 31).toBitVec % 32).toNat = n := by decide +kernel
theorem b_shl (n : Nat) (hn : n < 32) (x : Int32) {i : Nat} (hi : i < 32) : bt (x <<< (nI n &&& 31)) i = (decide (n ≤ i) && bt x (i - n)) := by
  unfold bt
  rw [Int32.toBitVec_shiftLeft]
  show (x.toBitVec <<< ((nI n &&& 31).toBitVec.smod 32).toNat).getLsbD i = _
  rw [s_l n hn, BitVec.getLsbD_shiftLeft]
  rcases Nat.lt_or_ge i n with h | h
  · simp [h, Nat.not_le.mpr h]
  · simp [hi, h, Nat.not_lt.mpr h]
theorem b_ushr (n : Nat) (hn : n < 32) (x : Int32) (i : Nat) : bt ((x.toUInt32 >>> ((nI n).toUInt32 &&& Int32.toUInt32 31)).toInt32) i = bt x (n + i) := by
  show (x.toUInt32 >>> ((nI n).toUInt32 &&& Int32.toUInt32 31)).toBitVec.getLsbD i = x.toUInt32.toBitVec.getLsbD (n + i)
  rw [UInt32.toBitVec_shiftRight]
  show (x.toUInt32.toBitVec >>> (((nI n).toUInt32 &&& Int32.toUInt32 31).toBitVec % 32).toNat).getLsbD i = _
  rw [s_u n hn, BitVec.getLsbD_ushiftRight]
theorem b_sshr (n : Nat) (hn : n < 32) (x : Int32) {i : Nat} (hi : i < 32) : bt (x >>> (nI n &&& 31)) i = if n + i < 32 then bt x (n + i) else bt x 31 := by
  unfold bt
  rw [Int32.toBitVec_shiftRight]
  show (x.toBitVec.sshiftRight ((nI n &&& 31).toBitVec.smod 32).toNat).getLsbD i = _
  rw [s_l n hn, BitVec.getLsbD_sshiftRight, BitVec.msb_eq_getLsbD_last]
  simp [hi]
end
section
/-! the pure picture: kinds as naturals, arities, the relation between calls -/
def wd_ar (k : Nat) : Nat := if k < 15 then 0 else if k < 17 then 1 else if k = 29 then 1 else if k = 30 then 1 else if k = 31 then 3 else 2
def wd_ex (k : Nat) : Nat := if k = 1 then 2 else if k = 2 then 2 else if k = 0 then 1 else if k = 3 then 1 else if k = 6 then 1 else 0
def wd_kind (k : Nat) : Prop := k ≤ 8 ∨ (10 ≤ k ∧ k ≤ 16) ∨ (20 ≤ k ∧ k ≤ 31)
def wd_tok (κ : Nat → Nat) (K V : Nat → Int32) : Prop := ∀ i, K i = nI (κ i) ∧ wd_kind (κ i) ∧ ((κ i = 0 ∨ κ i = 11) → ∃ w, w < 6 ∧ V i = nI w)
def i_Rel (k : Nat) (u : SX) (v : SY) : Prop := ∃ (n T : Nat) (κ : Nat → Nat), ∃ (ob ed od el be ar go ph ra ov bh : Int32) (K V J O W C ST SR RD AD OP OM OD VA PL SC FI DC NN OW NX ySR yRD yAD AT FY SK : Nat → Int32),
  u = (nI n, ob, ed, od, el, be, nI T, ar, go, ph, ra, ov, K, V, J, O, W, C, ST, SR, RD, AD, OP, OM, OD, VA, PL, SC, FI, DC) ∧ v = (nI n, nI T, ar, ph, ra, bh, ov, K, V, NN, W, C, OW, NX, ySR, yRD, yAD, VA, AT, SC, FY, DC, SK) ∧ n ≤ 64 ∧ T ≤ 32 ∧ wd_tok κ K V ∧ (∀ j, j < 64 → SR j = 0 ∧ RD j = 0 ∧ AD j = 0) ∧ k = k
theorem i_up {k : Nat} {u : SX} {v : SY} (h : i_Rel k u v) : i_Rel (k + 3) u v := by
  obtain ⟨n, T, κ, ob, ed, od, el, be, ar, go, ph, ra, ov, bh, K, V, J, O, W, C, ST, SR, RD, AD, OP, OM, OD, VA, PL, SC, FI, DC, NN, OW, NX, ySR, yRD, yAD, AT, FY, SK, h1, h2, h3, h4, h5, h6, _⟩ := h
  exact ⟨n, T, κ, ob, ed, od, el, be, ar, go, ph, ra, ov, bh, K, V, J, O, W, C, ST, SR, RD, AD, OP, OM, OD, VA, PL, SC, FI, DC, NN, OW, NX, ySR, yRD, yAD, AT, FY, SK, h1, h2, h3, h4, h5, h6, rfl⟩
theorem i_vc0 : wpX_init (fun u => wpY_init (fun v => i_Rel 0 u v)) := by
  refine ⟨0, 0, fun _ => 0, 0, 0, 0, 0, 0, 0, 0, 0, 0, 0, 0, fun _ => 0, fun _ => 0, fun _ => 0, fun _ => 0, fun _ => 0, fun _ => 0, fun _ => 0, fun _ => 0, fun _ => 0, fun _ => 0, fun _ => 0, fun _ => 0, fun _ => 0, fun _ => 0, fun _ => 0, fun _ => 0, fun _ => 0, fun _ => 0, fun _ => 0, fun _ => 0, fun _ => 0, fun _ => 0, fun _ => 0, fun _ => 0, fun _ => 0, fun _ => 0, fun _ => 0, rfl, rfl, by decide, by decide, ?_, fun j _ => ⟨rfl, rfl, rfl⟩, rfl⟩
  exact fun i => ⟨rfl, Or.inl (Nat.zero_le _), fun _ => ⟨0, by decide, rfl⟩⟩
theorem wd_uu {f : Nat → Int32} {k : Nat} {x y : Int32} : upd (upd f k x) k y = upd f k y := by
  funext j
  unfold upd
  split <;> rfl
theorem wd_63 (x : Int32) : ∃ j : Nat, j < 64 ∧ x &&& 63 = nI j := pk_andE x (m := 63) 6 (by decide)
end
section
/-! the small calls -/
theorem i_vc_wipe {k : Nat} {u : SX} {v : SY} (I : i_Rel k u v) (hk : k + 3 ≤ 1536) : wpX_wipe (fun r u' => wpY_wipe (fun r' v' => r' = r ∧ i_Rel (k + 3) u' v') v) u := by
  obtain ⟨n, T, κ, ob, ed, od, el, be, ar, go, ph, ra, ov, bh, K, V, J, O, W, C, ST, SR, RD, AD, OP, OM, OD, VA, PL, SC, FI, DC, NN, OW, NX, ySR, yRD, yAD, AT, FY, SK, rfl, rfl, h3, h4, h5, h6, _⟩ := I
  exact ⟨rfl, 0, T, κ, ob, ed, od, el, be, ar, go, ph, ra, ov, bh, K, V, J, O, W, C, ST, SR, RD, AD, OP, OM, OD, VA, PL, SC, FI, DC, NN, OW, NX, ySR, yRD, yAD, AT, FY, SK, rfl, rfl, by omega, h4, h5, h6, rfl⟩
theorem i_vc_put {k : Nat} {u : SX} {v : SY} (I : i_Rel k u v) (hk : k + 3 ≤ 1536) (v1 : Int32) (v2 : Int32) : wpX_put (fun r u' => wpY_put (fun r' v' => r' = r ∧ i_Rel (k + 3) u' v') v v1 v2) u v1 v2 := by
  obtain ⟨n, T, κ, ob, ed, od, el, be, ar, go, ph, ra, ov, bh, K, V, J, O, W, C, ST, SR, RD, AD, OP, OM, OD, VA, PL, SC, FI, DC, NN, OW, NX, ySR, yRD, yAD, AT, FY, SK, rfl, rfl, h3, h4, h5, h6, _⟩ := I
  have hi : vp_in (v1 &&& 63) 64 := pk_andIn v1 (m := 63) 6 (by decide) (by decide)
  refine nm_e ⟨hi, nm_e ⟨hi, nm_e ⟨hi, nm_e ⟨hi, nm_e ⟨rfl, n, T, κ, ob, ed, od, el, be, ar, go, ph, ra, ov, bh, K, V, J, O, upd W (v1 &&& 63).toNatClampNeg v2, C, ST, SR, RD, AD, OP, OM, OD, VA, PL, SC, FI, DC, NN, OW, NX, ySR, yRD, yAD, AT, FY, SK, rfl, rfl, h3, h4, h5, h6, rfl⟩⟩⟩⟩⟩
theorem i_vc_word {k : Nat} {u : SX} {v : SY} (I : i_Rel k u v) (hk : k + 3 ≤ 1536) (v1 : Int32) : wpX_word (fun r => wpY_word (fun r' => r' = r ∧ i_Rel (k + 3) u v) v v1) u v1 := by
  have I' := i_up I
  obtain ⟨n, T, κ, ob, ed, od, el, be, ar, go, ph, ra, ov, bh, K, V, J, O, W, C, ST, SR, RD, AD, OP, OM, OD, VA, PL, SC, FI, DC, NN, OW, NX, ySR, yRD, yAD, AT, FY, SK, rfl, rfl, h3, h4, h5, h6, _⟩ := I
  have hi : vp_in (v1 &&& 63) 64 := pk_andIn v1 (m := 63) 6 (by decide) (by decide)
  exact ⟨hi, hi, rfl, I'⟩
theorem i_vc_counter {k : Nat} {u : SX} {v : SY} (I : i_Rel k u v) (hk : k + 3 ≤ 1536) (v1 : Int32) : wpX_counter (fun r => wpY_counter (fun r' => r' = r ∧ i_Rel (k + 3) u v) v v1) u v1 := by
  have I' := i_up I
  obtain ⟨n, T, κ, ob, ed, od, el, be, ar, go, ph, ra, ov, bh, K, V, J, O, W, C, ST, SR, RD, AD, OP, OM, OD, VA, PL, SC, FI, DC, NN, OW, NX, ySR, yRD, yAD, AT, FY, SK, rfl, rfl, h3, h4, h5, h6, _⟩ := I
  have hi : vp_in (v1 &&& 63) 64 := pk_andIn v1 (m := 63) 6 (by decide) (by decide)
  exact ⟨hi, hi, rfl, I'⟩
theorem i_vc_done {k : Nat} {u : SX} {v : SY} (I : i_Rel k u v) (hk : k + 3 ≤ 1536) (v1 : Int32) : wpX_done (fun r => wpY_done (fun r' => r' = r ∧ i_Rel (k + 3) u v) v v1) u v1 := by
  have I' := i_up I
  obtain ⟨n, T, κ, ob, ed, od, el, be, ar, go, ph, ra, ov, bh, K, V, J, O, W, C, ST, SR, RD, AD, OP, OM, OD, VA, PL, SC, FI, DC, NN, OW, NX, ySR, yRD, yAD, AT, FY, SK, rfl, rfl, h3, h4, h5, h6, _⟩ := I
  by_cases h0 : v1 < 0
  · exact br_t h0 (br_t h0 (br_t rfl ⟨rfl, I'⟩))
  · by_cases h1 : (64 : Int32) ≤ v1
    · exact br_f h0 (br_t h1 (br_f h0 (br_t h1 (br_t rfl ⟨rfl, I'⟩))))
    · have hi : vp_in v1 64 := by
        obtain ⟨j, hj, rfl⟩ := nI_of h0
        exact vp_in_nI (Nat.lt_of_not_le fun z => h1 (nI_le (a := 64) z hj)) (by decide)
      exact br_f h0 (br_f h1 ⟨hi, br_f h0 (br_f h1 (br_f (by decide) ⟨hi, rfl, I'⟩))⟩)
theorem wd_thr {T : Nat} (hT : T ≤ 32) {x : Int32} (h0 : ¬ x < 0) (h1 : ¬ nI T ≤ x) : ∃ j, j < T ∧ x = nI j := by
  obtain ⟨j, hj, rfl⟩ := nI_of h0
  exact ⟨j, Nat.lt_of_not_le fun z => h1 (nI_le z hj), rfl⟩
theorem i_vc_steps {k : Nat} {u : SX} {v : SY} (I : i_Rel k u v) (hk : k + 3 ≤ 1536) (v1 : Int32) : wpX_steps (fun r => wpY_steps (fun r' => r' = r ∧ i_Rel (k + 3) u v) v v1) u v1 := by
  have I' := i_up I
  obtain ⟨n, T, κ, ob, ed, od, el, be, ar, go, ph, ra, ov, bh, K, V, J, O, W, C, ST, SR, RD, AD, OP, OM, OD, VA, PL, SC, FI, DC, NN, OW, NX, ySR, yRD, yAD, AT, FY, SK, rfl, rfl, h3, h4, h5, h6, _⟩ := I
  by_cases h0 : v1 < 0
  · exact br_t h0 (br_t rfl (br_t h0 (br_t rfl ⟨rfl, I'⟩)))
  · by_cases h1 : nI T ≤ v1
    · exact br_f h0 (br_t h1 (br_t rfl (br_f h0 (br_t h1 (br_t rfl ⟨rfl, I'⟩)))))
    · have hi : vp_in v1 32 := by
        obtain ⟨j, hj, rfl⟩ := wd_thr h4 h0 h1
        exact vp_in_nI (by omega) (by decide)
      exact br_f h0 (br_f h1 (br_f (by decide) ⟨hi, br_f h0 (br_f h1 (br_f (by decide) ⟨hi, rfl, I'⟩))⟩))
theorem i_vc_variable {k : Nat} {u : SX} {v : SY} (I : i_Rel k u v) (hk : k + 3 ≤ 1536) (v1 : Int32) (v2 : Int32) : wpX_variable (fun r => wpY_variable (fun r' => r' = r ∧ i_Rel (k + 3) u v) v v1 v2) u v1 v2 := by
  have I' := i_up I
  obtain ⟨n, T, κ, ob, ed, od, el, be, ar, go, ph, ra, ov, bh, K, V, J, O, W, C, ST, SR, RD, AD, OP, OM, OD, VA, PL, SC, FI, DC, NN, OW, NX, ySR, yRD, yAD, AT, FY, SK, rfl, rfl, h3, h4, h5, h6, _⟩ := I
  by_cases h0 : v1 < 0
  · exact br_t h0 (br_t rfl (br_t h0 (br_t rfl ⟨rfl, I'⟩)))
  · by_cases h1 : nI T ≤ v1
    · exact br_f h0 (br_t h1 (br_t rfl (br_f h0 (br_t h1 (br_t rfl ⟨rfl, I'⟩)))))
    · by_cases g0 : v2 < 0
      · exact br_f h0 (br_f h1 (br_f (by decide) (br_t g0 (br_t rfl (br_f h0 (br_f h1 (br_f (by decide) (br_t g0 (br_t rfl ⟨rfl, I'⟩)))))))))
      · by_cases g1 : (6 : Int32) ≤ v2
        · exact br_f h0 (br_f h1 (br_f (by decide) (br_f g0 (br_t g1 (br_t rfl (br_f h0 (br_f h1 (br_f (by decide) (br_f g0 (br_t g1 (br_t rfl ⟨rfl, I'⟩)))))))))))
        · have hj : ∃ a b, a < T ∧ b < 6 ∧ v1 = nI a ∧ v2 = nI b := by
            obtain ⟨a, ha, e1⟩ := wd_thr h4 h0 h1
            obtain ⟨b, hb, e2⟩ := wd_thr (T := 6) (by decide) g0 g1
            exact ⟨a, b, ha, hb, e1, e2⟩
          obtain ⟨a, b, ha, hb, e1, e2⟩ := hj
          have eX : (v1 * 6) + v2 = nI (6 * a + b) := by rw [e1, e2, Nat.mul_comm, ← nI_add, ← pk_mul]; rfl
          have eY : (6 * v1) + v2 = nI (6 * a + b) := by rw [e1, e2, ← nI_add, ← pk_mul]; rfl
          have iX : vp_in ((v1 * 6) + v2) 192 := by rw [eX]; exact vp_in_nI (by omega) (by decide)
          have iY : vp_in ((6 * v1) + v2) 192 := by rw [eY]; exact vp_in_nI (by omega) (by decide)
          exact br_f h0 (br_f h1 (br_f (by decide) (br_f g0 (br_f g1 (br_f (by decide) ⟨iX, br_f h0 (br_f h1 (br_f (by decide) (br_f g0 (br_f g1 (br_f (by decide) ⟨iY, by rw [eX, eY], I'⟩)))))⟩)))))
end
