section
/-! rows of kit/rows, pasted: stores, numbers, masks, bits -/
theorem pk_us {f : Nat → Int32} {k : Nat} {x : Int32} : upd f k x k = x := if_pos rfl
theorem pk_un {f : Nat → Int32} {k j : Nat} {x : Int32} (h : j ≠ k) : upd f k x j = f j := if_neg h
theorem pk_sub {a b : Nat} (h : b ≤ a) : nI a - nI b = nI (a - b) := by
  obtain ⟨c, rfl⟩ : ∃ c, a = c + b := ⟨a - b, by omega⟩
  rw [← nI_add, Int32.add_sub_cancel, Nat.add_sub_cancel]
theorem pk_m1 (n : Nat) : nI (n + 1) + (-1) = nI n := by
  rw [← nI_1, Int32.add_assoc, show (1 : Int32) + (-1) = 0 from rfl, Int32.add_zero]
theorem pk_mul (a b : Nat) : nI a * nI b = nI (a * b) := (Int32.ofNat_mul a b).symm
theorem pk_le {x y : Int32} {A B : Prop} (a b : Nat) (f : a ≤ b → A) (g : b < a → B) (hx : x = nI a := by rfl) (hy : y = nI b := by rfl) (ha : a < 2 ^ 31 := by omega) (hb : b < 2 ^ 31 := by omega) : (x ≤ y → A) ∧ (¬ x ≤ y → B) := by
  subst hx hy
  rw [nI_leI ha hb]
  exact ⟨f, fun z => g (by omega)⟩
theorem pk_lt {x y : Int32} {A B : Prop} (a b : Nat) (f : a < b → A) (g : b ≤ a → B) (hx : x = nI a := by rfl) (hy : y = nI b := by rfl) (ha : a < 2 ^ 31 := by omega) (hb : b < 2 ^ 31 := by omega) : (x < y → A) ∧ (¬ x < y → B) := by
  subst hx hy
  rw [nI_ltI ha hb]
  exact ⟨f, fun z => g (by omega)⟩
theorem pk_eq {x y : Int32} {A B : Prop} (a b : Nat) (f : a = b → A) (g : a ≠ b → B) (hx : x = nI a := by rfl) (hy : y = nI b := by rfl) (ha : a < 2 ^ 31 := by omega) (hb : b < 2 ^ 31 := by omega) : (x = y → A) ∧ (¬ x = y → B) := by
  subst hx hy
  rw [nI_eq ha hb]
  exact ⟨f, g⟩
theorem pk_in {x : Int32} (n N : Nat) (h : n < N) (hx : x = nI n := by rfl) (hN : N < 2 ^ 31 := by omega) : vp_in x N := by
  subst hx
  exact vp_in_nI h hN
theorem pk_cl {x : Int32} (n : Nat) (hx : x = nI n := by rfl) (h : n < 2 ^ 31 := by omega) : x.toNatClampNeg = n := by
  subst hx
  exact nI_clamp h
theorem pk_tn {n : Nat} (h : n < 2 ^ 32) : (nI n).toBitVec.toNat = n := Nat.mod_eq_of_lt h
theorem pk_and (x : Int32) {m : Int32} (k : Nat) (hm : m.toBitVec.toNat = 2 ^ k - 1) : x &&& m = nI (x.toBitVec.toNat % 2 ^ k) := by
  apply Int32.toBitVec_inj.mp
  apply BitVec.eq_of_toNat_eq
  rw [Int32.toBitVec_and, BitVec.toNat_and, hm, Nat.and_two_pow_sub_one_eq_mod]
  show _ = (BitVec.ofNat 32 _).toNat
  rw [BitVec.toNat_ofNat]
  exact (Nat.mod_eq_of_lt (Nat.lt_of_le_of_lt (Nat.mod_le _ _) x.toBitVec.isLt)).symm
theorem pk_andE (x : Int32) {m : Int32} (k : Nat) (hm : m.toBitVec.toNat = 2 ^ k - 1) : ∃ j : Nat, j < 2 ^ k ∧ x &&& m = nI j := ⟨_, Nat.mod_lt _ (Nat.two_pow_pos k), pk_and x k hm⟩
theorem pk_andIn (x : Int32) {m : Int32} (k : Nat) (hm : m.toBitVec.toNat = 2 ^ k - 1) (hk : k ≤ 30) : vp_in (x &&& m) (2 ^ k) := by
  obtain ⟨j, hj, e⟩ := pk_andE x k hm
  rw [e]
  exact vp_in_nI hj (Nat.lt_of_le_of_lt (Nat.pow_le_pow_right (by decide) hk) (by decide))
theorem pk_ix (x : Int32) {n : Nat} (hn : n < 2 ^ 31) : x < 0 ∨ nI n ≤ x ∨ ∃ j : Nat, j < n ∧ x = nI j := by
  by_cases h : x < 0
  · exact Or.inl h
  · obtain ⟨j, hj, rfl⟩ := nI_of h
    by_cases h2 : j < n
    · exact Or.inr (Or.inr ⟨j, h2, rfl⟩)
    · exact Or.inr (Or.inl (nI_le (by omega) hj))
def bt (x : Int32) (i : Nat) : Bool := x.toBitVec.getLsbD i
theorem b_ext {x y : Int32} (h : ∀ i, i < 32 → bt x i = bt y i) : x = y := Int32.toBitVec_inj.mp (BitVec.eq_of_getLsbD_eq (fun i hi => h i hi))
theorem b_or (x y : Int32) (i : Nat) : bt (x ||| y) i = (bt x i || bt y i) := by unfold bt; rw [Int32.toBitVec_or, BitVec.getLsbD_or]
theorem b_and (x y : Int32) (i : Nat) : bt (x &&& y) i = (bt x i && bt y i) := by unfold bt; rw [Int32.toBitVec_and, BitVec.getLsbD_and]
theorem b_xor (x y : Int32) (i : Nat) : bt (x ^^^ y) i = (bt x i ^^ bt y i) := by unfold bt; rw [Int32.toBitVec_xor, BitVec.getLsbD_xor]
theorem b_big {x : Int32} {i : Nat} (h : 32 ≤ i) : bt x i = false := BitVec.getLsbD_of_ge _ _ h
theorem b_m1 : ∀ i, i < 32 → bt (-1) i = true := by decide +kernel
theorem b_0 (i : Nat) : bt 0 i = false := BitVec.getLsbD_zero
theorem s_l : ∀ n, n < 32 → ((nI n &&& 31).toBitVec.smod 32).toNat = n := by decide +kernel
theorem s_u : ∀ n, n < 32 → (((nI n).toUInt32 &&& Int32.toUInt32 31).toBitVec % 32).toNat = n := by decide +kernel
theorem b_shl (n : Nat) (hn : n < 32) (x : Int32) {i : Nat} (hi : i < 32) : bt (x <<< (nI n &&& 31)) i = (decide (n ≤ i) && bt x (i - n)) := by
  unfold bt
  rw [Int32.toBitVec_shiftLeft]
  show (x.toBitVec <<< ((nI n &&& 31).toBitVec.smod 32).toNat).getLsbD i = _
  rw [s_l n hn, BitVec.getLsbD_shiftLeft]
  rcases Nat.lt_or_ge i n with h | h
  · simp [h, Nat.not_le.mpr h]
  · simp [hi, h, Nat.not_lt.mpr h]
theorem b_ushr (n : Nat) (hn : n < 32) (x : Int32) (i : Nat) : bt ((x.toUInt32 >>> ((nI n).toUInt32 &&& Int32.toUInt32 31)).toInt32) i = bt x (n + i) := by
  show (x.toUInt32 >>> ((nI n).toUInt32 &&& Int32.toUInt32 31)).toBitVec.getLsbD i = x.toUInt32.toBitVec.getLsbD (n + i)
  rw [UInt32.toBitVec_shiftRight]
  show (x.toUInt32.toBitVec >>> (((nI n).toUInt32 &&& Int32.toUInt32 31).toBitVec % 32).toNat).getLsbD i = _
  rw [s_u n hn, BitVec.getLsbD_ushiftRight]
theorem b_sshr (n : Nat) (hn : n < 32) (x : Int32) {i : Nat} (hi : i < 32) : bt (x >>> (nI n &&& 31)) i = if n + i < 32 then bt x (n + i) else bt x 31 := by
  unfold bt
  rw [Int32.toBitVec_shiftRight]
  show (x.toBitVec.sshiftRight ((nI n &&& 31).toBitVec.smod 32).toNat).getLsbD i = _
  rw [s_l n hn, BitVec.getLsbD_sshiftRight, BitVec.msb_eq_getLsbD_last]
  simp [hi]
end
section
/-! the pure picture: kinds as naturals, arities, the relation between calls -/
def wd_ar (k : Nat) : Nat := if k < 15 then 0 else if k < 17 then 1 else if k = 29 then 1 else if k = 30 then 1 else if k = 31 then 3 else 2
def wd_ex (k : Nat) : Nat := if k = 1 then 2 else if k = 2 then 2 else if k = 0 then 1 else if k = 3 then 1 else if k = 6 then 1 else 0
def wd_kind (k : Nat) : Prop := k ≤ 8 ∨ (10 ≤ k ∧ k ≤ 16) ∨ (20 ≤ k ∧ k ≤ 31)
def wd_tok (κ : Nat → Nat) (K V : Nat → Int32) : Prop := ∀ i, K i = nI (κ i) ∧ wd_kind (κ i) ∧ ((κ i = 0 ∨ κ i = 11) → ∃ w, w < 6 ∧ V i = nI w)
def i_Rel (k : Nat) (u : SX) (v : SY) : Prop := ∃ (n T : Nat) (κ : Nat → Nat), ∃ (ob ed od el be ar go ph ra ov bh : Int32) (K V J O W C ST SR RD AD OP OM OD VA PL SC FI DC NN OW NX ySR yRD yAD AT FY SK : Nat → Int32),
  u = (nI n, ob, ed, od, el, be, nI T, ar, go, ph, ra, ov, K, V, J, O, W, C, ST, SR, RD, AD, OP, OM, OD, VA, PL, SC, FI, DC) ∧ v = (nI n, nI T, ar, ph, ra, bh, ov, K, V, NN, W, C, OW, NX, ySR, yRD, yAD, VA, AT, SC, FY, DC, SK) ∧ n ≤ 64 ∧ T ≤ 32 ∧ wd_tok κ K V ∧ ((∀ j, SR j = 0 ∧ RD j = 0 ∧ AD j = 0) ∧ ∀ j, 64 ≤ j → ySR j = 0 ∧ yRD j = 0 ∧ yAD j = 0) ∧ k = k
theorem i_up {k : Nat} {u : SX} {v : SY} (h : i_Rel k u v) : i_Rel (k + 3) u v := by
  obtain ⟨n, T, κ, ob, ed, od, el, be, ar, go, ph, ra, ov, bh, K, V, J, O, W, C, ST, SR, RD, AD, OP, OM, OD, VA, PL, SC, FI, DC, NN, OW, NX, ySR, yRD, yAD, AT, FY, SK, h1, h2, h3, h4, h5, h6, _⟩ := h
  exact ⟨n, T, κ, ob, ed, od, el, be, ar, go, ph, ra, ov, bh, K, V, J, O, W, C, ST, SR, RD, AD, OP, OM, OD, VA, PL, SC, FI, DC, NN, OW, NX, ySR, yRD, yAD, AT, FY, SK, h1, h2, h3, h4, h5, h6, rfl⟩
theorem i_vc0 : wpX_init (fun u => wpY_init (fun v => i_Rel 0 u v)) := by
  refine ⟨0, 0, fun _ => 0, 0, 0, 0, 0, 0, 0, 0, 0, 0, 0, 0, fun _ => 0, fun _ => 0, fun _ => 0, fun _ => 0, fun _ => 0, fun _ => 0, fun _ => 0, fun _ => 0, fun _ => 0, fun _ => 0, fun _ => 0, fun _ => 0, fun _ => 0, fun _ => 0, fun _ => 0, fun _ => 0, fun _ => 0, fun _ => 0, fun _ => 0, fun _ => 0, fun _ => 0, fun _ => 0, fun _ => 0, fun _ => 0, fun _ => 0, fun _ => 0, fun _ => 0, rfl, rfl, by decide, by decide, ?_, ⟨fun j => ⟨rfl, rfl, rfl⟩, fun j _ => ⟨rfl, rfl, rfl⟩⟩, rfl⟩
  exact fun i => ⟨rfl, Or.inl (Nat.zero_le _), fun _ => ⟨0, by decide, rfl⟩⟩
theorem wd_uu {f : Nat → Int32} {k : Nat} {x y : Int32} : upd (upd f k x) k y = upd f k y := by
  funext j
  unfold upd
  split <;> rfl
theorem wd_63 (x : Int32) : ∃ j : Nat, j < 64 ∧ x &&& 63 = nI j := pk_andE x (m := 63) 6 (by decide)
end
section
/-! the small calls -/
theorem i_vc_wipe {k : Nat} {u : SX} {v : SY} (I : i_Rel k u v) (hk : k + 3 ≤ 1536) : wpX_wipe (fun r u' => wpY_wipe (fun r' v' => r' = r ∧ i_Rel (k + 3) u' v') v) u := by
  obtain ⟨n, T, κ, ob, ed, od, el, be, ar, go, ph, ra, ov, bh, K, V, J, O, W, C, ST, SR, RD, AD, OP, OM, OD, VA, PL, SC, FI, DC, NN, OW, NX, ySR, yRD, yAD, AT, FY, SK, rfl, rfl, h3, h4, h5, h6, _⟩ := I
  exact ⟨rfl, 0, T, κ, ob, ed, od, el, be, ar, go, ph, ra, ov, bh, K, V, J, O, W, C, ST, SR, RD, AD, OP, OM, OD, VA, PL, SC, FI, DC, NN, OW, NX, ySR, yRD, yAD, AT, FY, SK, rfl, rfl, by omega, h4, h5, h6, rfl⟩
theorem i_vc_put {k : Nat} {u : SX} {v : SY} (I : i_Rel k u v) (hk : k + 3 ≤ 1536) (v1 : Int32) (v2 : Int32) : wpX_put (fun r u' => wpY_put (fun r' v' => r' = r ∧ i_Rel (k + 3) u' v') v v1 v2) u v1 v2 := by
  obtain ⟨n, T, κ, ob, ed, od, el, be, ar, go, ph, ra, ov, bh, K, V, J, O, W, C, ST, SR, RD, AD, OP, OM, OD, VA, PL, SC, FI, DC, NN, OW, NX, ySR, yRD, yAD, AT, FY, SK, rfl, rfl, h3, h4, h5, h6, _⟩ := I
  have hi : vp_in (v1 &&& 63) 64 := pk_andIn v1 (m := 63) 6 (by decide) (by decide)
  refine nm_e ⟨hi, nm_e ⟨hi, nm_e ⟨hi, nm_e ⟨hi, nm_e ⟨rfl, n, T, κ, ob, ed, od, el, be, ar, go, ph, ra, ov, bh, K, V, J, O, upd W (v1 &&& 63).toNatClampNeg v2, C, ST, SR, RD, AD, OP, OM, OD, VA, PL, SC, FI, DC, NN, OW, NX, ySR, yRD, yAD, AT, FY, SK, rfl, rfl, h3, h4, h5, h6, rfl⟩⟩⟩⟩⟩
theorem i_vc_word {k : Nat} {u : SX} {v : SY} (I : i_Rel k u v) (hk : k + 3 ≤ 1536) (v1 : Int32) : wpX_word (fun r => wpY_word (fun r' => r' = r ∧ i_Rel (k + 3) u v) v v1) u v1 := by
  have I' := i_up I
  obtain ⟨n, T, κ, ob, ed, od, el, be, ar, go, ph, ra, ov, bh, K, V, J, O, W, C, ST, SR, RD, AD, OP, OM, OD, VA, PL, SC, FI, DC, NN, OW, NX, ySR, yRD, yAD, AT, FY, SK, rfl, rfl, h3, h4, h5, h6, _⟩ := I
  have hi : vp_in (v1 &&& 63) 64 := pk_andIn v1 (m := 63) 6 (by decide) (by decide)
  exact ⟨hi, hi, rfl, I'⟩
theorem i_vc_counter {k : Nat} {u : SX} {v : SY} (I : i_Rel k u v) (hk : k + 3 ≤ 1536) (v1 : Int32) : wpX_counter (fun r => wpY_counter (fun r' => r' = r ∧ i_Rel (k + 3) u v) v v1) u v1 := by
  have I' := i_up I
  obtain ⟨n, T, κ, ob, ed, od, el, be, ar, go, ph, ra, ov, bh, K, V, J, O, W, C, ST, SR, RD, AD, OP, OM, OD, VA, PL, SC, FI, DC, NN, OW, NX, ySR, yRD, yAD, AT, FY, SK, rfl, rfl, h3, h4, h5, h6, _⟩ := I
  have hi : vp_in (v1 &&& 63) 64 := pk_andIn v1 (m := 63) 6 (by decide) (by decide)
  exact ⟨hi, hi, rfl, I'⟩
theorem i_vc_done {k : Nat} {u : SX} {v : SY} (I : i_Rel k u v) (hk : k + 3 ≤ 1536) (v1 : Int32) : wpX_done (fun r => wpY_done (fun r' => r' = r ∧ i_Rel (k + 3) u v) v v1) u v1 := by
  have I' := i_up I
  obtain ⟨n, T, κ, ob, ed, od, el, be, ar, go, ph, ra, ov, bh, K, V, J, O, W, C, ST, SR, RD, AD, OP, OM, OD, VA, PL, SC, FI, DC, NN, OW, NX, ySR, yRD, yAD, AT, FY, SK, rfl, rfl, h3, h4, h5, h6, _⟩ := I
  by_cases h0 : v1 < 0
  · exact br_t h0 (br_t h0 (br_t rfl ⟨rfl, I'⟩))
  · by_cases h1 : (64 : Int32) ≤ v1
    · exact br_f h0 (br_t h1 (br_f h0 (br_t h1 (br_t rfl ⟨rfl, I'⟩))))
    · have hi : vp_in v1 64 := by
        obtain ⟨j, hj, rfl⟩ := nI_of h0
        exact vp_in_nI (Nat.lt_of_not_le fun z => h1 (nI_le (a := 64) z hj)) (by decide)
      exact br_f h0 (br_f h1 ⟨hi, br_f h0 (br_f h1 (br_f (by decide) ⟨hi, rfl, I'⟩))⟩)
theorem wd_thr {T : Nat} (hT : T ≤ 32) {x : Int32} (h0 : ¬ x < 0) (h1 : ¬ nI T ≤ x) : ∃ j, j < T ∧ x = nI j := by
  obtain ⟨j, hj, rfl⟩ := nI_of h0
  exact ⟨j, Nat.lt_of_not_le fun z => h1 (nI_le z hj), rfl⟩
theorem i_vc_steps {k : Nat} {u : SX} {v : SY} (I : i_Rel k u v) (hk : k + 3 ≤ 1536) (v1 : Int32) : wpX_steps (fun r => wpY_steps (fun r' => r' = r ∧ i_Rel (k + 3) u v) v v1) u v1 := by
  have I' := i_up I
  obtain ⟨n, T, κ, ob, ed, od, el, be, ar, go, ph, ra, ov, bh, K, V, J, O, W, C, ST, SR, RD, AD, OP, OM, OD, VA, PL, SC, FI, DC, NN, OW, NX, ySR, yRD, yAD, AT, FY, SK, rfl, rfl, h3, h4, h5, h6, _⟩ := I
  by_cases h0 : v1 < 0
  · exact br_t h0 (br_t rfl (br_t h0 (br_t rfl ⟨rfl, I'⟩)))
  · by_cases h1 : nI T ≤ v1
    · exact br_f h0 (br_t h1 (br_t rfl (br_f h0 (br_t h1 (br_t rfl ⟨rfl, I'⟩)))))
    · have hi : vp_in v1 32 := by
        obtain ⟨j, hj, rfl⟩ := wd_thr h4 h0 h1
        exact vp_in_nI (by omega) (by decide)
      exact br_f h0 (br_f h1 (br_f (by decide) ⟨hi, br_f h0 (br_f h1 (br_f (by decide) ⟨hi, rfl, I'⟩))⟩))
theorem i_vc_variable {k : Nat} {u : SX} {v : SY} (I : i_Rel k u v) (hk : k + 3 ≤ 1536) (v1 : Int32) (v2 : Int32) : wpX_variable (fun r => wpY_variable (fun r' => r' = r ∧ i_Rel (k + 3) u v) v v1 v2) u v1 v2 := by
  have I' := i_up I
  obtain ⟨n, T, κ, ob, ed, od, el, be, ar, go, ph, ra, ov, bh, K, V, J, O, W, C, ST, SR, RD, AD, OP, OM, OD, VA, PL, SC, FI, DC, NN, OW, NX, ySR, yRD, yAD, AT, FY, SK, rfl, rfl, h3, h4, h5, h6, _⟩ := I
  by_cases h0 : v1 < 0
  · exact br_t h0 (br_t rfl (br_t h0 (br_t rfl ⟨rfl, I'⟩)))
  · by_cases h1 : nI T ≤ v1
    · exact br_f h0 (br_t h1 (br_t rfl (br_f h0 (br_t h1 (br_t rfl ⟨rfl, I'⟩)))))
    · by_cases g0 : v2 < 0
      · exact br_f h0 (br_f h1 (br_f (by decide) (br_t g0 (br_t rfl (br_f h0 (br_f h1 (br_f (by decide) (br_t g0 (br_t rfl ⟨rfl, I'⟩)))))))))
      · by_cases g1 : (6 : Int32) ≤ v2
        · exact br_f h0 (br_f h1 (br_f (by decide) (br_f g0 (br_t g1 (br_t rfl (br_f h0 (br_f h1 (br_f (by decide) (br_f g0 (br_t g1 (br_t rfl ⟨rfl, I'⟩)))))))))))
        · have hj : ∃ a b, a < T ∧ b < 6 ∧ v1 = nI a ∧ v2 = nI b := by
            obtain ⟨a, ha, e1⟩ := wd_thr h4 h0 h1
            obtain ⟨b, hb, e2⟩ := wd_thr (T := 6) (by decide) g0 g1
            exact ⟨a, b, ha, hb, e1, e2⟩
          obtain ⟨a, b, ha, hb, e1, e2⟩ := hj
          have eX : (v1 * 6) + v2 = nI (6 * a + b) := by rw [e1, e2, Nat.mul_comm, ← nI_add, ← pk_mul]; rfl
          have eY : (6 * v1) + v2 = nI (6 * a + b) := by rw [e1, e2, ← nI_add, ← pk_mul]; rfl
          have iX : vp_in ((v1 * 6) + v2) 192 := by rw [eX]; exact vp_in_nI (by omega) (by decide)
          have iY : vp_in ((6 * v1) + v2) 192 := by rw [eY]; exact vp_in_nI (by omega) (by decide)
          exact br_f h0 (br_f h1 (br_f (by decide) (br_f g0 (br_f g1 (br_f (by decide) ⟨iX, br_f h0 (br_f h1 (br_f (by decide) (br_f g0 (br_f g1 (br_f (by decide) ⟨iY, by rw [eX, eY], I'⟩)))))⟩)))))
end
section
/-! token, zero, ran -/
def wd_fl (e : Nat) (A : Nat → Int32) (i : Nat) (B : Nat → Int32) : Nat → Int32 := fun j => if i ≤ j ∧ j < e then A j else B j
theorem wd_fl_e {e : Nat} {A B : Nat → Int32} : wd_fl e A e B = B := by
  funext j
  unfold wd_fl
  rw [if_neg (by omega)]
theorem wd_fl_s {e i : Nat} {A B : Nat → Int32} {x : Int32} (h : i < e) (hx : x = A i) : wd_fl e A (i + 1) (upd B i x) = wd_fl e A i B := by
  funext j
  unfold wd_fl upd
  by_cases hj : j = i
  · subst hj
    rw [if_neg (by omega), if_pos rfl, if_pos (by omega), hx]
  · by_cases h2 : i ≤ j ∧ j < e
    · rw [if_pos (by omega), if_pos h2]
    · rw [if_neg (by omega), if_neg hj, if_neg h2]
theorem wd_fl_k {e i : Nat} {A B : Nat → Int32} (hx : B i = A i) : wd_fl e A (i + 1) B = wd_fl e A i B := by
  funext j
  unfold wd_fl
  by_cases hj : j = i
  · subst hj
    rw [if_neg (by omega)]
    split
    · exact hx
    · rfl
  · by_cases h2 : i ≤ j ∧ j < e
    · rw [if_pos (by omega), if_pos h2]
    · rw [if_neg (by omega), if_neg h2]
theorem wd_zX {c ob ed od el be th ar go ph ra ov : Int32} {K V J O ST SR RD AD OP OM OD VA PL SC FI DC : Nat → Int32} (P : SX → Prop) : ∀ f i (W C : Nat → Int32), i + f = 64 → P (c, ob, ed, od, el, be, th, ar, go, ph, ra, ov, K, V, J, O, wd_fl 64 (fun _ => 0) i W, wd_fl 64 (fun _ => 0) i C, ST, SR, RD, AD, OP, OM, OD, VA, PL, SC, FI, DC) → wX_zero_2 P c ob ed od el be th ar go ph ra ov (f + 1) (nI i) K V J O W C ST SR RD AD OP OM OD VA PL SC FI DC := by
  intro f
  induction f with
  | zero =>
    intro i W C hi hp
    obtain rfl : i = 64 := hi
    rw [wd_fl_e, wd_fl_e] at hp
    exact br_t (by decide) hp
  | succ f ih =>
    intro i W C hi hp
    have h1 : ¬ (64 : Int32) ≤ nI i := nI_ge (b := 64) (by omega) (by decide)
    have h2 : vp_in (nI i) 64 := vp_in_nI (by omega) (by decide)
    refine br_f h1 ⟨h2, nm_e ⟨h2, nm_e (nm_r (nI_1 i) (ih (i + 1) _ _ (by omega) ?_))⟩⟩
    rw [nI_clamp (by omega), wd_fl_s (by omega) rfl, wd_fl_s (by omega) rfl]
    exact hp
theorem wd_zY {c th ar yp ra bh ov : Int32} {K V NN OW NX SR RD AD VA AT SC FY DC SK : Nat → Int32} (P : SY → Prop) : ∀ f i (W C : Nat → Int32), i + f = 64 → P (c, th, ar, yp, ra, bh, ov, K, V, NN, wd_fl 64 (fun _ => 0) i W, wd_fl 64 (fun _ => 0) i C, OW, NX, SR, RD, AD, VA, AT, SC, FY, DC, SK) → wY_zero_2 P c th ar yp ra bh ov (f + 1) (nI i) K V NN W C OW NX SR RD AD VA AT SC FY DC SK := by
  intro f
  induction f with
  | zero =>
    intro i W C hi hp
    obtain rfl : i = 64 := hi
    rw [wd_fl_e, wd_fl_e] at hp
    exact br_t (by decide) hp
  | succ f ih =>
    intro i W C hi hp
    have h1 : ¬ (64 : Int32) ≤ nI i := nI_ge (b := 64) (by omega) (by decide)
    have h2 : vp_in (nI i) 64 := vp_in_nI (by omega) (by decide)
    refine br_f h1 ⟨h2, nm_e ⟨h2, nm_e (nm_r (nI_1 i) (ih (i + 1) _ _ (by omega) ?_))⟩⟩
    rw [nI_clamp (by omega), wd_fl_s (by omega) rfl, wd_fl_s (by omega) rfl]
    exact hp
theorem i_vc_zero {k : Nat} {u : SX} {v : SY} (I : i_Rel k u v) (hk : k + 3 ≤ 1536) : wpX_zero (fun u' => wpY_zero (fun v' => i_Rel (k + 3) u' v') v) u := by
  obtain ⟨n, T, κ, ob, ed, od, el, be, ar, go, ph, ra, ov, bh, K, V, J, O, W, C, ST, SR, RD, AD, OP, OM, OD, VA, PL, SC, FI, DC, NN, OW, NX, ySR, yRD, yAD, AT, FY, SK, rfl, rfl, h3, h4, h5, h6, _⟩ := I
  refine ⟨65, wd_zX _ 64 0 _ _ rfl ⟨65, wd_zY _ 64 0 _ _ rfl ?_⟩⟩
  exact ⟨n, T, κ, ob, ed, od, el, be, ar, go, ph, ra, ov, bh, K, V, J, O, _, _, ST, SR, RD, AD, OP, OM, OD, VA, PL, SC, FI, DC, NN, OW, NX, ySR, yRD, yAD, AT, FY, SK, rfl, rfl, h3, h4, h5, h6, rfl⟩
theorem wd_ran {c ob ed od el be ar go ph ra ov bh : Int32} {K V J O W C ST SR RD AD OP OM OD VA PL SC FI DC NN OW NX AT FY SK ySR yRD yAD : Nat → Int32} {T : Nat} (hT : T ≤ 32) : ∀ f i (a m : Int32), i + f = T → ∃ a' m' : Int32,
    (∀ P : Int32 → Prop, P a' → wX_allSteps_4 P c ob ed od el be (nI T) ar go ph ra ov K V J O W C ST SR RD AD OP OM OD VA PL SC FI DC (f + 1) a (nI i)) ∧
    (∀ P : Int32 → Prop, P m' → wX_mostSteps_4 P c ob ed od el be (nI T) ar go ph ra ov K V J O W C ST SR RD AD OP OM OD VA PL SC FI DC (f + 1) m (nI i)) ∧
    (∀ (Q : Int32 → Prop) (p : Int32), ((p = 0 → (Q ph)) ∧ (¬ p = 0 → (((p = 1 → (Q a')) ∧ (¬ p = 1 → (((p = 2 → (Q m')) ∧ (¬ p = 2 → (((p = 3 → (Q ra)) ∧ (¬ p = 3 → (((p = 4 → (Q (nI T))) ∧ (¬ p = 4 → (Q 0))))))))))))))) → wY_ran_7 Q p c (nI T) ar ph ra bh ov K V NN W C OW NX ySR yRD yAD VA AT SC FY DC SK (f + 1) a m (nI i)) := by
  intro f
  induction f with
  | zero =>
    intro i a m hi
    have h1 : nI T ≤ nI i := nI_le (by omega) (by omega)
    exact ⟨a, m, fun P hp => br_t h1 hp, fun P hp => br_t h1 hp, fun Q p hp => br_t h1 hp⟩
  | succ f ih =>
    intro i a m hi
    have h1 : ¬ nI T ≤ nI i := nI_ge (by omega) (by omega)
    have h2 : vp_in (nI i) 32 := vp_in_nI (by omega) (by decide)
    by_cases hm : SC (nI i).toNatClampNeg ≤ m
    · obtain ⟨a', m', hA, hM, hY⟩ := ih (i + 1) (a + SC (nI i).toNatClampNeg) m (by omega)
      exact ⟨a', m', fun P hp => br_f h1 ⟨h2, nm_e (nm_r (nI_1 i) (hA P hp))⟩, fun P hp => br_f h1 ⟨h2, br_t hm (nm_r (nI_1 i) (hM P hp))⟩, fun Q p hp => br_f h1 ⟨h2, nm_e ⟨h2, br_t hm (nm_r (nI_1 i) (hY Q p hp))⟩⟩⟩
    · obtain ⟨a', m', hA, hM, hY⟩ := ih (i + 1) (a + SC (nI i).toNatClampNeg) (SC (nI i).toNatClampNeg) (by omega)
      exact ⟨a', m', fun P hp => br_f h1 ⟨h2, nm_e (nm_r (nI_1 i) (hA P hp))⟩, fun P hp => br_f h1 ⟨h2, br_f hm ⟨h2, nm_e (nm_r (nI_1 i) (hM P hp))⟩⟩, fun Q p hp => br_f h1 ⟨h2, nm_e ⟨h2, br_f hm ⟨h2, nm_e (nm_r (nI_1 i) (hY Q p hp))⟩⟩⟩⟩
theorem i_vc_ran {k : Nat} {u : SX} {v : SY} (I : i_Rel k u v) (hk : k + 3 ≤ 1536) (v1 : Int32) : wpX_ran (fun r => wpY_ran (fun r' => r' = r ∧ i_Rel (k + 3) u v) v v1) u v1 := by
  have I' := i_up I
  obtain ⟨n, T, κ, ob, ed, od, el, be, ar, go, ph, ra, ov, bh, K, V, J, O, W, C, ST, SR, RD, AD, OP, OM, OD, VA, PL, SC, FI, DC, NN, OW, NX, ySR, yRD, yAD, AT, FY, SK, rfl, rfl, h3, h4, h5, h6, _⟩ := I
  obtain ⟨a', m', hA, hM, hY⟩ := wd_ran (c := nI n) (ob := ob) (ed := ed) (od := od) (el := el) (be := be) (ar := ar) (go := go) (ph := ph) (ra := ra) (ov := ov) (bh := bh) (K := K) (V := V) (J := J) (O := O) (W := W) (C := C) (ST := ST) (SR := SR) (RD := RD) (AD := AD) (OP := OP) (OM := OM) (OD := OD) (VA := VA) (PL := PL) (SC := SC) (FI := FI) (DC := DC) (NN := NN) (OW := OW) (NX := NX) (AT := AT) (FY := FY) (SK := SK) (ySR := ySR) (yRD := yRD) (yAD := yAD) h4 T 0 0 0 (by omega)
  have G : ∀ r : Int32, ((v1 = 0 → r = ph) ∧ (v1 = 1 → r = a') ∧ (v1 = 2 → r = m') ∧ (v1 = 3 → r = ra) ∧ (v1 = 4 → r = nI T) ∧ (v1 < 0 ∨ 4 < v1 → r = 0)) → wpY_ran (fun r' => r' = r ∧ i_Rel (k + 3) (nI n, ob, ed, od, el, be, nI T, ar, go, ph, ra, ov, K, V, J, O, W, C, ST, SR, RD, AD, OP, OM, OD, VA, PL, SC, FI, DC) (nI n, nI T, ar, ph, ra, bh, ov, K, V, NN, W, C, OW, NX, ySR, yRD, yAD, VA, AT, SC, FY, DC, SK)) (nI n, nI T, ar, ph, ra, bh, ov, K, V, NN, W, C, OW, NX, ySR, yRD, yAD, VA, AT, SC, FY, DC, SK) v1 := by
    intro r ⟨g0, g1, g2, g3, g4, g5⟩
    refine ⟨T + 1, hY _ _ ?_⟩
    refine br_c (fun h => ⟨(g0 h).symm, I'⟩) fun n0 => br_c (fun h => ⟨(g1 h).symm, I'⟩) fun n1 => br_c (fun h => ⟨(g2 h).symm, I'⟩) fun n2 => br_c (fun h => ⟨(g3 h).symm, I'⟩) fun n3 => br_c (fun h => ⟨(g4 h).symm, I'⟩) fun n4 => ⟨(g5 ?_).symm, I'⟩
    by_cases h0 : v1 < 0
    · exact Or.inl h0
    · by_cases h1 : 4 < v1
      · exact Or.inr h1
      · exfalso
        obtain ⟨j, hj, rfl⟩ := nI_of2 (M := 4) (n := 4) (by decide) h0 (Int32.not_lt.mp h1)
        have : j = 0 ∨ j = 1 ∨ j = 2 ∨ j = 3 ∨ j = 4 := by omega
        rcases this with rfl | rfl | rfl | rfl | rfl
        · exact n0 rfl
        · exact n1 rfl
        · exact n2 rfl
        · exact n3 rfl
        · exact n4 rfl
  refine br_c (fun h => G _ ?_) fun h0 => br_c (fun h => G _ ?_) fun h1 => br_c (fun h => G _ ?_) fun n0 => br_c (fun h => ⟨T + 1, hA _ (G _ ?_)⟩) fun n1 => br_c (fun h => ⟨T + 1, hM _ (G _ ?_)⟩) fun n2 => br_c (fun h => G _ ?_) fun n3 => br_c (fun h => G _ ?_) fun n4 => trivial
  · exact ⟨fun e => absurd h (by rw [e]; decide), fun e => absurd h (by rw [e]; decide), fun e => absurd h (by rw [e]; decide), fun e => absurd h (by rw [e]; decide), fun e => absurd h (by rw [e]; decide), fun _ => rfl⟩
  · exact ⟨fun e => absurd h (by rw [e]; decide), fun e => absurd h (by rw [e]; decide), fun e => absurd h (by rw [e]; decide), fun e => absurd h (by rw [e]; decide), fun e => absurd h (by rw [e]; decide), fun _ => rfl⟩
  · subst h; exact ⟨fun _ => rfl, fun e => absurd e (by decide), fun e => absurd e (by decide), fun e => absurd e (by decide), fun e => absurd e (by decide), fun e => absurd e (by decide)⟩
  · subst h; exact ⟨fun e => absurd e (by decide), fun _ => rfl, fun e => absurd e (by decide), fun e => absurd e (by decide), fun e => absurd e (by decide), fun e => absurd e (by decide)⟩
  · subst h; exact ⟨fun e => absurd e (by decide), fun e => absurd e (by decide), fun _ => rfl, fun e => absurd e (by decide), fun e => absurd e (by decide), fun e => absurd e (by decide)⟩
  · subst h; exact ⟨fun e => absurd e (by decide), fun e => absurd e (by decide), fun e => absurd e (by decide), fun _ => rfl, fun e => absurd e (by decide), fun e => absurd e (by decide)⟩
  · subst h; exact ⟨fun e => absurd e (by decide), fun e => absurd e (by decide), fun e => absurd e (by decide), fun e => absurd e (by decide), fun _ => rfl, fun e => absurd e (by decide)⟩
theorem wd_kXY (x : Int32) : (∃ k, wd_kind k ∧ x = nI k ∧ (∀ P : Int32 → Prop, P 1 → wpX_isKind P x) ∧ (∀ (Q : Int32 → SY → Prop) (x2 : Int32) (c th ar yp ra bh ov : Int32) (K V NN W C OW NX SR RD AD VA AT SC FY DC SK : Nat → Int32), wY_token_34 Q x x2 c th ar yp ra bh ov K V NN W C OW NX SR RD AD VA AT SC FY DC SK → wpY_token Q (c, th, ar, yp, ra, bh, ov, K, V, NN, W, C, OW, NX, SR, RD, AD, VA, AT, SC, FY, DC, SK) x x2)) ∨ ((∀ P : Int32 → Prop, P 0 → wpX_isKind P x) ∧ (∀ (Q : Int32 → SY → Prop) (x2 : Int32) (c th ar yp ra bh ov : Int32) (K V NN W C OW NX SR RD AD VA AT SC FY DC SK : Nat → Int32), wY_token_38 Q x x2 c th ar yp ra bh ov K V NN W C OW NX SR RD AD VA AT SC FY DC SK → wpY_token Q (c, th, ar, yp, ra, bh, ov, K, V, NN, W, C, OW, NX, SR, RD, AD, VA, AT, SC, FY, DC, SK) x x2)) := by
  by_cases h0 : x < 0
  · refine Or.inr ⟨fun P hp => br_t h0 (br_t (Int32.lt_trans h0 (by decide)) (br_t (Int32.lt_trans h0 (by decide)) hp)), ?_⟩
    intros
    exact br_t h0 (br_t (Int32.le_of_lt (Int32.lt_trans h0 (by decide))) (br_t (Int32.le_of_lt (Int32.lt_trans h0 (by decide))) (by assumption)))
  · obtain ⟨j, hj, rfl⟩ := nI_of h0
    by_cases hk : wd_kind j
    · refine Or.inl ⟨j, hk, rfl, fun P hp => ?_, ?_⟩
      · rcases hk with h | ⟨h, h'⟩ | ⟨h, h'⟩
        · exact br_f h0 (br_t (nI_le (b := 8) h (by decide)) hp)
        · exact br_f h0 (br_f (nI_ge (a := 8) (by omega) hj) (br_f (nI_nlt (b := 10) (by omega) hj) (br_t (nI_le (b := 16) h' (by decide)) hp)))
        · exact br_f h0 (br_f (nI_ge (a := 8) (by omega) hj) (br_f (nI_nlt (b := 10) (by omega) hj) (br_f (nI_ge (a := 16) (by omega) hj) (br_f (nI_nlt (b := 20) (by omega) hj) (br_f (nI_nlt (a := 31) (by omega) (by decide)) hp)))))
      · intros
        rcases hk with h | ⟨h, h'⟩ | ⟨h, h'⟩
        · exact br_f h0 (br_t (nI_lt (b := 9) (by omega) (by decide)) (by assumption))
        · exact br_f h0 (br_f (nI_nlt (b := 9) (by omega) hj) (br_f (nI_ge (a := 9) (by omega) hj) (br_t (nI_lt (b := 17) (by omega) (by decide)) (by assumption))))
        · exact br_f h0 (br_f (nI_nlt (b := 9) (by omega) hj) (br_f (nI_ge (a := 9) (by omega) hj) (br_f (nI_nlt (b := 17) (by omega) hj) (br_f (nI_ge (a := 19) (by omega) hj) (br_f (nI_ge (b := 32) (by omega) (by decide)) (by assumption))))))
    · have hk' : j = 9 ∨ (17 ≤ j ∧ j ≤ 19) ∨ 32 ≤ j := by unfold wd_kind at hk; omega
      refine Or.inr ⟨fun P hp => ?_, ?_⟩
      · rcases hk' with rfl | ⟨h, h'⟩ | h
        · exact br_f h0 (br_f (by decide) (br_t (by decide) (br_t (by decide) hp)))
        · exact br_f h0 (br_f (nI_ge (a := 8) (by omega) hj) (br_f (nI_nlt (b := 10) (by omega) hj) (br_f (nI_ge (a := 16) (by omega) hj) (br_t (nI_lt (b := 20) (by omega) (by decide)) hp))))
        · exact br_f h0 (br_f (nI_ge (a := 8) (by omega) hj) (br_f (nI_nlt (b := 10) (by omega) hj) (br_f (nI_ge (a := 16) (by omega) hj) (br_f (nI_nlt (b := 20) (by omega) hj) (br_t (nI_lt (a := 31) (by omega) hj) hp)))))
      · intros
        rcases hk' with rfl | ⟨h, h'⟩ | h
        · exact br_f h0 (br_f (by decide) (br_t (by decide) (br_t (by decide) (by assumption))))
        · exact br_f h0 (br_f (nI_nlt (b := 9) (by omega) hj) (br_f (nI_ge (a := 9) (by omega) hj) (br_f (nI_nlt (b := 17) (by omega) hj) (br_t (nI_le (b := 19) h' (by decide)) (by assumption)))))
        · exact br_f h0 (br_f (nI_nlt (b := 9) (by omega) hj) (br_f (nI_ge (a := 9) (by omega) hj) (br_f (nI_nlt (b := 17) (by omega) hj) (br_f (nI_ge (a := 19) (by omega) hj) (br_t (nI_le (a := 32) h hj) (by assumption))))))
theorem wd_tokU {κ : Nat → Nat} {K V : Nat → Int32} (h : wd_tok κ K V) (n k : Nat) (x : Int32) (hk : wd_kind k) (hx : k = 0 ∨ k = 11 → ∃ w, w < 6 ∧ x = nI w) : wd_tok (fun i => if i = n then k else κ i) (upd K n (nI k)) (upd V n x) := by
  intro i
  unfold upd
  by_cases e : i = n
  · rw [if_pos e, if_pos e]
    dsimp only
    rw [if_pos e]
    exact ⟨rfl, hk, hx⟩
  · rw [if_neg e, if_neg e]
    dsimp only
    rw [if_neg e]
    exact h i
theorem i_vc_token {k : Nat} {u : SX} {v : SY} (I : i_Rel k u v) (hk : k + 3 ≤ 1536) (v1 : Int32) (v2 : Int32) : wpX_token (fun r u' => wpY_token (fun r' v' => r' = r ∧ i_Rel (k + 3) u' v') v v1 v2) u v1 v2 := by
  have I' := i_up I
  obtain ⟨n, T, κ, ob, ed, od, el, be, ar, go, ph, ra, ov, bh, K, V, J, O, W, C, ST, SR, RD, AD, OP, OM, OD, VA, PL, SC, FI, DC, NN, OW, NX, ySR, yRD, yAD, AT, FY, SK, rfl, rfl, h3, h4, h5, h6, _⟩ := I
  have done_ : n < 64 → ∀ q : Nat, v1 = nI q → wd_kind q → (q = 0 ∨ q = 11 → ∃ w, w < 6 ∧ v2 = nI w) → (∀ (Q : Int32 → SY → Prop), wY_token_64 Q v1 v2 (nI n) (nI T) ar ph ra bh ov K V NN W C OW NX ySR yRD yAD VA AT SC FY DC SK → wpY_token Q (nI n, nI T, ar, ph, ra, bh, ov, K, V, NN, W, C, OW, NX, ySR, yRD, yAD, VA, AT, SC, FY, DC, SK) v1 v2) → wX_token_37 (fun r u' => wpY_token (fun r' v' => r' = r ∧ i_Rel (k + 3) u' v') (nI n, nI T, ar, ph, ra, bh, ov, K, V, NN, W, C, OW, NX, ySR, yRD, yAD, VA, AT, SC, FY, DC, SK) v1 v2) v1 v2 (nI n) ob ed od el be (nI T) ar go ph ra ov K V J O W C ST SR RD AD OP OM OD VA PL SC FI DC := by
    intro hn q e1 hq hv HY
    have hi : vp_in (nI n) 64 := vp_in_nI hn (by decide)
    have ec := nI_clamp (n := n) (by omega)
    refine ⟨hi, nm_e ⟨hi, nm_e (nm_e (HY _ (br_f ?_ ⟨hi, nm_e ⟨hi, nm_e (nm_e ⟨rfl, ?_⟩)⟩⟩)))⟩⟩
    · exact fun z => absurd ((nI_eq (b := 64) (by omega) (by decide)).mp z) (by omega)
    · rw [ec, e1, nI_1]
      exact ⟨n + 1, T, _, ob, ed, od, el, be, ar, go, ph, ra, ov, bh, _, _, J, O, W, C, ST, SR, RD, AD, OP, OM, OD, VA, PL, SC, FI, DC, NN, OW, NX, ySR, yRD, yAD, AT, FY, SK, rfl, rfl, by omega, h4, wd_tokU h5 n q v2 hq hv, h6, rfl⟩
  rcases wd_kXY v1 with ⟨q, hq, e1, hX, hY⟩ | ⟨hX, hY⟩
  · refine hX _ (br_f (by decide) ?_)
    by_cases hn : n < 64
    · refine br_t (nI_lt (b := 64) hn (by decide)) ?_
      by_cases hv : q = 0 ∨ q = 11
      · by_cases g : v2 < 0 ∨ 6 ≤ v2
        · have A : ∀ Q : Int32 → SY → Prop, Q (-1) (nI n, nI T, ar, ph, ra, bh, ov, K, V, NN, W, C, OW, NX, ySR, yRD, yAD, VA, AT, SC, FY, DC, SK) → wpY_token Q (nI n, nI T, ar, ph, ra, bh, ov, K, V, NN, W, C, OW, NX, ySR, yRD, yAD, VA, AT, SC, FY, DC, SK) v1 v2 := by
            intro Q hp
            refine hY Q v2 _ _ _ _ _ _ _ _ _ _ _ _ _ _ _ _ _ _ _ _ _ _ _ (br_f (by decide) ?_)
            have B : wY_token_54 Q v1 v2 (nI n) (nI T) ar ph ra bh ov K V NN W C OW NX ySR yRD yAD VA AT SC FY DC SK := by
              by_cases g0 : v2 < 0
              · exact br_t g0 (br_t rfl hp)
              · exact br_f g0 (br_t (g.resolve_left g0) (br_t rfl hp))
            rcases hv with rfl | rfl
            · exact br_t e1 B
            · exact br_f (by rw [e1]; decide) (br_t e1 B)
          have B : wX_token_28 (fun r u' => wpY_token (fun r' v' => r' = r ∧ i_Rel (k + 3) u' v') (nI n, nI T, ar, ph, ra, bh, ov, K, V, NN, W, C, OW, NX, ySR, yRD, yAD, VA, AT, SC, FY, DC, SK) v1 v2) v1 v2 (nI n) ob ed od el be (nI T) ar go ph ra ov K V J O W C ST SR RD AD OP OM OD VA PL SC FI DC := by
            by_cases g0 : v2 < 0
            · exact br_t g0 (br_t rfl (A _ ⟨rfl, I'⟩))
            · exact br_f g0 (br_t (g.resolve_left g0) (br_t rfl (A _ ⟨rfl, I'⟩)))
          rcases hv with rfl | rfl
          · exact br_t e1 B
          · exact br_f (by rw [e1]; decide) (br_t e1 B)
        · have g0 : ¬ v2 < 0 := fun z => g (Or.inl z)
          have g1 : ¬ 6 ≤ v2 := fun z => g (Or.inr z)
          have D := done_ hn q e1 hq (fun _ => wd_thr (T := 6) (by decide) g0 g1) (by
            intro Q hp
            refine hY Q v2 _ _ _ _ _ _ _ _ _ _ _ _ _ _ _ _ _ _ _ _ _ _ _ (br_f (by decide) ?_)
            rcases hv with rfl | rfl
            · exact br_t e1 (br_f g0 (br_f g1 (br_f (by decide) hp)))
            · exact br_f (by rw [e1]; decide) (br_t e1 (br_f g0 (br_f g1 (br_f (by decide) hp)))))
          rcases hv with rfl | rfl
          · exact br_t e1 (br_f g0 (br_f g1 (br_f (by decide) D)))
          · exact br_f (by rw [e1]; decide) (br_t e1 (br_f g0 (br_f g1 (br_f (by decide) D))))
      · have hq31 : q < 2 ^ 31 := by unfold wd_kind at hq; omega
        have m0 : ¬ v1 = 0 := by
          rw [e1]; exact fun z => hv (Or.inl ((nI_eq (b := 0) hq31 (by decide)).mp z))
        have m1 : ¬ v1 = 11 := by
          rw [e1]; exact fun z => hv (Or.inr ((nI_eq (b := 11) hq31 (by decide)).mp z))
        refine br_f m0 (br_f m1 (done_ hn q e1 hq (fun z => absurd z hv) ?_))
        intro Q hp
        exact hY Q v2 _ _ _ _ _ _ _ _ _ _ _ _ _ _ _ _ _ _ _ _ _ _ _ (br_f (by decide) (br_f m0 (br_f m1 hp)))
    · refine br_f (nI_nlt (b := 64) (by omega) (by omega)) ?_
      obtain rfl : n = 64 := by omega
      have A : wY_token_64 (fun r' v' => r' = -1 ∧ i_Rel (k + 3) (nI 64, ob, ed, od, el, be, nI T, ar, go, ph, ra, ov, K, V, J, O, W, C, ST, SR, RD, AD, OP, OM, OD, VA, PL, SC, FI, DC) v') v1 v2 (nI 64) (nI T) ar ph ra bh ov K V NN W C OW NX ySR yRD yAD VA AT SC FY DC SK := br_t (by decide) ⟨rfl, I'⟩
      have B : wY_token_54 (fun r' v' => r' = -1 ∧ i_Rel (k + 3) (nI 64, ob, ed, od, el, be, nI T, ar, go, ph, ra, ov, K, V, J, O, W, C, ST, SR, RD, AD, OP, OM, OD, VA, PL, SC, FI, DC) v') v1 v2 (nI 64) (nI T) ar ph ra bh ov K V NN W C OW NX ySR yRD yAD VA AT SC FY DC SK := by
        by_cases g0 : v2 < 0
        · exact br_t g0 (br_t rfl ⟨rfl, I'⟩)
        · by_cases g1 : 6 ≤ v2
          · exact br_f g0 (br_t g1 (br_t rfl ⟨rfl, I'⟩))
          · exact br_f g0 (br_f g1 (br_f (by decide) A))
      exact hY _ v2 _ _ _ _ _ _ _ _ _ _ _ _ _ _ _ _ _ _ _ _ _ _ _ (br_f (by decide) (br_c (fun _ => B) fun _ => br_c (fun _ => B) fun _ => A))
  · exact hX _ (br_t rfl (hY _ v2 _ _ _ _ _ _ _ _ _ _ _ _ _ _ _ _ _ _ _ _ _ _ _ (br_t rfl ⟨rfl, I'⟩)))
end
section
/-! the grammar's pure picture: st = (operands due, expressions due, length), D = blocks not yet closed, the jumps' meaning -/
def wd_st (κ : Nat → Nat) : Nat → Nat × Nat × Nat
  | 0 => (0, 0, 0)
  | i + 1 =>
    if (wd_st κ i).1 = 0 then (if wd_ex (κ i) = 0 then (0, 0, 0) else (1, wd_ex (κ i) - 1, 0))
    else if (wd_st κ i).1 + wd_ar (κ i) = 1 then (if (wd_st κ i).2.1 = 0 then (0, 0, 0) else (1, (wd_st κ i).2.1 - 1, 0))
    else ((wd_st κ i).1 + wd_ar (κ i) - 1, (wd_st κ i).2.1, (wd_st κ i).2.2 + 1)
def wd_D (κ : Nat → Nat) : Nat → Nat
  | 0 => 0
  | i + 1 => if κ i = 3 ∨ κ i = 6 then wd_D κ i + 1 else if κ i = 5 then wd_D κ i - 1 else wd_D κ i
theorem wd_st_s0 {κ : Nat → Nat} {i e u : Nat} (h : wd_st κ i = (0, e, u)) (hx : wd_ex (κ i) = 0) : wd_st κ (i + 1) = (0, 0, 0) := by
  rw [wd_st, h, if_pos rfl, if_pos hx]
theorem wd_st_s1 {κ : Nat → Nat} {i e u : Nat} (h : wd_st κ i = (0, e, u)) (hx : wd_ex (κ i) ≠ 0) : wd_st κ (i + 1) = (1, wd_ex (κ i) - 1, 0) := by
  rw [wd_st, h, if_pos rfl, if_neg hx]
theorem wd_st_e0 {κ : Nat → Nat} {i m u : Nat} (h : wd_st κ i = (m, 0, u)) (hm : m ≠ 0) (hx : m + wd_ar (κ i) = 1) : wd_st κ (i + 1) = (0, 0, 0) := by
  rw [wd_st, h, if_neg hm, if_pos hx, if_pos rfl]
theorem wd_st_e1 {κ : Nat → Nat} {i m e u : Nat} (h : wd_st κ i = (m, e, u)) (hm : m ≠ 0) (he : e ≠ 0) (hx : m + wd_ar (κ i) = 1) : wd_st κ (i + 1) = (1, e - 1, 0) := by
  rw [wd_st, h, if_neg hm, if_pos hx, if_neg he]
theorem wd_st_e2 {κ : Nat → Nat} {i m e u : Nat} (h : wd_st κ i = (m, e, u)) (hm : m ≠ 0) (hx : m + wd_ar (κ i) ≠ 1) : wd_st κ (i + 1) = (m + wd_ar (κ i) - 1, e, u + 1) := by
  rw [wd_st, h, if_neg hm, if_neg hx]
theorem wd_ar_le (k : Nat) : wd_ar k ≤ 3 := by unfold wd_ar; split <;> (try split) <;> (try split) <;> (try split) <;> (try split) <;> omega
theorem wd_ex_le (k : Nat) : wd_ex k ≤ 2 := by unfold wd_ex; split <;> (try split) <;> (try split) <;> (try split) <;> (try split) <;> omega
theorem wd_st_b (κ : Nat → Nat) : ∀ i, (wd_st κ i).1 ≤ 3 * i + 1 ∧ (wd_st κ i).2.1 ≤ 1 ∧ ((wd_st κ i).1 = 0 → (wd_st κ i).2.1 = 0) := by
  intro i
  induction i with
  | zero => exact ⟨Nat.zero_le _, Nat.zero_le _, fun _ => rfl⟩
  | succ i ih =>
    have h1 := wd_ar_le (κ i)
    have h2 := wd_ex_le (κ i)
    obtain ⟨a, b, c⟩ := ih
    rw [wd_st]
    split
    · split
      · exact ⟨by dsimp only; omega, by dsimp only; omega, fun _ => rfl⟩
      · exact ⟨by dsimp only; omega, by dsimp only; omega, fun z => by dsimp only at z; omega⟩
    · split
      · split
        · exact ⟨by dsimp only; omega, by dsimp only; omega, fun _ => rfl⟩
        · exact ⟨by dsimp only; omega, by dsimp only; omega, fun z => by dsimp only at z; omega⟩
      · exact ⟨by dsimp only; omega, by dsimp only; omega, fun z => by dsimp only at z; omega⟩
theorem wd_D_o {κ : Nat → Nat} {i : Nat} (h : κ i = 3 ∨ κ i = 6) : wd_D κ (i + 1) = wd_D κ i + 1 := by rw [wd_D, if_pos h]
theorem wd_D_e {κ : Nat → Nat} {i : Nat} (h : κ i = 5) : wd_D κ (i + 1) = wd_D κ i - 1 := by rw [wd_D, if_neg (by omega), if_pos h]
theorem wd_D_n {κ : Nat → Nat} {i : Nat} (h1 : κ i ≠ 3) (h2 : κ i ≠ 6) (h3 : κ i ≠ 5) : wd_D κ (i + 1) = wd_D κ i := by rw [wd_D, if_neg (by omega), if_neg h3]
def wd_cl (κ : Nat → Nat) (a z b : Nat) : Prop := a < b ∧ 1 ≤ wd_D κ (a + 1) ∧ (∀ i, a < i → i ≤ b → wd_D κ (a + 1) ≤ wd_D κ i) ∧ (∀ i, a < i → i < b → ¬ (z = 1 ∧ κ i = 4 ∧ wd_D κ i = wd_D κ (a + 1))) ∧ wd_D κ b = wd_D κ (a + 1) ∧ (κ b = 5 ∨ (z = 1 ∧ κ b = 4))
def wd_op (κ : Nat → Nat) (b a : Nat) : Prop := a < b ∧ (κ a = 3 ∨ κ a = 6) ∧ (∀ i, a < i → i ≤ b → wd_D κ a + 1 ≤ wd_D κ i) ∧ wd_D κ b = wd_D κ a + 1
def wd_j1 (κ : Nat → Nat) (n : Nat) (J : Nat → Int32) (x : Nat) : Prop := ((κ x = 3 ∨ κ x = 4 ∨ κ x = 6) → ∃ b, wd_cl κ x (if κ x = 3 then 1 else 0) b ∧ b < n ∧ J x = nI (b + 1)) ∧ (κ x = 5 → ∃ a, wd_op κ x a ∧ J x = nI (if κ a = 6 then a else x + 1))
def wd_fit (κ : Nat → Nat) (x : Nat) : Prop := ((wd_st κ x).1 = 0 → κ x < 10) ∧ ((wd_st κ x).1 ≠ 0 → 10 ≤ κ x ∧ (wd_st κ x).2.2 < 16)
def wd_prog (κ : Nat → Nat) (n : Nat) (J : Nat → Int32) : Prop := (∀ x, x < n → wd_fit κ x) ∧ (wd_st κ n).1 = 0 ∧ ∀ x, x < n → wd_j1 κ n J x
def wd_blk (κ : Nat → Nat) (i j pj qj : Nat) : Prop := qj ≤ pj ∧ pj < i ∧ (κ qj = 3 ∨ κ qj = 6) ∧ wd_D κ qj = j ∧ (∀ x, qj < x → x ≤ i → j + 1 ≤ wd_D κ x) ∧ (pj = qj ∨ (κ qj = 3 ∧ κ pj = 4 ∧ wd_D κ pj = j + 1)) ∧ (κ pj = 3 → ∀ x, pj < x → x < i → ¬ (κ x = 4 ∧ wd_D κ x = j + 1))
def wd_inv (κ : Nat → Nat) (n i d : Nat) (p q : Nat → Nat) (J O NN : Nat → Int32) : Prop := (∀ x, x < i → wd_fit κ x) ∧ wd_D κ i = d ∧ d ≤ i ∧ (∀ j, j < d → wd_blk κ i j (p j) (q j) ∧ O j = nI (p j) ∧ NN j = nI (κ (p j))) ∧ ∀ x, x < i → (∃ j, j < d ∧ x = p j) ∨ wd_j1 κ n J x
theorem wd_j1_c {κ : Nat → Nat} {n x : Nat} {J J' : Nat → Int32} (h : wd_j1 κ n J x) (e : J' x = J x) : wd_j1 κ n J' x := by
  unfold wd_j1
  rw [e]
  exact h
theorem wd_inv_0 {κ : Nat → Nat} {n : Nat} {p q : Nat → Nat} {J O NN : Nat → Int32} : wd_inv κ n 0 0 p q J O NN :=
  ⟨fun x h => absurd h (by omega), rfl, by omega, fun j h => absurd h (by omega), fun x h => absurd h (by omega)⟩
theorem wd_fits {κ : Nat → Nat} {i : Nat} (h : ∀ x, x < i → wd_fit κ x) (hi : wd_fit κ i) : ∀ x, x < i + 1 → wd_fit κ x := fun x hx => by
  by_cases e : x = i
  · rw [e]; exact hi
  · exact h x (by omega)
theorem wd_inv_n {κ : Nat → Nat} {n i d : Nat} {p q : Nat → Nat} {J O NN : Nat → Int32} (h : wd_inv κ n i d p q J O NN) (hf : wd_fit κ i) (h3 : κ i ≠ 3) (h4 : κ i ≠ 4) (h5 : κ i ≠ 5) (h6 : κ i ≠ 6) : wd_inv κ n (i + 1) d p q J O NN := by
  obtain ⟨a, b, c, e, f⟩ := h
  have hD := wd_D_n h3 h6 h5
  refine ⟨wd_fits a hf, by omega, by omega, fun j hj => ?_, fun x hx => ?_⟩
  · obtain ⟨⟨e1, e2, e3, e4, e5, e6, e7⟩, e8, e9⟩ := e j hj
    refine ⟨⟨e1, by omega, e3, e4, fun x hx hx2 => ?_, e6, fun hk x hx hx2 => ?_⟩, e8, e9⟩
    · by_cases ex : x = i + 1
      · rw [ex, hD]; omega
      · exact e5 x hx (by omega)
    · by_cases ex : x = i
      · rw [ex]; exact fun z => h4 z.1
      · exact e7 hk x hx (by omega)
  · by_cases ex : x = i
    · rw [ex]; exact Or.inr ⟨fun z => by omega, fun z => by omega⟩
    · exact f x (by omega)
theorem wd_inv_o {κ : Nat → Nat} {n i d : Nat} {p q : Nat → Nat} {J O NN : Nat → Int32} (h : wd_inv κ n i d p q J O NN) (hf : wd_fit κ i) (h3 : κ i = 3 ∨ κ i = 6) : wd_inv κ n (i + 1) (d + 1) (fun j => if j = d then i else p j) (fun j => if j = d then i else q j) J (upd O d (nI i)) (upd NN d (nI (κ i))) := by
  obtain ⟨a, b, c, e, f⟩ := h
  have hD := wd_D_o h3
  refine ⟨wd_fits a hf, by omega, by omega, fun j hj => ?_, fun x hx => ?_⟩
  · by_cases ej : j = d
    · subst ej
      dsimp only
      rw [if_pos rfl, if_pos rfl, pk_us, pk_us]
      refine ⟨⟨by omega, by omega, h3, b, fun x hx hx2 => ?_, Or.inl rfl, fun hk x hx hx2 => by omega⟩, rfl, rfl⟩
      obtain rfl : x = i + 1 := by omega
      omega
    · dsimp only
      rw [if_neg ej, if_neg ej, pk_un ej, pk_un ej]
      obtain ⟨⟨e1, e2, e3, e4, e5, e6, e7⟩, e8, e9⟩ := e j (by omega)
      refine ⟨⟨e1, by omega, e3, e4, fun x hx hx2 => ?_, e6, fun hk x hx hx2 => ?_⟩, e8, e9⟩
      · by_cases ex : x = i + 1
        · rw [ex, hD]; omega
        · exact e5 x hx (by omega)
      · by_cases ex : x = i
        · rw [ex]; exact fun z => by omega
        · exact e7 hk x hx (by omega)
  · by_cases ex : x = i
    · exact Or.inl ⟨d, by omega, by rw [ex]; exact (if_pos rfl).symm⟩
    · rcases f x (by omega) with ⟨j, hj, ej⟩ | g
      · exact Or.inl ⟨j, by omega, by rw [ej]; exact (if_neg (by omega)).symm⟩
      · exact Or.inr g
theorem wd_inv_l {κ : Nat → Nat} {n i d : Nat} {p q : Nat → Nat} {J O NN : Nat → Int32} (h : wd_inv κ n i (d + 1) p q J O NN) (hi : i < n) (hf : wd_fit κ i) (h4 : κ i = 4) (hp : κ (p d) = 3) : wd_inv κ n (i + 1) (d + 1) (fun j => if j = d then i else p j) q (upd J (p d) (nI (i + 1))) (upd O d (nI i)) (upd NN d (nI (κ i))) := by
  obtain ⟨a, b, c, e, f⟩ := h
  have hD := wd_D_n (κ := κ) (i := i) (by omega) (by omega) (by omega)
  refine ⟨wd_fits a hf, by omega, by omega, fun j hj => ?_, fun x hx => ?_⟩
  · by_cases ej : j = d
    · subst ej
      dsimp only
      rw [if_pos rfl, pk_us, pk_us]
      obtain ⟨⟨e1, e2, e3, e4, e5, e6, e7⟩, e8, e9⟩ := e j (by omega)
      refine ⟨⟨by omega, by omega, e3, e4, fun x hx hx2 => ?_, Or.inr ⟨?_, h4, by omega⟩, fun hk => by omega⟩, rfl, rfl⟩
      · by_cases ex : x = i + 1
        · rw [ex, hD]; omega
        · exact e5 x hx (by omega)
      · rcases e6 with z | z
        · rw [← z]; exact hp
        · exact z.1
    · dsimp only
      rw [if_neg ej, pk_un ej, pk_un ej]
      obtain ⟨⟨e1, e2, e3, e4, e5, e6, e7⟩, e8, e9⟩ := e j (by omega)
      refine ⟨⟨e1, by omega, e3, e4, fun x hx hx2 => ?_, e6, fun hk x hx hx2 => ?_⟩, e8, e9⟩
      · by_cases ex : x = i + 1
        · rw [ex, hD]; omega
        · exact e5 x hx (by omega)
      · by_cases ex : x = i
        · rw [ex]; exact fun z => by omega
        · exact e7 hk x hx (by omega)
  · by_cases ex : x = i
    · exact Or.inl ⟨d, by omega, by rw [ex]; exact (if_pos rfl).symm⟩
    · by_cases ep : x = p d
      · refine Or.inr ⟨fun _ => ⟨i, ?_, hi, ?_⟩, fun z => by rw [ep] at z; omega⟩
        · obtain ⟨⟨e1, e2, e3, e4, e5, e6, e7⟩, e8, e9⟩ := e d (by omega)
          have eq : p d = q d := by
            rcases e6 with z | z
            · exact z
            · omega
          rw [ep, if_pos hp]
          have hDp : wd_D κ (p d + 1) = d + 1 := by rw [wd_D_o (Or.inl hp), eq, e4]
          refine ⟨by omega, by omega, fun y hy hy2 => ?_, fun y hy hy2 => ?_, by omega, Or.inr ⟨rfl, h4⟩⟩
          · rw [hDp]; exact e5 y (by omega) hy2
          · rw [hDp]; exact fun z => e7 hp y hy hy2 z.2
        · rw [ep, pk_us]
      · rcases f x (by omega) with ⟨j, hj, ej⟩ | g
        · have : j ≠ d := fun z => ep (by rw [ej, z])
          exact Or.inl ⟨j, by omega, by rw [ej]; exact (if_neg this).symm⟩
        · exact Or.inr (wd_j1_c g (pk_un ep))
theorem wd_inv_e {κ : Nat → Nat} {n i d : Nat} {p q : Nat → Nat} {J O NN : Nat → Int32} (h : wd_inv κ n i (d + 1) p q J O NN) (hi : i < n) (hf : wd_fit κ i) (h5 : κ i = 5) : wd_inv κ n (i + 1) d p q (upd (upd J (p d) (nI (i + 1))) i (if κ (p d) = 6 then nI (p d) else nI (i + 1))) O NN := by
  obtain ⟨a, b, c, e, f⟩ := h
  have hD := wd_D_e (κ := κ) (i := i) h5
  refine ⟨wd_fits a hf, by omega, by omega, fun j hj => ?_, fun x hx => ?_⟩
  · obtain ⟨⟨e1, e2, e3, e4, e5, e6, e7⟩, e8, e9⟩ := e j (by omega)
    refine ⟨⟨e1, by omega, e3, e4, fun x hx hx2 => ?_, e6, fun hk x hx hx2 => ?_⟩, e8, e9⟩
    · by_cases ex : x = i + 1
      · rw [ex, hD]; omega
      · exact e5 x hx (by omega)
    · by_cases ex : x = i
      · rw [ex]; exact fun z => by omega
      · exact e7 hk x hx (by omega)
  · obtain ⟨⟨e1, e2, e3, e4, e5, e6, e7⟩, e8, e9⟩ := e d (by omega)
    by_cases ex : x = i
    · refine Or.inr ⟨fun z => by rw [ex] at z; omega, fun _ => ⟨q d, ?_, ?_⟩⟩
      · rw [ex]
        exact ⟨by omega, e3, fun y hy hy2 => by rw [e4]; exact e5 y hy hy2, by omega⟩
      · rw [ex, pk_us]
        rcases e6 with z | z
        · rw [← z]
          split <;> rfl
        · rw [if_neg (by omega), if_neg (by omega)]
    · by_cases ep : x = p d
      · refine Or.inr ⟨fun _ => ⟨i, ?_, hi, ?_⟩, fun z => ?_⟩
        · have hDp : wd_D κ (p d + 1) = d + 1 := by
            rcases e6 with z | z
            · rw [z, wd_D_o e3, e4]
            · rw [wd_D_n (by omega) (by omega) (by omega)]; exact z.2.2
          rw [ep]
          refine ⟨by omega, by omega, fun y hy hy2 => ?_, fun y hy hy2 => ?_, by omega, Or.inl h5⟩
          · rw [hDp]; exact e5 y (by omega) hy2
          · rw [hDp]
            intro z
            have h3 : κ (p d) = 3 := by
              by_cases z3 : κ (p d) = 3
              · exact z3
              · rw [if_neg z3] at z; omega
            exact e7 h3 y hy hy2 z.2
        · rw [pk_un ex, ep, pk_us]
        · rw [ep] at z
          rcases e6 with w | w
          · rw [w] at z; omega
          · omega
      · rcases f x (by omega) with ⟨j, hj, ej⟩ | g
        · have : j ≠ d := fun z => ep (by rw [ej, z])
          exact Or.inl ⟨j, by omega, ej⟩
        · exact Or.inr (wd_j1_c g (by rw [pk_un ex, pk_un ep]))
theorem wd_inv_f {κ : Nat → Nat} {n : Nat} {p q : Nat → Nat} {J O NN : Nat → Int32} (h : wd_inv κ n n 0 p q J O NN) (h0 : (wd_st κ n).1 = 0) : wd_prog κ n J := by
  obtain ⟨a, b, c, e, f⟩ := h
  refine ⟨a, h0, fun x hx => ?_⟩
  rcases f x hx with ⟨j, hj, _⟩ | g
  · exact absurd hj (by omega)
  · exact g
end
section
/-! firstFault and wrong, side by side -/
theorem wd_arX {x : Int32} (k : Nat) (hx : x = nI k) (h1 : 10 ≤ k) (h2 : k ≤ 31) (P : Int32 → Prop) (hp : P (nI (wd_ar k))) : wpX_operandsOf P x := by
  subst hx
  have : k = 10 ∨ k = 11 ∨ k = 12 ∨ k = 13 ∨ k = 14 ∨ k = 15 ∨ k = 16 ∨ k = 17 ∨ k = 18 ∨ k = 19 ∨ k = 20 ∨ k = 21 ∨ k = 22 ∨ k = 23 ∨ k = 24 ∨ k = 25 ∨ k = 26 ∨ k = 27 ∨ k = 28 ∨ k = 29 ∨ k = 30 ∨ k = 31 := by omega
  rcases this with rfl | rfl | rfl | rfl | rfl | rfl | rfl | rfl | rfl | rfl | rfl | rfl | rfl | rfl | rfl | rfl | rfl | rfl | rfl | rfl | rfl | rfl <;>
    (unfold wpX_operandsOf; repeat (first | exact br_t (by decide) hp | refine br_f (by decide) ?_))
theorem wd_arY {c th ar yp ra bh ov : Int32} {K V NN W C OW NX SR RD AD VA AT SC FY DC SK : Nat → Int32} {x : Int32} (k : Nat) (hx : x = nI k) (h1 : 10 ≤ k) (h2 : k ≤ 31) (P : Int32 → Prop) (hp : P (nI (wd_ar k))) : wpY_operands P (c, th, ar, yp, ra, bh, ov, K, V, NN, W, C, OW, NX, SR, RD, AD, VA, AT, SC, FY, DC, SK) x := by
  subst hx
  by_cases a : k < 15
  · have e : wd_ar k = 0 := by unfold wd_ar; rw [if_pos a]
    rw [e] at hp
    exact br_f (nI_ge (b := 15) a (by decide)) hp
  · refine br_t (nI_le (a := 15) (by omega) (by omega)) ?_
    by_cases b : k < 17
    · have e : wd_ar k = 1 := by unfold wd_ar; rw [if_neg a, if_pos b]
      rw [e] at hp
      exact br_t (nI_lt (b := 17) b (by decide)) hp
    · refine br_f (nI_nlt (b := 17) (by omega) (by omega)) ?_
      have : k = 29 ∨ k = 30 ∨ k = 31 ∨ (k ≠ 29 ∧ k ≠ 30 ∧ k ≠ 31) := by omega
      rcases this with rfl | rfl | rfl | ⟨c, d, e⟩
      · exact br_t rfl hp
      · exact br_f (by decide) (br_t rfl hp)
      · exact br_f (by decide) (br_f (by decide) (br_t rfl hp))
      · have e' : wd_ar k = 2 := by unfold wd_ar; rw [if_neg a, if_neg b, if_neg c, if_neg d, if_neg e]
        rw [e'] at hp
        exact br_f (fun z => c ((nI_eq (b := 29) (by omega) (by decide)).mp z)) (br_f (fun z => d ((nI_eq (b := 30) (by omega) (by decide)).mp z)) (br_f (fun z => e ((nI_eq (b := 31) (by omega) (by decide)).mp z)) hp))
theorem wd_exX (k : Nat) (h : k ≤ 8) (P : Int32 → Prop) (hp : P (nI (wd_ex k))) : wpX_expressionsOf P (nI k) := by
  have : k = 0 ∨ k = 1 ∨ k = 2 ∨ k = 3 ∨ k = 4 ∨ k = 5 ∨ k = 6 ∨ k = 7 ∨ k = 8 := by omega
  rcases this with rfl | rfl | rfl | rfl | rfl | rfl | rfl | rfl | rfl <;>
    (unfold wpX_expressionsOf; repeat (first | exact br_t (by decide) hp | refine br_f (by decide) ?_))
theorem wd_exY {c th ar yp ra bh ov : Int32} {K V NN W C OW NX SR RD AD VA AT SC FY DC SK : Nat → Int32} (k : Nat) (h : k ≤ 8) (P : Int32 → Prop) (hp : P (nI (wd_ex k))) : wpY_expressions P (c, th, ar, yp, ra, bh, ov, K, V, NN, W, C, OW, NX, SR, RD, AD, VA, AT, SC, FY, DC, SK) (nI k) := by
  have : k = 0 ∨ k = 1 ∨ k = 2 ∨ k = 3 ∨ k = 4 ∨ k = 5 ∨ k = 6 ∨ k = 7 ∨ k = 8 := by omega
  rcases this with rfl | rfl | rfl | rfl | rfl | rfl | rfl | rfl | rfl <;>
    (unfold wpY_expressions; dsimp only; repeat (first | exact br_t (by decide) hp | refine br_f (by decide) ?_)) <;> exact hp
theorem wd_X68 {c ob el be th ar go ph ra ov : Int32} {K V J O W C ST SR RD AD OP OM OD VA PL SC FI DC : Nat → Int32} {ed : Int32} (P : Int32 → SX → Prop) (k : Nat) (hk : k ≤ 8) (h0 : wd_ex k = 0 → P 1 (c, ob, nI 0, nI 0, el, be, th, ar, go, ph, ra, ov, K, V, J, O, W, C, ST, SR, RD, AD, OP, OM, OD, VA, PL, SC, FI, DC)) (h1 : wd_ex k ≠ 0 → P 1 (c, ob, nI (wd_ex k - 1), nI 1, nI 0, be, th, ar, go, ph, ra, ov, K, V, J, O, W, C, ST, SR, RD, AD, OP, OM, OD, VA, PL, SC, FI, DC)) : wX_takeAsStatement_68 P (nI k) c ob ed (nI 0) el be th ar go ph ra ov K V J O W C ST SR RD AD OP OM OD VA PL SC FI DC := by
  refine wd_exX k hk _ ?_
  have hl := wd_ex_le k
  by_cases h : wd_ex k = 0
  · rw [h]
    exact br_t (by decide) (h0 h)
  · refine br_f (nI_nle (by omega) (by omega)) (nm_r (e' := nI (wd_ex k - 1)) ?_ (h1 h))
    exact pk_sub (b := 1) (by omega)
theorem wd_Y165 {c th ar yp ra bh ov : Int32} {K V NN W C OW NX SR RD AD VA AT SC FY DC SK : Nat → Int32} (P : Int32 → SY → Prop) (Jc : _) (x1 u0 : Int32) (i k : Nat) (hk : k ≤ 8) (h0 : wd_ex k = 0 → Jc x1 (nI 0) (nI 0) u0 (nI (i + 1)) K V NN W C OW NX SR RD AD VA AT SC FY DC SK) (h1 : wd_ex k ≠ 0 → Jc x1 (nI (wd_ex k)) (nI 1) (nI 0) (nI (i + 1)) K V NN W C OW NX SR RD AD VA AT SC FY DC SK) : wY_wrong_165 P Jc x1 (nI 0) u0 (nI i) (nI k) c th ar yp ra bh ov K V NN W C OW NX SR RD AD VA AT SC FY DC SK := by
  refine wd_exY k hk _ ?_
  have hl := wd_ex_le k
  by_cases h : wd_ex k = 0
  · rw [h]
    exact br_t (by decide) (br_t (by decide) (nm_r (nI_1 i) (h0 h)))
  · exact br_t (by decide) (br_f (nI_nle (by omega) (by omega)) (nm_r (nI_1 i) (h1 h)))
theorem wd_neI {a : Nat} (b : Nat) (ha : a < 2 ^ 31) (hb : b < 2 ^ 31) (h : a ≠ b) : ¬ nI a = nI b := fun z => h ((nI_eq ha hb).mp z)
theorem wd_cI {K : Nat → Int32} {κ : Nat → Nat} {V : Nat → Int32} (hK : wd_tok κ K V) {i : Nat} (hi : i < 2 ^ 31) : K (nI i).toNatClampNeg = nI (κ i) := by rw [nI_clamp hi]; exact (hK i).1
set_option maxHeartbeats 1600000 in
theorem wd_parse {be th ar go ph ra ov bh yp : Int32} {K V W C ST SR RD AD OP OM OD VA PL SC FI DC OW NX AT FY SK ySR yRD yAD : Nat → Int32} {κ : Nat → Nat} {n : Nat} (hK : wd_tok κ K V) (hn : n ≤ 64) :
  ∀ f i d (p q : Nat → Nat) (m e u : Nat) (el u0 : Int32) (J O NN : Nat → Int32), i + f = n → wd_inv κ n i d p q J O NN → wd_st κ i = (m, e, u) → (m ≠ 0 → u ≤ 16 ∧ el = nI u ∧ u0 = nI u) →
  ∃ (r ob' ed' od' el' : Int32) (J' O' NN' : Nat → Int32),
   (∀ P : Int32 → SX → Prop, P r (nI n, ob', ed', od', el', be, th, ar, go, ph, ra, ov, K, V, J', O', W, C, ST, SR, RD, AD, OP, OM, OD, VA, PL, SC, FI, DC) → wX_firstFault_17 P (f + 1) (nI i) (nI n) (nI d) (nI e) (nI m) el be th ar go ph ra ov K V J O W C ST SR RD AD OP OM OD VA PL SC FI DC) ∧
   (∀ Q : Int32 → SY → Prop, Q r (nI n, th, ar, yp, ra, bh, ov, K, V, NN', W, C, OW, NX, ySR, yRD, yAD, VA, AT, SC, FY, DC, SK) → wY_wrong_12 Q (nI n) th ar yp ra bh ov (f + 1) (nI d) (nI (if m = 0 then 0 else e + 1)) (nI m) u0 (nI i) K V NN W C OW NX ySR yRD yAD VA AT SC FY DC SK) ∧
   ((r = -1 ∧ wd_prog κ n J') ∨ ∃ j, j ≤ n ∧ r = nI j) := by
  intro f
  induction f with
  | zero =>
    intro i d p q m e u el u0 J O NN hi hv hs hu
    have hc : nI n ≤ nI i := nI_le (by omega) (by omega)
    have hb := wd_st_b κ i
    rw [hs] at hb
    have hd : d ≤ i := hv.2.2.1
    dsimp only at hb
    obtain rfl : i = n := by omega
    by_cases hm : m = 0
    · subst hm
      by_cases h0 : d = 0
      · subst h0
        exact ⟨-1, _, _, _, _, _, _, _, fun P hp => br_t hc (br_f (by decide) (br_t (by decide) hp)), fun Q hq => br_t hc (br_f (by decide) (br_t (by decide) hq)), Or.inl ⟨rfl, wd_inv_f hv (by rw [hs])⟩⟩
      · have g : ¬ nI d ≤ 0 := nI_nle (by omega) (by omega)
        exact ⟨nI i, _, _, _, _, _, _, _, fun P hp => br_t hc (br_f (by decide) (br_f g hp)), fun Q hq => br_t hc (br_f (by decide) (br_f g hq)), Or.inr ⟨i, by omega, rfl⟩⟩
    · have g : 0 < nI m := nI_lt (a := 0) (by omega) (by omega)
      exact ⟨nI i, _, _, _, _, _, _, _, fun P hp => br_t hc (br_t g hp), fun Q hq => br_t hc (br_t g hq), Or.inr ⟨i, by omega, rfl⟩⟩
  | succ f ih =>
    intro i d p q m e u el u0 J O NN hi hv hs hu
    have hc : ¬ nI n ≤ nI i := nI_ge (by omega) (by omega)
    have hin : vp_in (nI i) 64 := vp_in_nI (by omega) (by decide)
    have hb := wd_st_b κ i
    rw [hs] at hb
    have hd : d ≤ i := hv.2.2.1
    dsimp only at hb
    have hk := (hK i).2.1
    have hKi := wd_cI hK (i := i) (by omega)
    have one : ¬ (1 : Int32) = 0 := by decide
    have z00 : nI 0 ≤ 0 := by decide
    generalize hke : κ i = k at hk hKi
    have hk31 : k ≤ 31 := by unfold wd_kind at hk; omega
    by_cases hm : m = 0
    · subst hm
      obtain rfl : e = 0 := hb.2.2 rfl
      by_cases k10 : 10 ≤ k
      · exact ⟨nI i, _, _, _, _, _, _, _, fun P hp => br_f hc (br_t z00 ⟨hin, nm_r hKi (br_f (nI_nlt (b := 10) k10 (by omega)) (br_t rfl hp))⟩), fun Q hq => br_f hc ⟨hin, nm_r hKi (br_t z00 (br_t (nI_lt (a := 9) (by omega) (by omega)) hq))⟩, Or.inr ⟨i, by omega, rfl⟩⟩
      · have k8 : k ≤ 8 := by unfold wd_kind at hk; omega
        have l10 : nI k < 10 := nI_lt (b := 10) (by omega) (by decide)
        have g9 : ¬ 9 < nI k := nI_nlt (a := 9) (by omega) (by decide)
        have hf : wd_fit κ i := by
          unfold wd_fit
          rw [hs]
          exact ⟨fun _ => by omega, fun z => absurd rfl z⟩
        by_cases c4 : k = 4
        · subst c4
          cases d with
          | zero => exact ⟨nI i, _, _, _, _, _, _, _, fun P hp => br_f hc (br_t z00 ⟨hin, nm_r hKi (br_t l10 (br_t rfl (br_t rfl ⟨rfl, br_t rfl hp⟩)))⟩), fun Q hq => br_f hc ⟨hin, nm_r hKi (br_t z00 (br_f g9 (br_t rfl (br_t rfl hq))))⟩, Or.inr ⟨i, by omega, rfl⟩⟩
          | succ d =>
            obtain ⟨hB, hO, hN⟩ := hv.2.2.2.1 d (by omega)
            have hpi : p d < i := hB.2.1
            have nz : ¬ nI (d + 1) = 0 := nI_ne0 (by omega) (by omega)
            have ed1 : nI (d + 1) - 1 = nI d := nI_pred d
            have in1 : vp_in (nI (d + 1) - 1) 64 := by rw [ed1]; exact vp_in_nI (by omega) (by decide)
            have cl1 : (nI (d + 1) - 1).toNatClampNeg = d := by rw [ed1, nI_clamp (by omega)]
            have eO : O (nI (d + 1) - 1).toNatClampNeg = nI (p d) := by rw [cl1]; exact hO
            have in2 : vp_in (nI (p d)) 64 := vp_in_nI (by omega) (by decide)
            have eK : K (nI (p d)).toNatClampNeg = nI (κ (p d)) := wd_cI hK (by omega)
            have eN : NN (nI (d + 1) - 1).toNatClampNeg = nI (κ (p d)) := by rw [cl1]; exact hN
            have hkp : κ (p d) ≤ 31 := by
              have := (hK (p d)).2.1
              unfold wd_kind at this
              omega
            by_cases c3 : κ (p d) = 3
            · have eK3 : K (nI (p d)).toNatClampNeg = 3 := by rw [eK, c3]; rfl
              have eN3 : NN (nI (d + 1) - 1).toNatClampNeg = 3 := by rw [eN, c3]; rfl
              have eJ : upd J (nI (p d)).toNatClampNeg (nI i + 1) = upd J (p d) (nI (i + 1)) := by rw [nI_clamp (by omega), nI_1]
              have eO' : upd O (nI (d + 1) - 1).toNatClampNeg (nI i) = upd O d (nI i) := by rw [cl1]
              have eN' : upd NN (nI (d + 1) - 1).toNatClampNeg 4 = upd NN d (nI (κ i)) := by rw [cl1, hke]; rfl
              obtain ⟨r, ob', ed', od', el', J', O', NN', hX, hY, hr⟩ := ih (i + 1) (d + 1) _ q 0 0 0 el u0 _ _ _ (by omega) (wd_inv_l hv (by omega) hf hke c3) (wd_st_s0 hs (by rw [hke]; rfl)) (fun z => absurd rfl z)
              refine ⟨r, ob', ed', od', el', J', O', NN', fun P hp => br_f hc (br_t z00 ⟨hin, nm_r hKi (br_t l10 (br_t rfl (br_f nz ⟨in1, nm_r eO ⟨in2, br_t eK3 ⟨in2, nm_r eJ ⟨in1, nm_r eO' ⟨rfl, br_f one (nm_r (nI_1 i) (hX P hp))⟩⟩⟩⟩⟩)))⟩), fun Q hq => br_f hc ⟨hin, nm_r hKi (br_t z00 (br_f g9 (br_t rfl (br_f nz ⟨in1, br_t eN3 (br_f (by decide) (br_f (by decide) (br_f (by decide) (br_t rfl ⟨in1, nm_r eN' (br_f (by decide) (wd_Y165 Q _ _ _ i 4 (by decide) (fun _ => hY Q hq) (fun z => absurd rfl z)))⟩))))⟩))))⟩, hr⟩
            · have eK3 : ¬ K (nI (p d)).toNatClampNeg = 3 := by rw [eK]; exact wd_neI 3 (by omega) (by decide) c3
              have eN3 : ¬ NN (nI (d + 1) - 1).toNatClampNeg = 3 := by rw [eN]; exact wd_neI 3 (by omega) (by decide) c3
              exact ⟨nI i, _, _, _, _, _, _, _, fun P hp => br_f hc (br_t z00 ⟨hin, nm_r hKi (br_t l10 (br_t rfl (br_f nz ⟨in1, nm_r eO ⟨in2, br_f eK3 ⟨rfl, br_t rfl hp⟩⟩⟩)))⟩), fun Q hq => br_f hc ⟨hin, nm_r hKi (br_t z00 (br_f g9 (br_t rfl (br_f nz ⟨in1, br_f eN3 hq⟩))))⟩, Or.inr ⟨i, by omega, rfl⟩⟩
        · have n4 : ¬ nI k = 4 := wd_neI 4 (by omega) (by decide) c4
          by_cases c5 : k = 5
          · subst c5
            cases d with
            | zero => exact ⟨nI i, _, _, _, _, _, _, _, fun P hp => br_f hc (br_t z00 ⟨hin, nm_r hKi (br_t l10 (br_f n4 (br_t rfl (br_t rfl ⟨rfl, br_t rfl hp⟩))))⟩), fun Q hq => br_f hc ⟨hin, nm_r hKi (br_t z00 (br_f g9 (br_f n4 (br_t rfl (br_t rfl hq)))))⟩, Or.inr ⟨i, by omega, rfl⟩⟩
            | succ d =>
              obtain ⟨hB, hO, hN⟩ := hv.2.2.2.1 d (by omega)
              have hpi : p d < i := hB.2.1
              have nz : ¬ nI (d + 1) = 0 := nI_ne0 (by omega) (by omega)
              have ed1 : nI (d + 1) - 1 = nI d := nI_pred d
              have in1 : vp_in (nI d) 64 := vp_in_nI (by omega) (by decide)
              have eO : O (nI d).toNatClampNeg = nI (p d) := by rw [nI_clamp (by omega)]; exact hO
              have in2 : vp_in (nI (p d)) 64 := vp_in_nI (by omega) (by decide)
              have eK : K (nI (p d)).toNatClampNeg = nI (κ (p d)) := wd_cI hK (by omega)
              have hkp : κ (p d) ≤ 31 := by
                have := (hK (p d)).2.1
                unfold wd_kind at this
                omega
              have eJ : upd J (nI (p d)).toNatClampNeg (nI i + 1) = upd J (p d) (nI (i + 1)) := by rw [nI_clamp (by omega), nI_1]
              obtain ⟨r, ob', ed', od', el', J', O', NN', hX, hY, hr⟩ := ih (i + 1) d p q 0 0 0 el u0 _ O NN (by omega) (wd_inv_e hv (by omega) hf hke) (wd_st_s0 hs (by rw [hke]; rfl)) (fun z => absurd rfl z)
              have hYY : ∀ Q : Int32 → SY → Prop, Q r (nI n, th, ar, yp, ra, bh, ov, K, V, NN', W, C, OW, NX, ySR, yRD, yAD, VA, AT, SC, FY, DC, SK) → wY_wrong_12 Q (nI n) th ar yp ra bh ov (f + 1 + 1) (nI (d + 1)) (nI (if (0 : Nat) = 0 then 0 else 0 + 1)) (nI 0) u0 (nI i) K V NN W C OW NX ySR yRD yAD VA AT SC FY DC SK := fun Q hq => br_f hc ⟨hin, nm_r hKi (br_t z00 (br_f g9 (br_f n4 (br_t rfl (br_f nz (br_f (by decide) (br_f (by decide) (br_f (by decide) (br_t rfl (nm_r (pk_m1 d) (wd_Y165 Q _ _ _ i 5 (by decide) (fun _ => hY Q hq) (fun z => absurd rfl z))))))))))))⟩
              by_cases c6 : κ (p d) = 6
              · have eK6 : K (nI (p d)).toNatClampNeg = 6 := by rw [eK, c6]; rfl
                have eJ2 : upd (upd J (p d) (nI (i + 1))) (nI i).toNatClampNeg (nI (p d)) = upd (upd J (p d) (nI (i + 1))) i (if κ (p d) = 6 then nI (p d) else nI (i + 1)) := by rw [nI_clamp (by omega), if_pos c6]
                exact ⟨r, ob', ed', od', el', J', O', NN', fun P hp => br_f hc (br_t z00 ⟨hin, nm_r hKi (br_t l10 (br_f n4 (br_t rfl (br_f nz (nm_r ed1 ⟨in1, nm_r eO ⟨in2, nm_r eJ ⟨in2, br_t eK6 ⟨hin, nm_r eJ2 ⟨rfl, br_f one (nm_r (nI_1 i) (hX P hp))⟩⟩⟩⟩⟩)))))⟩), hYY, hr⟩
              · have eK6 : ¬ K (nI (p d)).toNatClampNeg = 6 := by rw [eK]; exact wd_neI 6 (by omega) (by decide) c6
                have eJ2 : upd (upd J (p d) (nI (i + 1))) (nI i).toNatClampNeg (nI i + 1) = upd (upd J (p d) (nI (i + 1))) i (if κ (p d) = 6 then nI (p d) else nI (i + 1)) := by rw [nI_clamp (by omega), if_neg c6, nI_1]
                exact ⟨r, ob', ed', od', el', J', O', NN', fun P hp => br_f hc (br_t z00 ⟨hin, nm_r hKi (br_t l10 (br_f n4 (br_t rfl (br_f nz (nm_r ed1 ⟨in1, nm_r eO ⟨in2, nm_r eJ ⟨in2, br_f eK6 ⟨hin, nm_r eJ2 ⟨rfl, br_f one (nm_r (nI_1 i) (hX P hp))⟩⟩⟩⟩⟩)))))⟩), hYY, hr⟩
          · have n5 : ¬ nI k = 5 := wd_neI 5 (by omega) (by decide) c5
            by_cases c36 : k = 3 ∨ k = 6
            · have in1 : vp_in (nI d) 64 := vp_in_nI (by omega) (by decide)
              have hx1 : wd_ex k = 1 := by rcases c36 with rfl | rfl <;> rfl
              have eO' : upd O (nI d).toNatClampNeg (nI i) = upd O d (nI i) := by rw [nI_clamp (by omega)]
              have eN' : upd NN (nI d).toNatClampNeg (nI k) = upd NN d (nI (κ i)) := by rw [nI_clamp (by omega), hke]
              obtain ⟨r, ob', ed', od', el', J', O', NN', hX, hY, hr⟩ := ih (i + 1) (d + 1) _ _ 1 0 0 (nI 0) (nI 0) J _ _ (by omega) (wd_inv_o hv hf (by rw [hke]; exact c36)) (by rw [wd_st_s1 hs (by rw [hke, hx1]; decide), hke, hx1]) (fun _ => ⟨by omega, rfl, rfl⟩)
              have gX : ∀ P : Int32 → SX → Prop, P r (nI n, ob', ed', od', el', be, th, ar, go, ph, ra, ov, K, V, J', O', W, C, ST, SR, RD, AD, OP, OM, OD, VA, PL, SC, FI, DC) → wX_takeAsStatement_48 (fun r_5 u => match u with | (c, ob, ed, od, el, be, th, ar, go, ph, ra, ov, K, V, J, O, W, C, ST, SR, RD, AD, OP, OM, OD, VA, PL, SC, FI, DC) => wX_firstFault_45 P (wX_firstFault_17 P (f + 1)) (nI i) r_5 c ob ed od el be th ar go ph ra ov K V J O W C ST SR RD AD OP OM OD VA PL SC FI DC) (nI i) (nI k) (nI n) (nI d) (nI 0) (nI 0) el be th ar go ph ra ov K V J O W C ST SR RD AD OP OM OD VA PL SC FI DC := fun P hp => ⟨in1, nm_r eO' (nm_r (nI_1 d) (wd_X68 _ k k8 (fun z => by omega) (fun _ => br_f one (nm_r (nI_1 i) (by rw [hx1]; exact hX P hp)))))⟩
              have gY : ∀ Q : Int32 → SY → Prop, Q r (nI n, th, ar, yp, ra, bh, ov, K, V, NN', W, C, OW, NX, ySR, yRD, yAD, VA, AT, SC, FY, DC, SK) → wY_wrong_130 Q (wY_wrong_12 Q (nI n) th ar yp ra bh ov (f + 1)) (nI d) (nI 0) u0 (nI i) (nI k) (nI n) th ar yp ra bh ov K V NN W C OW NX ySR yRD yAD VA AT SC FY DC SK := fun Q hq => nm_r (nI_1 d) ⟨in1, nm_r eN' (br_f n4 (br_f n5 (wd_Y165 Q _ _ _ i k k8 (fun z => by omega) (fun _ => by rw [hx1]; exact hY Q hq))))⟩
              rcases c36 with rfl | rfl
              · exact ⟨r, ob', ed', od', el', J', O', NN', fun P hp => br_f hc (br_t z00 ⟨hin, nm_r hKi (br_t l10 (br_f n4 (br_f n5 (br_t rfl (gX P hp)))))⟩), fun Q hq => br_f hc ⟨hin, nm_r hKi (br_t z00 (br_f g9 (br_f n4 (br_f n5 (br_t rfl (gY Q hq))))))⟩, hr⟩
              · exact ⟨r, ob', ed', od', el', J', O', NN', fun P hp => br_f hc (br_t z00 ⟨hin, nm_r hKi (br_t l10 (br_f n4 (br_f n5 (br_f (by decide) (br_t rfl (gX P hp))))))⟩), fun Q hq => br_f hc ⟨hin, nm_r hKi (br_t z00 (br_f g9 (br_f n4 (br_f n5 (br_f (by decide) (br_t rfl (gY Q hq)))))))⟩, hr⟩
            · have n3 : ¬ nI k = 3 := wd_neI 3 (by omega) (by decide) (by omega)
              have n6 : ¬ nI k = 6 := wd_neI 6 (by omega) (by decide) (by omega)
              have hv' := wd_inv_n hv hf (by omega) (by omega) (by omega) (by omega)
              by_cases hx : wd_ex k = 0
              · obtain ⟨r, ob', ed', od', el', J', O', NN', hX, hY, hr⟩ := ih (i + 1) d p q 0 0 0 el u0 J O NN (by omega) hv' (wd_st_s0 hs (by rw [hke]; exact hx)) (fun z => absurd rfl z)
                exact ⟨r, ob', ed', od', el', J', O', NN', fun P hp => br_f hc (br_t z00 ⟨hin, nm_r hKi (br_t l10 (br_f n4 (br_f n5 (br_f n3 (br_f n6 (wd_X68 _ k k8 (fun _ => br_f one (nm_r (nI_1 i) (hX P hp))) (fun z => absurd hx z)))))))⟩), fun Q hq => br_f hc ⟨hin, nm_r hKi (br_t z00 (br_f g9 (br_f n4 (br_f n5 (br_f n3 (br_f n6 (br_f n4 (br_f n5 (wd_Y165 Q _ _ _ i k k8 (fun _ => hY Q hq) (fun z => absurd hx z))))))))))⟩, hr⟩
              · obtain ⟨r, ob', ed', od', el', J', O', NN', hX, hY, hr⟩ := ih (i + 1) d p q 1 (wd_ex k - 1) 0 (nI 0) (nI 0) J O NN (by omega) hv' (by rw [wd_st_s1 hs (by rw [hke]; exact hx), hke]) (fun _ => ⟨by omega, rfl, rfl⟩)
                rw [if_neg (by omega), show wd_ex k - 1 + 1 = wd_ex k by omega] at hY
                exact ⟨r, ob', ed', od', el', J', O', NN', fun P hp => br_f hc (br_t z00 ⟨hin, nm_r hKi (br_t l10 (br_f n4 (br_f n5 (br_f n3 (br_f n6 (wd_X68 _ k k8 (fun z => absurd z hx) (fun _ => br_f one (nm_r (nI_1 i) (hX P hp)))))))))⟩), fun Q hq => br_f hc ⟨hin, nm_r hKi (br_t z00 (br_f g9 (br_f n4 (br_f n5 (br_f n3 (br_f n6 (br_f n4 (br_f n5 (wd_Y165 Q _ _ _ i k k8 (fun z => absurd z hx) (fun _ => hY Q hq))))))))))⟩, hr⟩
    · obtain ⟨hu16, rfl, rfl⟩ := hu hm
      have m0 : ¬ nI m ≤ 0 := nI_nle (by omega) (by omega)
      rw [if_neg hm]
      by_cases k10 : 10 ≤ k
      · have nl : ¬ K (nI i).toNatClampNeg < 10 := by rw [hKi]; exact nI_nlt (b := 10) k10 (by omega)
        have nlY : ¬ nI k < 10 := nI_nlt (b := 10) k10 (by omega)
        by_cases hu2 : u = 16
        · subst hu2
          exact ⟨nI i, _, _, _, _, _, _, _, fun P hp => br_f hc (br_f m0 ⟨hin, br_f nl (br_f (by decide) (br_t rfl hp))⟩), fun Q hq => br_f hc ⟨hin, nm_r hKi (br_f m0 (br_f nlY (br_t rfl hq)))⟩, Or.inr ⟨i, by omega, rfl⟩⟩
        · have lu : nI u < 16 := nI_lt (b := 16) (by omega) (by decide)
          have nu : ¬ nI u = 16 := wd_neI 16 (by omega) (by decide) hu2
          have hf : wd_fit κ i := by
            unfold wd_fit
            rw [hs, hke]
            exact ⟨fun z => absurd z hm, fun _ => ⟨k10, by dsimp only; omega⟩⟩
          have hv' := wd_inv_n hv hf (by omega) (by omega) (by omega) (by omega)
          have har := wd_ar_le k
          have em : nI m + (nI (wd_ar k) - 1) = nI (m + wd_ar k - 1) := by
            rw [show m + wd_ar k - 1 = (m - 1) + wd_ar k by omega, ← nI_add, show nI m = nI (m - 1) + 1 by rw [nI_1]; congr 1; omega]
            grind
          by_cases hx : m + wd_ar k = 1
          · have e0 : m + wd_ar k - 1 = 0 := by omega
            rw [e0] at em
            by_cases he : e = 0
            · subst he
              obtain ⟨r, ob', ed', od', el', J', O', NN', hX, hY, hr⟩ := ih (i + 1) d p q 0 0 0 (nI (u + 1)) (nI (u + 1)) J O NN (by omega) hv' (wd_st_e0 hs hm (by rw [hke]; exact hx)) (fun z => absurd rfl z)
              exact ⟨r, ob', ed', od', el', J', O', NN', fun P hp => br_f hc (br_f m0 ⟨hin, br_f nl (br_t lu (nm_r (nI_1 u) ⟨hin, wd_arX k hKi k10 hk31 _ (nm_r em (br_t rfl (br_t z00 (br_f one (nm_r (nI_1 i) (hX P hp))))))⟩))⟩), fun Q hq => br_f hc ⟨hin, nm_r hKi (br_f m0 (br_f nlY (br_f nu (nm_r (nI_1 u) (wd_arY k rfl k10 hk31 _ (nm_r em (br_t rfl (nm_r (pk_m1 0) (br_t rfl (br_t z00 (nm_r (nI_1 i) (hY Q hq))))))))))))⟩, hr⟩
            · obtain ⟨r, ob', ed', od', el', J', O', NN', hX, hY, hr⟩ := ih (i + 1) d p q 1 (e - 1) 0 (nI 0) (nI 0) J O NN (by omega) hv' (wd_st_e1 hs hm he (by rw [hke]; exact hx)) (fun _ => ⟨by omega, rfl, rfl⟩)
              rw [if_neg (by omega), show e - 1 + 1 = e by omega] at hY
              have ge : ¬ nI e ≤ 0 := nI_nle (by omega) (by omega)
              have ee : nI e - 1 = nI (e - 1) := pk_sub (b := 1) (by omega)
              exact ⟨r, ob', ed', od', el', J', O', NN', fun P hp => br_f hc (br_f m0 ⟨hin, br_f nl (br_t lu (nm_r (nI_1 u) ⟨hin, wd_arX k hKi k10 hk31 _ (nm_r em (br_t rfl (br_f ge (nm_r ee (br_f one (nm_r (nI_1 i) (hX P hp)))))))⟩))⟩), fun Q hq => br_f hc ⟨hin, nm_r hKi (br_f m0 (br_f nlY (br_f nu (nm_r (nI_1 u) (wd_arY k rfl k10 hk31 _ (nm_r em (br_t rfl (nm_r (pk_m1 e) (br_t rfl (br_f ge (nm_r (nI_1 i) (hY Q hq))))))))))))⟩, hr⟩
          · have nz : ¬ nI (m + wd_ar k - 1) = 0 := nI_ne0 (by omega) (by omega)
            obtain ⟨r, ob', ed', od', el', J', O', NN', hX, hY, hr⟩ := ih (i + 1) d p q (m + wd_ar k - 1) e (u + 1) (nI (u + 1)) (nI (u + 1)) J O NN (by omega) hv' (by rw [wd_st_e2 hs hm (by rw [hke]; exact hx), hke]) (fun _ => ⟨by omega, rfl, rfl⟩)
            rw [if_neg (by omega)] at hY
            exact ⟨r, ob', ed', od', el', J', O', NN', fun P hp => br_f hc (br_f m0 ⟨hin, br_f nl (br_t lu (nm_r (nI_1 u) ⟨hin, wd_arX k hKi k10 hk31 _ (nm_r em (br_f nz (br_f one (nm_r (nI_1 i) (hX P hp)))))⟩))⟩), fun Q hq => br_f hc ⟨hin, nm_r hKi (br_f m0 (br_f nlY (br_f nu (nm_r (nI_1 u) (wd_arY k rfl k10 hk31 _ (nm_r em (br_f nz (br_f nz (nm_r (nI_1 i) (hY Q hq))))))))))⟩, hr⟩
      · have k8 : k ≤ 8 := by unfold wd_kind at hk; omega
        have lt : K (nI i).toNatClampNeg < 10 := by rw [hKi]; exact nI_lt (b := 10) (by omega) (by decide)
        have ltY : nI k < 10 := nI_lt (b := 10) (by omega) (by decide)
        exact ⟨nI i, _, _, _, _, _, _, _, fun P hp => br_f hc (br_f m0 ⟨hin, br_t lt (br_t rfl hp)⟩), fun Q hq => br_f hc ⟨hin, nm_r hKi (br_f m0 (br_t ltY hq))⟩, Or.inr ⟨i, by omega, rfl⟩⟩
end
section
/-! wrong; what firstFault leaves -/
theorem wd_ff {ob ed od el be th ar go ph ra ov bh yp : Int32} {K V W C ST SR RD AD OP OM OD VA PL SC FI DC OW NX AT FY SK ySR yRD yAD : Nat → Int32} {J O NN : Nat → Int32} {κ : Nat → Nat} {n : Nat} (hK : wd_tok κ K V) (hn : n ≤ 64) :
  ∃ (r ob' ed' od' el' : Int32) (J' O' NN' : Nat → Int32),
   (∀ P : Int32 → SX → Prop, P r (nI n, ob', ed', od', el', be, th, ar, go, ph, ra, ov, K, V, J', O', W, C, ST, SR, RD, AD, OP, OM, OD, VA, PL, SC, FI, DC) → wpX_firstFault P (nI n, ob, ed, od, el, be, th, ar, go, ph, ra, ov, K, V, J, O, W, C, ST, SR, RD, AD, OP, OM, OD, VA, PL, SC, FI, DC)) ∧
   (∀ Q : Int32 → SY → Prop, Q r (nI n, th, ar, yp, ra, bh, ov, K, V, NN', W, C, OW, NX, ySR, yRD, yAD, VA, AT, SC, FY, DC, SK) → wpY_wrong Q (nI n, th, ar, yp, ra, bh, ov, K, V, NN, W, C, OW, NX, ySR, yRD, yAD, VA, AT, SC, FY, DC, SK)) ∧
   ((r = -1 ∧ wd_prog κ n J') ∨ ∃ j, j ≤ n ∧ r = nI j) := by
  obtain ⟨r, ob', ed', od', el', J', O', NN', hX, hY, hr⟩ := wd_parse (be := be) (th := th) (ar := ar) (go := go) (ph := ph) (ra := ra) (ov := ov) (bh := bh) (yp := yp) (K := K) (V := V) (W := W) (C := C) (ST := ST) (SR := SR) (RD := RD) (AD := AD) (OP := OP) (OM := OM) (OD := OD) (VA := VA) (PL := PL) (SC := SC) (FI := FI) (DC := DC) (OW := OW) (NX := NX) (AT := AT) (FY := FY) (SK := SK) (ySR := ySR) (yRD := yRD) (yAD := yAD) hK hn n 0 0 id id 0 0 0 el 0 J O NN (by omega) wd_inv_0 rfl (fun z => absurd rfl z)
  exact ⟨r, ob', ed', od', el', J', O', NN', fun P hp => ⟨n + 1, hX P hp⟩, fun Q hq => ⟨n + 1, hY Q hq⟩, hr⟩
theorem i_vc_wrong {k : Nat} {u : SX} {v : SY} (I : i_Rel k u v) (hk : k + 3 ≤ 1536) : wpX_wrong (fun r u' => wpY_wrong (fun r' v' => r' = r ∧ i_Rel (k + 3) u' v') v) u := by
  obtain ⟨n, T, κ, ob, ed, od, el, be, ar, go, ph, ra, ov, bh, K, V, J, O, W, C, ST, SR, RD, AD, OP, OM, OD, VA, PL, SC, FI, DC, NN, OW, NX, ySR, yRD, yAD, AT, FY, SK, rfl, rfl, h3, h4, h5, h6, _⟩ := I
  obtain ⟨r, ob', ed', od', el', J', O', NN', hX, hY, hr⟩ := wd_ff (th := nI T) (yp := ph) (ob := ob) (ed := ed) (od := od) (el := el) (be := be) (ar := ar) (go := go) (ph := ph) (ra := ra) (ov := ov) (bh := bh) (K := K) (V := V) (J := J) (O := O) (W := W) (C := C) (ST := ST) (SR := SR) (RD := RD) (AD := AD) (OP := OP) (OM := OM) (OD := OD) (VA := VA) (PL := PL) (SC := SC) (FI := FI) (DC := DC) (NN := NN) (OW := OW) (NX := NX) (AT := AT) (FY := FY) (SK := SK) (ySR := ySR) (yRD := yRD) (yAD := yAD) h5 h3
  refine hX _ (hY _ ⟨rfl, ?_⟩)
  exact ⟨n, T, κ, ob', ed', od', el', be, ar, go, ph, ra, ov, bh, K, V, J', O', W, C, ST, SR, RD, AD, OP, OM, OD, VA, PL, SC, FI, DC, NN', OW, NX, ySR, yRD, yAD, AT, FY, SK, rfl, rfl, h3, h4, h5, h6, rfl⟩
end
section
/-! expressions as trees: start, end, value, words read -/
def wd_m63 (a : Int32) : Nat := (a &&& 63).toNatClampNeg
theorem wd_m63_lt (a : Int32) : wd_m63 a < 64 := by
  obtain ⟨j, hj, e⟩ := wd_63 a
  unfold wd_m63
  rw [e, nI_clamp (by omega)]
  exact hj
def wd_ov (mem cnt : Nat → Int32) (k : Nat) (a b c : Int32) : Int32 :=
  if k = 15 then mem (wd_m63 a) else if k = 16 then cnt (wd_m63 a) else if k = 20 then a + b else if k = 21 then a - b else if k = 22 then a * b
  else if k = 23 then (if b = 0 then 0 else a / b) else if k = 24 then (if b = 0 then 0 else a - a / b * b) else if k = 25 then (if a = b then 1 else 0)
  else if k = 26 then (if b ≤ a then 0 else 1) else if k = 27 then (if a = 0 then 0 else if b = 0 then 0 else 1) else if k = 28 then (if a = 0 then (if b = 0 then 0 else 1) else 1)
  else if k = 29 then (if a = 0 then 1 else 0) else if k = 30 then -a else (if a = 0 then c else b)
theorem wd_ov1 {mem cnt : Nat → Int32} {k : Nat} (h : k = 15 ∨ k = 16 ∨ k = 29 ∨ k = 30) (a b c : Int32) : wd_ov mem cnt k a b c = wd_ov mem cnt k a 0 0 := by
  rcases h with rfl | rfl | rfl | rfl <;> rfl
theorem wd_ov2 {mem cnt : Nat → Int32} {k : Nat} (h : 20 ≤ k ∧ k ≤ 28) (a b c : Int32) : wd_ov mem cnt k a b c = wd_ov mem cnt k a b 0 := by
  have : k = 20 ∨ k = 21 ∨ k = 22 ∨ k = 23 ∨ k = 24 ∨ k = 25 ∨ k = 26 ∨ k = 27 ∨ k = 28 := by omega
  rcases this with rfl | rfl | rfl | rfl | rfl | rfl | rfl | rfl | rfl <;> rfl
def wd_rd (k : Nat) (a : Int32) : Nat → Bool := fun c => decide (k = 15 ∧ c = wd_m63 a)
def wd_bit (t : Nat) : Int32 := (1 : Int32) <<< (nI t &&& 31)
def wd_or (RD : Nat → Int32) (b : Int32) (R : Nat → Bool) : Nat → Int32 := fun c => if R c = true then RD c ||| b else RD c
theorem wd_or_0 {RD : Nat → Int32} {b : Int32} : wd_or RD b (fun _ => false) = RD := rfl
theorem wd_or_n {RD : Nat → Int32} {b : Int32} {k : Nat} {a : Int32} (h : k ≠ 15) : wd_or RD b (wd_rd k a) = RD := by
  funext c
  unfold wd_or wd_rd
  rw [decide_eq_false (by omega)]
  rfl
theorem wd_or_w {RD : Nat → Int32} {b a : Int32} : upd RD (wd_m63 a) (RD (wd_m63 a) ||| b) = wd_or RD b (wd_rd 15 a) := by
  funext c
  unfold wd_or wd_rd upd
  by_cases h : c = wd_m63 a
  · rw [if_pos h, decide_eq_true ⟨rfl, h⟩, if_pos rfl, h]
  · rw [if_neg h, decide_eq_false (by omega)]
    rfl
theorem wd_or_or {RD : Nat → Int32} {b : Int32} {R1 R2 : Nat → Bool} : wd_or (wd_or RD b R1) b R2 = wd_or RD b (fun c => R1 c || R2 c) := by
  funext c
  show (if R2 c = true then (if R1 c = true then RD c ||| b else RD c) ||| b else (if R1 c = true then RD c ||| b else RD c)) = if (R1 c || R2 c) = true then RD c ||| b else RD c
  cases R1 c <;> cases R2 c <;> simp [Int32.or_assoc]
theorem wd_or_c {RD : Nat → Int32} {b : Int32} {R1 R2 : Nat → Bool} : wd_or (wd_or RD b R1) b R2 = wd_or (wd_or RD b R2) b R1 := by
  rw [wd_or_or, wd_or_or]
  congr 1
  funext c
  exact Bool.or_comm _ _
def wd_lf (κ : Nat → Nat) (V VA : Nat → Int32) (t : Nat) (th ar : Int32) : Nat → Int32 := fun p => if κ p = 10 then V p else if κ p = 11 then VA (6 * t + (V p).toNatClampNeg) else if κ p = 12 then nI t else if κ p = 13 then th else ar
def wd_tr (κ : Nat → Nat) (n : Nat) (lf mem cnt : Nat → Int32) : Nat → Nat → Nat → Int32 → (Nat → Bool) → Prop
  | 0 => fun _ _ _ _ => False
  | f + 1 => fun p q v R => p < n ∧ 10 ≤ κ p ∧ (
     (wd_ar (κ p) = 0 ∧ q = p + 1 ∧ v = lf p ∧ R = fun _ => false) ∨
     (wd_ar (κ p) = 1 ∧ ∃ a R1, wd_tr κ n lf mem cnt f (p + 1) q a R1 ∧ v = wd_ov mem cnt (κ p) a 0 0 ∧ R = fun c => R1 c || wd_rd (κ p) a c) ∨
     (wd_ar (κ p) = 2 ∧ ∃ q1 a b R1 R2, wd_tr κ n lf mem cnt f (p + 1) q1 a R1 ∧ wd_tr κ n lf mem cnt f q1 q b R2 ∧ v = wd_ov mem cnt (κ p) a b 0 ∧ R = fun c => R1 c || R2 c) ∨
     (wd_ar (κ p) = 3 ∧ ∃ q1 q2 a b c' R1 R2 R3, wd_tr κ n lf mem cnt f (p + 1) q1 a R1 ∧ wd_tr κ n lf mem cnt f q1 q2 b R2 ∧ wd_tr κ n lf mem cnt f q2 q c' R3 ∧ v = wd_ov mem cnt (κ p) a b c' ∧ R = fun c => (R1 c || R2 c) || R3 c))
theorem wd_tr_lt {κ : Nat → Nat} {n : Nat} {lf mem cnt : Nat → Int32} : ∀ f p q v R, wd_tr κ n lf mem cnt f p q v R → p < q ∧ q ≤ n := by
  intro f
  induction f with
  | zero => intro p q v R h; exact absurd h id
  | succ f ih =>
    intro p q v R ⟨h1, h2, h⟩
    rcases h with ⟨_, rfl, _⟩ | ⟨_, a, R1, ha, _⟩ | ⟨_, q1, a, b, R1, R2, ha, hb, _⟩ | ⟨_, q1, q2, a, b, c', R1, R2, R3, ha, hb, hc, _⟩
    · omega
    · have := ih _ _ _ _ ha; omega
    · have := ih _ _ _ _ ha; have := ih _ _ _ _ hb; omega
    · have := ih _ _ _ _ ha; have := ih _ _ _ _ hb; have := ih _ _ _ _ hc; omega
theorem wd_ar_cases (k : Nat) : wd_ar k = 0 ∨ wd_ar k = 1 ∨ wd_ar k = 2 ∨ wd_ar k = 3 := by have := wd_ar_le k; omega
theorem wd_ar1 {k : Nat} (h : wd_ar k = 1) : k = 15 ∨ k = 16 ∨ k = 29 ∨ k = 30 := by
  unfold wd_ar at h
  by_cases a : k < 15
  · rw [if_pos a] at h; omega
  · rw [if_neg a] at h
    by_cases b : k < 17
    · omega
    · rw [if_neg b] at h
      by_cases c : k = 29
      · omega
      · rw [if_neg c] at h
        by_cases d : k = 30
        · omega
        · rw [if_neg d] at h
          split at h <;> omega
theorem wd_ar2 {k : Nat} (hk : wd_kind k) (h : wd_ar k = 2) : 20 ≤ k ∧ k ≤ 28 := by
  unfold wd_kind at hk
  unfold wd_ar at h
  by_cases a : k < 15
  · rw [if_pos a] at h; omega
  · rw [if_neg a] at h
    by_cases b : k < 17
    · rw [if_pos b] at h; omega
    · rw [if_neg b] at h
      by_cases c : k = 29
      · rw [if_pos c] at h; omega
      · rw [if_neg c] at h
        by_cases d : k = 30
        · rw [if_pos d] at h; omega
        · rw [if_neg d] at h
          split at h <;> omega
theorem wd_ar3 {k : Nat} (h : wd_ar k = 3) : k = 31 := by
  unfold wd_ar at h
  by_cases a : k < 15
  · rw [if_pos a] at h; omega
  · rw [if_neg a] at h
    by_cases b : k < 17
    · rw [if_pos b] at h; omega
    · rw [if_neg b] at h
      by_cases c : k = 29
      · rw [if_pos c] at h; omega
      · rw [if_neg c] at h
        by_cases d : k = 30
        · rw [if_pos d] at h; omega
        · rw [if_neg d] at h
          split at h <;> omega
theorem wd_ar0 {k : Nat} (h : wd_ar k = 0) : k < 15 := by
  unfold wd_ar at h
  by_cases a : k < 15
  · exact a
  · rw [if_neg a] at h
    split at h
    · omega
    · split at h
      · omega
      · split at h
        · omega
        · split at h <;> omega
theorem wd_tree {κ : Nat → Nat} {n : Nat} {J : Nat → Int32} (hp : wd_prog κ n J) (lf mem cnt : Nat → Int32) : ∀ f p c e u, n ≤ p + f → p ≤ n → wd_st κ p = (c + 1, e, u) → ∃ q v R, wd_tr κ n lf mem cnt f p q v R ∧ u + (q - p) ≤ 16 ∧ (c ≠ 0 → wd_st κ q = (c, e, u + (q - p))) ∧ (c = 0 → e = 0 → wd_st κ q = (0, 0, 0)) ∧ (c = 0 → e ≠ 0 → wd_st κ q = (1, e - 1, 0)) := by
  intro f
  induction f with
  | zero =>
    intro p c e u h1 h2 hs
    obtain rfl : p = n := by omega
    have := hp.2.1
    rw [hs] at this
    exact absurd this (by dsimp only; omega)
  | succ f ih =>
    intro p c e u h1 h2 hs
    have hpn : p < n := by
      by_cases z : p = n
      · subst z
        have := hp.2.1
        rw [hs] at this
        exact absurd this (by dsimp only; omega)
      · omega
    obtain ⟨h10, hu⟩ := (hp.1 p hpn).2 (by rw [hs]; dsimp only; omega)
    rw [hs] at hu
    dsimp only at hu
    rcases wd_ar_cases (κ p) with ha | ha | ha | ha
    · refine ⟨p + 1, lf p, fun _ => false, ⟨hpn, h10, Or.inl ⟨ha, rfl, rfl, rfl⟩⟩, by omega, fun hc => ?_, fun hc he => ?_, fun hc he => ?_⟩
      · rw [wd_st_e2 hs (by omega) (by omega), ha]
        congr 2
        omega
      · subst he
        exact wd_st_e0 hs (by omega) (by omega)
      · exact wd_st_e1 hs (by omega) he (by omega)
    · have hs1 : wd_st κ (p + 1) = (c + 1, e, u + 1) := by
        rw [wd_st_e2 hs (by omega) (by omega), ha]
        rfl
      obtain ⟨q, v, R, t1, t2, t3, t4, t5⟩ := ih (p + 1) c e (u + 1) (by omega) (by omega) hs1
      have hl := wd_tr_lt _ _ _ _ _ t1
      refine ⟨q, _, _, ⟨hpn, h10, Or.inr (Or.inl ⟨ha, v, R, t1, rfl, rfl⟩)⟩, by omega, fun hc => ?_, t4, t5⟩
      rw [t3 hc]
      congr 2
      omega
    · have hs1 : wd_st κ (p + 1) = (c + 1 + 1, e, u + 1) := by
        rw [wd_st_e2 hs (by omega) (by omega), ha]
        rfl
      obtain ⟨q1, v1, R1, t1, t2, t3, t4, t5⟩ := ih (p + 1) (c + 1) e (u + 1) (by omega) (by omega) hs1
      have hl := wd_tr_lt _ _ _ _ _ t1
      obtain ⟨q, v, R, s1, s2, s3, s4, s5⟩ := ih q1 c e _ (by omega) (by omega) (t3 (by omega))
      have hl2 := wd_tr_lt _ _ _ _ _ s1
      refine ⟨q, _, _, ⟨hpn, h10, Or.inr (Or.inr (Or.inl ⟨ha, q1, v1, v, R1, R, t1, s1, rfl, rfl⟩))⟩, by omega, fun hc => ?_, s4, s5⟩
      rw [s3 hc]
      congr 2
      omega
    · have hs1 : wd_st κ (p + 1) = (c + 1 + 1 + 1, e, u + 1) := by
        rw [wd_st_e2 hs (by omega) (by omega), ha]
        rfl
      obtain ⟨q1, v1, R1, t1, t2, t3, t4, t5⟩ := ih (p + 1) (c + 1 + 1) e (u + 1) (by omega) (by omega) hs1
      have hl := wd_tr_lt _ _ _ _ _ t1
      obtain ⟨q2, v2, R2, w1, w2, w3, w4, w5⟩ := ih q1 (c + 1) e _ (by omega) (by omega) (t3 (by omega))
      have hl2 := wd_tr_lt _ _ _ _ _ w1
      obtain ⟨q, v, R, s1, s2, s3, s4, s5⟩ := ih q2 c e _ (by omega) (by omega) (w3 (by omega))
      have hl3 := wd_tr_lt _ _ _ _ _ s1
      refine ⟨q, _, _, ⟨hpn, h10, Or.inr (Or.inr (Or.inr ⟨ha, q1, q2, v1, v2, v, R1, R2, R, t1, w1, s1, rfl, rfl⟩))⟩, by omega, fun hc => ?_, s4, s5⟩
      rw [s3 hc]
      congr 2
      omega
theorem wd_b1 (y : Int32) : y &&& 1 = 0 ↔ bt y 0 = false := by
  have h1 : ∀ i, i < 32 → bt 1 i = decide (i = 0) := by decide +kernel
  constructor
  · intro h
    have e : bt (y &&& 1) 0 = bt 0 0 := by rw [h]
    rw [b_and, h1 0 (by decide), b_0] at e
    cases hb : bt y 0
    · rfl
    · rw [hb] at e; exact absurd e (by decide)
  · intro h
    apply b_ext
    intro i hi
    rw [b_and, h1 i hi, b_0]
    by_cases z : i = 0
    · rw [z, h]; rfl
    · rw [decide_eq_false z, Bool.and_false]
theorem wd_bX {t : Nat} (ht : t < 32) (x : Int32) : ((x.toUInt32 >>> ((nI t).toUInt32 &&& Int32.toUInt32 31)).toInt32 &&& 1) = 0 ↔ bt x t = false := by
  rw [wd_b1, b_ushr t ht]
  rfl
theorem wd_bY {t : Nat} (ht : t < 32) (x : Int32) : ((x >>> (nI t &&& 31)) &&& 1) = 1 ↔ bt x t = true := by
  have h1 : ∀ i, i < 32 → bt 1 i = decide (i = 0) := by decide +kernel
  have e0 : bt (x >>> (nI t &&& 31)) 0 = bt x t := by rw [b_sshr t ht x (by decide), if_pos (by omega)]; rfl
  constructor
  · intro h
    have e : bt ((x >>> (nI t &&& 31)) &&& 1) 0 = bt 1 0 := by rw [h]
    rw [b_and, e0, h1 0 (by decide), decide_eq_true rfl, Bool.and_true] at e
    exact e
  · intro h
    apply b_ext
    intro i hi
    rw [b_and, h1 i hi]
    by_cases z : i = 0
    · rw [z, e0, h]; rfl
    · rw [decide_eq_false z, Bool.and_false]
end
section
/-! the component's evaluation of a tree -/
theorem wd_lfX {c ob ed od el be th ar go ph ra ov : Int32} {K V J O W C ST SR RD AD OP OM OD VA PL SC FI DC : Nat → Int32} {κ : Nat → Nat} {t p : Nat} (hK : wd_tok κ K V) (ht : t < 32) (hp : p < 64) (h10 : 10 ≤ κ p) (h15 : κ p < 15) (P : Int32 → Prop) (h : P (wd_lf κ V VA t th ar p)) : wpX_leaf P (c, ob, ed, od, el, be, th, ar, go, ph, ra, ov, K, V, J, O, W, C, ST, SR, RD, AD, OP, OM, OD, VA, PL, SC, FI, DC) (nI t) (nI p) := by
  have hin : vp_in (nI p) 64 := vp_in_nI hp (by decide)
  have hKp := wd_cI hK (i := p) (by omega)
  have hV := (hK p).2.2
  unfold wd_lf at h
  generalize hke : κ p = k at h10 h15 h hKp hV
  have : k = 10 ∨ k = 11 ∨ k = 12 ∨ k = 13 ∨ k = 14 := by omega
  rcases this with rfl | rfl | rfl | rfl | rfl
  · refine ⟨hin, nm_r hKp (br_f (by decide) (br_f (by decide) (br_t rfl ⟨hin, ?_⟩)))⟩
    rw [nI_clamp (by omega)]
    exact h
  · obtain ⟨w, hw, ew⟩ := hV (Or.inr rfl)
    have ev : V (nI p).toNatClampNeg = nI w := by rw [nI_clamp (by omega)]; exact ew
    have ei : nI t * 6 + V (nI p).toNatClampNeg = nI (6 * t + w) := by rw [ev, Nat.mul_comm, ← nI_add, ← pk_mul]; rfl
    refine ⟨hin, nm_r hKp (br_f (by decide) (br_f (by decide) (br_f (by decide) (br_t rfl ⟨hin, ?_, ?_⟩))))⟩
    · rw [ei]; exact vp_in_nI (by omega) (by decide)
    · rw [ei, nI_clamp (by omega)]
      rw [ew, nI_clamp (by omega)] at h
      exact h
  · exact ⟨hin, nm_r hKp (br_f (by decide) (br_f (by decide) (br_f (by decide) (br_f (by decide) (br_t rfl h)))))⟩
  · exact ⟨hin, nm_r hKp (br_f (by decide) (br_f (by decide) (br_f (by decide) (br_f (by decide) (br_f (by decide) (br_t rfl h))))))⟩
  · exact ⟨hin, nm_r hKp (br_f (by decide) (br_t (by decide) h))⟩
theorem wd_rwX {c ob ed od el be th ar go ph ra ov : Int32} {K V J O W C ST SR RD AD OP OM OD VA PL SC FI DC : Nat → Int32} {mem : Nat → Int32} {t : Nat} (ht : t < 32) (hm : ∀ c, c < 64 → mem c = if bt (SR c) t = true then ST c else W c) (a : Int32) (P : Int32 → SX → Prop) (h : P (mem (wd_m63 a)) (c, ob, ed, od, el, be, th, ar, go, ph, ra, ov, K, V, J, O, W, C, ST, SR, wd_or RD (wd_bit t) (wd_rd 15 a), AD, OP, OM, OD, VA, PL, SC, FI, DC)) : wpX_readWord P (c, ob, ed, od, el, be, th, ar, go, ph, ra, ov, K, V, J, O, W, C, ST, SR, RD, AD, OP, OM, OD, VA, PL, SC, FI, DC) (nI t) (a &&& 63) := by
  have hin : vp_in (a &&& 63) 64 := pk_andIn a (m := 63) 6 (by decide) (by decide)
  rw [hm _ (wd_m63_lt a)] at h
  refine ⟨hin, hin, nm_r wd_or_w ⟨hin, ?_⟩⟩
  cases hb : bt (SR (wd_m63 a)) t
  · rw [hb] at h
    exact br_t ((wd_bX ht _).mpr hb) (br_t rfl ⟨hin, h⟩)
  · rw [hb] at h
    exact br_f (fun z => absurd ((wd_bX ht _).mp z) (by show ¬ bt (SR (wd_m63 a)) t = false; rw [hb]; decide)) (br_f (by decide) ⟨hin, h⟩)
theorem wd_opX {c ob ed od el be th ar go ph ra ov : Int32} {K V J O W C ST SR RD AD OP OM OD VA PL SC FI DC : Nat → Int32} {mem : Nat → Int32} {t k h : Nat} {x : Int32} (ht : t < 32) (hm : ∀ c, c < 64 → mem c = if bt (SR c) t = true then ST c else W c) (hk : wd_kind k) (h15 : 15 ≤ k) (hh : h + 2 < 18) (hx : x = nI k) (P : Int32 → SX → Prop) (hp : P (wd_ov mem C k (OD h) (OD (h + 1)) (OD (h + 2))) (c, ob, ed, od, el, be, th, ar, go, ph, ra, ov, K, V, J, O, W, C, ST, SR, wd_or RD (wd_bit t) (wd_rd k (OD h)), AD, OP, OM, OD, VA, PL, SC, FI, DC)) : wpX_operate P (c, ob, ed, od, el, be, th, ar, go, ph, ra, ov, K, V, J, O, W, C, ST, SR, RD, AD, OP, OM, OD, VA, PL, SC, FI, DC) (nI t) x (nI h) := by
  subst hx
  have e1 : nI h + 1 = nI (h + 1) := nI_1 h
  have e2 : nI h + 2 = nI (h + 2) := nI_add h 2
  have i0 : vp_in (nI h) 18 := vp_in_nI (by omega) (by decide)
  have i1 : vp_in (nI h + 1) 18 := by rw [e1]; exact vp_in_nI (by omega) (by decide)
  have i2 : vp_in (nI h + 2) 18 := by rw [e2]; exact vp_in_nI (by omega) (by decide)
  refine ⟨i0, nm_r (e' := OD h) (by rw [nI_clamp (by omega)]) ⟨i1, nm_r (e' := OD (h + 1)) (by rw [e1, nI_clamp (by omega)]) ⟨i2, nm_r (e' := OD (h + 2)) (by rw [e2, nI_clamp (by omega)]) ?_⟩⟩⟩
  generalize OD (h + 2) = c' at hp ⊢
  generalize OD (h + 1) = b at hp ⊢
  generalize OD h = a at hp ⊢
  by_cases k15 : k = 15
  · subst k15
    exact br_f (by decide) (br_f (by decide) (br_t rfl (wd_rwX ht hm a _ hp)))
  · rw [wd_or_n k15] at hp
    have : k = 16 ∨ k = 20 ∨ k = 21 ∨ k = 22 ∨ k = 23 ∨ k = 24 ∨ k = 25 ∨ k = 26 ∨ k = 27 ∨ k = 28 ∨ k = 29 ∨ k = 30 ∨ k = 31 := by unfold wd_kind at hk; omega
    rcases this with rfl | rfl | rfl | rfl | rfl | rfl | rfl | rfl | rfl | rfl | rfl | rfl | rfl
    · refine br_f (by decide) (br_f (by decide) (br_f (by decide) (br_t rfl ⟨pk_andIn a (m := 63) 6 (by decide) (by decide), hp⟩)))
    · refine br_f (by decide) (br_f (by decide) ?_)
      repeat (first | exact br_t (by decide) hp | refine br_f (by decide) ?_)
    · refine br_f (by decide) (br_f (by decide) ?_)
      repeat (first | exact br_t (by decide) hp | refine br_f (by decide) ?_)
    · refine br_f (by decide) (br_f (by decide) ?_)
      repeat (first | exact br_t (by decide) hp | refine br_f (by decide) ?_)
    · refine br_f (by decide) (br_f (by decide) (br_f (by decide) (br_f (by decide) (br_f (by decide) (br_f (by decide) (br_f (by decide) (br_f (by decide) (br_f (by decide) (br_f (by decide) (br_t rfl ?_))))))))))
      replace hp : P (if b = 0 then 0 else a / b) (c, ob, ed, od, el, be, th, ar, go, ph, ra, ov, K, V, J, O, W, C, ST, SR, RD, AD, OP, OM, OD, VA, PL, SC, FI, DC) := hp
      by_cases z : b = 0
      · rw [if_pos z] at hp; exact br_t z hp
      · rw [if_neg z] at hp; exact br_f z ⟨z, hp⟩
    · refine br_f (by decide) (br_f (by decide) (br_f (by decide) (br_f (by decide) (br_f (by decide) (br_f (by decide) (br_f (by decide) (br_f (by decide) (br_f (by decide) (br_f (by decide) (br_f (by decide) (br_t rfl ?_)))))))))))
      replace hp : P (if b = 0 then 0 else a - a / b * b) (c, ob, ed, od, el, be, th, ar, go, ph, ra, ov, K, V, J, O, W, C, ST, SR, RD, AD, OP, OM, OD, VA, PL, SC, FI, DC) := hp
      by_cases z : b = 0
      · rw [if_pos z] at hp; exact br_t z hp
      · rw [if_neg z] at hp; exact br_f z ⟨z, hp⟩
    · refine br_f (by decide) (br_f (by decide) (br_f (by decide) (br_f (by decide) (br_f (by decide) (br_f (by decide) (br_f (by decide) (br_f (by decide) (br_f (by decide) (br_f (by decide) (br_f (by decide) (br_f (by decide) (br_t rfl ?_))))))))))))
      replace hp : P (if a = b then 1 else 0) (c, ob, ed, od, el, be, th, ar, go, ph, ra, ov, K, V, J, O, W, C, ST, SR, RD, AD, OP, OM, OD, VA, PL, SC, FI, DC) := hp
      by_cases z : a = b
      · rw [if_pos z] at hp; exact br_t z hp
      · rw [if_neg z] at hp; exact br_f z hp
    · refine br_f (by decide) (br_f (by decide) (br_f (by decide) (br_f (by decide) (br_f (by decide) (br_f (by decide) (br_f (by decide) (br_f (by decide) (br_f (by decide) (br_f (by decide) (br_f (by decide) (br_f (by decide) (br_f (by decide) (br_t rfl ?_)))))))))))))
      replace hp : P (if b ≤ a then 0 else 1) (c, ob, ed, od, el, be, th, ar, go, ph, ra, ov, K, V, J, O, W, C, ST, SR, RD, AD, OP, OM, OD, VA, PL, SC, FI, DC) := hp
      by_cases z : b ≤ a
      · rw [if_pos z] at hp; exact br_t z hp
      · rw [if_neg z] at hp; exact br_f z hp
    · refine br_f (by decide) (br_f (by decide) (br_f (by decide) (br_f (by decide) (br_f (by decide) (br_f (by decide) (br_f (by decide) (br_f (by decide) (br_f (by decide) (br_f (by decide) (br_f (by decide) (br_f (by decide) (br_f (by decide) (br_f (by decide) (br_t rfl ?_))))))))))))))
      replace hp : P (if a = 0 then 0 else if b = 0 then 0 else 1) (c, ob, ed, od, el, be, th, ar, go, ph, ra, ov, K, V, J, O, W, C, ST, SR, RD, AD, OP, OM, OD, VA, PL, SC, FI, DC) := hp
      by_cases z : a = 0
      · rw [if_pos z] at hp; exact br_t z hp
      · rw [if_neg z] at hp
        by_cases z2 : b = 0
        · rw [if_pos z2] at hp; exact br_f z (br_t z2 hp)
        · rw [if_neg z2] at hp; exact br_f z (br_f z2 hp)
    · refine br_f (by decide) (br_f (by decide) (br_f (by decide) (br_f (by decide) (br_f (by decide) (br_f (by decide) (br_f (by decide) (br_f (by decide) (br_f (by decide) (br_f (by decide) (br_f (by decide) (br_f (by decide) (br_f (by decide) (br_f (by decide) (br_f (by decide) (br_t rfl ?_)))))))))))))))
      replace hp : P (if a = 0 then (if b = 0 then 0 else 1) else 1) (c, ob, ed, od, el, be, th, ar, go, ph, ra, ov, K, V, J, O, W, C, ST, SR, RD, AD, OP, OM, OD, VA, PL, SC, FI, DC) := hp
      by_cases z : a = 0
      · rw [if_pos z] at hp
        by_cases z2 : b = 0
        · rw [if_pos z2] at hp; exact br_t z (br_t z2 hp)
        · rw [if_neg z2] at hp; exact br_t z (br_f z2 hp)
      · rw [if_neg z] at hp; exact br_f z hp
    · refine br_f (by decide) (br_f (by decide) (br_f (by decide) (br_f (by decide) (br_f (by decide) (br_f (by decide) (br_f (by decide) (br_f (by decide) (br_f (by decide) (br_f (by decide) (br_f (by decide) (br_f (by decide) (br_f (by decide) (br_f (by decide) (br_f (by decide) (br_f (by decide) (br_t rfl ?_))))))))))))))))
      replace hp : P (if a = 0 then 1 else 0) (c, ob, ed, od, el, be, th, ar, go, ph, ra, ov, K, V, J, O, W, C, ST, SR, RD, AD, OP, OM, OD, VA, PL, SC, FI, DC) := hp
      by_cases z : a = 0
      · rw [if_pos z] at hp; exact br_t z hp
      · rw [if_neg z] at hp; exact br_f z hp
    · refine br_f (by decide) (br_f (by decide) ?_)
      repeat (first | exact br_t (by decide) hp | refine br_f (by decide) ?_)
    · refine br_f (by decide) (br_t (by decide) ?_)
      replace hp : P (if a = 0 then c' else b) (c, ob, ed, od, el, be, th, ar, go, ph, ra, ov, K, V, J, O, W, C, ST, SR, RD, AD, OP, OM, OD, VA, PL, SC, FI, DC) := hp
      by_cases z : a = 0
      · rw [if_pos z] at hp; exact br_t z hp
      · rw [if_neg z] at hp; exact br_f z hp
theorem wd_pm (w : Nat) : nI w + (-1) = nI w - 1 := by rw [Int32.sub_eq_add_neg]
theorem wd_iM {c ob ed od el be th ar go ph ra ov : Int32} {K V J O W C ST SR RD AD OP OD VA PL SC FI DC : Nat → Int32} {OM : Nat → Int32} (P : Int32 → SX → Prop) {t w h L s g' : Nat} (hw : w < 18) (hs : 1 ≤ s) (hs3 : s ≤ 3) (hO : OM w = nI (s + 1)) (hC : wX_evaluate_13 P (nI t) g' (nI (w + 1)) (nI h) (nI (L + 1)) c ob ed od el be th ar go ph ra ov K V J O W C ST SR RD AD OP (upd OM w (nI s)) OD VA PL SC FI DC) : ∀ g, 1 < g → wX_evaluate_116 P (wX_evaluate_13 P (nI t) g') (nI t) (nI L) g (nI (w + 1)) (nI h) 1 (nI (w + 1) - 1) c ob ed od el be th ar go ph ra ov K V J O W C ST SR RD AD OP OM OD VA PL SC FI DC := by
  intro g hg
  obtain ⟨g, rfl⟩ : ∃ x, g = x + 1 + 1 := ⟨g - 2, by omega⟩
  have e1 : nI (w + 1) - 1 = nI w := nI_pred w
  have i1 : vp_in (nI (w + 1) - 1) 18 := by rw [e1]; exact vp_in_nI hw (by decide)
  have c1 : (nI (w + 1) - 1).toNatClampNeg = w := by rw [e1, nI_clamp (by omega)]
  have nl : ¬ nI (w + 1) - 1 < 0 := by rw [e1]; exact nI_pos (by omega)
  have eu : upd OM (nI (w + 1) - 1).toNatClampNeg (OM (nI (w + 1) - 1).toNatClampNeg - 1) = upd OM w (nI s) := by rw [c1, hO, nI_pred]
  have nz : ¬ upd OM w (nI s) (nI (w + 1) - 1).toNatClampNeg = 0 := by rw [c1, pk_us]; exact nI_ne0 (by omega) (by omega)
  have G : wX_evaluate_210 P (wX_evaluate_13 P (nI t) g') (nI t) (nI (w + 1)) (nI h) (nI L) c ob ed od el be th ar go ph ra ov K V J O W C ST SR RD AD OP (upd OM w (nI s)) OD VA PL SC FI DC := br_f (nI_ne0 (by omega) (by omega)) (nm_r (nI_1 L) hC)
  refine br_f nl (br_f (by decide) ⟨i1, i1, nm_r eu ⟨i1, br_f nz (br_t rfl (nm_e (br_c (fun _ => G) fun _ => br_t rfl G)))⟩⟩)
theorem wd_iD {c ob ed od el be th ar go ph ra ov : Int32} {K V J O W C ST SR AD VA PL SC FI DC : Nat → Int32} {OM OP OD RD : Nat → Int32} {mem : Nat → Int32} {t w h k g : Nat} {x5 : Int32} {Jc : _} (P : Int32 → SX → Prop) (ht : t < 32) (hm : ∀ c, c < 64 → mem c = if bt (SR c) t = true then ST c else W c) (hk : wd_kind k) (h15 : 15 ≤ k) (hh : h + 2 < 18) (hw : w < 18) (hO : OM w = nI 1) (hP : OP w = nI k) (hC : wX_evaluate_116 P Jc (nI t) x5 g (nI w) (nI (h + 1)) 1 (nI w - 1) c ob ed od el be th ar go ph ra ov K V J O W C ST SR (wd_or RD (wd_bit t) (wd_rd k (OD h))) AD OP (upd OM w (nI 0)) (upd OD h (wd_ov mem C k (OD h) (OD (h + 1)) (OD (h + 2)))) VA PL SC FI DC) : wX_evaluate_116 P Jc (nI t) x5 (g + 1) (nI (w + 1)) (nI (h + wd_ar k)) 1 (nI (w + 1) - 1) c ob ed od el be th ar go ph ra ov K V J O W C ST SR RD AD OP OM OD VA PL SC FI DC := by
  have e1 : nI (w + 1) - 1 = nI w := nI_pred w
  have i0 : vp_in (nI w) 18 := vp_in_nI hw (by decide)
  have nl : ¬ nI w < 0 := nI_pos (by omega)
  have eu : upd OM (nI w).toNatClampNeg (OM (nI w).toNatClampNeg - 1) = upd OM w (nI 0) := by rw [nI_clamp (by omega), hO]; rfl
  have nz : upd OM w (nI 0) (nI w).toNatClampNeg = 0 := by rw [nI_clamp (by omega), pk_us]; rfl
  have eP : OP (nI w).toNatClampNeg = nI k := by rw [nI_clamp (by omega)]; exact hP
  have eh : nI (h + wd_ar k) - nI (wd_ar k) = nI h := by rw [pk_sub (by omega)]; congr 1; omega
  have ih : vp_in (nI h) 18 := vp_in_nI (by omega) (by decide)
  have hk31 : k ≤ 31 := by unfold wd_kind at hk; omega
  rw [e1]
  refine br_f nl (br_f (by decide) ⟨i0, i0, nm_r eu ⟨i0, br_t nz (br_f (by decide) ⟨i0, wd_arX k eP (by omega) hk31 _ (nm_r eh ⟨i0, wd_opX ht hm hk h15 hh eP _ ⟨ih, nm_r (e' := upd OD h (wd_ov mem C k (OD h) (OD (h + 1)) (OD (h + 2)))) (by rw [nI_clamp (by omega)]) (nm_r (nI_1 h) (nm_r (wd_pm w) hC))⟩⟩)⟩)⟩⟩)
theorem wd_eX {ob ed od el th ar go ph ra ov : Int32} {K V J O W C ST SR AD VA PL SC FI DC : Nat → Int32} {κ : Nat → Nat} {n t : Nat} {mem : Nat → Int32} (hK : wd_tok κ K V) (hn : n ≤ 64) (ht : t < 32) (hm : ∀ c, c < 64 → mem c = if bt (SR c) t = true then ST c else W c) (P : Int32 → SX → Prop) : ∀ f p q v R, wd_tr κ n (wd_lf κ V VA t th ar) mem C f p q v R → ∀ (L w h g0 : Nat) (RD OP OM OD : Nat → Int32), L + g0 = 16 → q - p ≤ g0 → w ≤ L → h ≤ L →
   (∀ (g' L' : Nat), g' + (q - p) = g0 → L' + 1 = L + (q - p) → ∀ (OP' OM' OD' : Nat → Int32), (∀ j, j < w → OP' j = OP j ∧ OM' j = OM j) → (∀ j, j < h → OD' j = OD j) → OD' h = v → ∀ g, w < g → wX_evaluate_116 P (wX_evaluate_13 P (nI t) (g' + 1)) (nI t) (nI L') g (nI w) (nI (h + 1)) 1 (nI w - 1) (nI n) ob ed od el (nI q) th ar go ph ra ov K V J O W C ST SR (wd_or RD (wd_bit t) R) AD OP' OM' OD' VA PL SC FI DC) →
   wX_evaluate_13 P (nI t) (g0 + 1) (nI w) (nI h) (nI L) (nI n) ob ed od el (nI p) th ar go ph ra ov K V J O W C ST SR RD AD OP OM OD VA PL SC FI DC := by
  intro f
  induction f with
  | zero => intro p q v R h; exact absurd h id
  | succ f ih =>
    intro p q v R htr L w h g0 RD OP OM OD hL hq hw hh hC
    have hlt := wd_tr_lt _ _ _ _ _ htr
    obtain ⟨hpn, h10, htr⟩ := htr
    have hkk := (hK p).2.1
    have hk31 : κ p ≤ 31 := by unfold wd_kind at hkk; omega
    have hKp := wd_cI hK (i := p) (by omega)
    have hin : vp_in (nI p) 64 := vp_in_nI (by omega) (by decide)
    have n16 : ¬ 16 ≤ nI L := nI_ge (b := 16) (by omega) (by decide)
    have nnp : ¬ nI n ≤ nI p := nI_ge (by omega) (by omega)
    have iw : vp_in (nI w) 18 := vp_in_nI (by omega) (by decide)
    have ih18 : vp_in (nI h) 18 := vp_in_nI (by omega) (by decide)
    obtain ⟨g1, rfl⟩ : ∃ x, g0 = x + 1 := ⟨g0 - 1, by omega⟩
    have PUSH : ∀ r, wd_ar (κ p) = r → 1 ≤ r → wX_evaluate_13 P (nI t) (g1 + 1) (nI (w + 1)) (nI h) (nI (L + 1)) (nI n) ob ed od el (nI (p + 1)) th ar go ph ra ov K V J O W C ST SR RD AD (upd OP w (nI (κ p))) (upd OM w (nI r)) OD VA PL SC FI DC → wX_evaluate_13 P (nI t) (g1 + 1 + 1) (nI w) (nI h) (nI L) (nI n) ob ed od el (nI p) th ar go ph ra ov K V J O W C ST SR RD AD OP OM OD VA PL SC FI DC := by
      intro r hr h1 hN
      have h3 := wd_ar_le (κ p)
      refine br_f n16 (br_f nnp (nm_r (nI_1 p) ⟨hin, wd_arX (κ p) hKp h10 hk31 _ (br_f ?_ ⟨hin, iw, nm_r (e' := upd OP w (nI (κ p))) ?_ ⟨iw, nm_r (e' := upd OM w (nI r)) ?_ (nm_r (nI_1 w) (nm_r (nI_1 L) hN))⟩⟩)⟩))
      · rw [hr]; exact nI_nle (by omega) (by omega)
      · rw [hKp, nI_clamp (by omega)]
      · rw [hr, nI_clamp (by omega)]
    rcases htr with ⟨ha, rfl, rfl, rfl⟩ | ⟨ha, a, R1, ta, rfl, rfl⟩ | ⟨ha, q1, a, b, R1, R2, ta, tb, rfl, rfl⟩ | ⟨ha, q1, q2, a, b, c', R1, R2, R3, ta, tb, tc, rfl, rfl⟩
    · refine br_f n16 (br_f nnp (nm_r (nI_1 p) ⟨hin, wd_arX (κ p) hKp h10 hk31 _ (br_t ?_ (wd_lfX hK ht (by omega) h10 (wd_ar0 ha) _ ⟨ih18, nm_r (e' := upd OD h (wd_lf κ V VA t th ar p)) ?_ (nm_r (nI_1 h) (nm_e ⟨w + 1, ?_⟩))⟩))⟩))
      · rw [ha]; decide
      · rw [nI_clamp (by omega)]
      · exact hC g1 L (by omega) (by omega) OP OM _ (fun j _ => ⟨rfl, rfl⟩) (fun j hj => pk_un (by omega)) pk_us (w + 1) (by omega)
    · have h15 : 15 ≤ κ p := by rcases wd_ar1 ha with e | e | e | e <;> omega
      have l1 := wd_tr_lt _ _ _ _ _ ta
      refine PUSH 1 ha (by omega) (ih (p + 1) q a R1 ta (L + 1) (w + 1) h g1 RD _ _ OD (by omega) (by omega) (by omega) (by omega) ?_)
      intro g' L' hg' hL' OP' OM' OD' hA hB hv g hg
      obtain ⟨g, rfl⟩ : ∃ x, g = x + 1 := ⟨g - 1, by omega⟩
      obtain ⟨aw1, aw2⟩ := hA w (by omega)
      rw [pk_us] at aw1 aw2
      have key := wd_iD (g := g) (k := κ p) (x5 := nI L') (Jc := wX_evaluate_13 P (nI t) (g' + 1)) P ht hm hkk h15 (h := h) (by omega) (w := w) (by omega) aw2 aw1 (hC g' L' (by omega) (by omega) OP' (upd OM' w (nI 0)) (upd OD' h (wd_ov mem C (κ p) (OD' h) (OD' (h + 1)) (OD' (h + 2)))) ?_ ?_ ?_ g (by omega) |> fun z => by rw [← wd_or_or, ← hv] at z; exact z)
      · rw [ha] at key
        exact key
      · intro j hj
        obtain ⟨x1, x2⟩ := hA j (by omega)
        rw [pk_un (by omega)] at x1 x2
        exact ⟨x1, by rw [pk_un (by omega)]; exact x2⟩
      · intro j hj
        rw [pk_un (by omega)]
        exact hB j hj
      · rw [pk_us, hv, wd_ov1 (wd_ar1 ha)]
    · have h20 := wd_ar2 hkk ha
      have l1 := wd_tr_lt _ _ _ _ _ ta
      have l2 := wd_tr_lt _ _ _ _ _ tb
      refine PUSH 2 ha (by omega) (ih (p + 1) q1 a R1 ta (L + 1) (w + 1) h g1 RD _ _ OD (by omega) (by omega) (by omega) (by omega) ?_)
      intro g' L' hg' hL' OP' OM' OD' hA hB hv g hg
      obtain ⟨aw1, aw2⟩ := hA w (by omega)
      rw [pk_us] at aw1 aw2
      refine wd_iM P (s := 1) (by omega) (by omega) (by omega) aw2 ?_ g (by omega)
      refine ih q1 q b R2 tb (L' + 1) (w + 1) (h + 1) g' _ _ _ _ (by omega) (by omega) (by omega) (by omega) ?_
      intro g2 L2 hg2 hL2 OP2 OM2 OD2 hA2 hB2 hv2 g hg
      obtain ⟨g, rfl⟩ : ∃ x, g = x + 1 := ⟨g - 1, by omega⟩
      obtain ⟨bw1, bw2⟩ := hA2 w (by omega)
      rw [pk_us] at bw2
      have av : OD2 h = a := by rw [hB2 h (by omega)]; exact hv
      have key := wd_iD (g := g) (k := κ p) (x5 := nI L2) (Jc := wX_evaluate_13 P (nI t) (g2 + 1)) P ht hm hkk (by omega) (h := h) (by omega) (w := w) (by omega) bw2 (bw1.trans aw1) (hC g2 L2 (by omega) (by omega) OP2 (upd OM2 w (nI 0)) (upd OD2 h (wd_ov mem C (κ p) (OD2 h) (OD2 (h + 1)) (OD2 (h + 2)))) ?_ ?_ ?_ g (by omega) |> fun z => by rw [← wd_or_or, ← wd_or_n (RD := wd_or (wd_or RD (wd_bit t) R1) (wd_bit t) R2) (k := κ p) (a := OD2 h) (b := wd_bit t) (by omega)] at z; exact z)
      · rw [ha] at key
        exact key
      · intro j hj
        obtain ⟨x1, x2⟩ := hA j (by omega)
        obtain ⟨y1, y2⟩ := hA2 j (by omega)
        rw [pk_un (by omega)] at x1 x2 y2
        exact ⟨y1.trans x1, by rw [pk_un (by omega)]; exact y2.trans x2⟩
      · intro j hj
        rw [pk_un (by omega)]
        exact (hB2 j (by omega)).trans (hB j hj)
      · rw [pk_us, av, hv2, wd_ov2 h20]
    · have h31 := wd_ar3 ha
      have l1 := wd_tr_lt _ _ _ _ _ ta
      have l2 := wd_tr_lt _ _ _ _ _ tb
      have l3 := wd_tr_lt _ _ _ _ _ tc
      refine PUSH 3 ha (by omega) (ih (p + 1) q1 a R1 ta (L + 1) (w + 1) h g1 RD _ _ OD (by omega) (by omega) (by omega) (by omega) ?_)
      intro g' L' hg' hL' OP' OM' OD' hA hB hv g hg
      obtain ⟨aw1, aw2⟩ := hA w (by omega)
      rw [pk_us] at aw1 aw2
      refine wd_iM P (s := 2) (by omega) (by omega) (by omega) aw2 ?_ g (by omega)
      refine ih q1 q2 b R2 tb (L' + 1) (w + 1) (h + 1) g' _ _ _ _ (by omega) (by omega) (by omega) (by omega) ?_
      intro g2 L2 hg2 hL2 OP2 OM2 OD2 hA2 hB2 hv2 g hg
      obtain ⟨bw1, bw2⟩ := hA2 w (by omega)
      rw [pk_us] at bw2
      refine wd_iM P (s := 1) (by omega) (by omega) (by omega) bw2 ?_ g (by omega)
      refine ih q2 q c' R3 tc (L2 + 1) (w + 1) (h + 1 + 1) g2 _ _ _ _ (by omega) (by omega) (by omega) (by omega) ?_
      intro g3 L3 hg3 hL3 OP3 OM3 OD3 hA3 hB3 hv3 g hg
      obtain ⟨g, rfl⟩ : ∃ x, g = x + 1 := ⟨g - 1, by omega⟩
      obtain ⟨cw1, cw2⟩ := hA3 w (by omega)
      rw [pk_us] at cw2
      have av : OD3 h = a := by rw [hB3 h (by omega), hB2 h (by omega)]; exact hv
      have bv : OD3 (h + 1) = b := by rw [hB3 (h + 1) (by omega)]; exact hv2
      have key := wd_iD (g := g) (k := κ p) (x5 := nI L3) (Jc := wX_evaluate_13 P (nI t) (g3 + 1)) P ht hm hkk (by omega) (h := h) (by omega) (w := w) (by omega) cw2 (cw1.trans (bw1.trans aw1)) (hC g3 L3 (by omega) (by omega) OP3 (upd OM3 w (nI 0)) (upd OD3 h (wd_ov mem C (κ p) (OD3 h) (OD3 (h + 1)) (OD3 (h + 2)))) ?_ ?_ ?_ g (by omega) |> fun z => by rw [← wd_or_or, ← wd_or_or, ← wd_or_n (RD := wd_or (wd_or (wd_or RD (wd_bit t) R1) (wd_bit t) R2) (wd_bit t) R3) (k := κ p) (a := OD3 h) (b := wd_bit t) (by omega)] at z; exact z)
      · rw [ha] at key
        exact key
      · intro j hj
        obtain ⟨x1, x2⟩ := hA j (by omega)
        obtain ⟨y1, y2⟩ := hA2 j (by omega)
        obtain ⟨z1, z2⟩ := hA3 j (by omega)
        rw [pk_un (by omega)] at x1 x2 y2 z2
        exact ⟨z1.trans (y1.trans x1), by rw [pk_un (by omega)]; exact z2.trans (y2.trans x2)⟩
      · intro j hj
        rw [pk_un (by omega)]
        exact (hB3 j (by omega)).trans ((hB2 j (by omega)).trans (hB j hj))
      · rw [pk_us, av, bv, show OD3 (h + 2) = c' from hv3]
theorem wd_evX {ob ed od el be th ar go ph ra ov : Int32} {K V J O W C ST SR RD AD OP OM OD VA PL SC FI DC : Nat → Int32} {κ : Nat → Nat} {n t f p q : Nat} {v : Int32} {R : Nat → Bool} {mem : Nat → Int32} (hK : wd_tok κ K V) (hn : n ≤ 64) (ht : t < 32) (hm : ∀ c, c < 64 → mem c = if bt (SR c) t = true then ST c else W c) (htr : wd_tr κ n (wd_lf κ V VA t th ar) mem C f p q v R) (hl : q - p ≤ 16) {x : Int32} (hx : x = nI p) (P : Int32 → SX → Prop) (hp : ∀ OP' OM' OD' : Nat → Int32, P v (nI n, ob, ed, od, el, nI q, th, ar, go, ph, ra, ov, K, V, J, O, W, C, ST, SR, wd_or RD (wd_bit t) R, AD, OP', OM', OD', VA, PL, SC, FI, DC)) : wpX_evaluate P (nI n, ob, ed, od, el, be, th, ar, go, ph, ra, ov, K, V, J, O, W, C, ST, SR, RD, AD, OP, OM, OD, VA, PL, SC, FI, DC) (nI t) x := by
  subst hx
  refine ⟨17, wd_eX hK hn ht hm P f p q v R htr 0 0 0 16 RD OP OM OD rfl hl (by omega) (by omega) ?_⟩
  intro g' L' hg' hL' OP' OM' OD' hA hB hv g hg
  obtain ⟨g, rfl⟩ : ∃ x, g = x + 1 := ⟨g - 1, by omega⟩
  refine br_t (by decide) (br_t rfl ?_)
  rw [hv]
  exact hp OP' OM' OD'
end
section
/-! the reference's evaluation of a tree -/
theorem wd_lfY {c th ar yp ra bh ov : Int32} {K V NN W C OW NX SR RD AD VA AT SC FY DC SK : Nat → Int32} {κ : Nat → Nat} {t p : Nat} (hK : wd_tok κ K V) (ht : t < 32) (hp : p < 64) (h10 : 10 ≤ κ p) (h15 : κ p < 15) (P : Int32 → Prop) (h : P (wd_lf κ V VA t th ar p)) : wpY_leaf P (c, th, ar, yp, ra, bh, ov, K, V, NN, W, C, OW, NX, SR, RD, AD, VA, AT, SC, FY, DC, SK) (nI t) (nI p) := by
  have hin : vp_in (nI p) 64 := vp_in_nI hp (by decide)
  have hKp := wd_cI hK (i := p) (by omega)
  have hV := (hK p).2.2
  unfold wd_lf at h
  generalize hke : κ p = k at h10 h15 h hKp hV
  have : k = 10 ∨ k = 11 ∨ k = 12 ∨ k = 13 ∨ k = 14 := by omega
  rcases this with rfl | rfl | rfl | rfl | rfl
  · refine ⟨hin, nm_r hKp (br_f (by decide) (br_f (by decide) (br_t rfl ⟨hin, ?_⟩)))⟩
    rw [nI_clamp (by omega)]
    exact h
  · obtain ⟨w, hw, ew⟩ := hV (Or.inr rfl)
    have ev : V (nI p).toNatClampNeg = nI w := by rw [nI_clamp (by omega)]; exact ew
    have ei : 6 * nI t + V (nI p).toNatClampNeg = nI (6 * t + w) := by rw [ev, ← nI_add, ← pk_mul]; rfl
    refine ⟨hin, nm_r hKp (br_f (by decide) (br_f (by decide) (br_f (by decide) (br_t rfl ⟨hin, ?_, ?_⟩))))⟩
    · rw [ei]; exact vp_in_nI (by omega) (by decide)
    · rw [ei, nI_clamp (by omega)]
      rw [ew, nI_clamp (by omega)] at h
      exact h
  · exact ⟨hin, nm_r hKp (br_f (by decide) (br_f (by decide) (br_f (by decide) (br_f (by decide) (br_t rfl h)))))⟩
  · exact ⟨hin, nm_r hKp (br_f (by decide) (br_f (by decide) (br_f (by decide) (br_f (by decide) (br_f (by decide) (br_t rfl h))))))⟩
  · exact ⟨hin, nm_r hKp (br_f (by decide) (br_t (by decide) h))⟩
theorem wd_opY {c th ar yp ra bh ov : Int32} {K V NN W C OW NX SR RD AD VA AT SC FY DC SK : Nat → Int32} {mem cnt : Nat → Int32} {k : Nat} (h20 : 20 ≤ k) (h31 : k ≤ 31) (a b c' : Int32) (P : Int32 → Prop) (hp : P (wd_ov mem cnt k a b c')) : wpY_operator P (c, th, ar, yp, ra, bh, ov, K, V, NN, W, C, OW, NX, SR, RD, AD, VA, AT, SC, FY, DC, SK) (nI k) a b c' := by
  have : k = 20 ∨ k = 21 ∨ k = 22 ∨ k = 23 ∨ k = 24 ∨ k = 25 ∨ k = 26 ∨ k = 27 ∨ k = 28 ∨ k = 29 ∨ k = 30 ∨ k = 31 := by omega
  rcases this with rfl | rfl | rfl | rfl | rfl | rfl | rfl | rfl | rfl | rfl | rfl | rfl
  · exact br_f (by decide) (br_f (by decide) (br_t rfl hp))
  · exact br_f (by decide) (br_f (by decide) (br_f (by decide) (br_t rfl hp)))
  · exact br_f (by decide) (br_f (by decide) (br_f (by decide) (br_f (by decide) (br_t rfl hp))))
  · refine br_f (by decide) (br_f (by decide) (br_f (by decide) (br_f (by decide) (br_f (by decide) (br_t rfl ?_)))))
    replace hp : P (if b = 0 then 0 else a / b) := hp
    by_cases z : b = 0
    · rw [if_pos z] at hp; exact br_t z hp
    · rw [if_neg z] at hp; exact br_f z ⟨z, hp⟩
  · refine br_f (by decide) (br_f (by decide) (br_f (by decide) (br_f (by decide) (br_f (by decide) (br_f (by decide) (br_t rfl ?_))))))
    replace hp : P (if b = 0 then 0 else a - a / b * b) := hp
    by_cases z : b = 0
    · rw [if_pos z] at hp; exact br_t z hp
    · rw [if_neg z] at hp; exact br_f z ⟨z, hp⟩
  · refine br_f (by decide) (br_f (by decide) (br_f (by decide) (br_f (by decide) (br_f (by decide) (br_f (by decide) (br_f (by decide) (br_t rfl ?_)))))))
    replace hp : P (if a = b then 1 else 0) := hp
    by_cases z : a = b
    · rw [if_pos z] at hp; exact br_t z hp
    · rw [if_neg z] at hp; exact br_f z hp
  · refine br_f (by decide) (br_f (by decide) (br_f (by decide) (br_f (by decide) (br_f (by decide) (br_f (by decide) (br_f (by decide) (br_f (by decide) (br_t rfl ?_))))))))
    replace hp : P (if b ≤ a then 0 else 1) := hp
    by_cases z : b ≤ a
    · rw [if_pos z] at hp; exact br_t z hp
    · rw [if_neg z] at hp; exact br_f z hp
  · refine br_f (by decide) (br_f (by decide) (br_f (by decide) (br_f (by decide) (br_f (by decide) (br_f (by decide) (br_f (by decide) (br_f (by decide) (br_f (by decide) (br_t rfl ?_)))))))))
    replace hp : P (if a = 0 then 0 else if b = 0 then 0 else 1) := hp
    by_cases z : a = 0
    · rw [if_pos z] at hp; exact br_t z hp
    · rw [if_neg z] at hp
      by_cases z2 : b = 0
      · rw [if_pos z2] at hp; exact br_f z (br_t z2 hp)
      · rw [if_neg z2] at hp; exact br_f z (br_f z2 hp)
  · refine br_f (by decide) (br_f (by decide) (br_f (by decide) (br_f (by decide) (br_f (by decide) (br_f (by decide) (br_f (by decide) (br_f (by decide) (br_f (by decide) (br_f (by decide) (br_t rfl ?_))))))))))
    replace hp : P (if a = 0 then (if b = 0 then 0 else 1) else 1) := hp
    by_cases z : a = 0
    · rw [if_pos z] at hp
      by_cases z2 : b = 0
      · rw [if_pos z2] at hp; exact br_t z (br_t z2 hp)
      · rw [if_neg z2] at hp; exact br_t z (br_f z2 hp)
    · rw [if_neg z] at hp; exact br_f z hp
  · refine br_f (by decide) (br_f (by decide) (br_f (by decide) (br_f (by decide) (br_f (by decide) (br_f (by decide) (br_f (by decide) (br_f (by decide) (br_f (by decide) (br_f (by decide) (br_f (by decide) (br_t rfl ?_)))))))))))
    replace hp : P (if a = 0 then 1 else 0) := hp
    by_cases z : a = 0
    · rw [if_pos z] at hp; exact br_t z hp
    · rw [if_neg z] at hp; exact br_f z hp
  · exact br_f (by decide) (br_f (by decide) (br_f (by decide) (br_f (by decide) (br_f (by decide) (br_f (by decide) (br_f (by decide) (br_f (by decide) (br_f (by decide) (br_f (by decide) (br_f (by decide) (br_f (by decide) (br_t rfl hp))))))))))))
  · refine br_f (by decide) (br_t (by decide) ?_)
    replace hp : P (if a = 0 then c' else b) := hp
    by_cases z : a = 0
    · rw [if_pos z] at hp; exact br_t z hp
    · rw [if_neg z] at hp; exact br_f z hp
/-- the reference's turn at token p: the three topmost values, then its own step -/
theorem wd_sY {c th ar yp ra bh ov : Int32} {K V NN W C OW NX SR RD AD VA AT SC FY DC SK : Nat → Int32} {κ : Nat → Nat} (P : Int32 → SY → Prop) {g H p fr : Nat} {x1 x4 : Int32} (hK : wd_tok κ K V) (hH : H ≤ 64) (hp : p < 64) (hf : fr ≤ p) (hC : ∀ a b c', (0 < H → a = SK (H - 1)) → (1 < H → b = SK (H - 2)) → (2 < H → c' = SK (H - 3)) → wY_solve_115 P (wY_solve_40 P x1 (nI fr) x4 g) x1 (nI fr) x4 (nI H) (nI p) (nI (κ p)) a b c' c th ar yp ra bh ov K V NN W C OW NX SR RD AD VA AT SC FY DC SK) : wY_solve_40 P x1 (nI fr) x4 (g + 1) (nI H) (nI p) c th ar yp ra bh ov K V NN W C OW NX SR RD AD VA AT SC FY DC SK := by
  have hin : vp_in (nI p) 64 := vp_in_nI hp (by decide)
  have e1 : 0 < H → (nI H - 1).toNatClampNeg = H - 1 ∧ vp_in (nI H - 1) 64 := fun h => by
    rw [show nI H - 1 = nI (H - 1) from pk_sub (b := 1) (by omega)]
    exact ⟨nI_clamp (by omega), vp_in_nI (by omega) (by decide)⟩
  have e2 : 1 < H → (nI H - 2).toNatClampNeg = H - 2 ∧ vp_in (nI H - 2) 64 := fun h => by
    rw [show nI H - 2 = nI (H - 2) from pk_sub (b := 2) (by omega)]
    exact ⟨nI_clamp (by omega), vp_in_nI (by omega) (by decide)⟩
  have e3 : 2 < H → (nI H - 3).toNatClampNeg = H - 3 ∧ vp_in (nI H - 3) 64 := fun h => by
    rw [show nI H - 3 = nI (H - 3) from pk_sub (b := 3) (by omega)]
    exact ⟨nI_clamp (by omega), vp_in_nI (by omega) (by decide)⟩
  refine br_f (nI_nlt hf (by omega)) ⟨hin, nm_r (wd_cI hK (by omega)) ?_⟩
  have S3 : ∀ a b, (0 < H → a = SK (H - 1)) → (1 < H → b = SK (H - 2)) → wY_solve_94 P (wY_solve_40 P x1 (nI fr) x4 g) x1 (nI fr) x4 (nI H) (nI p) (nI (κ p)) a b c th ar yp ra bh ov K V NN W C OW NX SR RD AD VA AT SC FY DC SK := by
    intro a b ha hb
    by_cases h : H ≤ 2
    · exact br_t (nI_le (b := 2) h (by decide)) (hC a b 0 ha hb (fun z => by omega))
    · refine br_f (nI_ge (a := 2) (by omega) (by omega)) ⟨(e3 (by omega)).2, hC a b _ ha hb (fun z => by rw [(e3 z).1])⟩
  have S2 : ∀ a, (0 < H → a = SK (H - 1)) → wY_solve_73 P (wY_solve_40 P x1 (nI fr) x4 g) x1 (nI fr) x4 (nI H) (nI p) (nI (κ p)) a c th ar yp ra bh ov K V NN W C OW NX SR RD AD VA AT SC FY DC SK := by
    intro a ha
    by_cases h : H ≤ 1
    · exact br_t (nI_le (b := 1) h (by decide)) (S3 a 0 ha (fun z => by omega))
    · refine br_f (nI_ge (a := 1) (by omega) (by omega)) ⟨(e2 (by omega)).2, S3 a _ ha (fun z => by rw [(e2 z).1])⟩
  by_cases h : H ≤ 0
  · exact br_t (nI_le (b := 0) h (by decide)) (S2 0 (fun z => by omega))
  · refine br_f (nI_ge (a := 0) (by omega) (by omega)) ⟨(e1 (by omega)).2, S2 _ (fun z => by rw [(e1 z).1])⟩
theorem wd_tY {c th ar yp ra bh ov : Int32} {K V NN W C OW NX SR AD VA AT SC FY DC : Nat → Int32} {RD SK : Nat → Int32} {κ : Nat → Nat} {mem : Nat → Int32} (P : Int32 → SY → Prop) {g s p fr t : Nat} {x4 : Int32} (hK : wd_tok κ K V) (ht : t < 32) (hm : ∀ c, c < 64 → mem c = OW c) (hs : s + 3 ≤ 64) (hp : p < 64) (h1 : 1 ≤ p) (hf : fr ≤ p) (h10 : 10 ≤ κ p) (v a b c' : Int32) (ha : 1 ≤ wd_ar (κ p) → a = SK (s + wd_ar (κ p) - 1)) (hb : 2 ≤ wd_ar (κ p) → b = SK (s + wd_ar (κ p) - 2)) (hc : 3 ≤ wd_ar (κ p) → c' = SK (s + wd_ar (κ p) - 3)) (hv : v = if wd_ar (κ p) = 0 then wd_lf κ V VA t th ar p else wd_ov mem C (κ p) a b c')
    (hC : wY_solve_40 P (nI t) (nI fr) x4 g (nI (s + 1)) (nI (p - 1)) c th ar yp ra bh ov K V NN W C OW NX SR (wd_or RD (wd_bit t) (wd_rd (κ p) a)) AD VA AT SC FY DC (upd SK s v)) : wY_solve_40 P (nI t) (nI fr) x4 (g + 1) (nI (s + wd_ar (κ p))) (nI p) c th ar yp ra bh ov K V NN W C OW NX SR RD AD VA AT SC FY DC SK := by
  have hkk := (hK p).2.1
  have hk31 : κ p ≤ 31 := by unfold wd_kind at hkk; omega
  have h3 := wd_ar_le (κ p)
  refine wd_sY P hK (by omega) hp hf ?_
  intro a2 b2 c2 ha2 hb2 hc2
  have es : nI (s + wd_ar (κ p)) - nI (wd_ar (κ p)) = nI s := by rw [pk_sub (by omega)]; congr 1; omega
  have is : vp_in (nI s) 64 := vp_in_nI (by omega) (by decide)
  have eu : upd SK (nI s).toNatClampNeg v = upd SK s v := by rw [nI_clamp (by omega)]
  have ep : nI p + (-1) = nI (p - 1) := by rw [wd_pm]; exact pk_sub (b := 1) (by omega)
  refine wd_arY (κ p) rfl h10 hk31 _ (nm_r es ?_)
  rcases wd_ar_cases (κ p) with h | h | h | h
  · have h15 := wd_ar0 h
    rw [if_pos h] at hv
    rw [wd_or_n (by omega)] at hC
    exact br_f (nI_ge (b := 15) h15 (by decide)) (wd_lfY hK ht hp h10 h15 _ (by rw [← hv]; exact ⟨is, nm_r eu (nm_r (nI_1 s) (nm_r ep hC))⟩))
  · have h15 := wd_ar1 h
    have ea : a2 = a := by rw [ha2 (by omega), ha (by omega)]
    rw [if_neg (by omega), wd_ov1 h15, ← wd_ov1 h15 a b2 c2] at hv
    subst ea
    refine br_t (nI_le (a := 15) (by omega) (by omega)) ?_
    by_cases h17 : 17 ≤ κ p
    · rw [wd_or_n (by omega)] at hC
      exact br_t (nI_le (a := 17) h17 (by omega)) (wd_opY (mem := mem) (cnt := C) (by omega) hk31 a2 b2 c2 _ (by rw [← hv]; exact ⟨is, nm_r eu (nm_r (nI_1 s) (nm_r ep hC))⟩))
    · refine br_f (nI_ge (b := 17) (by omega) (by decide)) ?_
      have hin : vp_in (a2 &&& 63) 64 := pk_andIn a2 (m := 63) 6 (by decide) (by decide)
      have : κ p = 15 ∨ κ p = 16 := by omega
      rcases this with e | e
      · rw [e] at hv hC
        rw [e]
        have hv' : v = OW (wd_m63 a2) := by rw [hv, ← hm _ (wd_m63_lt a2)]; rfl
        subst hv'
        exact br_f (by decide) ⟨hin, hin, nm_r wd_or_w ⟨hin, ⟨is, nm_r eu (nm_r (nI_1 s) (nm_r ep hC))⟩⟩⟩
      · rw [e] at hv hC
        rw [e]
        rw [wd_or_n (by decide)] at hC
        have hv' : v = C (wd_m63 a2) := hv
        subst hv'
        exact br_t rfl ⟨hin, ⟨is, nm_r eu (nm_r (nI_1 s) (nm_r ep hC))⟩⟩
  · have h20 := wd_ar2 hkk h
    have ea : a2 = a := by rw [ha2 (by omega), ha (by omega)]
    have eb : b2 = b := by rw [hb2 (by omega), hb (by omega)]
    rw [if_neg (by omega), wd_ov2 h20, ← wd_ov2 h20 a b c2] at hv
    subst ea eb
    rw [wd_or_n (by omega)] at hC
    exact br_t (nI_le (a := 15) (by omega) (by omega)) (br_t (nI_le (a := 17) (by omega) (by omega)) (wd_opY (mem := mem) (cnt := C) (by omega) hk31 a2 b2 c2 _ (by rw [← hv]; exact ⟨is, nm_r eu (nm_r (nI_1 s) (nm_r ep hC))⟩)))
  · have h31 := wd_ar3 h
    have ea : a2 = a := by rw [ha2 (by omega), ha (by omega)]
    have eb : b2 = b := by rw [hb2 (by omega), hb (by omega)]
    have ec : c2 = c' := by rw [hc2 (by omega), hc (by omega)]
    rw [if_neg (by omega)] at hv
    subst ea eb ec
    rw [wd_or_n (by omega)] at hC
    exact br_t (nI_le (a := 15) (by omega) (by omega)) (br_t (nI_le (a := 17) (by omega) (by omega)) (wd_opY (mem := mem) (cnt := C) (by omega) hk31 a2 b2 c2 _ (by rw [← hv]; exact ⟨is, nm_r eu (nm_r (nI_1 s) (nm_r ep hC))⟩)))
theorem wd_or_3 {RD : Nat → Int32} {b : Int32} {R1 R2 R3 : Nat → Bool} : wd_or (wd_or (wd_or RD b R3) b R2) b R1 = wd_or RD b (fun c => (R1 c || R2 c) || R3 c) := by
  rw [wd_or_or, wd_or_or]
  congr 1
  funext c
  cases R1 c <;> cases R2 c <;> cases R3 c <;> rfl
theorem wd_eY {th ar yp ra bh ov : Int32} {K V NN W C OW NX SR AD VA AT SC FY DC : Nat → Int32} {κ : Nat → Nat} {n t fr : Nat} {x4 : Int32} {mem : Nat → Int32} (hK : wd_tok κ K V) (hn : n ≤ 64) (ht : t < 32) (hm : ∀ c, c < 64 → mem c = OW c) (P : Int32 → SY → Prop) : ∀ f p q v R, wd_tr κ n (wd_lf κ V VA t th ar) mem C f p q v R → ∀ (s g : Nat) (RD SK : Nat → Int32), s + (q - p) ≤ 60 → 1 ≤ p → fr ≤ p →
   (∀ SK' : Nat → Int32, (∀ j, j < s → SK' j = SK j) → SK' s = v → wY_solve_40 P (nI t) (nI fr) x4 g (nI (s + 1)) (nI (p - 1)) (nI n) th ar yp ra bh ov K V NN W C OW NX SR (wd_or RD (wd_bit t) R) AD VA AT SC FY DC SK') →
   wY_solve_40 P (nI t) (nI fr) x4 (g + (q - p)) (nI s) (nI (q - 1)) (nI n) th ar yp ra bh ov K V NN W C OW NX SR RD AD VA AT SC FY DC SK := by
  intro f
  induction f with
  | zero => intro p q v R h; exact absurd h id
  | succ f ih =>
    intro p q v R htr s g RD SK hs h1 hf hC
    have hlt := wd_tr_lt _ _ _ _ _ htr
    obtain ⟨hpn, h10, htr⟩ := htr
    have hkk := (hK p).2.1
    rcases htr with ⟨ha, rfl, rfl, rfl⟩ | ⟨ha, a, R1, ta, rfl, rfl⟩ | ⟨ha, q1, a, b, R1, R2, ta, tb, rfl, rfl⟩ | ⟨ha, q1, q2, a, b, c', R1, R2, R3, ta, tb, tc, rfl, rfl⟩
    · have key := wd_tY (g := g) (a := 0) (b := 0) (c' := 0) (SK := SK) (RD := RD) (s := s) P hK ht hm (by omega) (by omega) h1 hf h10 (wd_lf κ V VA t th ar p) (by omega) (by omega) (by omega) (by rw [if_pos ha]) (by rw [wd_or_n (by have := wd_ar0 ha; omega)]; exact hC (upd SK s _) (fun j hj => pk_un (by omega)) pk_us)
      rw [ha] at key
      rw [show p + 1 - p = 1 by omega]
      exact key
    · have l1 := wd_tr_lt _ _ _ _ _ ta
      rw [show g + (q - p) = (g + 1) + (q - (p + 1)) by omega]
      refine ih (p + 1) q a R1 ta s (g + 1) RD SK (by omega) (by omega) (by omega) ?_
      intro SK1 hA hv
      have key := wd_tY (g := g) (a := a) (b := 0) (c' := 0) (SK := SK1) (RD := wd_or RD (wd_bit t) R1) (s := s) P hK ht hm (by omega) (by omega) h1 hf h10 (wd_ov mem C (κ p) a 0 0) (fun _ => by rw [ha]; exact hv.symm) (by omega) (by omega) (by rw [if_neg (by omega)]) (by rw [wd_or_or]; exact hC (upd SK1 s _) (fun j hj => by rw [pk_un (by omega)]; exact hA j hj) pk_us)
      rw [ha] at key
      exact key
    · have l1 := wd_tr_lt _ _ _ _ _ ta
      have l2 := wd_tr_lt _ _ _ _ _ tb
      have h20 := wd_ar2 hkk ha
      rw [show g + (q - p) = (g + 1 + (q1 - (p + 1))) + (q - q1) by omega]
      refine ih q1 q b R2 tb s _ RD SK (by omega) (by omega) (by omega) ?_
      intro SK1 hA hv
      refine ih (p + 1) q1 a R1 ta (s + 1) (g + 1) _ SK1 (by omega) (by omega) (by omega) ?_
      intro SK2 hA2 hv2
      have hb2 : SK2 s = b := by rw [hA2 s (by omega)]; exact hv
      have key := wd_tY (g := g) (a := a) (b := b) (c' := 0) (SK := SK2) (RD := wd_or (wd_or RD (wd_bit t) R2) (wd_bit t) R1) (s := s) P hK ht hm (by omega) (by omega) h1 hf h10 (wd_ov mem C (κ p) a b 0) (fun _ => by rw [ha]; exact hv2.symm) (fun _ => by rw [ha]; exact hb2.symm) (by omega) (by rw [if_neg (by omega)]) (by rw [wd_or_n (by omega), wd_or_c, wd_or_or]; exact hC (upd SK2 s _) (fun j hj => by rw [pk_un (by omega), hA2 j (by omega)]; exact hA j hj) pk_us)
      rw [ha] at key
      exact key
    · have l1 := wd_tr_lt _ _ _ _ _ ta
      have l2 := wd_tr_lt _ _ _ _ _ tb
      have l3 := wd_tr_lt _ _ _ _ _ tc
      have h31 := wd_ar3 ha
      rw [show g + (q - p) = (g + 1 + (q1 - (p + 1)) + (q2 - q1)) + (q - q2) by omega]
      refine ih q2 q c' R3 tc s _ RD SK (by omega) (by omega) (by omega) ?_
      intro SK1 hA hv
      refine ih q1 q2 b R2 tb (s + 1) _ _ SK1 (by omega) (by omega) (by omega) ?_
      intro SK2 hA2 hv2
      refine ih (p + 1) q1 a R1 ta (s + 1 + 1) (g + 1) _ SK2 (by omega) (by omega) (by omega) ?_
      intro SK3 hA3 hv3
      have hc2 : SK3 s = c' := by rw [hA3 s (by omega), hA2 s (by omega)]; exact hv
      have hb2 : SK3 (s + 1) = b := by rw [hA3 (s + 1) (by omega)]; exact hv2
      have key := wd_tY (g := g) (a := a) (b := b) (c' := c') (SK := SK3) (RD := wd_or (wd_or (wd_or RD (wd_bit t) R3) (wd_bit t) R2) (wd_bit t) R1) (s := s) P hK ht hm (by omega) (by omega) h1 hf h10 (wd_ov mem C (κ p) a b c') (fun _ => by rw [ha]; exact hv3.symm) (fun _ => by rw [ha]; exact hb2.symm) (fun _ => by rw [ha]; exact hc2.symm) (by rw [if_neg (by omega)]) (by rw [wd_or_n (by omega), wd_or_3]; exact hC (upd SK3 s _) (fun j hj => by rw [pk_un (by omega), hA3 j (by omega), hA2 j (by omega)]; exact hA j hj) pk_us)
      rw [ha] at key
      exact key
theorem wd_fY {th ar yp ra bh ov : Int32} {K V NN W C OW NX SR RD AD VA AT SC FY DC SK : Nat → Int32} {κ : Nat → Nat} {n : Nat} {x1 x2 : Int32} {lf mem cnt : Nat → Int32} (hK : wd_tok κ K V) (hn : n ≤ 64) (P : Int32 → SY → Prop) : ∀ f p q v R, wd_tr κ n lf mem cnt f p q v R → ∀ m g, m + (q - p) ≤ 100 → wY_solve_5 P x1 x2 (nI n) th ar yp ra bh ov K V NN W C OW NX SR RD AD VA AT SC FY DC SK g (nI m) (nI q) → wY_solve_5 P x1 x2 (nI n) th ar yp ra bh ov K V NN W C OW NX SR RD AD VA AT SC FY DC SK (g + (q - p)) (nI (m + 1)) (nI p) := by
  intro f
  induction f with
  | zero => intro p q v R h; exact absurd h id
  | succ f ih =>
    intro p q v R htr m g hm hC
    have hlt := wd_tr_lt _ _ _ _ _ htr
    obtain ⟨hpn, h10, htr⟩ := htr
    have hkk := (hK p).2.1
    have hk31 : κ p ≤ 31 := by unfold wd_kind at hkk; omega
    have hin : vp_in (nI p) 64 := vp_in_nI (by omega) (by decide)
    have ST : ∀ r g1, wd_ar (κ p) = r → wY_solve_5 P x1 x2 (nI n) th ar yp ra bh ov K V NN W C OW NX SR RD AD VA AT SC FY DC SK g1 (nI (m + r)) (nI (p + 1)) → wY_solve_5 P x1 x2 (nI n) th ar yp ra bh ov K V NN W C OW NX SR RD AD VA AT SC FY DC SK (g1 + 1) (nI (m + 1)) (nI p) := by
      intro r g1 hr hN
      refine br_f (nI_nle (by omega) (by omega)) ⟨hin, wd_arY (κ p) (wd_cI hK (by omega)) h10 hk31 _ (nm_r (e' := nI (m + r)) ?_ (nm_r (nI_1 p) hN))⟩
      rw [hr, ← nI_add m r, ← nI_1]
      grind
    rcases htr with ⟨ha, rfl, rfl, rfl⟩ | ⟨ha, a, R1, ta, rfl, rfl⟩ | ⟨ha, q1, a, b, R1, R2, ta, tb, rfl, rfl⟩ | ⟨ha, q1, q2, a, b, c', R1, R2, R3, ta, tb, tc, rfl, rfl⟩
    · rw [show p + 1 - p = 1 by omega]
      exact ST 0 g ha hC
    · have l1 := wd_tr_lt _ _ _ _ _ ta
      rw [show g + (q - p) = g + (q - (p + 1)) + 1 by omega]
      exact ST 1 _ ha (ih _ _ _ _ ta m g (by omega) hC)
    · have l1 := wd_tr_lt _ _ _ _ _ ta
      have l2 := wd_tr_lt _ _ _ _ _ tb
      rw [show g + (q - p) = g + (q - q1) + (q1 - (p + 1)) + 1 by omega]
      exact ST 2 _ ha (ih _ _ _ _ ta (m + 1) _ (by omega) (ih _ _ _ _ tb m g (by omega) hC))
    · have l1 := wd_tr_lt _ _ _ _ _ ta
      have l2 := wd_tr_lt _ _ _ _ _ tb
      have l3 := wd_tr_lt _ _ _ _ _ tc
      rw [show g + (q - p) = g + (q - q2) + (q2 - q1) + (q1 - (p + 1)) + 1 by omega]
      exact ST 3 _ ha (ih _ _ _ _ ta (m + 1 + 1) _ (by omega) (ih _ _ _ _ tb (m + 1) _ (by omega) (ih _ _ _ _ tc m g (by omega) hC)))
theorem wd_evY {th ar yp ra bh ov : Int32} {K V NN W C OW NX SR RD AD VA AT SC FY DC SK : Nat → Int32} {κ : Nat → Nat} {n t f p q : Nat} {v : Int32} {R : Nat → Bool} {mem : Nat → Int32} (hK : wd_tok κ K V) (hn : n ≤ 64) (ht : t < 32) (hm : ∀ c, c < 64 → mem c = OW c) (htr : wd_tr κ n (wd_lf κ V VA t th ar) mem C f p q v R) (hl : q - p ≤ 16) (h1 : 1 ≤ p) {x : Int32} (hx : x = nI p) (P : Int32 → SY → Prop) (hp : ∀ SK' : Nat → Int32, P v (nI n, th, ar, yp, ra, nI q, ov, K, V, NN, W, C, OW, NX, SR, wd_or RD (wd_bit t) R, AD, VA, AT, SC, FY, DC, SK')) : wpY_solve P (nI n, th, ar, yp, ra, bh, ov, K, V, NN, W, C, OW, NX, SR, RD, AD, VA, AT, SC, FY, DC, SK) (nI t) x := by
  subst hx
  have l1 := wd_tr_lt _ _ _ _ _ htr
  refine ⟨1 + (q - p), wd_fY hK hn P f p q v R htr 0 1 (by omega) (br_t (by decide) (nm_r (e' := nI (q - 1)) ?_ ⟨1 + (q - p), wd_eY (fr := p) hK hn ht hm P f p q v R htr 0 1 RD SK (by omega) h1 (by omega) ?_⟩))⟩
  · exact pk_sub (b := 1) (by omega)
  · intro SK' hA hv
    refine br_t (nI_lt (by omega) (by omega)) ?_
    rw [hv]
    exact hp SK'
end
section
/-! the reference's searches: close and opener -/
theorem wd_D_le (κ : Nat → Nat) : ∀ i, wd_D κ i ≤ i := by
  intro i
  induction i with
  | zero => exact Nat.le_refl 0
  | succ i ih =>
    rw [wd_D]
    split
    · omega
    · split <;> omega
theorem wd_c50 {c th ar yp ra bh ov : Int32} {K V NN W C OW NX SR RD AD VA AT SC FY DC SK : Nat → Int32} (P : Int32 → Prop) (Jc : Int32 → Int32 → Int32 → Prop) {z e k : Nat} {x4 : Int32} (hz : z ≤ 1) (he : 1 ≤ e) (he2 : e ≤ 100) (hk : k ≤ 31) (h : e = 1 → k = 4 → z = 0) (hC : Jc (nI e) x4 0) : wY_close_50 P Jc (nI z) (nI e) x4 (nI k) c th ar yp ra bh ov K V NN W C OW NX SR RD AD VA AT SC FY DC SK := by
  refine br_f (nI_ne0 (by omega) (by omega)) ?_
  by_cases e1 : e = 1
  · subst e1
    refine br_t rfl ?_
    by_cases k4 : k = 4
    · subst k4
      obtain rfl := h rfl rfl
      exact br_t rfl (br_t rfl hC)
    · exact br_f (wd_neI 4 (by omega) (by decide) k4) hC
  · exact br_f (wd_neI 1 (by omega) (by decide) e1) hC
theorem wd_clo {c th ar yp ra bh ov : Int32} {K V NN W C OW NX SR RD AD VA AT SC FY DC SK : Nat → Int32} {κ : Nat → Nat} {a z b : Nat} (hK : wd_tok κ K V) (hz : z ≤ 1) (hb : b < 64) (h : wd_cl κ a z b) (P : Int32 → Prop) (hp : P (nI b)) : ∀ f i e, i + f = b → a ≤ i → i < b → e + wd_D κ (a + 1) = wd_D κ (i + 1) + 1 → 1 ≤ e → wY_close_8 P (nI z) c th ar yp ra bh ov K V NN W C OW NX SR RD AD VA AT SC FY DC SK (f + 1) (nI e) (nI i) 0 := by
  obtain ⟨h1, h2, h3, h4, h5, h6⟩ := h
  intro f
  induction f with
  | zero => intro i e hi ha hib; omega
  | succ f ih =>
    intro i e hi ha hib he1 he2
    have hD := wd_D_le κ (i + 1)
    have hin : vp_in (nI (i + 1)) 64 := vp_in_nI (by omega) (by decide)
    have hk := (hK (i + 1)).2.1
    have hKi := wd_cI hK (i := i + 1) (by omega)
    refine br_t rfl (nm_r (nI_1 i) ⟨hin, nm_r hKi ?_⟩)
    by_cases hl : i + 1 = b
    · rw [hl] at he1 ⊢
      obtain rfl : e = 1 := by omega
      obtain rfl : f = 0 := by omega
      have F : ∀ y, wY_close_8 P (nI z) c th ar yp ra bh ov K V NN W C OW NX SR RD AD VA AT SC FY DC SK (0 + 1) y (nI b) 1 := fun y => br_f (by decide) hp
      rcases h6 with h | ⟨rfl, h⟩
      · rw [h]
        exact br_f (by decide) (br_f (by decide) (br_t rfl (nm_r (pk_m1 0) (br_t rfl (F _)))))
      · rw [h]
        exact br_f (by decide) (br_f (by decide) (br_f (by decide) (br_f (by decide) (br_t rfl (br_t rfl (br_f (by decide) (F _)))))))
    · have g1 := h3 (i + 1) (by omega) (by omega)
      have g2 := h3 (i + 1 + 1) (by omega) (by omega)
      have g3 := h4 (i + 1) (by omega) (by omega)
      generalize hke : κ (i + 1) = k at hk hKi g3 ⊢
      have hk31 : k ≤ 31 := by unfold wd_kind at hk; omega
      by_cases k36 : k = 3 ∨ k = 6
      · have hD2 := wd_D_o (κ := κ) (i := i + 1) (by rw [hke]; exact k36)
        have N := ih (i + 1) (e + 1) (by omega) (by omega) (by omega) (by omega) (by omega)
        have k5 : ¬ nI k = 5 := wd_neI 5 (by omega) (by decide) (by omega)
        have G : wY_close_38 P (wY_close_8 P (nI z) c th ar yp ra bh ov K V NN W C OW NX SR RD AD VA AT SC FY DC SK (f + 1)) (nI z) (nI e) (nI (i + 1)) (nI k) c th ar yp ra bh ov K V NN W C OW NX SR RD AD VA AT SC FY DC SK := nm_r (nI_1 e) (br_f k5 (wd_c50 P _ hz (by omega) (by omega) hk31 (by omega) N))
        rcases k36 with rfl | rfl
        · exact br_t rfl G
        · exact br_f (by decide) (br_t rfl G)
      · refine br_f (wd_neI 3 (by omega) (by decide) (by omega)) (br_f (wd_neI 6 (by omega) (by decide) (by omega)) ?_)
        by_cases k5 : k = 5
        · subst k5
          have hD2 := wd_D_e (κ := κ) (i := i + 1) hke
          obtain ⟨e, rfl⟩ : ∃ x, e = x + 1 := ⟨e - 1, by omega⟩
          have N := ih (i + 1) e (by omega) (by omega) (by omega) (by omega) (by omega)
          exact br_t rfl (nm_r (pk_m1 e) (wd_c50 P _ hz (by omega) (by omega) (by omega) (by omega) N))
        · have hD2 := wd_D_n (κ := κ) (i := i + 1) (by omega) (by omega) (by omega)
          have N := ih (i + 1) e (by omega) (by omega) (by omega) (by omega) (by omega)
          exact br_f (wd_neI 5 (by omega) (by decide) k5) (wd_c50 P _ hz (by omega) (by omega) hk31 (by omega) N)
theorem wd_clY {c th ar yp ra bh ov : Int32} {K V NN W C OW NX SR RD AD VA AT SC FY DC SK : Nat → Int32} {κ : Nat → Nat} {a z b : Nat} (hK : wd_tok κ K V) (hz : z ≤ 1) (hb : b < 64) (h : wd_cl κ a z b) (P : Int32 → Prop) (hp : P (nI b)) : wpY_close P (c, th, ar, yp, ra, bh, ov, K, V, NN, W, C, OW, NX, SR, RD, AD, VA, AT, SC, FY, DC, SK) (nI a) (nI z) :=
  ⟨(b - a) + 1, wd_clo hK hz hb h P hp (b - a) a 1 (by have := h.1; omega) (by omega) h.1 (by omega) (by omega)⟩
theorem wd_ope {c th ar yp ra bh ov : Int32} {K V NN W C OW NX SR RD AD VA AT SC FY DC SK : Nat → Int32} {κ : Nat → Nat} {a b : Nat} (hK : wd_tok κ K V) (hb : b < 64) (h : wd_op κ b a) (P : Int32 → Prop) (hp : P (nI a)) : ∀ f i e, a + f = i → i ≤ b → e + wd_D κ a = wd_D κ i → wY_opener_4 P c th ar yp ra bh ov K V NN W C OW NX SR RD AD VA AT SC FY DC SK (f + 1) (nI e) (nI i) := by
  obtain ⟨h1, h2, h3, h4⟩ := h
  intro f
  induction f with
  | zero =>
    intro i e hi hib he
    obtain rfl : a = i := by omega
    obtain rfl : e = 0 := by omega
    exact br_t (by decide) hp
  | succ f ih =>
    intro i e hi hib he
    have g1 := h3 i (by omega) hib
    have hD := wd_D_le κ i
    obtain ⟨i, rfl⟩ : ∃ x, i = x + 1 := ⟨i - 1, by omega⟩
    have hin : vp_in (nI i) 64 := vp_in_nI (by omega) (by decide)
    have hk := (hK i).2.1
    have hKi := wd_cI hK (i := i) (by omega)
    have g2 : i ≠ a → wd_D κ a + 1 ≤ wd_D κ i := fun z => h3 i (by omega) (by omega)
    have ka : i = a → (κ i = 3 ∨ κ i = 6) := fun z => by rw [z]; exact h2
    refine br_f (nI_nle (by omega) (by omega)) (nm_r (pk_m1 i) ⟨hin, ?_⟩)
    generalize hke : κ i = k at hk hKi ka
    have hk31 : k ≤ 31 := by unfold wd_kind at hk; omega
    by_cases k5 : k = 5
    · subst k5
      have hD2 := wd_D_e (κ := κ) (i := i) hke
      have := g2 (fun z => by have := ka z; omega)
      have N := ih i (e + 1) (by omega) (by omega) (by omega)
      exact br_t hKi (nm_r (nI_1 e) ⟨hin, br_f (by rw [hKi]; decide) ⟨hin, br_f (by rw [hKi]; decide) N⟩⟩)
    · refine br_f (by rw [hKi]; exact wd_neI 5 (by omega) (by decide) k5) ⟨hin, ?_⟩
      by_cases k3 : k = 3
      · subst k3
        have hD2 := wd_D_o (κ := κ) (i := i) (Or.inl hke)
        obtain ⟨e, rfl⟩ : ∃ x, e = x + 1 := ⟨e - 1, by omega⟩
        exact br_t hKi (nm_r (pk_m1 e) (ih i e (by omega) (by omega) (by omega)))
      · refine br_f (by rw [hKi]; exact wd_neI 3 (by omega) (by decide) k3) ⟨hin, ?_⟩
        by_cases k6 : k = 6
        · subst k6
          have hD2 := wd_D_o (κ := κ) (i := i) (Or.inr hke)
          obtain ⟨e, rfl⟩ : ∃ x, e = x + 1 := ⟨e - 1, by omega⟩
          exact br_t hKi (nm_r (pk_m1 e) (ih i e (by omega) (by omega) (by omega)))
        · have hD2 := wd_D_n (κ := κ) (i := i) (by omega) (by omega) (by omega)
          exact br_f (by rw [hKi]; exact wd_neI 6 (by omega) (by decide) k6) (ih i e (by omega) (by omega) (by omega))
theorem wd_opeY {c th ar yp ra bh ov : Int32} {K V NN W C OW NX SR RD AD VA AT SC FY DC SK : Nat → Int32} {κ : Nat → Nat} {a b : Nat} (hK : wd_tok κ K V) (hb : b < 64) (h : wd_op κ b a) (P : Int32 → Prop) (hp : P (nI a)) : wpY_opener P (c, th, ar, yp, ra, bh, ov, K, V, NN, W, C, OW, NX, SR, RD, AD, VA, AT, SC, FY, DC, SK) (nI b) :=
  ⟨(b - a) + 1, wd_ope hK hb h P hp (b - a) b 1 (by have := h.1; omega) (by omega) (by have := h.2.2.2; omega)⟩
end
section
/-! ELSE and END are passed without a step -/
theorem wd_us {f : Nat → Int32} {k : Nat} {x : Int32} (h : f k = x) : upd f k x = f := by
  funext j
  unfold upd
  split
  · rename_i e; rw [e, h]
  · rfl
/-- the reference's thread loop with enough fuel, whatever lies behind and on the stack -/
def wd_G (P : SY → Prop) (Jc : Int32 → Int32 → Int32 → Int32 → Int32 → Int32 → Int32 → Int32 → (Nat → Int32) → (Nat → Int32) → (Nat → Int32) → (Nat → Int32) → (Nat → Int32) → (Nat → Int32) → (Nat → Int32) → (Nat → Int32) → (Nat → Int32) → (Nat → Int32) → (Nat → Int32) → (Nat → Int32) → (Nat → Int32) → (Nat → Int32) → (Nat → Int32) → (Nat → Int32) → Prop) (t : Nat) (b : Int32) (c th ar yp ra ov : Int32) (K V NN W C OW NX SR RD AD VA AT SC FY DC : Nat → Int32) : Prop := ∃ N, ∀ n, N ≤ n → ∀ (bh : Int32) (SK : Nat → Int32), wY_phase_107 P Jc (nI t) n b c th ar yp ra bh ov K V NN W C OW NX SR RD AD VA AT SC FY DC SK
theorem wd_G1 {P : SY → Prop} {Jc : Int32 → Int32 → Int32 → Int32 → Int32 → Int32 → Int32 → Int32 → (Nat → Int32) → (Nat → Int32) → (Nat → Int32) → (Nat → Int32) → (Nat → Int32) → (Nat → Int32) → (Nat → Int32) → (Nat → Int32) → (Nat → Int32) → (Nat → Int32) → (Nat → Int32) → (Nat → Int32) → (Nat → Int32) → (Nat → Int32) → (Nat → Int32) → (Nat → Int32) → Prop} {t : Nat} {c th ar yp ra ov : Int32} {K V NN W C OW NX SR RD AD VA AT SC FY DC : Nat → Int32} {r ov1 : Int32} {SR1 RD1 AD1 VA1 AT1 SC1 FY1 DC1 OW1 : Nat → Int32} (hs : ∀ (Q : Int32 → SY → Prop), (∀ (bh : Int32) (SK : Nat → Int32), Q r (c, th, ar, yp, ra, bh, ov1, K, V, NN, W, C, OW1, NX, SR1, RD1, AD1, VA1, AT1, SC1, FY1, DC1, SK)) → ∀ (bh : Int32) (SK : Nat → Int32), wpY_step Q (c, th, ar, yp, ra, bh, ov, K, V, NN, W, C, OW, NX, SR, RD, AD, VA, AT, SC, FY, DC, SK) (nI t)) (h : wd_G P Jc t r c th ar yp ra ov1 K V NN W C OW1 NX SR1 RD1 AD1 VA1 AT1 SC1 FY1 DC1) : wd_G P Jc t 1 c th ar yp ra ov K V NN W C OW NX SR RD AD VA AT SC FY DC := by
  obtain ⟨N, h⟩ := h
  refine ⟨N + 1, fun n hn bh SK => ?_⟩
  obtain ⟨n, rfl⟩ : ∃ x, n = x + 1 := ⟨n - 1, by omega⟩
  exact br_f (by decide) (hs _ (h n (by omega)) bh SK)
theorem wd_bnd {κ : Nat → Nat} {n : Nat} {J : Nat → Int32} (hp : wd_prog κ n J) {x : Nat} (hx : x < n) (h : κ x < 10) : (wd_st κ x).1 = 0 := by
  by_cases z : (wd_st κ x).1 = 0
  · exact z
  · have := ((hp.1 x hx).2 z).1
    omega
theorem wd_bnd1 {κ : Nat → Nat} {n : Nat} {J : Nat → Int32} (hp : wd_prog κ n J) {x : Nat} (hx : x < n) (h : κ x < 10) (he : wd_ex (κ x) = 0) : (wd_st κ (x + 1)).1 = 0 := by
  have h0 := wd_bnd hp hx h
  rw [wd_st_s0 (i := x) (e := (wd_st κ x).2.1) (u := (wd_st κ x).2.2) (by rw [← h0]) he]
theorem wd_hopY {th ar yp ra ov : Int32} {K V NN W C OW NX SR RD AD VA AT SC FY DC : Nat → Int32} {κ : Nat → Nat} {n t p : Nat} {J : Nat → Int32} (hK : wd_tok κ K V) (hn : n ≤ 64) (hpr : wd_prog κ n J) (ht : t < 32) (hp : p < n) (hA : AT t = nI p) (hk : κ p = 4 ∨ κ p = 5) : ∃ p', J p = nI p' ∧ p' ≤ n ∧ (wd_st κ p').1 = 0 ∧ (p < p' ∨ (κ p' = 6 ∧ p' < n)) ∧ ∀ (Q : Int32 → SY → Prop), (∀ (bh : Int32) (SK : Nat → Int32), Q 1 (nI n, th, ar, yp, ra, bh, ov, K, V, NN, W, C, OW, NX, SR, RD, AD, VA, upd AT t (nI p'), SC, FY, DC, SK)) → ∀ (bh : Int32) (SK : Nat → Int32), wpY_step Q (nI n, th, ar, yp, ra, bh, ov, K, V, NN, W, C, OW, NX, SR, RD, AD, VA, AT, SC, FY, DC, SK) (nI t) := by
  have it : vp_in (nI t) 32 := vp_in_nI ht (by decide)
  have ip : vp_in (nI p) 64 := vp_in_nI (by omega) (by decide)
  have eA : AT (nI t).toNatClampNeg = nI p := by rw [nI_clamp (by omega)]; exact hA
  have np : ¬ nI p = nI n := wd_neI n (by omega) (by omega) (by omega)
  have hKp := wd_cI hK (i := p) (by omega)
  have hj := hpr.2.2 p hp
  rcases hk with h4 | h5
  · obtain ⟨b, hc, hb, eJ⟩ := hj.1 (by omega)
    rw [if_neg (by omega)] at hc
    have hb5 : κ b = 5 := by
      rcases hc.2.2.2.2.2 with z | z
      · exact z
      · exact absurd z.1 (by decide)
    refine ⟨b + 1, eJ, by omega, wd_bnd1 hpr hb (by omega) (by rw [hb5]; rfl), Or.inl (by have := hc.1; omega), fun Q hq bh SK => ?_⟩
    rw [h4] at hKp
    refine ⟨it, nm_r eA (br_f np ⟨ip, nm_r hKp (br_t rfl (wd_clY (z := 0) hK (by decide) (by omega) hc _ ⟨it, nm_r (e' := upd AT t (nI (b + 1))) ?_ (hq bh SK)⟩))⟩)⟩
    rw [nI_clamp (by omega), nI_1]
  · obtain ⟨a, ho, eJ⟩ := hj.2 h5
    rw [h5] at hKp
    have ia : vp_in (nI a) 64 := vp_in_nI (by have := ho.1; omega) (by decide)
    have eK : K (nI a).toNatClampNeg = nI (κ a) := wd_cI hK (by have := ho.1; omega)
    by_cases h6 : κ a = 6
    · rw [if_pos h6] at eJ
      have hap := ho.1
      refine ⟨a, eJ, by omega, wd_bnd hpr (by omega) (by omega), Or.inr ⟨h6, by omega⟩, fun Q hq bh SK => ?_⟩
      refine ⟨it, nm_r eA (br_f np ⟨ip, nm_r hKp (br_f (by decide) (br_t rfl (wd_opeY hK (by omega) ho _ ⟨ia, br_t (by rw [eK, h6]; rfl) ⟨it, nm_r (e' := upd AT t (nI a)) ?_ (hq bh SK)⟩⟩)))⟩)⟩
      rw [nI_clamp (by omega)]
    · rw [if_neg h6] at eJ
      have h3 : κ a = 3 := by rcases ho.2.1 with z | z <;> omega
      refine ⟨p + 1, eJ, by omega, wd_bnd1 hpr hp (by omega) (by rw [h5]; rfl), Or.inl (by omega), fun Q hq bh SK => ?_⟩
      refine ⟨it, nm_r eA (br_f np ⟨ip, nm_r hKp (br_f (by decide) (br_t rfl (wd_opeY hK (by omega) ho _ ⟨ia, br_f (by rw [eK, h3]; decide) ⟨it, nm_r (e' := upd AT t (nI (p + 1))) ?_ (hq bh SK)⟩⟩)))⟩)⟩
      rw [nI_clamp (by omega), nI_1]
theorem wd_hop {ob ed od el th ar go ph ra ov yp : Int32} {K V J O W C ST SR RD AD VA PL SC FI DC NN OW NX FY : Nat → Int32} {κ : Nat → Nat} {n t : Nat} (hK : wd_tok κ K V) (hn : n ≤ 64) (hpr : wd_prog κ n J) (ht : t < 32) : ∀ f p (AT : Nat → Int32), n ≤ p + f → p ≤ n → (wd_st κ p).1 = 0 → AT t = nI p → ∃ s, s ≤ n ∧ (wd_st κ s).1 = 0 ∧ (s = n ∨ (s < n ∧ κ s ≠ 4 ∧ κ s ≠ 5)) ∧
    (∀ (be : Int32) (OP OM OD : Nat → Int32) (P : Int32 → Prop) (h g : Nat), h + f ≤ 64 → f + 2 ≤ g → P (nI s) → wX_statementFrom_4 P (nI n) ob ed od el be th ar go ph ra ov K V J O W C ST SR RD AD OP OM OD VA PL SC FI DC g (nI p) (nI h)) ∧
    (∀ (P : SY → Prop) (Jc : Int32 → Int32 → Int32 → Int32 → Int32 → Int32 → Int32 → Int32 → (Nat → Int32) → (Nat → Int32) → (Nat → Int32) → (Nat → Int32) → (Nat → Int32) → (Nat → Int32) → (Nat → Int32) → (Nat → Int32) → (Nat → Int32) → (Nat → Int32) → (Nat → Int32) → (Nat → Int32) → (Nat → Int32) → (Nat → Int32) → (Nat → Int32) → (Nat → Int32) → Prop), wd_G P Jc t 1 (nI n) th ar yp ra ov K V NN W C OW NX SR RD AD VA (upd AT t (nI s)) SC FY DC → wd_G P Jc t 1 (nI n) th ar yp ra ov K V NN W C OW NX SR RD AD VA AT SC FY DC) := by
  intro f
  induction f with
  | zero =>
    intro p AT h1 h2 h3 hA
    obtain rfl : p = n := by omega
    refine ⟨p, h2, h3, Or.inl rfl, fun be OP OM OD P h g hh hg hp => ?_, fun P Jc hG => by rw [wd_us hA] at hG; exact hG⟩
    obtain ⟨g, rfl⟩ : ∃ x, g = x + 1 := ⟨g - 1, by omega⟩
    exact br_c (fun _ => hp) fun _ => br_t (nI_le (by omega) (by omega)) hp
  | succ f ih =>
    intro p AT h1 h2 h3 hA
    by_cases hpn : p = n
    · subst hpn
      refine ⟨p, h2, h3, Or.inl rfl, fun be OP OM OD P h g hh hg hp => ?_, fun P Jc hG => by rw [wd_us hA] at hG; exact hG⟩
      obtain ⟨g, rfl⟩ : ∃ x, g = x + 1 := ⟨g - 1, by omega⟩
      exact br_c (fun _ => hp) fun _ => br_t (nI_le (by omega) (by omega)) hp
    · have ip : vp_in (nI p) 64 := vp_in_nI (by omega) (by decide)
      have np : ¬ nI n ≤ nI p := nI_ge (by omega) (by omega)
      have hKp := wd_cI hK (i := p) (by omega)
      have hkk := (hK p).2.1
      have hk31 : κ p ≤ 31 := by unfold wd_kind at hkk; omega
      by_cases hk : κ p = 4 ∨ κ p = 5
      · obtain ⟨p', eJ, hp', hs', hd, hQ⟩ := wd_hopY (th := th) (ar := ar) (yp := yp) (ra := ra) (ov := ov) (K := K) (V := V) (NN := NN) (W := W) (C := C) (OW := OW) (NX := NX) (SR := SR) (RD := RD) (AD := AD) (VA := VA) (AT := AT) (SC := SC) (FY := FY) (DC := DC) hK hn hpr ht (by omega) hA hk
        have eJ' : J (nI p).toNatClampNeg = nI p' := by rw [nI_clamp (by omega)]; exact eJ
        have X1 : ∀ (be : Int32) (OP OM OD : Nat → Int32) (P : Int32 → Prop) (h g : Nat), h + (f + 1) ≤ 64 → wX_statementFrom_4 P (nI n) ob ed od el be th ar go ph ra ov K V J O W C ST SR RD AD OP OM OD VA PL SC FI DC g (nI p') (nI (h + 1)) → wX_statementFrom_4 P (nI n) ob ed od el be th ar go ph ra ov K V J O W C ST SR RD AD OP OM OD VA PL SC FI DC (g + 1) (nI p) (nI h) := by
          intro be OP OM OD P h g hh hN
          refine br_f (nI_ge (b := 64) (by omega) (by decide)) (br_f np ⟨ip, ?_⟩)
          rcases hk with h4 | h5
          · rw [h4] at hKp
            exact br_t hKp ⟨ip, nm_r eJ' (nm_r (nI_1 h) hN)⟩
          · rw [h5] at hKp
            exact br_f (by rw [hKp]; decide) ⟨ip, br_t hKp ⟨ip, nm_r eJ' (nm_r (nI_1 h) hN)⟩⟩
        rcases hd with hd | ⟨h6, hd⟩
        · obtain ⟨s, s1, s2, s3, s4, s5⟩ := ih p' (upd AT t (nI p')) (by omega) hp' hs' pk_us
          refine ⟨s, s1, s2, s3, fun be OP OM OD P h g hh hg hp => ?_, fun P Jc hG => ?_⟩
          · obtain ⟨g, rfl⟩ : ∃ x, g = x + 1 := ⟨g - 1, by omega⟩
            exact X1 be OP OM OD P h g hh (s4 be OP OM OD P (h + 1) g (by omega) (by omega) hp)
          · exact wd_G1 hQ (s5 P Jc (by rw [wd_uu]; exact hG))
        · refine ⟨p', hp', hs', Or.inr ⟨hd, by omega, by omega⟩, fun be OP OM OD P h g hh hg hp => ?_, fun P Jc hG => wd_G1 hQ hG⟩
          obtain ⟨g, rfl⟩ : ∃ x, g = x + 1 + 1 := ⟨g - 2, by omega⟩
          have ip' : vp_in (nI p') 64 := vp_in_nI (by omega) (by decide)
          have hK6 : K (nI p').toNatClampNeg = nI (κ p') := wd_cI hK (by omega)
          rw [h6] at hK6
          exact X1 be OP OM OD P h (g + 1) hh (br_c (fun _ => hp) fun _ => br_f (nI_ge (by omega) (by omega)) ⟨ip', br_f (by rw [hK6]; decide) ⟨ip', br_f (by rw [hK6]; decide) hp⟩⟩)
      · refine ⟨p, h2, h3, Or.inr ⟨by omega, by omega, by omega⟩, fun be OP OM OD P h g hh hg hp => ?_, fun P Jc hG => by rw [wd_us hA] at hG; exact hG⟩
        obtain ⟨g, rfl⟩ : ∃ x, g = x + 1 := ⟨g - 1, by omega⟩
        exact br_f (nI_ge (b := 64) (by omega) (by decide)) (br_f np ⟨ip, br_f (by rw [hKp]; exact wd_neI 4 (by omega) (by decide) (by omega)) ⟨ip, br_f (by rw [hKp]; exact wd_neI 5 (by omega) (by decide) (by omega)) hp⟩⟩)
end
section
/-! one statement, both sides -/
theorem wd_tr_R {κ : Nat → Nat} {n : Nat} {lf mem cnt : Nat → Int32} : ∀ f p q v R, wd_tr κ n lf mem cnt f p q v R → ∀ c, R c = true → c < 64 := by
  intro f
  induction f with
  | zero => intro p q v R h; exact absurd h id
  | succ f ih =>
    intro p q v R ⟨h1, h2, h⟩ c hc
    rcases h with ⟨_, _, _, rfl⟩ | ⟨_, a, R1, ha, _, rfl⟩ | ⟨_, q1, a, b, R1, R2, ha, hb, _, rfl⟩ | ⟨_, q1, q2, a, b, c', R1, R2, R3, ha, hb, hc', _, rfl⟩
    · exact absurd hc Bool.false_ne_true
    · rcases (Bool.or_eq_true _ _).mp hc with z | z
      · exact ih _ _ _ _ ha c z
      · have := (of_decide_eq_true z).2
        rw [this]
        exact wd_m63_lt a
    · rcases (Bool.or_eq_true _ _).mp hc with z | z
      · exact ih _ _ _ _ ha c z
      · exact ih _ _ _ _ hb c z
    · rcases (Bool.or_eq_true _ _).mp hc with z | z
      · rcases (Bool.or_eq_true _ _).mp z with z | z
        · exact ih _ _ _ _ ha c z
        · exact ih _ _ _ _ hb c z
      · exact ih _ _ _ _ hc' c z
def wd_MI (t : Nat) (W SR0 ST0 SR ST OW : Nat → Int32) : Prop := (∀ c, c < 64 → OW c = if bt (SR c) t = true then ST c else W c) ∧ (∀ c b, b ≠ t → bt (SR c) b = bt (SR0 c) b) ∧ (∀ c, bt (SR c) t = false → SR c = SR0 c ∧ ST c = ST0 c)
def wd_Z (SR RD AD : Nat → Int32) : Prop := ∀ j, 64 ≤ j → SR j = 0 ∧ RD j = 0 ∧ AD j = 0
theorem wd_Z_or {SR RD AD : Nat → Int32} {b : Int32} {R : Nat → Bool} (h : wd_Z SR RD AD) (hR : ∀ c, R c = true → c < 64) : wd_Z SR (wd_or RD b R) AD := by
  intro j hj
  obtain ⟨a, c, d⟩ := h j hj
  refine ⟨a, ?_, d⟩
  unfold wd_or
  rw [if_neg (fun z => by have := hR j z; omega)]
  exact c
theorem wd_Z_sr {SR RD AD : Nat → Int32} {k : Nat} {x : Int32} (h : wd_Z SR RD AD) (hk : k < 64) : wd_Z (upd SR k x) RD AD := fun j hj => by
  rw [pk_un (by omega)]
  exact h j hj
theorem wd_Z_ad {SR RD AD : Nat → Int32} {k : Nat} {x : Int32} (h : wd_Z SR RD AD) (hk : k < 64) : wd_Z SR RD (upd AD k x) := fun j hj => by
  rw [pk_un (by omega)]
  exact h j hj
theorem wd_bbit {t : Nat} (ht : t < 32) (b : Nat) : bt (wd_bit t) b = decide (b = t) := by
  by_cases hb : b < 32
  · have h1 : ∀ i, i < 32 → bt 1 i = decide (i = 0) := by decide +kernel
    unfold wd_bit
    rw [b_shl t ht 1 hb, h1 (b - t) (by omega)]
    by_cases e : b = t
    · subst e
      rw [decide_eq_true (Nat.le_refl b), decide_eq_true (by omega), decide_eq_true rfl]
      rfl
    · rw [decide_eq_false e]
      by_cases l : t ≤ b
      · rw [decide_eq_false (p := b - t = 0) (by omega), Bool.and_false]
      · rw [decide_eq_false l, Bool.false_and]
  · rw [b_big (by omega), decide_eq_false (by omega)]
theorem wd_MI_st {t c : Nat} {W SR0 ST0 SR ST OW : Nat → Int32} {v : Int32} (h : wd_MI t W SR0 ST0 SR ST OW) (ht : t < 32) : wd_MI t W SR0 ST0 (upd SR c (SR c ||| wd_bit t)) (upd ST c v) (upd OW c v) := by
  obtain ⟨h1, h2, h3⟩ := h
  have e : bt (SR c ||| wd_bit t) t = true := by rw [b_or, wd_bbit ht, decide_eq_true rfl, Bool.or_true]
  refine ⟨fun j hj => ?_, fun j b hb => ?_, fun j hj => ?_⟩
  · by_cases z : j = c
    · subst z
      rw [pk_us, pk_us, pk_us, if_pos e]
    · rw [pk_un z, pk_un z, pk_un z]
      exact h1 j hj
  · by_cases z : j = c
    · subst z
      rw [pk_us, b_or, wd_bbit ht, decide_eq_false hb, Bool.or_false]
      exact h2 j b hb
    · rw [pk_un z]
      exact h2 j b hb
  · by_cases z : j = c
    · subst z
      rw [pk_us, e] at hj
      exact absurd hj (by decide)
    · rw [pk_un z] at hj
      rw [pk_un z, pk_un z]
      exact h3 j hj
theorem wd_vi {κ : Nat → Nat} {K V : Nat → Int32} (hK : wd_tok κ K V) {s t : Nat} (hs : s < 64) (ht : t < 32) (h0 : κ s = 0) : ∃ i, i < 192 ∧ nI t * 6 + V (nI s).toNatClampNeg = nI i ∧ 6 * nI t + V (nI s).toNatClampNeg = nI i := by
  obtain ⟨w, hw, ew⟩ := (hK s).2.2 (Or.inl h0)
  refine ⟨6 * t + w, by omega, ?_, ?_⟩
  · rw [nI_clamp (by omega), ew, Nat.mul_comm, ← nI_add, ← pk_mul]; rfl
  · rw [nI_clamp (by omega), ew, ← nI_add, ← pk_mul]; rfl
set_option maxHeartbeats 1600000 in
theorem wd_stm {ob ed od el th ar go ph ra ov yp : Int32} {K V J O W C ST SR RD AD VA PL SC FI DC NN OW NX AT FY : Nat → Int32} {κ : Nat → Nat} {n t s : Nat} {SR0 ST0 : Nat → Int32} (hK : wd_tok κ K V) (hn : n ≤ 64) (hpr : wd_prog κ n J) (ht : t < 32) (hs : s < n) (h0 : (wd_st κ s).1 = 0) (h4 : κ s ≠ 4) (h5 : κ s ≠ 5) (h7 : κ s ≠ 7) (h8 : κ s ≠ 8) (hM : wd_MI t W SR0 ST0 SR ST OW) (hZ : wd_Z SR RD AD) :
   ∃ (s' : Nat) (VA' ST' SR' RD' AD' OW' : Nat → Int32), s' ≤ n ∧ (wd_st κ s').1 = 0 ∧ wd_MI t W SR0 ST0 SR' ST' OW' ∧ wd_Z SR' RD' AD' ∧
    (∀ (be : Int32) (OP OM OD : Nat → Int32) (P : Int32 → SX → Prop), (∀ be' OP' OM' OD', P (nI s') (nI n, ob, ed, od, el, be', th, ar, go, ph, ra, ov, K, V, J, O, W, C, ST', SR', RD', AD', OP', OM', OD', VA', PL, SC, FI, DC)) → wpX_doStatement P (nI n, ob, ed, od, el, be, th, ar, go, ph, ra, ov, K, V, J, O, W, C, ST, SR, RD, AD, OP, OM, OD, VA, PL, SC, FI, DC) (nI t) (nI s)) ∧
    (∀ (bh : Int32) (SK : Nat → Int32) (Q : Int32 → SY → Prop), (∀ bh' SK', Q 1 (nI n, th, ar, yp, ra, bh', ov, K, V, NN, W, C, OW', NX, SR', RD', AD', VA', upd AT t (nI s'), SC, FY, DC, SK')) → wpY_work Q (nI n, th, ar, yp, ra, bh, ov, K, V, NN, W, C, OW, NX, SR, RD, AD, VA, AT, SC, FY, DC, SK) (nI t) (nI s) (nI (κ s))) := by
  have is : vp_in (nI s) 64 := vp_in_nI (by omega) (by decide)
  have it : vp_in (nI t) 32 := vp_in_nI ht (by decide)
  have ct : (nI t).toNatClampNeg = t := nI_clamp (by omega)
  have hKs := wd_cI hK (i := s) (by omega)
  have hkk := (hK s).2.1
  have h10 := (hpr.1 s hs).1 h0
  have hst : wd_st κ s = (0, (wd_st κ s).2.1, (wd_st κ s).2.2) := by rw [← h0]
  have hkc : κ s = 0 ∨ κ s = 1 ∨ κ s = 2 ∨ κ s = 3 ∨ κ s = 6 := by unfold wd_kind at hkk; omega
  have n7 : ¬ nI (κ s) = 7 := wd_neI 7 (by omega) (by decide) h7
  have n8 : ¬ nI (κ s) = 8 := wd_neI 8 (by omega) (by decide) h8
  have eA1 : upd AT (nI t).toNatClampNeg (nI s + 1) = upd AT t (nI (s + 1)) := by rw [ct, nI_1]
  have eA2 : ∀ (x y : Int32), upd (upd AT t x) (nI t).toNatClampNeg y = upd AT t y := fun x y => by rw [ct, wd_uu]
  by_cases hse : wd_ex (κ s) = 1
  · have hs1 := wd_st_s1 hst (by rw [hse]; decide)
    rw [hse] at hs1
    obtain ⟨q, v, R, htr, hl, _, t4, _⟩ := wd_tree hpr (wd_lf κ V VA t th ar) OW C 64 (s + 1) 0 0 0 (by omega) (by omega) hs1
    have hq := t4 rfl rfl
    have hlt := wd_tr_lt _ _ _ _ _ htr
    have hZ' := wd_Z_or (b := wd_bit t) hZ (wd_tr_R _ _ _ _ _ htr)
    by_cases k0 : κ s = 0
    · obtain ⟨i, hi, eX, eY⟩ := wd_vi hK (s := s) (by omega) ht k0
      rw [k0] at hKs n7 n8 ⊢
      refine ⟨q, upd VA i v, ST, SR, _, AD, OW, by omega, by rw [hq], hM, hZ', fun be OP OM OD P hp => ?_, fun bh SK Q hq => ?_⟩
      · refine ⟨is, nm_r hKs (br_f n7 (br_f n8 (wd_evX hK hn ht hM.1 htr (by omega) (nI_1 s) _ fun OP' OM' OD' => br_t rfl ⟨is, ?_, nm_r (e' := upd VA i v) ?_ (hp _ _ _ _)⟩)))⟩
        · rw [eX]; exact vp_in_nI hi (by decide)
        · rw [eX, nI_clamp (by omega)]
      · refine br_f n8 ⟨it, nm_r eA1 (br_f n7 (wd_evY hK hn ht (fun _ _ => rfl) htr (by omega) (by omega) (nI_1 s) _ fun SK' => ⟨it, nm_r (eA2 _ _) (br_t rfl ⟨is, ?_, nm_r (e' := upd VA i v) ?_ (hq _ _)⟩)⟩))⟩
        · rw [eY]; exact vp_in_nI hi (by decide)
        · rw [eY, nI_clamp (by omega)]
    · have k36 : κ s = 3 ∨ κ s = 6 := by
        rcases hkc with z | z | z | z | z
        · exact absurd z k0
        · rw [z] at hse; exact absurd hse (by decide)
        · rw [z] at hse; exact absurd hse (by decide)
        · exact Or.inl z
        · exact Or.inr z
      obtain ⟨b, hc, hb, eJ⟩ := (hpr.2.2 s hs).1 (by omega)
      have eJ' : J (nI s).toNatClampNeg = nI (b + 1) := by rw [nI_clamp (by omega)]; exact eJ
      have hb45 : κ b = 5 ∨ κ b = 4 := by
        rcases hc.2.2.2.2.2 with z | z
        · exact Or.inl z
        · exact Or.inr z.2
      have hbb : (wd_st κ (b + 1)).1 = 0 := wd_bnd1 hpr hb (by omega) (by rcases hb45 with z | z <;> rw [z] <;> rfl)
      have n0 : ¬ nI (κ s) = 0 := wd_neI 0 (by omega) (by decide) (by omega)
      have n1 : ¬ nI (κ s) = 1 := wd_neI 1 (by omega) (by decide) (by omega)
      have n2 : ¬ nI (κ s) = 2 := wd_neI 2 (by omega) (by decide) (by omega)
      by_cases hv : v = 0
      · refine ⟨b + 1, VA, ST, SR, _, AD, OW, by omega, hbb, hM, hZ', fun be OP OM OD P hp => ?_, fun bh SK Q hq => ?_⟩
        · have F : ∀ OP' OM' OD', wX_doStatement_71 P (nI s) v (nI n) ob ed od el (nI q) th ar go ph ra ov K V J O W C ST SR (wd_or RD (wd_bit t) R) AD OP' OM' OD' VA PL SC FI DC := fun OP' OM' OD' => br_t hv ⟨is, by rw [eJ']; exact hp _ _ _ _⟩
          refine ⟨is, nm_r hKs (br_f n7 (br_f n8 (wd_evX hK hn ht hM.1 htr (by omega) (nI_1 s) _ fun OP' OM' OD' => br_f n0 ?_)))⟩
          rcases k36 with z | z
          · exact br_t (by rw [z]; rfl) (F _ _ _)
          · exact br_f (by rw [z]; decide) (br_t (by rw [z]; rfl) (F _ _ _))
        · refine br_f n8 ⟨it, nm_r eA1 (br_f n7 (wd_evY hK hn ht (fun _ _ => rfl) htr (by omega) (by omega) (nI_1 s) _ fun SK' => ⟨it, nm_r (eA2 _ _) (br_f n0 (br_f n1 (br_f n2 (br_t hv ?_))))⟩))⟩
          have eA3 : ∀ x : Int32, upd (upd AT t x) (nI t).toNatClampNeg (nI b + 1) = upd AT t (nI (b + 1)) := fun x => by rw [ct, wd_uu, nI_1]
          rcases k36 with z | z
          · rw [if_pos z] at hc
            exact br_t (by rw [z]; rfl) (wd_clY (z := 1) hK (by decide) (by omega) hc _ ⟨it, nm_r (eA3 _) (hq _ _)⟩)
          · rw [if_neg (by omega)] at hc
            exact br_f (by rw [z]; decide) (wd_clY (z := 0) hK (by decide) (by omega) hc _ ⟨it, nm_r (eA3 _) (hq _ _)⟩)
      · refine ⟨q, VA, ST, SR, _, AD, OW, by omega, by rw [hq], hM, hZ', fun be OP OM OD P hp => ?_, fun bh SK Q hq => ?_⟩
        · have F : ∀ OP' OM' OD', wX_doStatement_71 P (nI s) v (nI n) ob ed od el (nI q) th ar go ph ra ov K V J O W C ST SR (wd_or RD (wd_bit t) R) AD OP' OM' OD' VA PL SC FI DC := fun OP' OM' OD' => br_f hv (hp _ _ _ _)
          refine ⟨is, nm_r hKs (br_f n7 (br_f n8 (wd_evX hK hn ht hM.1 htr (by omega) (nI_1 s) _ fun OP' OM' OD' => br_f n0 ?_)))⟩
          rcases k36 with z | z
          · exact br_t (by rw [z]; rfl) (F _ _ _)
          · exact br_f (by rw [z]; decide) (br_t (by rw [z]; rfl) (F _ _ _))
        · exact br_f n8 ⟨it, nm_r eA1 (br_f n7 (wd_evY hK hn ht (fun _ _ => rfl) htr (by omega) (by omega) (nI_1 s) _ fun SK' => ⟨it, nm_r (eA2 _ _) (br_f n0 (br_f n1 (br_f n2 (br_f hv (hq _ _)))))⟩))⟩
  · have k12 : κ s = 1 ∨ κ s = 2 := by
      rcases hkc with z | z | z | z | z
      · rw [z] at hse; exact absurd rfl hse
      · exact Or.inl z
      · exact Or.inr z
      · rw [z] at hse; exact absurd rfl hse
      · rw [z] at hse; exact absurd rfl hse
    have hs2 : wd_ex (κ s) = 2 := by rcases k12 with z | z <;> rw [z] <;> rfl
    have hs1 := wd_st_s1 hst (by rw [hs2]; decide)
    rw [hs2] at hs1
    obtain ⟨q1, v1, R1, htr1, hl1, _, _, t51⟩ := wd_tree hpr (wd_lf κ V VA t th ar) OW C 64 (s + 1) 0 1 0 (by omega) (by omega) hs1
    have hq1 := t51 rfl (by decide)
    have hlt1 := wd_tr_lt _ _ _ _ _ htr1
    obtain ⟨q, v, R, htr, hl, _, t4, _⟩ := wd_tree hpr (wd_lf κ V VA t th ar) OW C 64 q1 0 0 0 (by omega) (by omega) hq1
    have hq := t4 rfl rfl
    have hlt := wd_tr_lt _ _ _ _ _ htr
    have hZ' := wd_Z_or (b := wd_bit t) (wd_Z_or (b := wd_bit t) hZ (wd_tr_R _ _ _ _ _ htr1)) (wd_tr_R _ _ _ _ _ htr)
    have ic : vp_in (v1 &&& 63) 64 := pk_andIn v1 (m := 63) 6 (by decide) (by decide)
    have n0 : ¬ nI (κ s) = 0 := wd_neI 0 (by omega) (by decide) (by omega)
    have n3 : ¬ nI (κ s) = 3 := wd_neI 3 (by omega) (by decide) (by omega)
    have n6 : ¬ nI (κ s) = 6 := wd_neI 6 (by omega) (by decide) (by omega)
    rcases k12 with z | z
    · rw [z] at hKs n7 n8 n0 n3 n6 ⊢
      refine ⟨q, VA, upd ST (wd_m63 v1) v, upd SR (wd_m63 v1) (SR (wd_m63 v1) ||| wd_bit t), _, AD, upd OW (wd_m63 v1) v, by omega, by rw [hq], wd_MI_st hM ht, wd_Z_sr hZ' (wd_m63_lt v1), fun be OP OM OD P hp => ?_, fun bh SK Q hq => ?_⟩
      · exact ⟨is, nm_r hKs (br_f n7 (br_f n8 (wd_evX hK hn ht hM.1 htr1 (by omega) (nI_1 s) _ fun OP' OM' OD' => br_f n0 (br_f n3 (br_f n6 (wd_evX hK hn ht hM.1 htr (by omega) rfl _ fun OP2 OM2 OD2 => nm_e (br_t rfl ⟨ic, nm_e ⟨ic, ic, nm_e (hp _ _ _ _)⟩⟩)))))))⟩
      · exact br_f n8 ⟨it, nm_r eA1 (br_f n7 (wd_evY hK hn ht (fun _ _ => rfl) htr1 (by omega) (by omega) (nI_1 s) _ fun SK' => ⟨it, nm_r (eA2 _ _) (br_f n0 (br_t rfl (wd_evY hK hn ht (fun _ _ => rfl) htr (by omega) (by omega) rfl _ fun SK2 => ⟨it, nm_r (eA2 _ _) (br_t rfl ⟨ic, nm_e ⟨ic, ic, nm_e (hq _ _)⟩⟩)⟩)))⟩))⟩
    · rw [z] at hKs n7 n8 n0 n3 n6 ⊢
      refine ⟨q, VA, ST, SR, _, upd AD (wd_m63 v1) (AD (wd_m63 v1) + v), OW, by omega, by rw [hq], hM, wd_Z_ad hZ' (wd_m63_lt v1), fun be OP OM OD P hp => ?_, fun bh SK Q hq => ?_⟩
      · exact ⟨is, nm_r hKs (br_f n7 (br_f n8 (wd_evX hK hn ht hM.1 htr1 (by omega) (nI_1 s) _ fun OP' OM' OD' => br_f n0 (br_f n3 (br_f n6 (wd_evX hK hn ht hM.1 htr (by omega) rfl _ fun OP2 OM2 OD2 => nm_e (br_f (by decide) ⟨ic, ic, nm_e (hp _ _ _ _)⟩)))))))⟩
      · exact br_f n8 ⟨it, nm_r eA1 (br_f n7 (wd_evY hK hn ht (fun _ _ => rfl) htr1 (by omega) (by omega) (nI_1 s) _ fun SK' => ⟨it, nm_r (eA2 _ _) (br_f n0 (br_f (by decide) (br_t rfl (wd_evY hK hn ht (fun _ _ => rfl) htr (by omega) (by omega) rfl _ fun SK2 => ⟨it, nm_r (eA2 _ _) (br_f (by decide) ⟨ic, ic, nm_e (hq _ _)⟩)⟩))))⟩))⟩
end
section
/-! a thread in a phase: advance against the reference's steps -/
theorem wd_nb1 : vp_nar .boolean 1 = 1 := rfl
theorem wd_nb0 : vp_nar .boolean 0 = 0 := rfl
def wd_Live (κ : Nat → Nat) (n lo : Nat) (S P A : Int32) : Prop := ∃ p st, S = nI st ∧ lo ≤ st ∧ st ≤ 300 ∧ P = nI p ∧ A = nI p ∧ p ≤ n ∧ (wd_st κ p).1 = 0
def wd_End (κ : Nat → Nat) (n t st : Nat) (go go' : Int32) (FI FY FI' FY' PL AT SC PL' AT' SC' : Nat → Int32) : Prop := ((go' = go - 1 ∧ FI' = upd FI t 1 ∧ FY' = upd FY t 1) ∨ (go' = go ∧ FI' = FI ∧ FY' = FY ∧ wd_Live κ n (st + 1) (SC' t) (PL' t) (AT' t))) ∧ ∀ j, j ≠ t → PL' j = PL j ∧ AT' j = AT j ∧ SC' j = SC j
set_option maxHeartbeats 1600000 in
theorem wd_one {ob ed od el th ar go ph ra ov yp : Int32} {K V J O W C ST SR RD AD VA PL SC FI DC NN OW NX AT FY : Nat → Int32} {κ : Nat → Nat} {n t p st i : Nat} {SR0 ST0 : Nat → Int32} (hK : wd_tok κ K V) (hn : n ≤ 64) (hpr : wd_prog κ n J) (ht : t < 32) (hi : i ≤ 300) (hS : SC t = nI st) (hs3 : st ≤ 300) (hP : PL t = nI p) (hA : AT t = nI p) (hp : p ≤ n) (hb : (wd_st κ p).1 = 0) (hM : wd_MI t W SR0 ST0 SR ST OW) (hZ : wd_Z SR RD AD) :
   (∃ (go' ov' : Int32) (FI' FY' PL' AT' SC' DC' : Nat → Int32), wd_End κ n t st go go' FI FY FI' FY' PL AT SC PL' AT' SC' ∧
     (∀ (be : Int32) (OP OM OD : Nat → Int32) (P : SX → Prop) (g : Nat), P (nI n, ob, ed, od, el, be, th, ar, go', ph, ra, ov', K, V, J, O, W, C, ST, SR, RD, AD, OP, OM, OD, VA, PL', SC', FI', DC') → wX_advance_2 P (nI t) (g + 1) (nI i) (nI n) ob ed od el be th ar go ph ra ov K V J O W C ST SR RD AD OP OM OD VA PL SC FI DC) ∧
     (∀ (P : SY → Prop) (Jc : Int32 → Int32 → Int32 → Int32 → Int32 → Int32 → Int32 → Int32 → (Nat → Int32) → (Nat → Int32) → (Nat → Int32) → (Nat → Int32) → (Nat → Int32) → (Nat → Int32) → (Nat → Int32) → (Nat → Int32) → (Nat → Int32) → (Nat → Int32) → (Nat → Int32) → (Nat → Int32) → (Nat → Int32) → (Nat → Int32) → (Nat → Int32) → (Nat → Int32) → Prop), wd_G P Jc t 0 (nI n) th ar yp ra ov' K V NN W C OW NX SR RD AD VA AT' SC' FY' DC' → wd_G P Jc t 1 (nI n) th ar yp ra ov K V NN W C OW NX SR RD AD VA AT SC FY DC)) ∨
   (st < 300 ∧ ∃ (p' : Nat) (VA' ST' SR' RD' AD' OW' DC' : Nat → Int32), p' ≤ n ∧ (wd_st κ p').1 = 0 ∧ wd_MI t W SR0 ST0 SR' ST' OW' ∧ wd_Z SR' RD' AD' ∧
     (∀ (be : Int32) (OP OM OD : Nat → Int32) (P : SX → Prop) (g : Nat), (∀ be' OP' OM' OD', wX_advance_2 P (nI t) g (nI (i + 1)) (nI n) ob ed od el be' th ar go ph ra ov K V J O W C ST' SR' RD' AD' OP' OM' OD' VA' (upd PL t (nI p')) (upd SC t (nI (st + 1))) FI DC') → wX_advance_2 P (nI t) (g + 1) (nI i) (nI n) ob ed od el be th ar go ph ra ov K V J O W C ST SR RD AD OP OM OD VA PL SC FI DC) ∧
     (∀ (P : SY → Prop) (Jc : Int32 → Int32 → Int32 → Int32 → Int32 → Int32 → Int32 → Int32 → (Nat → Int32) → (Nat → Int32) → (Nat → Int32) → (Nat → Int32) → (Nat → Int32) → (Nat → Int32) → (Nat → Int32) → (Nat → Int32) → (Nat → Int32) → (Nat → Int32) → (Nat → Int32) → (Nat → Int32) → (Nat → Int32) → (Nat → Int32) → (Nat → Int32) → (Nat → Int32) → Prop), wd_G P Jc t 1 (nI n) th ar yp ra ov K V NN W C OW' NX SR' RD' AD' VA' (upd AT t (nI p')) (upd SC t (nI (st + 1))) FY DC' → wd_G P Jc t 1 (nI n) th ar yp ra ov K V NN W C OW NX SR RD AD VA AT SC FY DC)) := by
  obtain ⟨s, s1, s2, s3, sX, sY⟩ := wd_hop (ob := ob) (ed := ed) (od := od) (el := el) (th := th) (ar := ar) (go := go) (ph := ph) (ra := ra) (ov := ov) (yp := yp) (K := K) (V := V) (J := J) (O := O) (W := W) (C := C) (ST := ST) (SR := SR) (RD := RD) (AD := AD) (VA := VA) (PL := PL) (SC := SC) (FI := FI) (DC := DC) (NN := NN) (OW := OW) (NX := NX) (FY := FY) hK hn hpr ht n p AT (by omega) hp hb hA
  have it : vp_in (nI t) 32 := vp_in_nI ht (by decide)
  have ct : (nI t).toNatClampNeg = t := nI_clamp (by omega)
  have ePL : PL (nI t).toNatClampNeg = nI p := by rw [ct]; exact hP
  have ni : ¬ 300 < nI i := nI_nlt (a := 300) hi (by decide)
  have eFI : upd FI (nI t).toNatClampNeg (vp_nar .boolean 1) = upd FI t 1 := by rw [ct]; rfl
  have eFY : upd FY (nI t).toNatClampNeg (vp_nar .boolean 1) = upd FY t 1 := by rw [ct]; rfl
  have eAs : upd AT t (nI s) (nI t).toNatClampNeg = nI s := by rw [ct, pk_us]
  have eSC : SC (nI t).toNatClampNeg = nI st := by rw [ct]; exact hS
  rcases s3 with rfl | ⟨hs, h4, h5⟩
  · left
    refine ⟨go - 1, ov, upd FI t 1, upd FY t 1, PL, upd AT t (nI s), SC, DC, ⟨Or.inl ⟨rfl, rfl, rfl⟩, fun j hj => ⟨rfl, pk_un hj, rfl⟩⟩, fun be OP OM OD P g hp => ?_, fun P Jc hG => sY P Jc (wd_G1 (fun Q hq bh SK => ?_) hG)⟩
    · refine br_f ni ⟨it, ?_⟩
      rw [ePL]
      exact ⟨66, sX be OP OM OD _ 0 66 (by omega) (by omega) (br_f (nI_nlt (by omega) (by omega)) ⟨it, nm_r eFI (nm_e hp)⟩)⟩
    · exact ⟨it, nm_r eAs (br_t rfl ⟨it, nm_r eFY (hq bh SK)⟩)⟩
  · have is : vp_in (nI s) 64 := vp_in_nI (by omega) (by decide)
    have cs : (nI s).toNatClampNeg = s := nI_clamp (by omega)
    have lsn : nI s < nI n := nI_lt (by omega) (by omega)
    have hKs := wd_cI hK (i := s) (by omega)
    have hkk := (hK s).2.1
    have hk31 : κ s ≤ 31 := by unfold wd_kind at hkk; omega
    have nsn : ¬ nI s = nI n := wd_neI n (by omega) (by omega) (by omega)
    have m4 : ¬ nI (κ s) = 4 := wd_neI 4 (by omega) (by decide) h4
    have m5 : ¬ nI (κ s) = 5 := wd_neI 5 (by omega) (by decide) h5
    by_cases h300 : st = 300
    · left
      subst h300
      refine ⟨go - 1, 1, upd FI t 1, upd FY t 1, PL, upd AT t (nI s), SC, DC, ⟨Or.inl ⟨rfl, rfl, rfl⟩, fun j hj => ⟨rfl, pk_un hj, rfl⟩⟩, fun be OP OM OD P g hp => ?_, fun P Jc hG => sY P Jc (wd_G1 (fun Q hq bh SK => ?_) hG)⟩
      · refine br_f ni ⟨it, ?_⟩
        rw [ePL]
        exact ⟨66, sX be OP OM OD _ 0 66 (by omega) (by omega) (br_t lsn ⟨it, br_f (by rw [eSC]; decide) ⟨it, nm_r eFI (nm_e hp)⟩⟩)⟩
      · exact ⟨it, nm_r eAs (br_f nsn ⟨is, nm_r hKs (br_f m4 (br_f m5 ⟨it, br_t eSC ⟨it, nm_r eFY (hq bh SK)⟩⟩))⟩)⟩
    · have l300 : SC (nI t).toNatClampNeg < 300 := by rw [eSC]; exact nI_lt (b := 300) (by omega) (by decide)
      have n300 : ¬ SC (nI t).toNatClampNeg = 300 := by rw [eSC]; exact wd_neI 300 (by omega) (by decide) h300
      have eS1 : upd SC (nI t).toNatClampNeg (SC (nI t).toNatClampNeg + 1) = upd SC t (nI (st + 1)) := by rw [eSC, ct, nI_1]
      have eD1 : upd DC (nI s).toNatClampNeg (DC (nI s).toNatClampNeg + 1) = upd DC s (DC s + 1) := by rw [cs]
      have b1 : wd_ex (κ s) = 0 → (wd_st κ (s + 1)).1 = 0 := fun z => by
        rw [wd_st_s0 (i := s) (e := (wd_st κ s).2.1) (u := (wd_st κ s).2.2) (by rw [← s2]) z]
      by_cases h8 : κ s = 8
      · left
        rw [h8] at hKs m4 m5
        refine ⟨go - 1, ov, upd FI t 1, upd FY t 1, upd PL t (nI (s + 1)), upd AT t (nI s), upd SC t (nI (st + 1)), upd DC s (DC s + 1), ⟨Or.inl ⟨rfl, rfl, rfl⟩, fun j hj => ⟨pk_un hj, pk_un hj, pk_un hj⟩⟩, fun be OP OM OD P g hp => ?_, fun P Jc hG => sY P Jc (wd_G1 (fun Q hq bh SK => ?_) hG)⟩
        · refine br_f ni ⟨it, ?_⟩
          rw [ePL]
          exact ⟨66, sX be OP OM OD _ 0 66 (by omega) (by omega) (br_t lsn ⟨it, br_t l300 ⟨it, it, nm_r eS1 ⟨is, is, nm_r eD1 ⟨is, nm_r hKs (br_f (by decide) (br_t rfl ⟨it, nm_r (e' := upd PL t (nI (s + 1))) (by rw [ct, nI_1]) ⟨is, br_t hKs ⟨it, nm_r eFI (nm_e hp)⟩⟩⟩))⟩⟩⟩⟩)⟩
        · exact ⟨it, nm_r eAs (br_f nsn ⟨is, nm_r hKs (br_f m4 (br_f m5 ⟨it, br_f n300 ⟨it, it, nm_r eS1 ⟨is, is, nm_r eD1 (br_t rfl ⟨it, nm_r eFY ⟨rfl, hq bh SK⟩⟩)⟩⟩⟩))⟩)⟩
      · by_cases h7 : κ s = 7
        · left
          rw [h7] at hKs m4 m5
          refine ⟨go, ov, FI, FY, upd PL t (nI (s + 1)), upd AT t (nI (s + 1)), upd SC t (nI (st + 1)), upd DC s (DC s + 1), ⟨Or.inr ⟨rfl, rfl, rfl, s + 1, st + 1, pk_us, by omega, by omega, pk_us, pk_us, by omega, b1 (by rw [h7]; rfl)⟩, fun j hj => ⟨pk_un hj, pk_un hj, pk_un hj⟩⟩, fun be OP OM OD P g hp => ?_, fun P Jc hG => sY P Jc (wd_G1 (fun Q hq bh SK => ?_) hG)⟩
          · refine br_f ni ⟨it, ?_⟩
            rw [ePL]
            exact ⟨66, sX be OP OM OD _ 0 66 (by omega) (by omega) (br_t lsn ⟨it, br_t l300 ⟨it, it, nm_r eS1 ⟨is, is, nm_r eD1 ⟨is, nm_r hKs (br_t rfl ⟨it, nm_r (e' := upd PL t (nI (s + 1))) (by rw [ct, nI_1]) ⟨is, br_f (by rw [hKs]; decide) ⟨is, br_t hKs hp⟩⟩⟩)⟩⟩⟩⟩)⟩
          · exact ⟨it, nm_r eAs (br_f nsn ⟨is, nm_r hKs (br_f m4 (br_f m5 ⟨it, br_f n300 ⟨it, it, nm_r eS1 ⟨is, is, nm_r eD1 (br_f (by decide) ⟨it, nm_r (e' := upd AT t (nI (s + 1))) (by rw [ct, nI_1, wd_uu]) (br_t rfl ⟨rfl, hq bh SK⟩)⟩)⟩⟩⟩))⟩)⟩
        · right
          obtain ⟨s', VA', ST', SR', RD', AD', OW', a1, a2, a3, a4, a5, a6⟩ := wd_stm (SC := upd SC t (nI (st + 1))) (DC := upd DC s (DC s + 1)) (AT := upd AT t (nI s)) (ob := ob) (ed := ed) (od := od) (el := el) (th := th) (ar := ar) (go := go) (ph := ph) (ra := ra) (ov := ov) (yp := yp) (K := K) (V := V) (J := J) (O := O) (W := W) (C := C) (ST := ST) (SR := SR) (RD := RD) (AD := AD) (VA := VA) (PL := PL) (FI := FI) (NN := NN) (OW := OW) (NX := NX) (FY := FY) hK hn hpr ht hs s2 h4 h5 h7 h8 hM hZ
          have m8 : ¬ nI (κ s) = 8 := wd_neI 8 (by omega) (by decide) h8
          have m7 : ¬ nI (κ s) = 7 := wd_neI 7 (by omega) (by decide) h7
          refine ⟨by omega, s', VA', ST', SR', RD', AD', OW', upd DC s (DC s + 1), a1, a2, a3, a4, fun be OP OM OD P g hp => ?_, fun P Jc hG => sY P Jc (wd_G1 (fun Q hq bh SK => ?_) hG)⟩
          · refine br_f ni ⟨it, ?_⟩
            rw [ePL]
            exact ⟨66, sX be OP OM OD _ 0 66 (by omega) (by omega) (br_t lsn ⟨it, br_t l300 ⟨it, it, nm_r eS1 ⟨is, is, nm_r eD1 (a5 be OP OM OD _ fun be' OP' OM' OD' => ⟨it, nm_r (e' := upd PL t (nI s')) (by rw [ct]) ⟨is, br_f (by rw [hKs]; exact m8) ⟨is, br_f (by rw [hKs]; exact m7) (nm_r (nI_1 i) (hp _ _ _ _))⟩⟩⟩)⟩⟩⟩)⟩
          · exact ⟨it, nm_r eAs (br_f nsn ⟨is, nm_r hKs (br_f m4 (br_f m5 ⟨it, br_f n300 ⟨it, it, nm_r eS1 ⟨is, is, nm_r eD1 (a6 bh SK _ fun bh' SK' => by rw [wd_uu]; exact ⟨rfl, hq bh' SK'⟩)⟩⟩⟩))⟩)⟩
theorem wd_adv {ob ed od el th ar go ph ra ov yp : Int32} {K V J O W C FI NN NX FY : Nat → Int32} {κ : Nat → Nat} {n t : Nat} {SR0 ST0 : Nat → Int32} (hK : wd_tok κ K V) (hn : n ≤ 64) (hpr : wd_prog κ n J) (ht : t < 32) : ∀ f i p st (VA ST SR RD AD OW DC PL AT SC : Nat → Int32), i + f = 300 → SC t = nI st → i ≤ st → st ≤ 300 → PL t = nI p → AT t = nI p → p ≤ n → (wd_st κ p).1 = 0 → wd_MI t W SR0 ST0 SR ST OW → wd_Z SR RD AD →
   ∃ (go' ov' : Int32) (VA' ST' SR' RD' AD' OW' DC' FI' FY' PL' AT' SC' : Nat → Int32), wd_End κ n t st go go' FI FY FI' FY' PL AT SC PL' AT' SC' ∧ wd_MI t W SR0 ST0 SR' ST' OW' ∧ wd_Z SR' RD' AD' ∧
     (∀ (be : Int32) (OP OM OD : Nat → Int32) (P : SX → Prop), (∀ be' OP' OM' OD', P (nI n, ob, ed, od, el, be', th, ar, go', ph, ra, ov', K, V, J, O, W, C, ST', SR', RD', AD', OP', OM', OD', VA', PL', SC', FI', DC')) → wX_advance_2 P (nI t) (f + 1) (nI i) (nI n) ob ed od el be th ar go ph ra ov K V J O W C ST SR RD AD OP OM OD VA PL SC FI DC) ∧
     (∀ (P : SY → Prop) (Jc : Int32 → Int32 → Int32 → Int32 → Int32 → Int32 → Int32 → Int32 → (Nat → Int32) → (Nat → Int32) → (Nat → Int32) → (Nat → Int32) → (Nat → Int32) → (Nat → Int32) → (Nat → Int32) → (Nat → Int32) → (Nat → Int32) → (Nat → Int32) → (Nat → Int32) → (Nat → Int32) → (Nat → Int32) → (Nat → Int32) → (Nat → Int32) → (Nat → Int32) → Prop), wd_G P Jc t 0 (nI n) th ar yp ra ov' K V NN W C OW' NX SR' RD' AD' VA' AT' SC' FY' DC' → wd_G P Jc t 1 (nI n) th ar yp ra ov K V NN W C OW NX SR RD AD VA AT SC FY DC) := by
  intro f
  induction f with
  | zero =>
    intro i p st VA ST SR RD AD OW DC PL AT SC hi hS h1 h2 hP hA hp hb hM hZ
    rcases wd_one (i := i) (ob := ob) (ed := ed) (od := od) (el := el) (th := th) (ar := ar) (go := go) (ph := ph) (ra := ra) (ov := ov) (yp := yp) (K := K) (V := V) (J := J) (O := O) (W := W) (C := C) (ST := ST) (SR := SR) (RD := RD) (AD := AD) (VA := VA) (PL := PL) (SC := SC) (FI := FI) (DC := DC) (NN := NN) (OW := OW) (NX := NX) (AT := AT) (FY := FY) hK hn hpr ht (by omega) hS h2 hP hA hp hb hM hZ with ⟨go', ov', FI', FY', PL', AT', SC', DC', e, eX, eY⟩ | ⟨h, _⟩
    · exact ⟨go', ov', VA, ST, SR, RD, AD, OW, DC', FI', FY', PL', AT', SC', e, hM, hZ, fun be OP OM OD P hp => eX be OP OM OD P 0 (hp _ _ _ _), eY⟩
    · omega
  | succ f ih =>
    intro i p st VA ST SR RD AD OW DC PL AT SC hi hS h1 h2 hP hA hp hb hM hZ
    rcases wd_one (i := i) (ob := ob) (ed := ed) (od := od) (el := el) (th := th) (ar := ar) (go := go) (ph := ph) (ra := ra) (ov := ov) (yp := yp) (K := K) (V := V) (J := J) (O := O) (W := W) (C := C) (ST := ST) (SR := SR) (RD := RD) (AD := AD) (VA := VA) (PL := PL) (SC := SC) (FI := FI) (DC := DC) (NN := NN) (OW := OW) (NX := NX) (AT := AT) (FY := FY) hK hn hpr ht (by omega) hS h2 hP hA hp hb hM hZ with ⟨go', ov', FI', FY', PL', AT', SC', DC', e, eX, eY⟩ | ⟨h, p', VA1, ST1, SR1, RD1, AD1, OW1, DC1, a1, a2, a3, a4, a5, a6⟩
    · exact ⟨go', ov', VA, ST, SR, RD, AD, OW, DC', FI', FY', PL', AT', SC', e, hM, hZ, fun be OP OM OD P hp => eX be OP OM OD P (f + 1) (hp _ _ _ _), eY⟩
    · obtain ⟨go', ov', VA', ST', SR', RD', AD', OW', DC', FI', FY', PL', AT', SC', e, hM', hZ', eX, eY⟩ := ih (i + 1) p' (st + 1) VA1 ST1 SR1 RD1 AD1 OW1 DC1 (upd PL t (nI p')) (upd AT t (nI p')) (upd SC t (nI (st + 1))) (by omega) pk_us (by omega) (by omega) pk_us pk_us a1 a2 a3 a4
      refine ⟨go', ov', VA', ST', SR', RD', AD', OW', DC', FI', FY', PL', AT', SC', ⟨?_, ?_⟩, hM', hZ', fun be OP OM OD P hp => a5 be OP OM OD P (f + 1) fun be' OP' OM' OD' => eX be' OP' OM' OD' P hp, fun P Jc hG => a6 P Jc (eY P Jc hG)⟩
      · rcases e.1 with z | ⟨z1, z2, z3, q, s, b1, b2, b3⟩
        · exact Or.inl z
        · exact Or.inr ⟨z1, z2, z3, q, s, b1, by omega, b3⟩
      · intro j hj
        obtain ⟨x, y, z⟩ := e.2 j hj
        rw [pk_un hj] at x y z
        exact ⟨x, y, z⟩
end
section
/-! the plain loops of a run -/
theorem wd_81 {c th ar yp ra bh ov : Int32} {K V NN W C NX SR RD AD VA AT SC FY DC SK : Nat → Int32} (P : SY → Prop) (Jc : Int32 → Int32 → Int32 → Int32 → Int32 → Int32 → Int32 → Int32 → (Nat → Int32) → (Nat → Int32) → (Nat → Int32) → (Nat → Int32) → (Nat → Int32) → (Nat → Int32) → (Nat → Int32) → (Nat → Int32) → (Nat → Int32) → (Nat → Int32) → (Nat → Int32) → (Nat → Int32) → (Nat → Int32) → (Nat → Int32) → (Nat → Int32) → (Nat → Int32) → Prop) (x1 : Int32) : ∀ f i (OW : Nat → Int32), i + f = 64 → (∃ m, wY_phase_107 P Jc x1 m 1 c th ar yp ra bh ov K V NN W C (wd_fl 64 W i OW) NX SR RD AD VA AT SC FY DC SK) → wY_phase_81 P Jc x1 c th ar yp ra bh ov (f + 1) (nI i) K V NN W C OW NX SR RD AD VA AT SC FY DC SK := by
  intro f
  induction f with
  | zero =>
    intro i OW hi hp
    obtain rfl : i = 64 := hi
    rw [wd_fl_e] at hp
    exact br_t (by decide) hp
  | succ f ih =>
    intro i OW hi hp
    have h2 : vp_in (nI i) 64 := vp_in_nI (by omega) (by decide)
    refine br_f (nI_ge (b := 64) (by omega) (by decide)) ⟨h2, h2, nm_e (nm_r (nI_1 i) (ih (i + 1) _ (by omega) ?_))⟩
    rw [nI_clamp (by omega), wd_fl_s (by omega) rfl]
    exact hp
theorem wd_122 {c th ar yp ra bh ov : Int32} {K V NN W C OW SR RD AD VA AT SC FY DC SK : Nat → Int32} (P : SY → Prop) (Jc : Int32 → Int32 → Int32 → Int32 → Int32 → Int32 → Int32 → Int32 → (Nat → Int32) → (Nat → Int32) → (Nat → Int32) → (Nat → Int32) → (Nat → Int32) → (Nat → Int32) → (Nat → Int32) → (Nat → Int32) → (Nat → Int32) → (Nat → Int32) → (Nat → Int32) → (Nat → Int32) → (Nat → Int32) → (Nat → Int32) → (Nat → Int32) → (Nat → Int32) → Prop) {t : Nat} (ht : t < 32) (A : Nat → Int32) : ∀ f i (NX : Nat → Int32), i + f = 64 → (∀ c, i ≤ c → c < 64 → A c = if bt (SR c) t = true then OW c else NX c) → Jc (nI (t + 1)) c th ar yp ra bh ov K V NN W C OW (wd_fl 64 A i NX) SR RD AD VA AT SC FY DC SK → wY_phase_122 P Jc (nI t) c th ar yp ra bh ov (f + 1) (nI i) K V NN W C OW NX SR RD AD VA AT SC FY DC SK := by
  intro f
  induction f with
  | zero =>
    intro i NX hi hA hp
    obtain rfl : i = 64 := hi
    rw [wd_fl_e] at hp
    exact br_t (by decide) (nm_r (nI_1 t) hp)
  | succ f ih =>
    intro i NX hi hA hp
    have h2 : vp_in (nI i) 64 := vp_in_nI (by omega) (by decide)
    have ci : (nI i).toNatClampNeg = i := nI_clamp (by omega)
    refine br_f (nI_ge (b := 64) (by omega) (by decide)) ⟨h2, ?_⟩
    have hAi := hA i (by omega) (by omega)
    cases hb : bt (SR i) t
    · rw [hb] at hAi
      refine br_f ?_ (nm_r (nI_1 i) (ih (i + 1) NX (by omega) (fun c h1 h3 => hA c (by omega) h3) ?_))
      · rw [ci, wd_bY ht, hb]; decide
      · rw [wd_fl_k hAi.symm]
        exact hp
    · rw [hb, if_pos rfl] at hAi
      refine br_t ?_ ⟨h2, h2, nm_e (nm_r (nI_1 i) (ih (i + 1) _ (by omega) (fun c h1 h3 => ?_) ?_))⟩
      · rw [ci, wd_bY ht]; exact hb
      · rw [ci, pk_un (by omega)]
        exact hA c (by omega) h3
      · rw [ci, wd_fl_s (by omega) hAi.symm]
        exact hp
theorem wd_12 {c th ar yp ra bh ov : Int32} {K V NN W C OW VA AT SC FY DC SK : Nat → Int32} (P : SY → Prop) : ∀ f i (NX SR RD AD : Nat → Int32), i + f = 64 → (∃ m, wY_phase_59 P m 0 c th ar yp ra bh ov K V NN W C OW (wd_fl 64 W i NX) (wd_fl 64 (fun _ => 0) i SR) (wd_fl 64 (fun _ => 0) i RD) (wd_fl 64 (fun _ => 0) i AD) VA AT SC FY DC SK) → wY_phase_12 P c th ar yp ra bh ov (f + 1) (nI i) K V NN W C OW NX SR RD AD VA AT SC FY DC SK := by
  intro f
  induction f with
  | zero =>
    intro i NX SR RD AD hi hp
    obtain rfl : i = 64 := hi
    rw [wd_fl_e, wd_fl_e, wd_fl_e, wd_fl_e] at hp
    exact br_t (by decide) hp
  | succ f ih =>
    intro i NX SR RD AD hi hp
    have h2 : vp_in (nI i) 64 := vp_in_nI (by omega) (by decide)
    refine br_f (nI_ge (b := 64) (by omega) (by decide)) ⟨h2, h2, nm_e ⟨h2, nm_e ⟨h2, nm_e ⟨h2, nm_e (nm_r (nI_1 i) (ih (i + 1) _ _ _ _ (by omega) ?_))⟩⟩⟩⟩
    rw [nI_clamp (by omega), wd_fl_s (by omega) rfl, wd_fl_s (by omega) rfl, wd_fl_s (by omega) rfl, wd_fl_s (by omega) rfl]
    exact hp
theorem wd_sr89 {c ob ed od el be th ar go ph ra ov : Int32} {K V J O W C ST SR RD AD OP OM OD VA PL SC FI : Nat → Int32} (P : SX → Prop) : ∀ f i (DC : Nat → Int32), i + f = 64 → P (c, ob, ed, od, el, be, th, ar, go, ph, ra, ov, K, V, J, O, W, C, ST, SR, RD, AD, OP, OM, OD, VA, PL, SC, FI, wd_fl 64 (fun _ => 0) i DC) → wX_startRun_89 P c ob ed od el be th ar go ph ra ov (f + 1) (nI i) K V J O W C ST SR RD AD OP OM OD VA PL SC FI DC := by
  intro f
  induction f with
  | zero =>
    intro i DC hi hp
    obtain rfl : i = 64 := hi
    rw [wd_fl_e] at hp
    exact br_t (by decide) hp
  | succ f ih =>
    intro i DC hi hp
    have h2 : vp_in (nI i) 64 := vp_in_nI (by omega) (by decide)
    refine br_f (nI_ge (b := 64) (by omega) (by decide)) ⟨h2, nm_e (nm_r (nI_1 i) (ih (i + 1) _ (by omega) ?_))⟩
    rw [nI_clamp (by omega), wd_fl_s (by omega) rfl]
    exact hp
theorem wd_sr67 {c ob ed od el be th ar go ph ra ov : Int32} {K V J O W C ST SR RD AD OP OM OD PL SC FI DC : Nat → Int32} (P : SX → Prop) : ∀ f i (VA : Nat → Int32), i + f = 192 → (∃ m, wX_startRun_89 P c ob ed od el be th ar go ph ra ov m 0 K V J O W C ST SR RD AD OP OM OD (wd_fl 192 (fun _ => 0) i VA) PL SC FI DC) → wX_startRun_67 P c ob ed od el be th ar go ph ra ov (f + 1) (nI i) K V J O W C ST SR RD AD OP OM OD VA PL SC FI DC := by
  intro f
  induction f with
  | zero =>
    intro i VA hi hp
    obtain rfl : i = 192 := hi
    rw [wd_fl_e] at hp
    exact br_t (by decide) hp
  | succ f ih =>
    intro i VA hi hp
    have h2 : vp_in (nI i) 192 := vp_in_nI (by omega) (by decide)
    refine br_f (nI_ge (b := 192) (by omega) (by decide)) ⟨h2, nm_e (nm_r (nI_1 i) (ih (i + 1) _ (by omega) ?_))⟩
    rw [nI_clamp (by omega), wd_fl_s (by omega) rfl]
    exact hp
theorem wd_sr32 {c ob ed od el be th ar go ph ra ov : Int32} {K V J O W C ST SR RD AD OP OM OD VA DC : Nat → Int32} (P : SX → Prop) : ∀ f i (PL SC FI : Nat → Int32), i + f = 32 → (∃ m, wX_startRun_67 P c ob ed od el be th ar go ph ra ov m 0 K V J O W C ST SR RD AD OP OM OD VA (wd_fl 32 (fun _ => 0) i PL) (wd_fl 32 (fun _ => 0) i SC) (wd_fl 32 (fun _ => 0) i FI) DC) → wX_startRun_32 P c ob ed od el be th ar go ph ra ov (f + 1) (nI i) K V J O W C ST SR RD AD OP OM OD VA PL SC FI DC := by
  intro f
  induction f with
  | zero =>
    intro i PL SC FI hi hp
    obtain rfl : i = 32 := hi
    rw [wd_fl_e, wd_fl_e, wd_fl_e] at hp
    exact br_t (by decide) hp
  | succ f ih =>
    intro i PL SC FI hi hp
    have h2 : vp_in (nI i) 32 := vp_in_nI (by omega) (by decide)
    refine br_f (nI_ge (b := 32) (by omega) (by decide)) ⟨h2, nm_e ⟨h2, nm_e ⟨h2, nm_e (nm_r (nI_1 i) (ih (i + 1) _ _ _ (by omega) ?_))⟩⟩⟩
    rw [nI_clamp (by omega), wd_nb0, wd_fl_s (by omega) rfl, wd_fl_s (by omega) rfl, wd_fl_s (by omega) rfl]
    exact hp
theorem wd_srX {c ob ed od el be th ar go ph ra ov : Int32} {K V J O W C ST SR RD AD OP OM OD VA PL SC FI DC : Nat → Int32} (P : SX → Prop) (p0 p1 : Int32) (hp : P (c, ob, ed, od, el, be, p0, p1, p0, 0, 0, 0, K, V, J, O, W, C, ST, SR, RD, AD, OP, OM, OD, wd_fl 192 (fun _ => 0) 0 VA, wd_fl 32 (fun _ => 0) 0 PL, wd_fl 32 (fun _ => 0) 0 SC, wd_fl 32 (fun _ => 0) 0 FI, wd_fl 64 (fun _ => 0) 0 DC)) : wpX_startRun P (c, ob, ed, od, el, be, th, ar, go, ph, ra, ov, K, V, J, O, W, C, ST, SR, RD, AD, OP, OM, OD, VA, PL, SC, FI, DC) p0 p1 :=
  ⟨33, wd_sr32 P 32 0 _ _ _ rfl ⟨193, wd_sr67 P 192 0 _ rfl ⟨65, wd_sr89 P 64 0 _ rfl hp⟩⟩⟩
theorem wd_r99 {c th ar yp ra bh ov : Int32} {K V NN W C OW NX SR RD AD VA DC SK : Nat → Int32} (P : Int32 → SY → Prop) {T : Nat} (hT : T ≤ 32) : ∀ f i (AT SC FY : Nat → Int32), i + f = 32 → (∃ m, wY_run_149 P (nI T) m 1 c th ar yp ra bh ov K V NN W C OW NX SR RD AD VA (wd_fl 32 (fun _ => 0) i AT) (wd_fl 32 (fun _ => 0) i SC) (wd_fl 32 (fun j => if j < T then 0 else 1) i FY) DC SK) → wY_run_99 P (nI T) c th ar yp ra bh ov (f + 1) (nI i) K V NN W C OW NX SR RD AD VA AT SC FY DC SK := by
  intro f
  induction f with
  | zero =>
    intro i AT SC FY hi hp
    obtain rfl : i = 32 := hi
    rw [wd_fl_e, wd_fl_e, wd_fl_e] at hp
    exact br_t (by decide) hp
  | succ f ih =>
    intro i AT SC FY hi hp
    have h2 : vp_in (nI i) 32 := vp_in_nI (by omega) (by decide)
    refine br_f (nI_ge (b := 32) (by omega) (by decide)) ⟨h2, nm_e ⟨h2, nm_e ?_⟩⟩
    by_cases hl : i < T
    · refine br_t (nI_lt hl (by omega)) ⟨h2, nm_e (nm_r (nI_1 i) (ih (i + 1) _ _ _ (by omega) ?_))⟩
      rw [nI_clamp (by omega), wd_fl_s (by omega) rfl, wd_fl_s (by omega) rfl, wd_fl_s (by omega) (by rw [if_pos hl]; rfl)]
      exact hp
    · refine br_f (nI_nlt (by omega) (by omega)) ⟨h2, nm_e (nm_r (nI_1 i) (ih (i + 1) _ _ _ (by omega) ?_))⟩
      rw [nI_clamp (by omega), wd_fl_s (by omega) rfl, wd_fl_s (by omega) rfl, wd_fl_s (by omega) (by rw [if_neg hl]; rfl)]
      exact hp
theorem wd_r75 {c th ar yp ra bh ov : Int32} {K V NN W C OW NX SR RD AD VA AT SC FY SK : Nat → Int32} (P : Int32 → SY → Prop) (x1 : Int32) : ∀ f i (DC : Nat → Int32), i + f = 64 → (∃ m, wY_run_99 P x1 c th ar yp ra bh ov m 0 K V NN W C OW NX SR RD AD VA AT SC FY (wd_fl 64 (fun _ => 0) i DC) SK) → wY_run_75 P x1 c th ar yp ra bh ov (f + 1) (nI i) K V NN W C OW NX SR RD AD VA AT SC FY DC SK := by
  intro f
  induction f with
  | zero =>
    intro i DC hi hp
    obtain rfl : i = 64 := hi
    rw [wd_fl_e] at hp
    exact br_t (by decide) hp
  | succ f ih =>
    intro i DC hi hp
    have h2 : vp_in (nI i) 64 := vp_in_nI (by omega) (by decide)
    refine br_f (nI_ge (b := 64) (by omega) (by decide)) ⟨h2, nm_e (nm_r (nI_1 i) (ih (i + 1) _ (by omega) ?_))⟩
    rw [nI_clamp (by omega), wd_fl_s (by omega) rfl]
    exact hp
theorem wd_r50 {c th ar yp ra bh ov : Int32} {K V NN W C OW NX SR RD AD AT SC FY DC SK : Nat → Int32} (P : Int32 → SY → Prop) (x1 : Int32) : ∀ f i (VA : Nat → Int32), i + f = 192 → (∃ m, wY_run_75 P x1 c th ar yp ra bh ov m 0 K V NN W C OW NX SR RD AD (wd_fl 192 (fun _ => 0) i VA) AT SC FY DC SK) → wY_run_50 P x1 c th ar yp ra bh ov (f + 1) (nI i) K V NN W C OW NX SR RD AD VA AT SC FY DC SK := by
  intro f
  induction f with
  | zero =>
    intro i VA hi hp
    obtain rfl : i = 192 := hi
    rw [wd_fl_e] at hp
    exact br_t (by decide) hp
  | succ f ih =>
    intro i VA hi hp
    have h2 : vp_in (nI i) 192 := vp_in_nI (by omega) (by decide)
    refine br_f (nI_ge (b := 192) (by omega) (by decide)) ⟨h2, nm_e (nm_r (nI_1 i) (ih (i + 1) _ (by omega) ?_))⟩
    rw [nI_clamp (by omega), wd_fl_s (by omega) rfl]
    exact hp
/-- how many of the first T threads still go -/
def wd_un (F : Nat → Int32) : Nat → Nat
  | 0 => 0
  | t + 1 => wd_un F t + (if F t = 0 then 1 else 0)
theorem wd_un_le (F : Nat → Int32) : ∀ T, wd_un F T ≤ T := by
  intro T
  induction T with
  | zero => exact Nat.le_refl 0
  | succ T ih => rw [wd_un]; split <;> omega
theorem wd_un_k {F : Nat → Int32} {t : Nat} {x : Int32} : ∀ T, T ≤ t → wd_un (upd F t x) T = wd_un F T := by
  intro T
  induction T with
  | zero => intro _; rfl
  | succ T ih => intro h; rw [wd_un, wd_un, ih (by omega), pk_un (by omega)]
theorem wd_un_u {F : Nat → Int32} {t : Nat} (h0 : F t = 0) : ∀ T, t < T → wd_un (upd F t 1) T + 1 = wd_un F T := by
  intro T
  induction T with
  | zero => intro h; omega
  | succ T ih =>
    intro h
    rw [wd_un, wd_un]
    by_cases e : T = t
    · subst e
      rw [wd_un_k T (by omega), pk_us, h0, if_neg (by decide), if_pos rfl]
    · rw [pk_un e]
      have := ih (by omega)
      omega
theorem wd_un_0 {F : Nat → Int32} : ∀ T, wd_un F T = 0 → ∀ t, t < T → F t ≠ 0 := by
  intro T
  induction T with
  | zero => intro _ t h; omega
  | succ T ih =>
    intro h t ht
    rw [wd_un] at h
    by_cases e : t = T
    · intro z
      rw [e] at z
      rw [if_pos z] at h
      omega
    · exact ih (by omega) t (by omega)
theorem wd_un_n {F : Nat → Int32} : ∀ T, wd_un F T ≠ 0 → ∃ t, t < T ∧ F t = 0 := by
  intro T
  induction T with
  | zero => intro h; exact absurd rfl h
  | succ T ih =>
    intro h
    by_cases z : F T = 0
    · exact ⟨T, by omega, z⟩
    · rw [wd_un, if_neg z] at h
      obtain ⟨t, a, b⟩ := ih (by omega)
      exact ⟨t, by omega, b⟩
theorem wd_un_c {F G : Nat → Int32} : ∀ T, (∀ j, j < T → F j = G j) → wd_un F T = wd_un G T := by
  intro T
  induction T with
  | zero => intro _; rfl
  | succ T ih => intro h; rw [wd_un, wd_un, ih (fun j hj => h j (by omega)), h T (by omega)]
theorem wd_un_a {F : Nat → Int32} : ∀ T, (∀ j, j < T → F j = 0) → wd_un F T = T := by
  intro T
  induction T with
  | zero => intro _; rfl
  | succ T ih => intro h; rw [wd_un, ih (fun j hj => h j (by omega)), if_pos (h T (by omega))]
theorem wd_164 {c th ar yp ra bh ov : Int32} {K V NN W C OW NX SR RD AD VA AT SC FY DC SK : Nat → Int32} (P : Int32 → SY → Prop) (Jc : Int32 → Int32 → Int32 → Int32 → Int32 → Int32 → Int32 → Int32 → (Nat → Int32) → (Nat → Int32) → (Nat → Int32) → (Nat → Int32) → (Nat → Int32) → (Nat → Int32) → (Nat → Int32) → (Nat → Int32) → (Nat → Int32) → (Nat → Int32) → (Nat → Int32) → (Nat → Int32) → (Nat → Int32) → (Nat → Int32) → (Nat → Int32) → (Nat → Int32) → Prop) {T : Nat} (hT : T ≤ 32) (hp : Jc (nI (if wd_un FY T = 0 then 0 else 1)) c th ar yp ra bh ov K V NN W C OW NX SR RD AD VA AT SC FY DC SK) : ∀ f i, i + f = T → wY_run_164 P Jc (nI T) c th ar yp ra bh ov K V NN W C OW NX SR RD AD VA AT SC FY DC SK (f + 1) (nI (if wd_un FY i = 0 then 0 else 1)) (nI i) := by
  intro f
  induction f with
  | zero =>
    intro i hi
    obtain rfl : i = T := hi
    exact br_t (nI_le (by omega) (by omega)) hp
  | succ f ih =>
    intro i hi
    have N := ih (i + 1) (by omega)
    have h2 : vp_in (nI i) 32 := vp_in_nI (by omega) (by decide)
    refine br_f (nI_ge (by omega) (by omega)) ?_
    by_cases h0 : wd_un FY i = 0
    · rw [if_pos h0]
      by_cases z : FY i = 0
      · have e : wd_un FY (i + 1) = 1 := by rw [wd_un, h0, if_pos z]
        rw [e, if_neg (by decide)] at N
        exact br_t rfl ⟨h2, br_t (by rw [nI_clamp (by omega)]; exact z) (nm_r (nI_1 i) N)⟩
      · have e : wd_un FY (i + 1) = 0 := by rw [wd_un, h0, if_neg z]
        rw [e, if_pos rfl] at N
        exact br_t rfl ⟨h2, br_f (by rw [nI_clamp (by omega)]; exact z) (nm_r (nI_1 i) N)⟩
    · rw [if_neg h0]
      have e : wd_un FY (i + 1) ≠ 0 := by rw [wd_un]; omega
      rw [if_neg e] at N
      exact br_f (by decide) (nm_r (nI_1 i) N)
end
section
/-! the end of a phase: races, words, counters -/
theorem wd_two {x : Int32} {i j : Nat} (hij : i < j) (hj : j < 32) (hi1 : bt x i = true) (hj1 : bt x j = true) : ¬ x &&& (x - 1) = 0 := by
  intro h
  have e : bt (x &&& (x - 1)) j = bt 0 j := by rw [h]
  rw [b_and, b_0, hj1, Bool.true_and] at e
  have hX : x.toBitVec.toNat.testBit i = true := hi1
  have hY : x.toBitVec.toNat.testBit j = true := hj1
  have hr : x.toBitVec.toNat % 2 ^ j ≠ 0 := by
    intro z
    have := Nat.testBit_mod_two_pow x.toBitVec.toNat j i
    rw [z, hX, decide_eq_true hij, Nat.zero_testBit] at this
    exact absurd this (by decide)
  have h0 : 0 < x.toBitVec.toNat := by
    rcases Nat.eq_zero_or_pos x.toBitVec.toNat with z | z
    · rw [z, Nat.zero_testBit] at hX; exact absurd hX (by decide)
    · exact z
  have hs : (x - 1).toBitVec.toNat = x.toBitVec.toNat - 1 := by
    rw [Int32.toBitVec_sub, BitVec.toNat_sub]
    have hl := x.toBitVec.isLt
    show (2 ^ 32 - 1 + x.toBitVec.toNat) % 2 ^ 32 = x.toBitVec.toNat - 1
    omega
  have hd : (x.toBitVec.toNat - 1) / 2 ^ j = x.toBitVec.toNat / 2 ^ j := by
    generalize x.toBitVec.toNat = X at hr h0
    have hp : 0 < 2 ^ j := Nat.two_pow_pos j
    generalize 2 ^ j = d at hr hp
    have h1 := Nat.div_add_mod X d
    have h2 := Nat.mod_lt X hp
    rw [show X - 1 = (X % d - 1) + d * (X / d) by omega, Nat.add_mul_div_left _ _ hp, Nat.div_eq_of_lt (by omega)]
    omega
  have e2 : (x - 1).toBitVec.toNat.testBit j = true := by
    rw [hs, Nat.testBit_eq_decide_div_mod_eq, hd, ← Nat.testBit_eq_decide_div_mod_eq]
    exact hY
  have e3 : bt (x - 1) j = true := e2
  rw [e3] at e
  exact absurd e (by decide)
theorem wd_pow : ∀ i, i < 32 → wd_bit i &&& (wd_bit i - 1) = 0 := by decide +kernel
theorem wd_nz {x : Int32} (h : ¬ x = 0) : ∃ i, i < 32 ∧ bt x i = true := by
  by_cases e : ∃ i, i < 32 ∧ bt x i = true
  · exact e
  · exfalso
    apply h
    apply b_ext
    intro i hi
    rw [b_0]
    cases hb : bt x i
    · rfl
    · exact absurd ⟨i, hi, hb⟩ e
theorem wd_uni {x : Int32} (h : x &&& (x - 1) = 0) {i j : Nat} (hi : i < 32) (hj : j < 32) (hi1 : bt x i = true) (hj1 : bt x j = true) : i = j := by
  rcases Nat.lt_trichotomy i j with z | z | z
  · exact absurd h (wd_two z hj hi1 hj1)
  · exact z
  · exact absurd h (wd_two z hi hj1 hi1)
theorem wd_race {s r : Int32} (hs : ¬ s = 0) : ((s ||| r) &&& ((s ||| r) - 1) = 0) ↔ (s &&& (s - 1) = 0 ∧ r &&& (s ^^^ (-1)) = 0) := by
  obtain ⟨i, hi, hb⟩ := wd_nz hs
  constructor
  · intro h
    have hu : bt (s ||| r) i = true := by rw [b_or, hb, Bool.true_or]
    have es : s = wd_bit i := by
      apply b_ext
      intro j hj
      rw [wd_bbit hi]
      by_cases e : j = i
      · rw [e, hb, decide_eq_true rfl]
      · rw [decide_eq_false e]
        cases hb2 : bt s j
        · rfl
        · exact absurd (wd_uni h hj hi (by rw [b_or, hb2, Bool.true_or]) hu) e
    refine ⟨by rw [es]; exact wd_pow i hi, ?_⟩
    apply b_ext
    intro j hj
    rw [b_and, b_xor, b_m1 j hj, b_0]
    by_cases e : j = i
    · rw [e, hb]; exact Bool.and_false _
    · cases hb2 : bt r j
      · rfl
      · exact absurd (wd_uni h hj hi (by rw [b_or, hb2, Bool.or_true]) hu) e
  · intro ⟨h1, h2⟩
    have e : s ||| r = s := by
      apply b_ext
      intro j hj
      have e : bt (r &&& (s ^^^ (-1))) j = bt 0 j := by rw [h2]
      rw [b_and, b_xor, b_m1 j hj, b_0] at e
      rw [b_or]
      cases hb2 : bt r j
      · rw [Bool.or_false]
      · rw [hb2] at e
        cases hb3 : bt s j
        · rw [hb3] at e; exact absurd e (by decide)
        · rfl
    rw [e]
    exact h1
theorem wd_settle {ob ed od el th ar go ph yp : Int32} {K V J O ST VA PL SC FI DC NN OW NX AT FY : Nat → Int32} {c ov : Int32} {ySR yRD yAD : Nat → Int32} : ∀ f i (ra : Int32) (W C SR RD AD : Nat → Int32), i + f = 64 → (∀ j, i ≤ j → SR j = ySR j ∧ RD j = yRD j ∧ AD j = yAD j) → (∀ j, i ≤ j → j < 64 → NX j = if ySR j = 0 then W j else ST j) → ∃ (ra' : Int32) (W' C' : Nat → Int32),
    (∀ (be : Int32) (OP OM OD : Nat → Int32) (P : SX → Prop), P (c, ob, ed, od, el, be, th, ar, go, ph, ra', ov, K, V, J, O, W', C', ST, wd_fl 64 (fun _ => 0) i SR, wd_fl 64 (fun _ => 0) i RD, wd_fl 64 (fun _ => 0) i AD, OP, OM, OD, VA, PL, SC, FI, DC) → wX_settle_2 P c ob ed od el be th ar go ph ov (f + 1) (nI i) ra K V J O W C ST SR RD AD OP OM OD VA PL SC FI DC) ∧
    (∀ (bh : Int32) (SK : Nat → Int32) (Q : SY → Prop), Q (c, th, ar, yp, ra', bh, ov, K, V, NN, W', C', OW, NX, ySR, yRD, yAD, VA, AT, SC, FY, DC, SK) → wY_phase_168 Q c th ar yp bh ov (f + 1) (nI i) ra K V NN W C OW NX ySR yRD yAD VA AT SC FY DC SK) := by
  intro f
  induction f with
  | zero =>
    intro i ra W C SR RD AD hi h1 h2
    obtain rfl : i = 64 := hi
    refine ⟨ra, W, C, fun be OP OM OD P hp => ?_, fun bh SK Q hq => br_t (by decide) hq⟩
    rw [wd_fl_e, wd_fl_e, wd_fl_e] at hp
    exact br_t (by decide) hp
  | succ f ih =>
    intro i ra W C SR RD AD hi h1 h2
    have hin : vp_in (nI i) 64 := vp_in_nI (by omega) (by decide)
    have ci : (nI i).toNatClampNeg = i := nI_clamp (by omega)
    have ng : ¬ 64 ≤ nI i := nI_ge (b := 64) (by omega) (by decide)
    obtain ⟨e1, e2, e3⟩ := h1 i (by omega)
    have e4 := h2 i (by omega) (by omega)
    have NEXT := fun (ra1 : Int32) (W1 : Nat → Int32) (hW : ∀ j, i < j → W1 j = W j) => ih (i + 1) ra1 W1 (upd C i (C i + AD i)) (upd SR i 0) (upd RD i 0) (upd AD i 0) (by omega) (fun j hj => by rw [pk_un (by omega), pk_un (by omega), pk_un (by omega)]; exact h1 j (by omega)) (fun j hj hj2 => by rw [hW j (by omega)]; exact h2 j (by omega) hj2)
    have X71 : ∀ (ra1 : Int32) (W1 : Nat → Int32) (be : Int32) (OP OM OD : Nat → Int32) (P : SX → Prop), wX_settle_2 P c ob ed od el be th ar go ph ov (f + 1) (nI (i + 1)) ra1 K V J O W1 (upd C i (C i + AD i)) ST (upd SR i 0) (upd RD i 0) (upd AD i 0) OP OM OD VA PL SC FI DC → wX_settle_71 P (wX_settle_2 P c ob ed od el be th ar go ph ov (f + 1)) (nI i) c ob ed od el be th ar go ph ra1 ov K V J O W1 C ST SR RD AD OP OM OD VA PL SC FI DC := by
      intro ra1 W1 be OP OM OD P hN
      refine ⟨hin, hin, hin, nm_r (e' := upd C i (C i + AD i)) (by rw [ci]) ⟨hin, nm_r (e' := upd SR i 0) (by rw [ci]) ⟨hin, nm_r (e' := upd RD i 0) (by rw [ci]) ⟨hin, nm_r (e' := upd AD i 0) (by rw [ci]) (nm_r (nI_1 i) hN)⟩⟩⟩⟩
    have FL : ∀ (P : SX → Prop) (ra' : Int32) (W' C' : Nat → Int32) (be : Int32) (OP OM OD : Nat → Int32), P (c, ob, ed, od, el, be, th, ar, go, ph, ra', ov, K, V, J, O, W', C', ST, wd_fl 64 (fun _ => 0) i SR, wd_fl 64 (fun _ => 0) i RD, wd_fl 64 (fun _ => 0) i AD, OP, OM, OD, VA, PL, SC, FI, DC) → P (c, ob, ed, od, el, be, th, ar, go, ph, ra', ov, K, V, J, O, W', C', ST, wd_fl 64 (fun _ => 0) (i + 1) (upd SR i 0), wd_fl 64 (fun _ => 0) (i + 1) (upd RD i 0), wd_fl 64 (fun _ => 0) (i + 1) (upd AD i 0), OP, OM, OD, VA, PL, SC, FI, DC) := by
      intro P ra' W' C' be OP OM OD hp
      rw [wd_fl_s (by omega) rfl, wd_fl_s (by omega) rfl, wd_fl_s (by omega) rfl]
      exact hp
    have eC : upd C (nI i).toNatClampNeg (C (nI i).toNatClampNeg + yAD (nI i).toNatClampNeg) = upd C i (C i + AD i) := by rw [ci, e3]
    by_cases hs : SR i = 0
    · have hy : ySR i = 0 := by rw [← e1]; exact hs
      rw [if_pos hy] at e4
      obtain ⟨ra', W', C', hX, hY⟩ := NEXT ra W (fun _ _ => rfl)
      have eW : upd W (nI i).toNatClampNeg (NX (nI i).toNatClampNeg) = W := by rw [ci, e4]; exact wd_us rfl
      refine ⟨ra', W', C', fun be OP OM OD P hp => br_f ng ⟨hin, br_t (by rw [ci]; exact hs) (X71 ra W be OP OM OD P (hX be OP OM OD P (FL P ra' W' C' be OP OM OD hp)))⟩, fun bh SK Q hq => br_f ng ⟨hin, hin, nm_r eW ⟨hin, hin, hin, nm_r eC ⟨hin, nm_r (e' := 0) (by rw [ci]; exact hy) (br_t (by decide) (br_t rfl (br_t rfl (br_t rfl (nm_r (nI_1 i) (hY bh SK Q hq))))))⟩⟩⟩⟩
    · have hy : ¬ ySR i = 0 := by rw [← e1]; exact hs
      rw [if_neg hy] at e4
      have eWX : upd W (nI i).toNatClampNeg (ST (nI i).toNatClampNeg) = upd W i (ST i) := by rw [ci]
      have eWY : upd W (nI i).toNatClampNeg (NX (nI i).toNatClampNeg) = upd W i (ST i) := by rw [ci, e4]
      have eSY : ySR (nI i).toNatClampNeg = SR i := by rw [ci, e1]
      have eU : SR (nI i).toNatClampNeg ||| RD (nI i).toNatClampNeg = SR i ||| RD i := by rw [ci]
      have eR : yRD (nI i).toNatClampNeg = RD i := by rw [ci, e2]
      have nsX : ¬ SR (nI i).toNatClampNeg = 0 := by rw [ci]; exact hs
      have WR := wd_race (r := RD i) hs
      by_cases hr : (SR i ||| RD i) &&& ((SR i ||| RD i) - 1) = 0
      · obtain ⟨hr1, hr2⟩ := WR.mp hr
        obtain ⟨ra', W', C', hX, hY⟩ := NEXT ra (upd W i (ST i)) (fun j hj => pk_un (by omega))
        exact ⟨ra', W', C', fun be OP OM OD P hp => br_f ng ⟨hin, br_f nsX ⟨hin, hin, nm_r eWX ⟨hin, hin, nm_r eU (br_t hr (br_t rfl (X71 ra _ be OP OM OD P (hX be OP OM OD P (FL P ra' W' C' be OP OM OD hp)))))⟩⟩⟩, fun bh SK Q hq => br_f ng ⟨hin, hin, nm_r eWY ⟨hin, hin, hin, nm_r eC ⟨hin, nm_r eSY (br_t hr1 (br_f hs ⟨hin, br_t (by rw [eR]; exact hr2) (br_t rfl (br_t rfl (nm_r (nI_1 i) (hY bh SK Q hq))))⟩))⟩⟩⟩⟩
      · obtain ⟨ra', W', C', hX, hY⟩ := NEXT (ra + 1) (upd W i (ST i)) (fun j hj => pk_un (by omega))
        refine ⟨ra', W', C', fun be OP OM OD P hp => br_f ng ⟨hin, br_f nsX ⟨hin, hin, nm_r eWX ⟨hin, hin, nm_r eU (br_f hr (br_f (by decide) (nm_e (X71 (ra + 1) _ be OP OM OD P (hX be OP OM OD P (FL P ra' W' C' be OP OM OD hp))))))⟩⟩⟩, fun bh SK Q hq => br_f ng ⟨hin, hin, nm_r eWY ⟨hin, hin, hin, nm_r eC ⟨hin, nm_r eSY ?_⟩⟩⟩⟩
        by_cases hr1 : SR i &&& (SR i - 1) = 0
        · refine br_t hr1 (br_f hs ⟨hin, br_f ?_ (br_t rfl (br_f (by decide) (nm_e (nm_r (nI_1 i) (hY bh SK Q hq)))))⟩)
          rw [eR]
          exact fun z => hr (WR.mpr ⟨hr1, z⟩)
        · refine br_f hr1 (br_f hs ⟨hin, br_c (fun _ => br_f (by decide) (nm_e (nm_r (nI_1 i) (hY bh SK Q hq)))) fun _ => br_f (by decide) (nm_e (nm_r (nI_1 i) (hY bh SK Q hq)))⟩)
end
section
/-! a phase, both sides -/
def wd_TH (κ : Nat → Nat) (n T t k : Nat) (FI FY PL AT SC : Nat → Int32) : Prop := ∀ j, j < T → FI j = FY j ∧ (FI j = 0 → wd_Live κ n (if j < t then k + 1 else k) (SC j) (PL j) (AT j))
def wd_MP (t : Nat) (W SR ST NX : Nat → Int32) : Prop := ∀ c, c < 64 → NX c = (if SR c = 0 then W c else ST c) ∧ ∀ b, t ≤ b → bt (SR c) b = false
theorem wd_Live_m {κ : Nat → Nat} {n a b : Nat} {x y z : Int32} (h : wd_Live κ n a x y z) (hb : b ≤ a) : wd_Live κ n b x y z := by
  obtain ⟨p, st, h1, h2, h3⟩ := h
  exact ⟨p, st, h1, by omega, h3⟩
theorem wd_MP_s {t : Nat} {W SR ST NX : Nat → Int32} (h : wd_MP t W SR ST NX) : wd_MP (t + 1) W SR ST NX := fun c hc => ⟨(h c hc).1, fun b hb => (h c hc).2 b (by omega)⟩
theorem wd_MP_t {t : Nat} {W SR ST NX SR' ST' OW' : Nat → Int32} (h : wd_MP t W SR ST NX) (hM : wd_MI t W SR ST SR' ST' OW') : wd_MP (t + 1) W SR' ST' (wd_fl 64 (fun c => if bt (SR' c) t = true then OW' c else NX c) 0 NX) := by
  intro c hc
  obtain ⟨h1, h2⟩ := h c hc
  obtain ⟨m1, m2, m3⟩ := hM
  refine ⟨?_, fun b hb => ?_⟩
  · unfold wd_fl
    rw [if_pos (by omega)]
    show (if bt (SR' c) t = true then OW' c else NX c) = if SR' c = 0 then W c else ST' c
    by_cases hb : bt (SR' c) t = true
    · have nz : ¬ SR' c = 0 := by
        intro z
        rw [z, b_0] at hb
        exact absurd hb (by decide)
      rw [if_pos hb, m1 c hc, if_pos hb, if_neg nz]
    · obtain ⟨e1, e2⟩ := m3 c (Bool.eq_false_iff.mpr hb)
      rw [if_neg hb, e1, e2]
      exact h1
  · rw [m2 c b (by omega)]
    exact h2 b (by omega)
theorem wd_MI_0 {t : Nat} {W SR ST NX OW : Nat → Int32} (h : wd_MP t W SR ST NX) : wd_MI t W SR ST SR ST (wd_fl 64 W 0 OW) := by
  refine ⟨fun c hc => ?_, fun _ _ _ => rfl, fun _ _ => ⟨rfl, rfl⟩⟩
  rw [(h c hc).2 t (Nat.le_refl t), if_neg (by decide)]
  unfold wd_fl
  rw [if_pos (by omega)]
theorem wd_TH_s {κ : Nat → Nat} {n T t k st : Nat} {go go' : Int32} {FI FY PL AT SC FI' FY' PL' AT' SC' : Nat → Int32} (h : wd_TH κ n T t k FI FY PL AT SC) (hst : k ≤ st) (h0 : FI t = 0) (e : wd_End κ n t st go go' FI FY FI' FY' PL AT SC PL' AT' SC') : wd_TH κ n T (t + 1) k FI' FY' PL' AT' SC' := by
  obtain ⟨e1, e2⟩ := e
  intro j hj
  obtain ⟨h1, h2⟩ := h j hj
  by_cases ej : j = t
  · subst ej
    rcases e1 with ⟨_, rfl, rfl⟩ | ⟨_, rfl, rfl, hl⟩
    · rw [pk_us, pk_us]
      exact ⟨rfl, fun z => absurd z (by decide)⟩
    · refine ⟨h1, fun _ => ?_⟩
      rw [if_pos (by omega)]
      exact wd_Live_m hl (by omega)
  · obtain ⟨a, b, c⟩ := e2 j ej
    rw [a, b, c]
    have el : (if j < t + 1 then k + 1 else k) = if j < t then k + 1 else k := by
      by_cases z : j < t
      · rw [if_pos z, if_pos (by omega)]
      · rw [if_neg z, if_neg (by omega)]
    rw [el]
    rcases e1 with ⟨_, rfl, rfl⟩ | ⟨_, rfl, rfl, hl⟩
    · rw [pk_un ej, pk_un ej]
      exact ⟨h1, h2⟩
    · exact ⟨h1, h2⟩
theorem wd_TH_k {κ : Nat → Nat} {n T t k : Nat} {FI FY PL AT SC : Nat → Int32} (h : wd_TH κ n T t k FI FY PL AT SC) (h0 : FI t ≠ 0) : wd_TH κ n T (t + 1) k FI FY PL AT SC := by
  intro j hj
  obtain ⟨h1, h2⟩ := h j hj
  refine ⟨h1, fun z => ?_⟩
  have ej : j ≠ t := fun w => h0 (by rw [← w]; exact z)
  have el : (if j < t + 1 then k + 1 else k) = if j < t then k + 1 else k := by
    by_cases z : j < t
    · rw [if_pos z, if_pos (by omega)]
    · rw [if_neg z, if_neg (by omega)]
  rw [el]
  exact h2 z
theorem wd_go {κ : Nat → Nat} {n T t st : Nat} {go' : Int32} {FI FY PL AT SC FI' FY' PL' AT' SC' : Nat → Int32} (ht : t < T) (hT : T ≤ 32) (h0 : FI t = 0) (e : wd_End κ n t st (nI (wd_un FI T)) go' FI FY FI' FY' PL AT SC PL' AT' SC') : go' = nI (wd_un FI' T) := by
  rcases e.1 with ⟨h1, rfl, _⟩ | ⟨h1, rfl, _⟩
  · rw [h1, ← wd_un_u h0 T ht, nI_pred]
  · exact h1
set_option maxHeartbeats 1600000 in
theorem wd_thl {ob ed od el ar ph ra yp : Int32} {K V J O W C NN : Nat → Int32} {κ : Nat → Nat} {n T k : Nat} (hK : wd_tok κ K V) (hn : n ≤ 64) (hpr : wd_prog κ n J) (hT : T ≤ 32) : ∀ f t (ov : Int32) (VA ST SR RD AD DC PL AT SC FI FY OW NX : Nat → Int32), t + f = T → wd_TH κ n T t k FI FY PL AT SC → wd_MP t W SR ST NX → wd_Z SR RD AD →
   ∃ (ov' : Int32) (VA' ST' SR' RD' AD' DC' PL' AT' SC' FI' FY' OW' NX' : Nat → Int32), wd_TH κ n T T k FI' FY' PL' AT' SC' ∧ wd_MP T W SR' ST' NX' ∧ wd_Z SR' RD' AD' ∧
    (∀ (be : Int32) (OP OM OD : Nat → Int32) (P : Int32 → SX → Prop) (Jc : Int32 → Int32 → Int32 → Int32 → Int32 → Int32 → Int32 → Int32 → Int32 → Int32 → Int32 → Int32 → Int32 → (Nat → Int32) → (Nat → Int32) → (Nat → Int32) → (Nat → Int32) → (Nat → Int32) → (Nat → Int32) → (Nat → Int32) → (Nat → Int32) → (Nat → Int32) → (Nat → Int32) → (Nat → Int32) → (Nat → Int32) → (Nat → Int32) → (Nat → Int32) → (Nat → Int32) → (Nat → Int32) → (Nat → Int32) → (Nat → Int32) → Prop) (x3 : Int32), (∀ be' OP' OM' OD', wX_run_46 P Jc (nI T) x3 1 (nI T) (nI n) ob ed od el be' (nI T) ar (nI (wd_un FI' T)) ph ra ov' K V J O W C ST' SR' RD' AD' OP' OM' OD' VA' PL' SC' FI' DC') → wX_run_46 P Jc (nI T) x3 (f + 1) (nI t) (nI n) ob ed od el be (nI T) ar (nI (wd_un FI T)) ph ra ov K V J O W C ST SR RD AD OP OM OD VA PL SC FI DC) ∧
    (∀ (bh : Int32) (SK : Nat → Int32) (P : SY → Prop), (∀ bh' SK', wY_phase_59 P 1 (nI T) (nI n) (nI T) ar yp ra bh' ov' K V NN W C OW' NX' SR' RD' AD' VA' AT' SC' FY' DC' SK') → wY_phase_59 P (f + 1) (nI t) (nI n) (nI T) ar yp ra bh ov K V NN W C OW NX SR RD AD VA AT SC FY DC SK) := by
  intro f
  induction f with
  | zero =>
    intro t ov VA ST SR RD AD DC PL AT SC FI FY OW NX hi hTH hMP hZ
    obtain rfl : t = T := hi
    exact ⟨ov, VA, ST, SR, RD, AD, DC, PL, AT, SC, FI, FY, OW, NX, hTH, hMP, hZ, fun be OP OM OD P Jc x3 hp => hp _ _ _ _, fun bh SK P hp => hp _ _⟩
  | succ f ih =>
    intro t ov VA ST SR RD AD DC PL AT SC FI FY OW NX hi hTH hMP hZ
    have ng : ¬ nI T ≤ nI t := nI_ge (by omega) (by omega)
    have it : vp_in (nI t) 32 := vp_in_nI (by omega) (by decide)
    have ct : (nI t).toNatClampNeg = t := nI_clamp (by omega)
    obtain ⟨hF, hL⟩ := hTH t (by omega)
    by_cases h0 : FI t = 0
    · obtain ⟨p, st, hS, hlo, h300, hP, hA, hpn, hb⟩ := hL h0
      rw [if_neg (by omega)] at hlo
      obtain ⟨go1, ov1, VA1, ST1, SR1, RD1, AD1, OW1, DC1, FI1, FY1, PL1, AT1, SC1, e, hM1, hZ1, eX, eY⟩ := wd_adv (th := nI T) (go := nI (wd_un FI T)) (ob := ob) (ed := ed) (od := od) (el := el) (ar := ar) (ph := ph) (ra := ra) (ov := ov) (yp := yp) (K := K) (V := V) (J := J) (O := O) (W := W) (C := C) (FI := FI) (NN := NN) (NX := NX) (FY := FY) hK hn hpr (by omega) 300 0 p st VA ST SR RD AD (wd_fl 64 W 0 OW) DC PL AT SC (by omega) hS (by omega) h300 hP hA hpn hb (wd_MI_0 hMP) hZ
      obtain rfl := wd_go (by omega) hT h0 e
      obtain ⟨ov', VA', ST', SR', RD', AD', DC', PL', AT', SC', FI', FY', OW', NX', r1, r2, r3, rX, rY⟩ := ih (t + 1) ov1 VA1 ST1 SR1 RD1 AD1 DC1 PL1 AT1 SC1 FI1 FY1 OW1 (wd_fl 64 (fun c => if bt (SR1 c) t = true then OW1 c else NX c) 0 NX) (by omega) (wd_TH_s hTH hlo h0 e) (wd_MP_t hMP hM1) hZ1
      refine ⟨ov', VA', ST', SR', RD', AD', DC', PL', AT', SC', FI', FY', OW', NX', r1, r2, r3, fun be OP OM OD P Jc x3 hp => ?_, fun bh SK P hp => ?_⟩
      · exact br_f ng ⟨it, br_t (by rw [ct]; exact h0) ⟨301, eX be OP OM OD _ fun be' OP' OM' OD' => nm_r (nI_1 t) (rX be' OP' OM' OD' P Jc x3 hp)⟩⟩
      · obtain ⟨N, hN⟩ := eY P (wY_phase_59 P (f + 1)) ⟨1, fun m hm bh SK => by
          obtain ⟨m, rfl⟩ : ∃ x, m = x + 1 := ⟨m - 1, by omega⟩
          exact br_t rfl ⟨65, wd_122 P _ (by omega) _ 64 0 NX rfl (fun c _ _ => rfl) (rY bh SK P hp)⟩⟩
        exact br_f ng ⟨it, br_t (by rw [ct, ← hF]; exact h0) ⟨65, wd_81 P _ _ 64 0 OW rfl ⟨N, hN N (Nat.le_refl N) bh SK⟩⟩⟩
    · obtain ⟨ov', VA', ST', SR', RD', AD', DC', PL', AT', SC', FI', FY', OW', NX', r1, r2, r3, rX, rY⟩ := ih (t + 1) ov VA ST SR RD AD DC PL AT SC FI FY OW NX (by omega) (wd_TH_k hTH h0) (wd_MP_s hMP) hZ
      exact ⟨ov', VA', ST', SR', RD', AD', DC', PL', AT', SC', FI', FY', OW', NX', r1, r2, r3, fun be OP OM OD P Jc x3 hp => br_f ng ⟨it, br_f (by rw [ct]; exact h0) (nm_r (nI_1 t) (rX be OP OM OD P Jc x3 hp))⟩, fun bh SK P hp => br_f ng ⟨it, br_f (by rw [ct, ← hF]; exact h0) (nm_r (nI_1 t) (rY bh SK P hp))⟩⟩
theorem wd_fl0 {A : Nat → Int32} (h : ∀ j, 64 ≤ j → A j = 0) : wd_fl 64 (fun _ => 0) 0 A = fun _ => 0 := by
  funext j
  unfold wd_fl
  by_cases z : j < 64
  · rw [if_pos (by omega)]
  · rw [if_neg (by omega)]
    exact h j (by omega)
set_option maxHeartbeats 1600000 in
theorem wd_phs {ob ed od el ar ph ra yp : Int32} {K V J O W C ST VA PL SC FI DC NN OW NX AT FY ySR yRD yAD : Nat → Int32} {ov : Int32} {κ : Nat → Nat} {n T k : Nat} (hK : wd_tok κ K V) (hn : n ≤ 64) (hpr : wd_prog κ n J) (hT : T ≤ 32) (hTH : wd_TH κ n T 0 k FI FY PL AT SC) (hZ : wd_Z ySR yRD yAD) :
   ∃ (ra' ov' : Int32) (W' C' VA' ST' SR' RD' AD' DC' PL' AT' SC' FI' FY' OW' NX' : Nat → Int32), wd_TH κ n T 0 (k + 1) FI' FY' PL' AT' SC' ∧ wd_Z SR' RD' AD' ∧
    (∀ (be : Int32) (OP OM OD : Nat → Int32) (P : Int32 → SX → Prop) (Jc : Int32 → Int32 → Int32 → Int32 → Int32 → Int32 → Int32 → Int32 → Int32 → Int32 → Int32 → Int32 → Int32 → (Nat → Int32) → (Nat → Int32) → (Nat → Int32) → (Nat → Int32) → (Nat → Int32) → (Nat → Int32) → (Nat → Int32) → (Nat → Int32) → (Nat → Int32) → (Nat → Int32) → (Nat → Int32) → (Nat → Int32) → (Nat → Int32) → (Nat → Int32) → (Nat → Int32) → (Nat → Int32) → (Nat → Int32) → (Nat → Int32) → Prop), (∀ be' OP' OM' OD', Jc (nI (k + 1)) (nI n) ob ed od el be' (nI T) ar (nI (wd_un FI' T)) (ph + 1) ra' ov' K V J O W' C' ST' ((fun _ => 0)) ((fun _ => 0)) ((fun _ => 0)) OP' OM' OD' VA' PL' SC' FI' DC') → wX_run_46 P Jc (nI T) (nI k) (T + 1) 0 (nI n) ob ed od el be (nI T) ar (nI (wd_un FI T)) ph ra ov K V J O W C ST ((fun _ => 0)) ((fun _ => 0)) ((fun _ => 0)) OP OM OD VA PL SC FI DC) ∧
    (∀ (bh : Int32) (SK : Nat → Int32) (P : SY → Prop), (∀ bh' SK', P (nI n, nI T, ar, yp + 1, ra', bh', ov', K, V, NN, W', C', OW', NX', SR', RD', AD', VA', AT', SC', FY', DC', SK')) → wpY_phase P (nI n, nI T, ar, yp, ra, bh, ov, K, V, NN, W, C, OW, NX, ySR, yRD, yAD, VA, AT, SC, FY, DC, SK)) := by
  have f1 := wd_fl0 (fun j hj => (hZ j hj).1)
  have f2 := wd_fl0 (fun j hj => (hZ j hj).2.1)
  have f3 := wd_fl0 (fun j hj => (hZ j hj).2.2)
  have hMP : wd_MP 0 W (fun _ => 0) ST (wd_fl 64 W 0 NX) := by
    intro c hc
    refine ⟨?_, fun b _ => b_0 b⟩
    unfold wd_fl
    rw [if_pos (by omega), if_pos rfl]
  obtain ⟨ov', VA', ST', SR', RD', AD', DC', PL', AT', SC', FI', FY', OW', NX', r1, r2, r3, rX, rY⟩ := wd_thl (yp := yp + 1) (ob := ob) (ed := ed) (od := od) (el := el) (ar := ar) (ph := ph) (ra := ra) (K := K) (V := V) (J := J) (O := O) (W := W) (C := C) (NN := NN) hK hn hpr hT T 0 ov VA ST (fun _ => 0) (fun _ => 0) (fun _ => 0) DC PL AT SC FI FY OW (wd_fl 64 W 0 NX) (by omega) hTH hMP (fun _ _ => ⟨rfl, rfl, rfl⟩)
  obtain ⟨ra', W', C', sX, sY⟩ := wd_settle (c := nI n) (th := nI T) (go := nI (wd_un FI' T)) (ov := ov') (yp := yp + 1) (VA := VA') (ST := ST') (DC := DC') (PL := PL') (AT := AT') (SC := SC') (FI := FI') (FY := FY') (OW := OW') (NX := NX') (ySR := SR') (yRD := RD') (yAD := AD') (ob := ob) (ed := ed) (od := od) (el := el) (ar := ar) (ph := ph) (K := K) (V := V) (J := J) (O := O) (NN := NN) 64 0 ra W C SR' RD' AD' rfl (fun _ _ => ⟨rfl, rfl, rfl⟩) (fun j _ hj => (r2 j hj).1)
  rw [wd_fl0 (fun j hj => (r3 j hj).1), wd_fl0 (fun j hj => (r3 j hj).2.1), wd_fl0 (fun j hj => (r3 j hj).2.2)] at sX
  refine ⟨ra', ov', W', C', VA', ST', SR', RD', AD', DC', PL', AT', SC', FI', FY', OW', NX', ?_, r3, fun be OP OM OD P Jc hp => ?_, fun bh SK P hp => ?_⟩
  · intro j hj
    obtain ⟨h1, h2⟩ := r1 j hj
    rw [if_pos hj] at h2
    rw [if_neg (by omega)]
    exact ⟨h1, h2⟩
  · exact rX be OP OM OD P Jc (nI k) fun be' OP' OM' OD' => br_t (nI_le (Nat.le_refl T) (by omega)) ⟨65, sX be' OP' OM' OD' _ (nm_e (nm_r (nI_1 k) (hp _ _ _ _)))⟩
  · refine nm_e ⟨65, wd_12 P 64 0 NX ySR yRD yAD rfl ⟨T + 1, ?_⟩⟩
    rw [f1, f2, f3]
    exact rY bh SK P fun bh' SK' => br_t (nI_le (Nat.le_refl T) (by omega)) ⟨65, sY bh' SK' P (hp _ _)⟩
end
section
/-! run -/
set_option maxHeartbeats 1600000 in
theorem wd_rl {ob ed od el ar : Int32} {K V J O NN : Nat → Int32} {κ : Nat → Nat} {n T : Nat} (hK : wd_tok κ K V) (hn : n ≤ 64) (hpr : wd_prog κ n J) (hT : T ≤ 32) : ∀ f k (ph ra ov : Int32) (W C VA ST DC PL AT SC FI FY OW NX ySR yRD yAD : Nat → Int32), k + f = 301 → wd_TH κ n T 0 k FI FY PL AT SC → wd_Z ySR yRD yAD →
   ∃ (go' ph' ra' ov' : Int32) (W' C' VA' ST' DC' PL' AT' SC' FI' FY' OW' NX' SR' RD' AD' : Nat → Int32), wd_Z SR' RD' AD' ∧
    (∀ (be : Int32) (OP OM OD : Nat → Int32) (P : Int32 → SX → Prop), (∀ be' OP' OM' OD', wX_run_94 P (nI n) ob ed od el be' (nI T) ar go' ph' ra' ov' K V J O W' C' ST' ((fun _ => 0)) ((fun _ => 0)) ((fun _ => 0)) OP' OM' OD' VA' PL' SC' FI' DC') → wX_run_29 P (nI T) (f + 1) (nI k) (nI n) ob ed od el be (nI T) ar (nI (wd_un FI T)) ph ra ov K V J O W C ST ((fun _ => 0)) ((fun _ => 0)) ((fun _ => 0)) OP OM OD VA PL SC FI DC) ∧
    (∀ (bh : Int32) (SK : Nat → Int32) (Q : Int32 → SY → Prop), (∀ bh' SK', (ov' = 0 → Q 0 (nI n, nI T, ar, ph', ra', bh', ov', K, V, NN, W', C', OW', NX', SR', RD', AD', VA', AT', SC', FY', DC', SK')) ∧ (¬ ov' = 0 → Q 1 (nI n, nI T, ar, ph', ra', bh', ov', K, V, NN, W', C', OW', NX', SR', RD', AD', VA', AT', SC', FY', DC', SK'))) → wY_run_149 Q (nI T) (f + 1) (nI (if wd_un FY T = 0 then 0 else 1)) (nI n) (nI T) ar ph ra bh ov K V NN W C OW NX ySR yRD yAD VA AT SC FY DC SK) := by
  intro f
  induction f with
  | zero =>
    intro k ph ra ov W C VA ST DC PL AT SC FI FY OW NX ySR yRD yAD hk hTH hZ
    obtain rfl : k = 301 := hk
    have h0 : wd_un FI T = 0 := by
      by_cases z : wd_un FI T = 0
      · exact z
      · obtain ⟨t, ht, hf⟩ := wd_un_n T z
        obtain ⟨p, st, h1, h2, h3, _⟩ := (hTH t ht).2 hf
        rw [if_neg (by omega)] at h2
        omega
    have hy : wd_un FY T = 0 := by rw [← wd_un_c T (fun j hj => (hTH j hj).1)]; exact h0
    refine ⟨nI (wd_un FI T), ph, ra, ov, W, C, VA, ST, DC, PL, AT, SC, FI, FY, OW, NX, ySR, yRD, yAD, hZ, fun be OP OM OD P hp => br_t (by decide) (hp _ _ _ _), fun bh SK Q hq => ?_⟩
    rw [if_pos hy]
    exact br_t rfl (hq _ _)
  | succ f ih =>
    intro k ph ra ov W C VA ST DC PL AT SC FI FY OW NX ySR yRD yAD hk hTH hZ
    have nk : ¬ 300 < nI k := nI_nlt (a := 300) (by omega) (by decide)
    have hc : wd_un FI T = wd_un FY T := wd_un_c T (fun j hj => (hTH j hj).1)
    have hle := wd_un_le FI T
    by_cases h0 : wd_un FI T = 0
    · refine ⟨nI (wd_un FI T), ph, ra, ov, W, C, VA, ST, DC, PL, AT, SC, FI, FY, OW, NX, ySR, yRD, yAD, hZ, fun be OP OM OD P hp => br_f nk (br_t (by rw [h0]; decide) (hp _ _ _ _)), fun bh SK Q hq => ?_⟩
      rw [if_pos (by rw [← hc]; exact h0)]
      exact br_t rfl (hq _ _)
    · obtain ⟨ra1, ov1, W1, C1, VA1, ST1, SR1, RD1, AD1, DC1, PL1, AT1, SC1, FI1, FY1, OW1, NX1, t1, t2, tX, tY⟩ := wd_phs (yp := ph) (ob := ob) (ed := ed) (od := od) (el := el) (ar := ar) (ph := ph) (ra := ra) (ov := ov) (K := K) (V := V) (J := J) (O := O) (W := W) (C := C) (ST := ST) (VA := VA) (PL := PL) (SC := SC) (FI := FI) (DC := DC) (NN := NN) (OW := OW) (NX := NX) (AT := AT) (FY := FY) (ySR := ySR) (yRD := yRD) (yAD := yAD) hK hn hpr hT hTH hZ
      obtain ⟨go', ph', ra', ov', W', C', VA', ST', DC', PL', AT', SC', FI', FY', OW', NX', SR', RD', AD', r1, rX, rY⟩ := ih (k + 1) (ph + 1) ra1 ov1 W1 C1 VA1 ST1 DC1 PL1 AT1 SC1 FI1 FY1 OW1 NX1 SR1 RD1 AD1 (by omega) t1 t2
      refine ⟨go', ph', ra', ov', W', C', VA', ST', DC', PL', AT', SC', FI', FY', OW', NX', SR', RD', AD', r1, fun be OP OM OD P hp => br_f nk (br_f (nI_nle (by omega) (by omega)) ⟨T + 1, tX be OP OM OD P _ fun be' OP' OM' OD' => rX be' OP' OM' OD' P hp⟩), fun bh SK Q hq => ?_⟩
      rw [if_neg (by rw [← hc]; exact h0)]
      refine br_f (by decide) (tY bh SK _ fun bh' SK' => ?_)
      exact ⟨T + 1, wd_164 Q (wY_run_149 Q (nI T) (f + 1)) hT (rY bh' SK' Q hq) T 0 (by omega)⟩
theorem wd_fll {e j : Nat} {A B : Nat → Int32} (h : j < e) : wd_fl e A 0 B j = A j := by
  unfold wd_fl
  rw [if_pos (by omega)]
set_option maxHeartbeats 1600000 in
theorem i_vc_run {k : Nat} {u : SX} {v : SY} (I : i_Rel k u v) (hk : k + 3 ≤ 1536) (v1 : Int32) (v2 : Int32) : wpX_run (fun r u' => wpY_run (fun r' v' => r' = r ∧ i_Rel (k + 3) u' v') v v1 v2) u v1 v2 := by
  obtain ⟨n, T0, κ, ob, ed, od, el, be, ar, go, ph, ra, ov, bh, K, V, J, O, W, C, ST, SR, RD, AD, OP, OM, OD, VA, PL, SC, FI, DC, NN, OW, NX, ySR, yRD, yAD, AT, FY, SK, rfl, rfl, h3, h4, h5, h6, _⟩ := I
  obtain ⟨r, ob', ed', od', el', J', O', NN', hX, hY, hr⟩ := wd_ff (th := nI T0) (yp := ph) (ob := ob) (ed := ed) (od := od) (el := el) (be := be) (ar := ar) (go := go) (ph := ph) (ra := ra) (ov := ov) (bh := bh) (K := K) (V := V) (J := J) (O := O) (W := W) (C := C) (ST := ST) (SR := SR) (RD := RD) (AD := AD) (OP := OP) (OM := OM) (OD := OD) (VA := VA) (PL := PL) (SC := SC) (FI := FI) (DC := DC) (NN := NN) (OW := OW) (NX := NX) (AT := AT) (FY := FY) (SK := SK) (ySR := ySR) (yRD := yRD) (yAD := yAD) h5 h3
  have R0 : i_Rel (k + 3) (nI n, ob, ed, od, el, be, nI T0, ar, go, ph, ra, ov, K, V, J, O, W, C, ST, SR, RD, AD, OP, OM, OD, VA, PL, SC, FI, DC) (nI n, nI T0, ar, ph, ra, bh, ov, K, V, NN', W, C, OW, NX, ySR, yRD, yAD, VA, AT, SC, FY, DC, SK) := ⟨n, T0, κ, ob, ed, od, el, be, ar, go, ph, ra, ov, bh, K, V, J, O, W, C, ST, SR, RD, AD, OP, OM, OD, VA, PL, SC, FI, DC, NN', OW, NX, ySR, yRD, yAD, AT, FY, SK, rfl, rfl, h3, h4, h5, h6, rfl⟩
  have R1 : i_Rel (k + 3) (nI n, ob', ed', od', el', be, nI T0, ar, go, ph, ra, ov, K, V, J', O', W, C, ST, SR, RD, AD, OP, OM, OD, VA, PL, SC, FI, DC) (nI n, nI T0, ar, ph, ra, bh, ov, K, V, NN', W, C, OW, NX, ySR, yRD, yAD, VA, AT, SC, FY, DC, SK) := ⟨n, T0, κ, ob', ed', od', el', be, ar, go, ph, ra, ov, bh, K, V, J', O', W, C, ST, SR, RD, AD, OP, OM, OD, VA, PL, SC, FI, DC, NN', OW, NX, ySR, yRD, yAD, AT, FY, SK, rfl, rfl, h3, h4, h5, h6, rfl⟩
  by_cases g1 : v1 < 1
  · exact br_t g1 (hY _ (br_t g1 ⟨rfl, R0⟩))
  · by_cases g2 : 32 < v1
    · exact br_f g1 (br_t g2 (hY _ (br_f g1 (br_t g2 ⟨rfl, R0⟩))))
    · refine br_f g1 (br_f g2 (hX _ ?_))
      rcases hr with ⟨rfl, hpr⟩ | ⟨j, hj, rfl⟩
      · have n0 : ¬ v1 < 0 := fun z => g1 (Int32.lt_trans z (by decide))
        obtain ⟨T, hT, rfl⟩ := nI_of2 (M := 32) (n := 32) (by decide) n0 (Int32.not_lt.mp g2)
        have hT1 : 1 ≤ T := by
          rcases Nat.eq_zero_or_pos T with z | z
          · subst z; exact absurd (by decide) g1
          · exact z
        have eSR : SR = fun _ => 0 := funext fun j => (h6.1 j).1
        have eRD : RD = fun _ => 0 := funext fun j => (h6.1 j).2.1
        have eAD : AD = fun _ => 0 := funext fun j => (h6.1 j).2.2
        subst eSR eRD eAD
        have hTH : wd_TH κ n T 0 0 (wd_fl 32 (fun _ => 0) 0 FI) (wd_fl 32 (fun j => if j < T then 0 else 1) 0 FY) (wd_fl 32 (fun _ => 0) 0 PL) (wd_fl 32 (fun _ => 0) 0 AT) (wd_fl 32 (fun _ => 0) 0 SC) := by
          intro j hj
          rw [wd_fll (by omega), wd_fll (by omega), wd_fll (by omega), wd_fll (by omega), wd_fll (by omega), if_pos hj]
          exact ⟨rfl, fun _ => ⟨0, 0, rfl, by rw [if_neg (by omega)]; exact Nat.le_refl 0, by omega, rfl, rfl, by omega, rfl⟩⟩
        obtain ⟨go', ph', ra', ov', W', C', VA', ST', DC', PL', AT', SC', FI', FY', OW', NX', SR', RD', AD', r1, rX, rY⟩ := wd_rl (ob := ob') (ed := ed') (od := od') (el := el') (J := J') (O := O') (NN := NN') (ar := v2) (K := K) (V := V) h5 h3 hpr hT 301 0 0 0 0 W C (wd_fl 192 (fun _ => 0) 0 VA) ST (wd_fl 64 (fun _ => 0) 0 DC) (wd_fl 32 (fun _ => 0) 0 PL) (wd_fl 32 (fun _ => 0) 0 AT) (wd_fl 32 (fun _ => 0) 0 SC) (wd_fl 32 (fun _ => 0) 0 FI) (wd_fl 32 (fun j => if j < T then 0 else 1) 0 FY) OW NX ySR yRD yAD (by omega) hTH h6.2
        have u1 : wd_un (wd_fl 32 (fun _ => 0) 0 FI) T = T := wd_un_a T (fun j hj => wd_fll (by omega))
        have u2 : wd_un (wd_fl 32 (fun j => if j < T then 0 else 1) 0 FY) T = T := wd_un_a T (fun j hj => by rw [wd_fll (by omega), if_pos hj])
        rw [u1] at rX
        rw [u2, if_neg (by omega)] at rY
        have FY_ : ∀ Q : Int32 → SY → Prop, (∀ bh' SK', (ov' = 0 → Q 0 (nI n, nI T, v2, ph', ra', bh', ov', K, V, NN', W', C', OW', NX', SR', RD', AD', VA', AT', SC', FY', DC', SK')) ∧ (¬ ov' = 0 → Q 1 (nI n, nI T, v2, ph', ra', bh', ov', K, V, NN', W', C', OW', NX', SR', RD', AD', VA', AT', SC', FY', DC', SK'))) → wpY_run Q (nI n, nI T0, ar, ph, ra, bh, ov, K, V, NN, W, C, OW, NX, ySR, yRD, yAD, VA, AT, SC, FY, DC, SK) (nI T) v2 := fun Q hq => hY _ (br_f g1 (br_f g2 (br_t (by decide) ⟨193, wd_r50 Q _ 192 0 VA rfl ⟨65, wd_r75 Q _ 64 0 DC rfl ⟨33, wd_r99 Q hT 32 0 AT SC FY rfl ⟨302, rY _ _ Q hq⟩⟩⟩⟩)))
        refine br_t rfl (wd_srX _ _ _ ⟨302, rX _ _ _ _ _ fun be' OP' OM' OD' => ?_⟩)
        have RR : ∀ bh' SK', i_Rel (k + 3) (nI n, ob', ed', od', el', be', nI T, v2, go', ph', ra', ov', K, V, J', O', W', C', ST', (fun _ => 0), (fun _ => 0), (fun _ => 0), OP', OM', OD', VA', PL', SC', FI', DC') (nI n, nI T, v2, ph', ra', bh', ov', K, V, NN', W', C', OW', NX', SR', RD', AD', VA', AT', SC', FY', DC', SK') := fun bh' SK' => ⟨n, T, κ, ob', ed', od', el', be', v2, go', ph', ra', ov', bh', K, V, J', O', W', C', ST', (fun _ => 0), (fun _ => 0), (fun _ => 0), OP', OM', OD', VA', PL', SC', FI', DC', NN', OW', NX', SR', RD', AD', AT', FY', SK', rfl, rfl, h3, hT, h5, ⟨fun j => ⟨rfl, rfl, rfl⟩, r1⟩, rfl⟩
        by_cases ho : ov' = 0
        · exact br_t ho (FY_ _ fun bh' SK' => br_t ho ⟨rfl, RR bh' SK'⟩)
        · exact br_f ho (FY_ _ fun bh' SK' => br_f ho ⟨rfl, RR bh' SK'⟩)
      · have nm : ¬ nI j = -1 := fun z => absurd (nI_pos (n := j) (by omega)) (by rw [z]; decide)
        exact br_f nm (hY _ (br_f g1 (br_f g2 (br_f (nI_pos (by omega)) ⟨rfl, R1⟩))))
end
