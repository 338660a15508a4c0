/-! the pure picture: kinds as naturals, arities, the relation between calls -/
def wd_ar (k : Nat) : Nat := if k < 15 then 0 else if k < 17 then 1 else if k = 29 then 1 else if k = 30 then 1 else if k = 31 then 3 else 2
def wd_ex (k : Nat) : Nat := if k = 1 then 2 else if k = 2 then 2 else if k = 0 then 1 else if k = 3 then 1 else if k = 6 then 1 else 0
def wd_kind (k : Nat) : Prop := k ≤ 8 ∨ (10 ≤ k ∧ k ≤ 16) ∨ (20 ≤ k ∧ k ≤ 31)
def wd_tok (κ : Nat → Nat) (K V : Nat → Int32) : Prop := ∀ i, K i = nI (κ i) ∧ wd_kind (κ i) ∧ ((κ i = 0 ∨ κ i = 11) → ∃ w, w < 6 ∧ V i = nI w)
def i_Rel (k : Nat) (u : SX) (v : SY) : Prop := ∃ (n T : Nat) (κ : Nat → Nat), ∃ (ob ed od el be ar go ph ra ov bh : Int32) (K V J O W C ST SR RD AD OP OM OD VA PL SC FI DC NN OW NX ySR yRD yAD AT FY SK : Nat → Int32),
  u = (nI n, ob, ed, od, el, be, nI T, ar, go, ph, ra, ov, K, V, J, O, W, C, ST, SR, RD, AD, OP, OM, OD, VA, PL, SC, FI, DC) ∧ v = (nI n, nI T, ar, ph, ra, bh, ov, K, V, NN, W, C, OW, NX, ySR, yRD, yAD, VA, AT, SC, FY, DC, SK) ∧ n ≤ 64 ∧ T ≤ 32 ∧ wd_tok κ K V ∧ ((∀ j, SR j = 0 ∧ RD j = 0 ∧ AD j = 0) ∧ ∀ j, 64 ≤ j → ySR j = 0 ∧ yRD j = 0 ∧ yAD j = 0) ∧ k = k
theorem i_up {k : Nat} {u : SX} {v : SY} (h : i_Rel k u v) : i_Rel (k + 3) u v := by
  obtain ⟨n, T, κ, ob, ed, od, el, be, ar, go, ph, ra, ov, bh, K, V, J, O, W, C, ST, SR, RD, AD, OP, OM, OD, VA, PL, SC, FI, DC, NN, OW, NX, ySR, yRD, yAD, AT, FY, SK, h1, h2, h3, h4, h5, h6, _⟩ := h
  exact ⟨n, T, κ, ob, ed, od, el, be, ar, go, ph, ra, ov, bh, K, V, J, O, W, C, ST, SR, RD, AD, OP, OM, OD, VA, PL, SC, FI, DC, NN, OW, NX, ySR, yRD, yAD, AT, FY, SK, h1, h2, h3, h4, h5, h6, rfl⟩
theorem i_vc0 : wpX_init (fun u => wpY_init (fun v => i_Rel 0 u v)) := by
  refine ⟨0, 0, fun _ => 0, 0, 0, 0, 0, 0, 0, 0, 0, 0, 0, 0, fun _ => 0, fun _ => 0, fun _ => 0, fun _ => 0, fun _ => 0, fun _ => 0, fun _ => 0, fun _ => 0, fun _ => 0, fun _ => 0, fun _ => 0, fun _ => 0, fun _ => 0, fun _ => 0, fun _ => 0, fun _ => 0, fun _ => 0, fun _ => 0, fun _ => 0, fun _ => 0, fun _ => 0, fun _ => 0, fun _ => 0, fun _ => 0, fun _ => 0, fun _ => 0, fun _ => 0, rfl, rfl, by decide, by decide, ?_, ⟨fun j => ⟨rfl, rfl, rfl⟩, fun j _ => ⟨rfl, rfl, rfl⟩⟩, rfl⟩
  exact fun i => ⟨rfl, Or.inl (Nat.zero_le _), fun _ => ⟨0, by decide, rfl⟩⟩
theorem wd_uu {f : Nat → Int32} {k : Nat} {x y : Int32} : upd (upd f k x) k y = upd f k y := by
  funext j
  unfold upd
  split <;> rfl
theorem wd_63 (x : Int32) : ∃ j : Nat, j < 64 ∧ x &&& 63 = nI j := pk_andE x (m := 63) 6 (by decide)
