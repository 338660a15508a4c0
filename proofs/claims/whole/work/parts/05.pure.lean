/-! the grammar's pure picture: st = (operands due, expressions due, length), D = blocks not yet closed, the jumps' meaning -/
def wd_st (κ : Nat → Nat) : Nat → Nat × Nat × Nat
  | 0 => (0, 0, 0)
  | i + 1 =>
    if (wd_st κ i).1 = 0 then (if wd_ex (κ i) = 0 then (0, 0, 0) else (1, wd_ex (κ i) - 1, 0))
    else if (wd_st κ i).1 + wd_ar (κ i) = 1 then (if (wd_st κ i).2.1 = 0 then (0, 0, 0) else (1, (wd_st κ i).2.1 - 1, 0))
    else ((wd_st κ i).1 + wd_ar (κ i) - 1, (wd_st κ i).2.1, (wd_st κ i).2.2 + 1)
def wd_D (κ : Nat → Nat) : Nat → Nat
  | 0 => 0
  | i + 1 => if κ i = 3 ∨ κ i = 6 then wd_D κ i + 1 else if κ i = 5 then wd_D κ i - 1 else wd_D κ i
theorem wd_st_s0 {κ : Nat → Nat} {i e u : Nat} (h : wd_st κ i = (0, e, u)) (hx : wd_ex (κ i) = 0) : wd_st κ (i + 1) = (0, 0, 0) := by
  rw [wd_st, h, if_pos rfl, if_pos hx]
theorem wd_st_s1 {κ : Nat → Nat} {i e u : Nat} (h : wd_st κ i = (0, e, u)) (hx : wd_ex (κ i) ≠ 0) : wd_st κ (i + 1) = (1, wd_ex (κ i) - 1, 0) := by
  rw [wd_st, h, if_pos rfl, if_neg hx]
theorem wd_st_e0 {κ : Nat → Nat} {i m u : Nat} (h : wd_st κ i = (m, 0, u)) (hm : m ≠ 0) (hx : m + wd_ar (κ i) = 1) : wd_st κ (i + 1) = (0, 0, 0) := by
  rw [wd_st, h, if_neg hm, if_pos hx, if_pos rfl]
theorem wd_st_e1 {κ : Nat → Nat} {i m e u : Nat} (h : wd_st κ i = (m, e, u)) (hm : m ≠ 0) (he : e ≠ 0) (hx : m + wd_ar (κ i) = 1) : wd_st κ (i + 1) = (1, e - 1, 0) := by
  rw [wd_st, h, if_neg hm, if_pos hx, if_neg he]
theorem wd_st_e2 {κ : Nat → Nat} {i m e u : Nat} (h : wd_st κ i = (m, e, u)) (hm : m ≠ 0) (hx : m + wd_ar (κ i) ≠ 1) : wd_st κ (i + 1) = (m + wd_ar (κ i) - 1, e, u + 1) := by
  rw [wd_st, h, if_neg hm, if_neg hx]
theorem wd_ar_le (k : Nat) : wd_ar k ≤ 3 := by unfold wd_ar; split <;> (try split) <;> (try split) <;> (try split) <;> (try split) <;> omega
theorem wd_ex_le (k : Nat) : wd_ex k ≤ 2 := by unfold wd_ex; split <;> (try split) <;> (try split) <;> (try split) <;> (try split) <;> omega
theorem wd_st_b (κ : Nat → Nat) : ∀ i, (wd_st κ i).1 ≤ 3 * i + 1 ∧ (wd_st κ i).2.1 ≤ 1 ∧ ((wd_st κ i).1 = 0 → (wd_st κ i).2.1 = 0) := by
  intro i
  induction i with
  | zero => exact ⟨Nat.zero_le _, Nat.zero_le _, fun _ => rfl⟩
  | succ i ih =>
    have h1 := wd_ar_le (κ i)
    have h2 := wd_ex_le (κ i)
    obtain ⟨a, b, c⟩ := ih
    rw [wd_st]
    split
    · split
      · exact ⟨by dsimp only; omega, by dsimp only; omega, fun _ => rfl⟩
      · exact ⟨by dsimp only; omega, by dsimp only; omega, fun z => by dsimp only at z; omega⟩
    · split
      · split
        · exact ⟨by dsimp only; omega, by dsimp only; omega, fun _ => rfl⟩
        · exact ⟨by dsimp only; omega, by dsimp only; omega, fun z => by dsimp only at z; omega⟩
      · exact ⟨by dsimp only; omega, by dsimp only; omega, fun z => by dsimp only at z; omega⟩
theorem wd_D_o {κ : Nat → Nat} {i : Nat} (h : κ i = 3 ∨ κ i = 6) : wd_D κ (i + 1) = wd_D κ i + 1 := by rw [wd_D, if_pos h]
theorem wd_D_e {κ : Nat → Nat} {i : Nat} (h : κ i = 5) : wd_D κ (i + 1) = wd_D κ i - 1 := by rw [wd_D, if_neg (by omega), if_pos h]
theorem wd_D_n {κ : Nat → Nat} {i : Nat} (h1 : κ i ≠ 3) (h2 : κ i ≠ 6) (h3 : κ i ≠ 5) : wd_D κ (i + 1) = wd_D κ i := by rw [wd_D, if_neg (by omega), if_neg h3]
def wd_cl (κ : Nat → Nat) (a z b : Nat) : Prop := a < b ∧ 1 ≤ wd_D κ (a + 1) ∧ (∀ i, a < i → i ≤ b → wd_D κ (a + 1) ≤ wd_D κ i) ∧ (∀ i, a < i → i < b → ¬ (z = 1 ∧ κ i = 4 ∧ wd_D κ i = wd_D κ (a + 1))) ∧ wd_D κ b = wd_D κ (a + 1) ∧ (κ b = 5 ∨ (z = 1 ∧ κ b = 4))
def wd_op (κ : Nat → Nat) (b a : Nat) : Prop := a < b ∧ (κ a = 3 ∨ κ a = 6) ∧ (∀ i, a < i → i ≤ b → wd_D κ a + 1 ≤ wd_D κ i) ∧ wd_D κ b = wd_D κ a + 1
def wd_j1 (κ : Nat → Nat) (n : Nat) (J : Nat → Int32) (x : Nat) : Prop := ((κ x = 3 ∨ κ x = 4 ∨ κ x = 6) → ∃ b, wd_cl κ x (if κ x = 3 then 1 else 0) b ∧ b < n ∧ J x = nI (b + 1)) ∧ (κ x = 5 → ∃ a, wd_op κ x a ∧ J x = nI (if κ a = 6 then a else x + 1))
def wd_fit (κ : Nat → Nat) (x : Nat) : Prop := ((wd_st κ x).1 = 0 → κ x < 10) ∧ ((wd_st κ x).1 ≠ 0 → 10 ≤ κ x ∧ (wd_st κ x).2.2 < 16)
def wd_prog (κ : Nat → Nat) (n : Nat) (J : Nat → Int32) : Prop := (∀ x, x < n → wd_fit κ x) ∧ (wd_st κ n).1 = 0 ∧ ∀ x, x < n → wd_j1 κ n J x
def wd_blk (κ : Nat → Nat) (i j pj qj : Nat) : Prop := qj ≤ pj ∧ pj < i ∧ (κ qj = 3 ∨ κ qj = 6) ∧ wd_D κ qj = j ∧ (∀ x, qj < x → x ≤ i → j + 1 ≤ wd_D κ x) ∧ (pj = qj ∨ (κ qj = 3 ∧ κ pj = 4 ∧ wd_D κ pj = j + 1)) ∧ (κ pj = 3 → ∀ x, pj < x → x < i → ¬ (κ x = 4 ∧ wd_D κ x = j + 1))
def wd_inv (κ : Nat → Nat) (n i d : Nat) (p q : Nat → Nat) (J O NN : Nat → Int32) : Prop := (∀ x, x < i → wd_fit κ x) ∧ wd_D κ i = d ∧ d ≤ i ∧ (∀ j, j < d → wd_blk κ i j (p j) (q j) ∧ O j = nI (p j) ∧ NN j = nI (κ (p j))) ∧ ∀ x, x < i → (∃ j, j < d ∧ x = p j) ∨ wd_j1 κ n J x
theorem wd_j1_c {κ : Nat → Nat} {n x : Nat} {J J' : Nat → Int32} (h : wd_j1 κ n J x) (e : J' x = J x) : wd_j1 κ n J' x := by
  unfold wd_j1
  rw [e]
  exact h
theorem wd_inv_0 {κ : Nat → Nat} {n : Nat} {p q : Nat → Nat} {J O NN : Nat → Int32} : wd_inv κ n 0 0 p q J O NN :=
  ⟨fun x h => absurd h (by omega), rfl, by omega, fun j h => absurd h (by omega), fun x h => absurd h (by omega)⟩
theorem wd_fits {κ : Nat → Nat} {i : Nat} (h : ∀ x, x < i → wd_fit κ x) (hi : wd_fit κ i) : ∀ x, x < i + 1 → wd_fit κ x := fun x hx => by
  by_cases e : x = i
  · rw [e]; exact hi
  · exact h x (by omega)
theorem wd_inv_n {κ : Nat → Nat} {n i d : Nat} {p q : Nat → Nat} {J O NN : Nat → Int32} (h : wd_inv κ n i d p q J O NN) (hf : wd_fit κ i) (h3 : κ i ≠ 3) (h4 : κ i ≠ 4) (h5 : κ i ≠ 5) (h6 : κ i ≠ 6) : wd_inv κ n (i + 1) d p q J O NN := by
  obtain ⟨a, b, c, e, f⟩ := h
  have hD := wd_D_n h3 h6 h5
  refine ⟨wd_fits a hf, by omega, by omega, fun j hj => ?_, fun x hx => ?_⟩
  · obtain ⟨⟨e1, e2, e3, e4, e5, e6, e7⟩, e8, e9⟩ := e j hj
    refine ⟨⟨e1, by omega, e3, e4, fun x hx hx2 => ?_, e6, fun hk x hx hx2 => ?_⟩, e8, e9⟩
    · by_cases ex : x = i + 1
      · rw [ex, hD]; omega
      · exact e5 x hx (by omega)
    · by_cases ex : x = i
      · rw [ex]; exact fun z => h4 z.1
      · exact e7 hk x hx (by omega)
  · by_cases ex : x = i
    · rw [ex]; exact Or.inr ⟨fun z => by omega, fun z => by omega⟩
    · exact f x (by omega)
theorem wd_inv_o {κ : Nat → Nat} {n i d : Nat} {p q : Nat → Nat} {J O NN : Nat → Int32} (h : wd_inv κ n i d p q J O NN) (hf : wd_fit κ i) (h3 : κ i = 3 ∨ κ i = 6) : wd_inv κ n (i + 1) (d + 1) (fun j => if j = d then i else p j) (fun j => if j = d then i else q j) J (upd O d (nI i)) (upd NN d (nI (κ i))) := by
  obtain ⟨a, b, c, e, f⟩ := h
  have hD := wd_D_o h3
  refine ⟨wd_fits a hf, by omega, by omega, fun j hj => ?_, fun x hx => ?_⟩
  · by_cases ej : j = d
    · subst ej
      dsimp only
      rw [if_pos rfl, if_pos rfl, pk_us, pk_us]
      refine ⟨⟨by omega, by omega, h3, b, fun x hx hx2 => ?_, Or.inl rfl, fun hk x hx hx2 => by omega⟩, rfl, rfl⟩
      obtain rfl : x = i + 1 := by omega
      omega
    · dsimp only
      rw [if_neg ej, if_neg ej, pk_un ej, pk_un ej]
      obtain ⟨⟨e1, e2, e3, e4, e5, e6, e7⟩, e8, e9⟩ := e j (by omega)
      refine ⟨⟨e1, by omega, e3, e4, fun x hx hx2 => ?_, e6, fun hk x hx hx2 => ?_⟩, e8, e9⟩
      · by_cases ex : x = i + 1
        · rw [ex, hD]; omega
        · exact e5 x hx (by omega)
      · by_cases ex : x = i
        · rw [ex]; exact fun z => by omega
        · exact e7 hk x hx (by omega)
  · by_cases ex : x = i
    · exact Or.inl ⟨d, by omega, by rw [ex]; exact (if_pos rfl).symm⟩
    · rcases f x (by omega) with ⟨j, hj, ej⟩ | g
      · exact Or.inl ⟨j, by omega, by rw [ej]; exact (if_neg (by omega)).symm⟩
      · exact Or.inr g
theorem wd_inv_l {κ : Nat → Nat} {n i d : Nat} {p q : Nat → Nat} {J O NN : Nat → Int32} (h : wd_inv κ n i (d + 1) p q J O NN) (hi : i < n) (hf : wd_fit κ i) (h4 : κ i = 4) (hp : κ (p d) = 3) : wd_inv κ n (i + 1) (d + 1) (fun j => if j = d then i else p j) q (upd J (p d) (nI (i + 1))) (upd O d (nI i)) (upd NN d (nI (κ i))) := by
  obtain ⟨a, b, c, e, f⟩ := h
  have hD := wd_D_n (κ := κ) (i := i) (by omega) (by omega) (by omega)
  refine ⟨wd_fits a hf, by omega, by omega, fun j hj => ?_, fun x hx => ?_⟩
  · by_cases ej : j = d
    · subst ej
      dsimp only
      rw [if_pos rfl, pk_us, pk_us]
      obtain ⟨⟨e1, e2, e3, e4, e5, e6, e7⟩, e8, e9⟩ := e j (by omega)
      refine ⟨⟨by omega, by omega, e3, e4, fun x hx hx2 => ?_, Or.inr ⟨?_, h4, by omega⟩, fun hk => by omega⟩, rfl, rfl⟩
      · by_cases ex : x = i + 1
        · rw [ex, hD]; omega
        · exact e5 x hx (by omega)
      · rcases e6 with z | z
        · rw [← z]; exact hp
        · exact z.1
    · dsimp only
      rw [if_neg ej, pk_un ej, pk_un ej]
      obtain ⟨⟨e1, e2, e3, e4, e5, e6, e7⟩, e8, e9⟩ := e j (by omega)
      refine ⟨⟨e1, by omega, e3, e4, fun x hx hx2 => ?_, e6, fun hk x hx hx2 => ?_⟩, e8, e9⟩
      · by_cases ex : x = i + 1
        · rw [ex, hD]; omega
        · exact e5 x hx (by omega)
      · by_cases ex : x = i
        · rw [ex]; exact fun z => by omega
        · exact e7 hk x hx (by omega)
  · by_cases ex : x = i
    · exact Or.inl ⟨d, by omega, by rw [ex]; exact (if_pos rfl).symm⟩
    · by_cases ep : x = p d
      · refine Or.inr ⟨fun _ => ⟨i, ?_, hi, ?_⟩, fun z => by rw [ep] at z; omega⟩
        · obtain ⟨⟨e1, e2, e3, e4, e5, e6, e7⟩, e8, e9⟩ := e d (by omega)
          have eq : p d = q d := by
            rcases e6 with z | z
            · exact z
            · omega
          rw [ep, if_pos hp]
          have hDp : wd_D κ (p d + 1) = d + 1 := by rw [wd_D_o (Or.inl hp), eq, e4]
          refine ⟨by omega, by omega, fun y hy hy2 => ?_, fun y hy hy2 => ?_, by omega, Or.inr ⟨rfl, h4⟩⟩
          · rw [hDp]; exact e5 y (by omega) hy2
          · rw [hDp]; exact fun z => e7 hp y hy hy2 z.2
        · rw [ep, pk_us]
      · rcases f x (by omega) with ⟨j, hj, ej⟩ | g
        · have : j ≠ d := fun z => ep (by rw [ej, z])
          exact Or.inl ⟨j, by omega, by rw [ej]; exact (if_neg this).symm⟩
        · exact Or.inr (wd_j1_c g (pk_un ep))
theorem wd_inv_e {κ : Nat → Nat} {n i d : Nat} {p q : Nat → Nat} {J O NN : Nat → Int32} (h : wd_inv κ n i (d + 1) p q J O NN) (hi : i < n) (hf : wd_fit κ i) (h5 : κ i = 5) : wd_inv κ n (i + 1) d p q (upd (upd J (p d) (nI (i + 1))) i (if κ (p d) = 6 then nI (p d) else nI (i + 1))) O NN := by
  obtain ⟨a, b, c, e, f⟩ := h
  have hD := wd_D_e (κ := κ) (i := i) h5
  refine ⟨wd_fits a hf, by omega, by omega, fun j hj => ?_, fun x hx => ?_⟩
  · obtain ⟨⟨e1, e2, e3, e4, e5, e6, e7⟩, e8, e9⟩ := e j (by omega)
    refine ⟨⟨e1, by omega, e3, e4, fun x hx hx2 => ?_, e6, fun hk x hx hx2 => ?_⟩, e8, e9⟩
    · by_cases ex : x = i + 1
      · rw [ex, hD]; omega
      · exact e5 x hx (by omega)
    · by_cases ex : x = i
      · rw [ex]; exact fun z => by omega
      · exact e7 hk x hx (by omega)
  · obtain ⟨⟨e1, e2, e3, e4, e5, e6, e7⟩, e8, e9⟩ := e d (by omega)
    by_cases ex : x = i
    · refine Or.inr ⟨fun z => by rw [ex] at z; omega, fun _ => ⟨q d, ?_, ?_⟩⟩
      · rw [ex]
        exact ⟨by omega, e3, fun y hy hy2 => by rw [e4]; exact e5 y hy hy2, by omega⟩
      · rw [ex, pk_us]
        rcases e6 with z | z
        · rw [← z]
          split <;> rfl
        · rw [if_neg (by omega), if_neg (by omega)]
    · by_cases ep : x = p d
      · refine Or.inr ⟨fun _ => ⟨i, ?_, hi, ?_⟩, fun z => ?_⟩
        · have hDp : wd_D κ (p d + 1) = d + 1 := by
            rcases e6 with z | z
            · rw [z, wd_D_o e3, e4]
            · rw [wd_D_n (by omega) (by omega) (by omega)]; exact z.2.2
          rw [ep]
          refine ⟨by omega, by omega, fun y hy hy2 => ?_, fun y hy hy2 => ?_, by omega, Or.inl h5⟩
          · rw [hDp]; exact e5 y (by omega) hy2
          · rw [hDp]
            intro z
            have h3 : κ (p d) = 3 := by
              by_cases z3 : κ (p d) = 3
              · exact z3
              · rw [if_neg z3] at z; omega
            exact e7 h3 y hy hy2 z.2
        · rw [pk_un ex, ep, pk_us]
        · rw [ep] at z
          rcases e6 with w | w
          · rw [w] at z; omega
          · omega
      · rcases f x (by omega) with ⟨j, hj, ej⟩ | g
        · have : j ≠ d := fun z => ep (by rw [ej, z])
          exact Or.inl ⟨j, by omega, ej⟩
        · exact Or.inr (wd_j1_c g (by rw [pk_un ex, pk_un ep]))
theorem wd_inv_f {κ : Nat → Nat} {n : Nat} {p q : Nat → Nat} {J O NN : Nat → Int32} (h : wd_inv κ n n 0 p q J O NN) (h0 : (wd_st κ n).1 = 0) : wd_prog κ n J := by
  obtain ⟨a, b, c, e, f⟩ := h
  refine ⟨a, h0, fun x hx => ?_⟩
  rcases f x hx with ⟨j, hj, _⟩ | g
  · exact absurd hj (by omega)
  · exact g
