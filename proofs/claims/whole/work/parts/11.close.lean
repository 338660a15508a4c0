/-! the reference's searches: close and opener -/
theorem wd_D_le (κ : Nat → Nat) : ∀ i, wd_D κ i ≤ i := by
  intro i
  induction i with
  | zero => exact Nat.le_refl 0
  | succ i ih =>
    rw [wd_D]
    split
    · omega
    · split <;> omega
theorem wd_c50 {c th ar yp ra bh ov : Int32} {K V NN W C OW NX SR RD AD VA AT SC FY DC SK : Nat → Int32} (P : Int32 → Prop) (Jc : Int32 → Int32 → Int32 → Prop) {z e k : Nat} {x4 : Int32} (hz : z ≤ 1) (he : 1 ≤ e) (he2 : e ≤ 100) (hk : k ≤ 31) (h : e = 1 → k = 4 → z = 0) (hC : Jc (nI e) x4 0) : wY_close_50 P Jc (nI z) (nI e) x4 (nI k) c th ar yp ra bh ov K V NN W C OW NX SR RD AD VA AT SC FY DC SK := by
  refine br_f (nI_ne0 (by omega) (by omega)) ?_
  by_cases e1 : e = 1
  · subst e1
    refine br_t rfl ?_
    by_cases k4 : k = 4
    · subst k4
      obtain rfl := h rfl rfl
      exact br_t rfl (br_t rfl hC)
    · exact br_f (wd_neI 4 (by omega) (by decide) k4) hC
  · exact br_f (wd_neI 1 (by omega) (by decide) e1) hC
theorem wd_clo {c th ar yp ra bh ov : Int32} {K V NN W C OW NX SR RD AD VA AT SC FY DC SK : Nat → Int32} {κ : Nat → Nat} {a z b : Nat} (hK : wd_tok κ K V) (hz : z ≤ 1) (hb : b < 64) (h : wd_cl κ a z b) (P : Int32 → Prop) (hp : P (nI b)) : ∀ f i e, i + f = b → a ≤ i → i < b → e + wd_D κ (a + 1) = wd_D κ (i + 1) + 1 → 1 ≤ e → wY_close_8 P (nI z) c th ar yp ra bh ov K V NN W C OW NX SR RD AD VA AT SC FY DC SK (f + 1) (nI e) (nI i) 0 := by
  obtain ⟨h1, h2, h3, h4, h5, h6⟩ := h
  intro f
  induction f with
  | zero => intro i e hi ha hib; omega
  | succ f ih =>
    intro i e hi ha hib he1 he2
    have hD := wd_D_le κ (i + 1)
    have hin : vp_in (nI (i + 1)) 64 := vp_in_nI (by omega) (by decide)
    have hk := (hK (i + 1)).2.1
    have hKi := wd_cI hK (i := i + 1) (by omega)
    refine br_t rfl (nm_r (nI_1 i) ⟨hin, nm_r hKi ?_⟩)
    by_cases hl : i + 1 = b
    · rw [hl] at he1 ⊢
      obtain rfl : e = 1 := by omega
      obtain rfl : f = 0 := by omega
      have F : ∀ y, wY_close_8 P (nI z) c th ar yp ra bh ov K V NN W C OW NX SR RD AD VA AT SC FY DC SK (0 + 1) y (nI b) 1 := fun y => br_f (by decide) hp
      rcases h6 with h | ⟨rfl, h⟩
      · rw [h]
        exact br_f (by decide) (br_f (by decide) (br_t rfl (nm_r (pk_m1 0) (br_t rfl (F _)))))
      · rw [h]
        exact br_f (by decide) (br_f (by decide) (br_f (by decide) (br_f (by decide) (br_t rfl (br_t rfl (br_f (by decide) (F _)))))))
    · have g1 := h3 (i + 1) (by omega) (by omega)
      have g2 := h3 (i + 1 + 1) (by omega) (by omega)
      have g3 := h4 (i + 1) (by omega) (by omega)
      generalize hke : κ (i + 1) = k at hk hKi g3 ⊢
      have hk31 : k ≤ 31 := by unfold wd_kind at hk; omega
      by_cases k36 : k = 3 ∨ k = 6
      · have hD2 := wd_D_o (κ := κ) (i := i + 1) (by rw [hke]; exact k36)
        have N := ih (i + 1) (e + 1) (by omega) (by omega) (by omega) (by omega) (by omega)
        have k5 : ¬ nI k = 5 := wd_neI 5 (by omega) (by decide) (by omega)
        have G : wY_close_38 P (wY_close_8 P (nI z) c th ar yp ra bh ov K V NN W C OW NX SR RD AD VA AT SC FY DC SK (f + 1)) (nI z) (nI e) (nI (i + 1)) (nI k) c th ar yp ra bh ov K V NN W C OW NX SR RD AD VA AT SC FY DC SK := nm_r (nI_1 e) (br_f k5 (wd_c50 P _ hz (by omega) (by omega) hk31 (by omega) N))
        rcases k36 with rfl | rfl
        · exact br_t rfl G
        · exact br_f (by decide) (br_t rfl G)
      · refine br_f (wd_neI 3 (by omega) (by decide) (by omega)) (br_f (wd_neI 6 (by omega) (by decide) (by omega)) ?_)
        by_cases k5 : k = 5
        · subst k5
          have hD2 := wd_D_e (κ := κ) (i := i + 1) hke
          obtain ⟨e, rfl⟩ : ∃ x, e = x + 1 := ⟨e - 1, by omega⟩
          have N := ih (i + 1) e (by omega) (by omega) (by omega) (by omega) (by omega)
          exact br_t rfl (nm_r (pk_m1 e) (wd_c50 P _ hz (by omega) (by omega) (by omega) (by omega) N))
        · have hD2 := wd_D_n (κ := κ) (i := i + 1) (by omega) (by omega) (by omega)
          have N := ih (i + 1) e (by omega) (by omega) (by omega) (by omega) (by omega)
          exact br_f (wd_neI 5 (by omega) (by decide) k5) (wd_c50 P _ hz (by omega) (by omega) hk31 (by omega) N)
theorem wd_clY {c th ar yp ra bh ov : Int32} {K V NN W C OW NX SR RD AD VA AT SC FY DC SK : Nat → Int32} {κ : Nat → Nat} {a z b : Nat} (hK : wd_tok κ K V) (hz : z ≤ 1) (hb : b < 64) (h : wd_cl κ a z b) (P : Int32 → Prop) (hp : P (nI b)) : wpY_close P (c, th, ar, yp, ra, bh, ov, K, V, NN, W, C, OW, NX, SR, RD, AD, VA, AT, SC, FY, DC, SK) (nI a) (nI z) :=
  ⟨(b - a) + 1, wd_clo hK hz hb h P hp (b - a) a 1 (by have := h.1; omega) (by omega) h.1 (by omega) (by omega)⟩
theorem wd_ope {c th ar yp ra bh ov : Int32} {K V NN W C OW NX SR RD AD VA AT SC FY DC SK : Nat → Int32} {κ : Nat → Nat} {a b : Nat} (hK : wd_tok κ K V) (hb : b < 64) (h : wd_op κ b a) (P : Int32 → Prop) (hp : P (nI a)) : ∀ f i e, a + f = i → i ≤ b → e + wd_D κ a = wd_D κ i → wY_opener_4 P c th ar yp ra bh ov K V NN W C OW NX SR RD AD VA AT SC FY DC SK (f + 1) (nI e) (nI i) := by
  obtain ⟨h1, h2, h3, h4⟩ := h
  intro f
  induction f with
  | zero =>
    intro i e hi hib he
    obtain rfl : a = i := by omega
    obtain rfl : e = 0 := by omega
    exact br_t (by decide) hp
  | succ f ih =>
    intro i e hi hib he
    have g1 := h3 i (by omega) hib
    have hD := wd_D_le κ i
    obtain ⟨i, rfl⟩ : ∃ x, i = x + 1 := ⟨i - 1, by omega⟩
    have hin : vp_in (nI i) 64 := vp_in_nI (by omega) (by decide)
    have hk := (hK i).2.1
    have hKi := wd_cI hK (i := i) (by omega)
    have g2 : i ≠ a → wd_D κ a + 1 ≤ wd_D κ i := fun z => h3 i (by omega) (by omega)
    have ka : i = a → (κ i = 3 ∨ κ i = 6) := fun z => by rw [z]; exact h2
    refine br_f (nI_nle (by omega) (by omega)) (nm_r (pk_m1 i) ⟨hin, ?_⟩)
    generalize hke : κ i = k at hk hKi ka
    have hk31 : k ≤ 31 := by unfold wd_kind at hk; omega
    by_cases k5 : k = 5
    · subst k5
      have hD2 := wd_D_e (κ := κ) (i := i) hke
      have := g2 (fun z => by have := ka z; omega)
      have N := ih i (e + 1) (by omega) (by omega) (by omega)
      exact br_t hKi (nm_r (nI_1 e) ⟨hin, br_f (by rw [hKi]; decide) ⟨hin, br_f (by rw [hKi]; decide) N⟩⟩)
    · refine br_f (by rw [hKi]; exact wd_neI 5 (by omega) (by decide) k5) ⟨hin, ?_⟩
      by_cases k3 : k = 3
      · subst k3
        have hD2 := wd_D_o (κ := κ) (i := i) (Or.inl hke)
        obtain ⟨e, rfl⟩ : ∃ x, e = x + 1 := ⟨e - 1, by omega⟩
        exact br_t hKi (nm_r (pk_m1 e) (ih i e (by omega) (by omega) (by omega)))
      · refine br_f (by rw [hKi]; exact wd_neI 3 (by omega) (by decide) k3) ⟨hin, ?_⟩
        by_cases k6 : k = 6
        · subst k6
          have hD2 := wd_D_o (κ := κ) (i := i) (Or.inr hke)
          obtain ⟨e, rfl⟩ : ∃ x, e = x + 1 := ⟨e - 1, by omega⟩
          exact br_t hKi (nm_r (pk_m1 e) (ih i e (by omega) (by omega) (by omega)))
        · have hD2 := wd_D_n (κ := κ) (i := i) (by omega) (by omega) (by omega)
          exact br_f (by rw [hKi]; exact wd_neI 6 (by omega) (by decide) k6) (ih i e (by omega) (by omega) (by omega))
theorem wd_opeY {c th ar yp ra bh ov : Int32} {K V NN W C OW NX SR RD AD VA AT SC FY DC SK : Nat → Int32} {κ : Nat → Nat} {a b : Nat} (hK : wd_tok κ K V) (hb : b < 64) (h : wd_op κ b a) (P : Int32 → Prop) (hp : P (nI a)) : wpY_opener P (c, th, ar, yp, ra, bh, ov, K, V, NN, W, C, OW, NX, SR, RD, AD, VA, AT, SC, FY, DC, SK) (nI b) :=
  ⟨(b - a) + 1, wd_ope hK hb h P hp (b - a) b 1 (by have := h.1; omega) (by omega) (by have := h.2.2.2; omega)⟩
