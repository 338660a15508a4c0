/-! one statement, both sides -/
theorem wd_tr_R {κ : Nat → Nat} {n : Nat} {lf mem cnt : Nat → Int32} : ∀ f p q v R, wd_tr κ n lf mem cnt f p q v R → ∀ c, R c = true → c < 64 := by
  intro f
  induction f with
  | zero => intro p q v R h; exact absurd h id
  | succ f ih =>
    intro p q v R ⟨h1, h2, h⟩ c hc
    rcases h with ⟨_, _, _, rfl⟩ | ⟨_, a, R1, ha, _, rfl⟩ | ⟨_, q1, a, b, R1, R2, ha, hb, _, rfl⟩ | ⟨_, q1, q2, a, b, c', R1, R2, R3, ha, hb, hc', _, rfl⟩
    · exact absurd hc Bool.false_ne_true
    · rcases (Bool.or_eq_true _ _).mp hc with z | z
      · exact ih _ _ _ _ ha c z
      · have := (of_decide_eq_true z).2
        rw [this]
        exact wd_m63_lt a
    · rcases (Bool.or_eq_true _ _).mp hc with z | z
      · exact ih _ _ _ _ ha c z
      · exact ih _ _ _ _ hb c z
    · rcases (Bool.or_eq_true _ _).mp hc with z | z
      · rcases (Bool.or_eq_true _ _).mp z with z | z
        · exact ih _ _ _ _ ha c z
        · exact ih _ _ _ _ hb c z
      · exact ih _ _ _ _ hc' c z
def wd_MI (t : Nat) (W SR0 ST0 SR ST OW : Nat → Int32) : Prop := (∀ c, c < 64 → OW c = if bt (SR c) t = true then ST c else W c) ∧ (∀ c b, b ≠ t → bt (SR c) b = bt (SR0 c) b) ∧ (∀ c, bt (SR c) t = false → SR c = SR0 c ∧ ST c = ST0 c)
def wd_Z (SR RD AD : Nat → Int32) : Prop := ∀ j, 64 ≤ j → SR j = 0 ∧ RD j = 0 ∧ AD j = 0
theorem wd_Z_or {SR RD AD : Nat → Int32} {b : Int32} {R : Nat → Bool} (h : wd_Z SR RD AD) (hR : ∀ c, R c = true → c < 64) : wd_Z SR (wd_or RD b R) AD := by
  intro j hj
  obtain ⟨a, c, d⟩ := h j hj
  refine ⟨a, ?_, d⟩
  unfold wd_or
  rw [if_neg (fun z => by have := hR j z; omega)]
  exact c
theorem wd_Z_sr {SR RD AD : Nat → Int32} {k : Nat} {x : Int32} (h : wd_Z SR RD AD) (hk : k < 64) : wd_Z (upd SR k x) RD AD := fun j hj => by
  rw [pk_un (by omega)]
  exact h j hj
theorem wd_Z_ad {SR RD AD : Nat → Int32} {k : Nat} {x : Int32} (h : wd_Z SR RD AD) (hk : k < 64) : wd_Z SR RD (upd AD k x) := fun j hj => by
  rw [pk_un (by omega)]
  exact h j hj
theorem wd_bbit {t : Nat} (ht : t < 32) (b : Nat) : bt (wd_bit t) b = decide (b = t) := by
  by_cases hb : b < 32
  · have h1 : ∀ i, i < 32 → bt 1 i = decide (i = 0) := by decide +kernel
    unfold wd_bit
    rw [b_shl t ht 1 hb, h1 (b - t) (by omega)]
    by_cases e : b = t
    · subst e
      rw [decide_eq_true (Nat.le_refl b), decide_eq_true (by omega), decide_eq_true rfl]
      rfl
    · rw [decide_eq_false e]
      by_cases l : t ≤ b
      · rw [decide_eq_false (p := b - t = 0) (by omega), Bool.and_false]
      · rw [decide_eq_false l, Bool.false_and]
  · rw [b_big (by omega), decide_eq_false (by omega)]
theorem wd_MI_st {t c : Nat} {W SR0 ST0 SR ST OW : Nat → Int32} {v : Int32} (h : wd_MI t W SR0 ST0 SR ST OW) (ht : t < 32) : wd_MI t W SR0 ST0 (upd SR c (SR c ||| wd_bit t)) (upd ST c v) (upd OW c v) := by
  obtain ⟨h1, h2, h3⟩ := h
  have e : bt (SR c ||| wd_bit t) t = true := by rw [b_or, wd_bbit ht, decide_eq_true rfl, Bool.or_true]
  refine ⟨fun j hj => ?_, fun j b hb => ?_, fun j hj => ?_⟩
  · by_cases z : j = c
    · subst z
      rw [pk_us, pk_us, pk_us, if_pos e]
    · rw [pk_un z, pk_un z, pk_un z]
      exact h1 j hj
  · by_cases z : j = c
    · subst z
      rw [pk_us, b_or, wd_bbit ht, decide_eq_false hb, Bool.or_false]
      exact h2 j b hb
    · rw [pk_un z]
      exact h2 j b hb
  · by_cases z : j = c
    · subst z
      rw [pk_us, e] at hj
      exact absurd hj (by decide)
    · rw [pk_un z] at hj
      rw [pk_un z, pk_un z]
      exact h3 j hj
theorem wd_vi {κ : Nat → Nat} {K V : Nat → Int32} (hK : wd_tok κ K V) {s t : Nat} (hs : s < 64) (ht : t < 32) (h0 : κ s = 0) : ∃ i, i < 192 ∧ nI t * 6 + V (nI s).toNatClampNeg = nI i ∧ 6 * nI t + V (nI s).toNatClampNeg = nI i := by
  obtain ⟨w, hw, ew⟩ := (hK s).2.2 (Or.inl h0)
  refine ⟨6 * t + w, by omega, ?_, ?_⟩
  · rw [nI_clamp (by omega), ew, Nat.mul_comm, ← nI_add, ← pk_mul]; rfl
  · rw [nI_clamp (by omega), ew, ← nI_add, ← pk_mul]; rfl
set_option maxHeartbeats 1600000 in
theorem wd_stm {ob ed od el th ar go ph ra ov yp : Int32} {K V J O W C ST SR RD AD VA PL SC FI DC NN OW NX AT FY : Nat → Int32} {κ : Nat → Nat} {n t s : Nat} {SR0 ST0 : Nat → Int32} (hK : wd_tok κ K V) (hn : n ≤ 64) (hpr : wd_prog κ n J) (ht : t < 32) (hs : s < n) (h0 : (wd_st κ s).1 = 0) (h4 : κ s ≠ 4) (h5 : κ s ≠ 5) (h7 : κ s ≠ 7) (h8 : κ s ≠ 8) (hM : wd_MI t W SR0 ST0 SR ST OW) (hZ : wd_Z SR RD AD) :
   ∃ (s' : Nat) (VA' ST' SR' RD' AD' OW' : Nat → Int32), s' ≤ n ∧ (wd_st κ s').1 = 0 ∧ wd_MI t W SR0 ST0 SR' ST' OW' ∧ wd_Z SR' RD' AD' ∧
    (∀ (be : Int32) (OP OM OD : Nat → Int32) (P : Int32 → SX → Prop), (∀ be' OP' OM' OD', P (nI s') (nI n, ob, ed, od, el, be', th, ar, go, ph, ra, ov, K, V, J, O, W, C, ST', SR', RD', AD', OP', OM', OD', VA', PL, SC, FI, DC)) → wpX_doStatement P (nI n, ob, ed, od, el, be, th, ar, go, ph, ra, ov, K, V, J, O, W, C, ST, SR, RD, AD, OP, OM, OD, VA, PL, SC, FI, DC) (nI t) (nI s)) ∧
    (∀ (bh : Int32) (SK : Nat → Int32) (Q : Int32 → SY → Prop), (∀ bh' SK', Q 1 (nI n, th, ar, yp, ra, bh', ov, K, V, NN, W, C, OW', NX, SR', RD', AD', VA', upd AT t (nI s'), SC, FY, DC, SK')) → wpY_work Q (nI n, th, ar, yp, ra, bh, ov, K, V, NN, W, C, OW, NX, SR, RD, AD, VA, AT, SC, FY, DC, SK) (nI t) (nI s) (nI (κ s))) := by
  have is : vp_in (nI s) 64 := vp_in_nI (by omega) (by decide)
  have it : vp_in (nI t) 32 := vp_in_nI ht (by decide)
  have ct : (nI t).toNatClampNeg = t := nI_clamp (by omega)
  have hKs := wd_cI hK (i := s) (by omega)
  have hkk := (hK s).2.1
  have h10 := (hpr.1 s hs).1 h0
  have hst : wd_st κ s = (0, (wd_st κ s).2.1, (wd_st κ s).2.2) := by rw [← h0]
  have hkc : κ s = 0 ∨ κ s = 1 ∨ κ s = 2 ∨ κ s = 3 ∨ κ s = 6 := by unfold wd_kind at hkk; omega
  have n7 : ¬ nI (κ s) = 7 := wd_neI 7 (by omega) (by decide) h7
  have n8 : ¬ nI (κ s) = 8 := wd_neI 8 (by omega) (by decide) h8
  have eA1 : upd AT (nI t).toNatClampNeg (nI s + 1) = upd AT t (nI (s + 1)) := by rw [ct, nI_1]
  have eA2 : ∀ (x y : Int32), upd (upd AT t x) (nI t).toNatClampNeg y = upd AT t y := fun x y => by rw [ct, wd_uu]
  by_cases hse : wd_ex (κ s) = 1
  · have hs1 := wd_st_s1 hst (by rw [hse]; decide)
    rw [hse] at hs1
    obtain ⟨q, v, R, htr, hl, _, t4, _⟩ := wd_tree hpr (wd_lf κ V VA t th ar) OW C 64 (s + 1) 0 0 0 (by omega) (by omega) hs1
    have hq := t4 rfl rfl
    have hlt := wd_tr_lt _ _ _ _ _ htr
    have hZ' := wd_Z_or (b := wd_bit t) hZ (wd_tr_R _ _ _ _ _ htr)
    by_cases k0 : κ s = 0
    · obtain ⟨i, hi, eX, eY⟩ := wd_vi hK (s := s) (by omega) ht k0
      rw [k0] at hKs n7 n8 ⊢
      refine ⟨q, upd VA i v, ST, SR, _, AD, OW, by omega, by rw [hq], hM, hZ', fun be OP OM OD P hp => ?_, fun bh SK Q hq => ?_⟩
      · refine ⟨is, nm_r hKs (br_f n7 (br_f n8 (wd_evX hK hn ht hM.1 htr (by omega) (nI_1 s) _ fun OP' OM' OD' => br_t rfl ⟨is, ?_, nm_r (e' := upd VA i v) ?_ (hp _ _ _ _)⟩)))⟩
        · rw [eX]; exact vp_in_nI hi (by decide)
        · rw [eX, nI_clamp (by omega)]
      · refine br_f n8 ⟨it, nm_r eA1 (br_f n7 (wd_evY hK hn ht (fun _ _ => rfl) htr (by omega) (by omega) (nI_1 s) _ fun SK' => ⟨it, nm_r (eA2 _ _) (br_t rfl ⟨is, ?_, nm_r (e' := upd VA i v) ?_ (hq _ _)⟩)⟩))⟩
        · rw [eY]; exact vp_in_nI hi (by decide)
        · rw [eY, nI_clamp (by omega)]
    · have k36 : κ s = 3 ∨ κ s = 6 := by
        rcases hkc with z | z | z | z | z
        · exact absurd z k0
        · rw [z] at hse; exact absurd hse (by decide)
        · rw [z] at hse; exact absurd hse (by decide)
        · exact Or.inl z
        · exact Or.inr z
      obtain ⟨b, hc, hb, eJ⟩ := (hpr.2.2 s hs).1 (by omega)
      have eJ' : J (nI s).toNatClampNeg = nI (b + 1) := by rw [nI_clamp (by omega)]; exact eJ
      have hb45 : κ b = 5 ∨ κ b = 4 := by
        rcases hc.2.2.2.2.2 with z | z
        · exact Or.inl z
        · exact Or.inr z.2
      have hbb : (wd_st κ (b + 1)).1 = 0 := wd_bnd1 hpr hb (by omega) (by rcases hb45 with z | z <;> rw [z] <;> rfl)
      have n0 : ¬ nI (κ s) = 0 := wd_neI 0 (by omega) (by decide) (by omega)
      have n1 : ¬ nI (κ s) = 1 := wd_neI 1 (by omega) (by decide) (by omega)
      have n2 : ¬ nI (κ s) = 2 := wd_neI 2 (by omega) (by decide) (by omega)
      by_cases hv : v = 0
      · refine ⟨b + 1, VA, ST, SR, _, AD, OW, by omega, hbb, hM, hZ', fun be OP OM OD P hp => ?_, fun bh SK Q hq => ?_⟩
        · have F : ∀ OP' OM' OD', wX_doStatement_71 P (nI s) v (nI n) ob ed od el (nI q) th ar go ph ra ov K V J O W C ST SR (wd_or RD (wd_bit t) R) AD OP' OM' OD' VA PL SC FI DC := fun OP' OM' OD' => br_t hv ⟨is, by rw [eJ']; exact hp _ _ _ _⟩
          refine ⟨is, nm_r hKs (br_f n7 (br_f n8 (wd_evX hK hn ht hM.1 htr (by omega) (nI_1 s) _ fun OP' OM' OD' => br_f n0 ?_)))⟩
          rcases k36 with z | z
          · exact br_t (by rw [z]; rfl) (F _ _ _)
          · exact br_f (by rw [z]; decide) (br_t (by rw [z]; rfl) (F _ _ _))
        · refine br_f n8 ⟨it, nm_r eA1 (br_f n7 (wd_evY hK hn ht (fun _ _ => rfl) htr (by omega) (by omega) (nI_1 s) _ fun SK' => ⟨it, nm_r (eA2 _ _) (br_f n0 (br_f n1 (br_f n2 (br_t hv ?_))))⟩))⟩
          have eA3 : ∀ x : Int32, upd (upd AT t x) (nI t).toNatClampNeg (nI b + 1) = upd AT t (nI (b + 1)) := fun x => by rw [ct, wd_uu, nI_1]
          rcases k36 with z | z
          · rw [if_pos z] at hc
            exact br_t (by rw [z]; rfl) (wd_clY (z := 1) hK (by decide) (by omega) hc _ ⟨it, nm_r (eA3 _) (hq _ _)⟩)
          · rw [if_neg (by omega)] at hc
            exact br_f (by rw [z]; decide) (wd_clY (z := 0) hK (by decide) (by omega) hc _ ⟨it, nm_r (eA3 _) (hq _ _)⟩)
      · refine ⟨q, VA, ST, SR, _, AD, OW, by omega, by rw [hq], hM, hZ', fun be OP OM OD P hp => ?_, fun bh SK Q hq => ?_⟩
        · have F : ∀ OP' OM' OD', wX_doStatement_71 P (nI s) v (nI n) ob ed od el (nI q) th ar go ph ra ov K V J O W C ST SR (wd_or RD (wd_bit t) R) AD OP' OM' OD' VA PL SC FI DC := fun OP' OM' OD' => br_f hv (hp _ _ _ _)
          refine ⟨is, nm_r hKs (br_f n7 (br_f n8 (wd_evX hK hn ht hM.1 htr (by omega) (nI_1 s) _ fun OP' OM' OD' => br_f n0 ?_)))⟩
          rcases k36 with z | z
          · exact br_t (by rw [z]; rfl) (F _ _ _)
          · exact br_f (by rw [z]; decide) (br_t (by rw [z]; rfl) (F _ _ _))
        · exact br_f n8 ⟨it, nm_r eA1 (br_f n7 (wd_evY hK hn ht (fun _ _ => rfl) htr (by omega) (by omega) (nI_1 s) _ fun SK' => ⟨it, nm_r (eA2 _ _) (br_f n0 (br_f n1 (br_f n2 (br_f hv (hq _ _)))))⟩))⟩
  · have k12 : κ s = 1 ∨ κ s = 2 := by
      rcases hkc with z | z | z | z | z
      · rw [z] at hse; exact absurd rfl hse
      · exact Or.inl z
      · exact Or.inr z
      · rw [z] at hse; exact absurd rfl hse
      · rw [z] at hse; exact absurd rfl hse
    have hs2 : wd_ex (κ s) = 2 := by rcases k12 with z | z <;> rw [z] <;> rfl
    have hs1 := wd_st_s1 hst (by rw [hs2]; decide)
    rw [hs2] at hs1
    obtain ⟨q1, v1, R1, htr1, hl1, _, _, t51⟩ := wd_tree hpr (wd_lf κ V VA t th ar) OW C 64 (s + 1) 0 1 0 (by omega) (by omega) hs1
    have hq1 := t51 rfl (by decide)
    have hlt1 := wd_tr_lt _ _ _ _ _ htr1
    obtain ⟨q, v, R, htr, hl, _, t4, _⟩ := wd_tree hpr (wd_lf κ V VA t th ar) OW C 64 q1 0 0 0 (by omega) (by omega) hq1
    have hq := t4 rfl rfl
    have hlt := wd_tr_lt _ _ _ _ _ htr
    have hZ' := wd_Z_or (b := wd_bit t) (wd_Z_or (b := wd_bit t) hZ (wd_tr_R _ _ _ _ _ htr1)) (wd_tr_R _ _ _ _ _ htr)
    have ic : vp_in (v1 &&& 63) 64 := pk_andIn v1 (m := 63) 6 (by decide) (by decide)
    have n0 : ¬ nI (κ s) = 0 := wd_neI 0 (by omega) (by decide) (by omega)
    have n3 : ¬ nI (κ s) = 3 := wd_neI 3 (by omega) (by decide) (by omega)
    have n6 : ¬ nI (κ s) = 6 := wd_neI 6 (by omega) (by decide) (by omega)
    rcases k12 with z | z
    · rw [z] at hKs n7 n8 n0 n3 n6 ⊢
      refine ⟨q, VA, upd ST (wd_m63 v1) v, upd SR (wd_m63 v1) (SR (wd_m63 v1) ||| wd_bit t), _, AD, upd OW (wd_m63 v1) v, by omega, by rw [hq], wd_MI_st hM ht, wd_Z_sr hZ' (wd_m63_lt v1), fun be OP OM OD P hp => ?_, fun bh SK Q hq => ?_⟩
      · exact ⟨is, nm_r hKs (br_f n7 (br_f n8 (wd_evX hK hn ht hM.1 htr1 (by omega) (nI_1 s) _ fun OP' OM' OD' => br_f n0 (br_f n3 (br_f n6 (wd_evX hK hn ht hM.1 htr (by omega) rfl _ fun OP2 OM2 OD2 => nm_e (br_t rfl ⟨ic, nm_e ⟨ic, ic, nm_e (hp _ _ _ _)⟩⟩)))))))⟩
      · exact br_f n8 ⟨it, nm_r eA1 (br_f n7 (wd_evY hK hn ht (fun _ _ => rfl) htr1 (by omega) (by omega) (nI_1 s) _ fun SK' => ⟨it, nm_r (eA2 _ _) (br_f n0 (br_t rfl (wd_evY hK hn ht (fun _ _ => rfl) htr (by omega) (by omega) rfl _ fun SK2 => ⟨it, nm_r (eA2 _ _) (br_t rfl ⟨ic, nm_e ⟨ic, ic, nm_e (hq _ _)⟩⟩)⟩)))⟩))⟩
    · rw [z] at hKs n7 n8 n0 n3 n6 ⊢
      refine ⟨q, VA, ST, SR, _, upd AD (wd_m63 v1) (AD (wd_m63 v1) + v), OW, by omega, by rw [hq], hM, wd_Z_ad hZ' (wd_m63_lt v1), fun be OP OM OD P hp => ?_, fun bh SK Q hq => ?_⟩
      · exact ⟨is, nm_r hKs (br_f n7 (br_f n8 (wd_evX hK hn ht hM.1 htr1 (by omega) (nI_1 s) _ fun OP' OM' OD' => br_f n0 (br_f n3 (br_f n6 (wd_evX hK hn ht hM.1 htr (by omega) rfl _ fun OP2 OM2 OD2 => nm_e (br_f (by decide) ⟨ic, ic, nm_e (hp _ _ _ _)⟩)))))))⟩
      · exact br_f n8 ⟨it, nm_r eA1 (br_f n7 (wd_evY hK hn ht (fun _ _ => rfl) htr1 (by omega) (by omega) (nI_1 s) _ fun SK' => ⟨it, nm_r (eA2 _ _) (br_f n0 (br_f (by decide) (br_t rfl (wd_evY hK hn ht (fun _ _ => rfl) htr (by omega) (by omega) rfl _ fun SK2 => ⟨it, nm_r (eA2 _ _) (br_f (by decide) ⟨ic, ic, nm_e (hq _ _)⟩)⟩))))⟩))⟩
