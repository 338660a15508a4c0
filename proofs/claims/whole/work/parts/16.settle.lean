/-! the end of a phase: races, words, counters -/
theorem wd_two {x : Int32} {i j : Nat} (hij : i < j) (hj : j < 32) (hi1 : bt x i = true) (hj1 : bt x j = true) : ¬ x &&& (x - 1) = 0 := by
  intro h
  have e : bt (x &&& (x - 1)) j = bt 0 j := by rw [h]
  rw [b_and, b_0, hj1, Bool.true_and] at e
  have hX : x.toBitVec.toNat.testBit i = true := hi1
  have hY : x.toBitVec.toNat.testBit j = true := hj1
  have hr : x.toBitVec.toNat % 2 ^ j ≠ 0 := by
    intro z
    have := Nat.testBit_mod_two_pow x.toBitVec.toNat j i
    rw [z, hX, decide_eq_true hij, Nat.zero_testBit] at this
    exact absurd this (by decide)
  have h0 : 0 < x.toBitVec.toNat := by
    rcases Nat.eq_zero_or_pos x.toBitVec.toNat with z | z
    · rw [z, Nat.zero_testBit] at hX; exact absurd hX (by decide)
    · exact z
  have hs : (x - 1).toBitVec.toNat = x.toBitVec.toNat - 1 := by
    rw [Int32.toBitVec_sub, BitVec.toNat_sub]
    have hl := x.toBitVec.isLt
    show (2 ^ 32 - 1 + x.toBitVec.toNat) % 2 ^ 32 = x.toBitVec.toNat - 1
    omega
  have hd : (x.toBitVec.toNat - 1) / 2 ^ j = x.toBitVec.toNat / 2 ^ j := by
    generalize x.toBitVec.toNat = X at hr h0
    have hp : 0 < 2 ^ j := Nat.two_pow_pos j
    generalize 2 ^ j = d at hr hp
    have h1 := Nat.div_add_mod X d
    have h2 := Nat.mod_lt X hp
    rw [show X - 1 = (X % d - 1) + d * (X / d) by omega, Nat.add_mul_div_left _ _ hp, Nat.div_eq_of_lt (by omega)]
    omega
  have e2 : (x - 1).toBitVec.toNat.testBit j = true := by
    rw [hs, Nat.testBit_eq_decide_div_mod_eq, hd, ← Nat.testBit_eq_decide_div_mod_eq]
    exact hY
  have e3 : bt (x - 1) j = true := e2
  rw [e3] at e
  exact absurd e (by decide)
theorem wd_pow : ∀ i, i < 32 → wd_bit i &&& (wd_bit i - 1) = 0 := by decide +kernel
theorem wd_nz {x : Int32} (h : ¬ x = 0) : ∃ i, i < 32 ∧ bt x i = true := by
  by_cases e : ∃ i, i < 32 ∧ bt x i = true
  · exact e
  · exfalso
    apply h
    apply b_ext
    intro i hi
    rw [b_0]
    cases hb : bt x i
    · rfl
    · exact absurd ⟨i, hi, hb⟩ e
theorem wd_uni {x : Int32} (h : x &&& (x - 1) = 0) {i j : Nat} (hi : i < 32) (hj : j < 32) (hi1 : bt x i = true) (hj1 : bt x j = true) : i = j := by
  rcases Nat.lt_trichotomy i j with z | z | z
  · exact absurd h (wd_two z hj hi1 hj1)
  · exact z
  · exact absurd h (wd_two z hi hj1 hi1)
theorem wd_race {s r : Int32} (hs : ¬ s = 0) : ((s ||| r) &&& ((s ||| r) - 1) = 0) ↔ (s &&& (s - 1) = 0 ∧ r &&& (s ^^^ (-1)) = 0) := by
  obtain ⟨i, hi, hb⟩ := wd_nz hs
  constructor
  · intro h
    have hu : bt (s ||| r) i = true := by rw [b_or, hb, Bool.true_or]
    have es : s = wd_bit i := by
      apply b_ext
      intro j hj
      rw [wd_bbit hi]
      by_cases e : j = i
      · rw [e, hb, decide_eq_true rfl]
      · rw [decide_eq_false e]
        cases hb2 : bt s j
        · rfl
        · exact absurd (wd_uni h hj hi (by rw [b_or, hb2, Bool.true_or]) hu) e
    refine ⟨by rw [es]; exact wd_pow i hi, ?_⟩
    apply b_ext
    intro j hj
    rw [b_and, b_xor, b_m1 j hj, b_0]
    by_cases e : j = i
    · rw [e, hb]; exact Bool.and_false _
    · cases hb2 : bt r j
      · rfl
      · exact absurd (wd_uni h hj hi (by rw [b_or, hb2, Bool.or_true]) hu) e
  · intro ⟨h1, h2⟩
    have e : s ||| r = s := by
      apply b_ext
      intro j hj
      have e : bt (r &&& (s ^^^ (-1))) j = bt 0 j := by rw [h2]
      rw [b_and, b_xor, b_m1 j hj, b_0] at e
      rw [b_or]
      cases hb2 : bt r j
      · rw [Bool.or_false]
      · rw [hb2] at e
        cases hb3 : bt s j
        · rw [hb3] at e; exact absurd e (by decide)
        · rfl
    rw [e]
    exact h1
theorem wd_settle {ob ed od el th ar go ph yp : Int32} {K V J O ST VA PL SC FI DC NN OW NX AT FY : Nat → Int32} {c ov : Int32} {ySR yRD yAD : Nat → Int32} : ∀ f i (ra : Int32) (W C SR RD AD : Nat → Int32), i + f = 64 → (∀ j, i ≤ j → SR j = ySR j ∧ RD j = yRD j ∧ AD j = yAD j) → (∀ j, i ≤ j → j < 64 → NX j = if ySR j = 0 then W j else ST j) → ∃ (ra' : Int32) (W' C' : Nat → Int32),
    (∀ (be : Int32) (OP OM OD : Nat → Int32) (P : SX → Prop), P (c, ob, ed, od, el, be, th, ar, go, ph, ra', ov, K, V, J, O, W', C', ST, wd_fl 64 (fun _ => 0) i SR, wd_fl 64 (fun _ => 0) i RD, wd_fl 64 (fun _ => 0) i AD, OP, OM, OD, VA, PL, SC, FI, DC) → wX_settle_2 P c ob ed od el be th ar go ph ov (f + 1) (nI i) ra K V J O W C ST SR RD AD OP OM OD VA PL SC FI DC) ∧
    (∀ (bh : Int32) (SK : Nat → Int32) (Q : SY → Prop), Q (c, th, ar, yp, ra', bh, ov, K, V, NN, W', C', OW, NX, ySR, yRD, yAD, VA, AT, SC, FY, DC, SK) → wY_phase_168 Q c th ar yp bh ov (f + 1) (nI i) ra K V NN W C OW NX ySR yRD yAD VA AT SC FY DC SK) := by
  intro f
  induction f with
  | zero =>
    intro i ra W C SR RD AD hi h1 h2
    obtain rfl : i = 64 := hi
    refine ⟨ra, W, C, fun be OP OM OD P hp => ?_, fun bh SK Q hq => br_t (by decide) hq⟩
    rw [wd_fl_e, wd_fl_e, wd_fl_e] at hp
    exact br_t (by decide) hp
  | succ f ih =>
    intro i ra W C SR RD AD hi h1 h2
    have hin : vp_in (nI i) 64 := vp_in_nI (by omega) (by decide)
    have ci : (nI i).toNatClampNeg = i := nI_clamp (by omega)
    have ng : ¬ 64 ≤ nI i := nI_ge (b := 64) (by omega) (by decide)
    obtain ⟨e1, e2, e3⟩ := h1 i (by omega)
    have e4 := h2 i (by omega) (by omega)
    have NEXT := fun (ra1 : Int32) (W1 : Nat → Int32) (hW : ∀ j, i < j → W1 j = W j) => ih (i + 1) ra1 W1 (upd C i (C i + AD i)) (upd SR i 0) (upd RD i 0) (upd AD i 0) (by omega) (fun j hj => by rw [pk_un (by omega), pk_un (by omega), pk_un (by omega)]; exact h1 j (by omega)) (fun j hj hj2 => by rw [hW j (by omega)]; exact h2 j (by omega) hj2)
    have X71 : ∀ (ra1 : Int32) (W1 : Nat → Int32) (be : Int32) (OP OM OD : Nat → Int32) (P : SX → Prop), wX_settle_2 P c ob ed od el be th ar go ph ov (f + 1) (nI (i + 1)) ra1 K V J O W1 (upd C i (C i + AD i)) ST (upd SR i 0) (upd RD i 0) (upd AD i 0) OP OM OD VA PL SC FI DC → wX_settle_71 P (wX_settle_2 P c ob ed od el be th ar go ph ov (f + 1)) (nI i) c ob ed od el be th ar go ph ra1 ov K V J O W1 C ST SR RD AD OP OM OD VA PL SC FI DC := by
      intro ra1 W1 be OP OM OD P hN
      refine ⟨hin, hin, hin, nm_r (e' := upd C i (C i + AD i)) (by rw [ci]) ⟨hin, nm_r (e' := upd SR i 0) (by rw [ci]) ⟨hin, nm_r (e' := upd RD i 0) (by rw [ci]) ⟨hin, nm_r (e' := upd AD i 0) (by rw [ci]) (nm_r (nI_1 i) hN)⟩⟩⟩⟩
    have FL : ∀ (P : SX → Prop) (ra' : Int32) (W' C' : Nat → Int32) (be : Int32) (OP OM OD : Nat → Int32), P (c, ob, ed, od, el, be, th, ar, go, ph, ra', ov, K, V, J, O, W', C', ST, wd_fl 64 (fun _ => 0) i SR, wd_fl 64 (fun _ => 0) i RD, wd_fl 64 (fun _ => 0) i AD, OP, OM, OD, VA, PL, SC, FI, DC) → P (c, ob, ed, od, el, be, th, ar, go, ph, ra', ov, K, V, J, O, W', C', ST, wd_fl 64 (fun _ => 0) (i + 1) (upd SR i 0), wd_fl 64 (fun _ => 0) (i + 1) (upd RD i 0), wd_fl 64 (fun _ => 0) (i + 1) (upd AD i 0), OP, OM, OD, VA, PL, SC, FI, DC) := by
      intro P ra' W' C' be OP OM OD hp
      rw [wd_fl_s (by omega) rfl, wd_fl_s (by omega) rfl, wd_fl_s (by omega) rfl]
      exact hp
    have eC : upd C (nI i).toNatClampNeg (C (nI i).toNatClampNeg + yAD (nI i).toNatClampNeg) = upd C i (C i + AD i) := by rw [ci, e3]
    by_cases hs : SR i = 0
    · have hy : ySR i = 0 := by rw [← e1]; exact hs
      rw [if_pos hy] at e4
      obtain ⟨ra', W', C', hX, hY⟩ := NEXT ra W (fun _ _ => rfl)
      have eW : upd W (nI i).toNatClampNeg (NX (nI i).toNatClampNeg) = W := by rw [ci, e4]; exact wd_us rfl
      refine ⟨ra', W', C', fun be OP OM OD P hp => br_f ng ⟨hin, br_t (by rw [ci]; exact hs) (X71 ra W be OP OM OD P (hX be OP OM OD P (FL P ra' W' C' be OP OM OD hp)))⟩, fun bh SK Q hq => br_f ng ⟨hin, hin, nm_r eW ⟨hin, hin, hin, nm_r eC ⟨hin, nm_r (e' := 0) (by rw [ci]; exact hy) (br_t (by decide) (br_t rfl (br_t rfl (br_t rfl (nm_r (nI_1 i) (hY bh SK Q hq))))))⟩⟩⟩⟩
    · have hy : ¬ ySR i = 0 := by rw [← e1]; exact hs
      rw [if_neg hy] at e4
      have eWX : upd W (nI i).toNatClampNeg (ST (nI i).toNatClampNeg) = upd W i (ST i) := by rw [ci]
      have eWY : upd W (nI i).toNatClampNeg (NX (nI i).toNatClampNeg) = upd W i (ST i) := by rw [ci, e4]
      have eSY : ySR (nI i).toNatClampNeg = SR i := by rw [ci, e1]
      have eU : SR (nI i).toNatClampNeg ||| RD (nI i).toNatClampNeg = SR i ||| RD i := by rw [ci]
      have eR : yRD (nI i).toNatClampNeg = RD i := by rw [ci, e2]
      have nsX : ¬ SR (nI i).toNatClampNeg = 0 := by rw [ci]; exact hs
      have WR := wd_race (r := RD i) hs
      by_cases hr : (SR i ||| RD i) &&& ((SR i ||| RD i) - 1) = 0
      · obtain ⟨hr1, hr2⟩ := WR.mp hr
        obtain ⟨ra', W', C', hX, hY⟩ := NEXT ra (upd W i (ST i)) (fun j hj => pk_un (by omega))
        exact ⟨ra', W', C', fun be OP OM OD P hp => br_f ng ⟨hin, br_f nsX ⟨hin, hin, nm_r eWX ⟨hin, hin, nm_r eU (br_t hr (br_t rfl (X71 ra _ be OP OM OD P (hX be OP OM OD P (FL P ra' W' C' be OP OM OD hp)))))⟩⟩⟩, fun bh SK Q hq => br_f ng ⟨hin, hin, nm_r eWY ⟨hin, hin, hin, nm_r eC ⟨hin, nm_r eSY (br_t hr1 (br_f hs ⟨hin, br_t (by rw [eR]; exact hr2) (br_t rfl (br_t rfl (nm_r (nI_1 i) (hY bh SK Q hq))))⟩))⟩⟩⟩⟩
      · obtain ⟨ra', W', C', hX, hY⟩ := NEXT (ra + 1) (upd W i (ST i)) (fun j hj => pk_un (by omega))
        refine ⟨ra', W', C', fun be OP OM OD P hp => br_f ng ⟨hin, br_f nsX ⟨hin, hin, nm_r eWX ⟨hin, hin, nm_r eU (br_f hr (br_f (by decide) (nm_e (X71 (ra + 1) _ be OP OM OD P (hX be OP OM OD P (FL P ra' W' C' be OP OM OD hp))))))⟩⟩⟩, fun bh SK Q hq => br_f ng ⟨hin, hin, nm_r eWY ⟨hin, hin, hin, nm_r eC ⟨hin, nm_r eSY ?_⟩⟩⟩⟩
        by_cases hr1 : SR i &&& (SR i - 1) = 0
        · refine br_t hr1 (br_f hs ⟨hin, br_f ?_ (br_t rfl (br_f (by decide) (nm_e (nm_r (nI_1 i) (hY bh SK Q hq)))))⟩)
          rw [eR]
          exact fun z => hr (WR.mpr ⟨hr1, z⟩)
        · refine br_f hr1 (br_f hs ⟨hin, br_c (fun _ => br_f (by decide) (nm_e (nm_r (nI_1 i) (hY bh SK Q hq)))) fun _ => br_f (by decide) (nm_e (nm_r (nI_1 i) (hY bh SK Q hq)))⟩)
