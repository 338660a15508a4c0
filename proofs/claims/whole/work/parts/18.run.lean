/-! run -/
set_option maxHeartbeats 1600000 in
theorem wd_rl {ob ed od el ar : Int32} {K V J O NN : Nat → Int32} {κ : Nat → Nat} {n T : Nat} (hK : wd_tok κ K V) (hn : n ≤ 64) (hpr : wd_prog κ n J) (hT : T ≤ 32) : ∀ f k (ph ra ov : Int32) (W C VA ST DC PL AT SC FI FY OW NX ySR yRD yAD : Nat → Int32), k + f = 301 → wd_TH κ n T 0 k FI FY PL AT SC → wd_Z ySR yRD yAD →
   ∃ (go' ph' ra' ov' : Int32) (W' C' VA' ST' DC' PL' AT' SC' FI' FY' OW' NX' SR' RD' AD' : Nat → Int32), wd_Z SR' RD' AD' ∧
    (∀ (be : Int32) (OP OM OD : Nat → Int32) (P : Int32 → SX → Prop), (∀ be' OP' OM' OD', wX_run_94 P (nI n) ob ed od el be' (nI T) ar go' ph' ra' ov' K V J O W' C' ST' ((fun _ => 0)) ((fun _ => 0)) ((fun _ => 0)) OP' OM' OD' VA' PL' SC' FI' DC') → wX_run_29 P (nI T) (f + 1) (nI k) (nI n) ob ed od el be (nI T) ar (nI (wd_un FI T)) ph ra ov K V J O W C ST ((fun _ => 0)) ((fun _ => 0)) ((fun _ => 0)) OP OM OD VA PL SC FI DC) ∧
    (∀ (bh : Int32) (SK : Nat → Int32) (Q : Int32 → SY → Prop), (∀ bh' SK', (ov' = 0 → Q 0 (nI n, nI T, ar, ph', ra', bh', ov', K, V, NN, W', C', OW', NX', SR', RD', AD', VA', AT', SC', FY', DC', SK')) ∧ (¬ ov' = 0 → Q 1 (nI n, nI T, ar, ph', ra', bh', ov', K, V, NN, W', C', OW', NX', SR', RD', AD', VA', AT', SC', FY', DC', SK'))) → wY_run_149 Q (nI T) (f + 1) (nI (if wd_un FY T = 0 then 0 else 1)) (nI n) (nI T) ar ph ra bh ov K V NN W C OW NX ySR yRD yAD VA AT SC FY DC SK) := by
  intro f
  induction f with
  | zero =>
    intro k ph ra ov W C VA ST DC PL AT SC FI FY OW NX ySR yRD yAD hk hTH hZ
    obtain rfl : k = 301 := hk
    have h0 : wd_un FI T = 0 := by
      by_cases z : wd_un FI T = 0
      · exact z
      · obtain ⟨t, ht, hf⟩ := wd_un_n T z
        obtain ⟨p, st, h1, h2, h3, _⟩ := (hTH t ht).2 hf
        rw [if_neg (by omega)] at h2
        omega
    have hy : wd_un FY T = 0 := by rw [← wd_un_c T (fun j hj => (hTH j hj).1)]; exact h0
    refine ⟨nI (wd_un FI T), ph, ra, ov, W, C, VA, ST, DC, PL, AT, SC, FI, FY, OW, NX, ySR, yRD, yAD, hZ, fun be OP OM OD P hp => br_t (by decide) (hp _ _ _ _), fun bh SK Q hq => ?_⟩
    rw [if_pos hy]
    exact br_t rfl (hq _ _)
  | succ f ih =>
    intro k ph ra ov W C VA ST DC PL AT SC FI FY OW NX ySR yRD yAD hk hTH hZ
    have nk : ¬ 300 < nI k := nI_nlt (a := 300) (by omega) (by decide)
    have hc : wd_un FI T = wd_un FY T := wd_un_c T (fun j hj => (hTH j hj).1)
    have hle := wd_un_le FI T
    by_cases h0 : wd_un FI T = 0
    · refine ⟨nI (wd_un FI T), ph, ra, ov, W, C, VA, ST, DC, PL, AT, SC, FI, FY, OW, NX, ySR, yRD, yAD, hZ, fun be OP OM OD P hp => br_f nk (br_t (by rw [h0]; decide) (hp _ _ _ _)), fun bh SK Q hq => ?_⟩
      rw [if_pos (by rw [← hc]; exact h0)]
      exact br_t rfl (hq _ _)
    · obtain ⟨ra1, ov1, W1, C1, VA1, ST1, SR1, RD1, AD1, DC1, PL1, AT1, SC1, FI1, FY1, OW1, NX1, t1, t2, tX, tY⟩ := wd_phs (yp := ph) (ob := ob) (ed := ed) (od := od) (el := el) (ar := ar) (ph := ph) (ra := ra) (ov := ov) (K := K) (V := V) (J := J) (O := O) (W := W) (C := C) (ST := ST) (VA := VA) (PL := PL) (SC := SC) (FI := FI) (DC := DC) (NN := NN) (OW := OW) (NX := NX) (AT := AT) (FY := FY) (ySR := ySR) (yRD := yRD) (yAD := yAD) hK hn hpr hT hTH hZ
      obtain ⟨go', ph', ra', ov', W', C', VA', ST', DC', PL', AT', SC', FI', FY', OW', NX', SR', RD', AD', r1, rX, rY⟩ := ih (k + 1) (ph + 1) ra1 ov1 W1 C1 VA1 ST1 DC1 PL1 AT1 SC1 FI1 FY1 OW1 NX1 SR1 RD1 AD1 (by omega) t1 t2
      refine ⟨go', ph', ra', ov', W', C', VA', ST', DC', PL', AT', SC', FI', FY', OW', NX', SR', RD', AD', r1, fun be OP OM OD P hp => br_f nk (br_f (nI_nle (by omega) (by omega)) ⟨T + 1, tX be OP OM OD P _ fun be' OP' OM' OD' => rX be' OP' OM' OD' P hp⟩), fun bh SK Q hq => ?_⟩
      rw [if_neg (by rw [← hc]; exact h0)]
      refine br_f (by decide) (tY bh SK _ fun bh' SK' => ?_)
      exact ⟨T + 1, wd_164 Q (wY_run_149 Q (nI T) (f + 1)) hT (rY bh' SK' Q hq) T 0 (by omega)⟩
theorem wd_fll {e j : Nat} {A B : Nat → Int32} (h : j < e) : wd_fl e A 0 B j = A j := by
  unfold wd_fl
  rw [if_pos (by omega)]
set_option maxHeartbeats 1600000 in
theorem i_vc_run {k : Nat} {u : SX} {v : SY} (I : i_Rel k u v) (hk : k + 3 ≤ 1536) (v1 : Int32) (v2 : Int32) : wpX_run (fun r u' => wpY_run (fun r' v' => r' = r ∧ i_Rel (k + 3) u' v') v v1 v2) u v1 v2 := by
  obtain ⟨n, T0, κ, ob, ed, od, el, be, ar, go, ph, ra, ov, bh, K, V, J, O, W, C, ST, SR, RD, AD, OP, OM, OD, VA, PL, SC, FI, DC, NN, OW, NX, ySR, yRD, yAD, AT, FY, SK, rfl, rfl, h3, h4, h5, h6, _⟩ := I
  obtain ⟨r, ob', ed', od', el', J', O', NN', hX, hY, hr⟩ := wd_ff (th := nI T0) (yp := ph) (ob := ob) (ed := ed) (od := od) (el := el) (be := be) (ar := ar) (go := go) (ph := ph) (ra := ra) (ov := ov) (bh := bh) (K := K) (V := V) (J := J) (O := O) (W := W) (C := C) (ST := ST) (SR := SR) (RD := RD) (AD := AD) (OP := OP) (OM := OM) (OD := OD) (VA := VA) (PL := PL) (SC := SC) (FI := FI) (DC := DC) (NN := NN) (OW := OW) (NX := NX) (AT := AT) (FY := FY) (SK := SK) (ySR := ySR) (yRD := yRD) (yAD := yAD) h5 h3
  have R0 : i_Rel (k + 3) (nI n, ob, ed, od, el, be, nI T0, ar, go, ph, ra, ov, K, V, J, O, W, C, ST, SR, RD, AD, OP, OM, OD, VA, PL, SC, FI, DC) (nI n, nI T0, ar, ph, ra, bh, ov, K, V, NN', W, C, OW, NX, ySR, yRD, yAD, VA, AT, SC, FY, DC, SK) := ⟨n, T0, κ, ob, ed, od, el, be, ar, go, ph, ra, ov, bh, K, V, J, O, W, C, ST, SR, RD, AD, OP, OM, OD, VA, PL, SC, FI, DC, NN', OW, NX, ySR, yRD, yAD, AT, FY, SK, rfl, rfl, h3, h4, h5, h6, rfl⟩
  have R1 : i_Rel (k + 3) (nI n, ob', ed', od', el', be, nI T0, ar, go, ph, ra, ov, K, V, J', O', W, C, ST, SR, RD, AD, OP, OM, OD, VA, PL, SC, FI, DC) (nI n, nI T0, ar, ph, ra, bh, ov, K, V, NN', W, C, OW, NX, ySR, yRD, yAD, VA, AT, SC, FY, DC, SK) := ⟨n, T0, κ, ob', ed', od', el', be, ar, go, ph, ra, ov, bh, K, V, J', O', W, C, ST, SR, RD, AD, OP, OM, OD, VA, PL, SC, FI, DC, NN', OW, NX, ySR, yRD, yAD, AT, FY, SK, rfl, rfl, h3, h4, h5, h6, rfl⟩
  by_cases g1 : v1 < 1
  · exact br_t g1 (hY _ (br_t g1 ⟨rfl, R0⟩))
  · by_cases g2 : 32 < v1
    · exact br_f g1 (br_t g2 (hY _ (br_f g1 (br_t g2 ⟨rfl, R0⟩))))
    · refine br_f g1 (br_f g2 (hX _ ?_))
      rcases hr with ⟨rfl, hpr⟩ | ⟨j, hj, rfl⟩
      · have n0 : ¬ v1 < 0 := fun z => g1 (Int32.lt_trans z (by decide))
        obtain ⟨T, hT, rfl⟩ := nI_of2 (M := 32) (n := 32) (by decide) n0 (Int32.not_lt.mp g2)
        have hT1 : 1 ≤ T := by
          rcases Nat.eq_zero_or_pos T with z | z
          · subst z; exact absurd (by decide) g1
          · exact z
        have eSR : SR = fun _ => 0 := funext fun j => (h6.1 j).1
        have eRD : RD = fun _ => 0 := funext fun j => (h6.1 j).2.1
        have eAD : AD = fun _ => 0 := funext fun j => (h6.1 j).2.2
        subst eSR eRD eAD
        have hTH : wd_TH κ n T 0 0 (wd_fl 32 (fun _ => 0) 0 FI) (wd_fl 32 (fun j => if j < T then 0 else 1) 0 FY) (wd_fl 32 (fun _ => 0) 0 PL) (wd_fl 32 (fun _ => 0) 0 AT) (wd_fl 32 (fun _ => 0) 0 SC) := by
          intro j hj
          rw [wd_fll (by omega), wd_fll (by omega), wd_fll (by omega), wd_fll (by omega), wd_fll (by omega), if_pos hj]
          exact ⟨rfl, fun _ => ⟨0, 0, rfl, by rw [if_neg (by omega)]; exact Nat.le_refl 0, by omega, rfl, rfl, by omega, rfl⟩⟩
        obtain ⟨go', ph', ra', ov', W', C', VA', ST', DC', PL', AT', SC', FI', FY', OW', NX', SR', RD', AD', r1, rX, rY⟩ := wd_rl (ob := ob') (ed := ed') (od := od') (el := el') (J := J') (O := O') (NN := NN') (ar := v2) (K := K) (V := V) h5 h3 hpr hT 301 0 0 0 0 W C (wd_fl 192 (fun _ => 0) 0 VA) ST (wd_fl 64 (fun _ => 0) 0 DC) (wd_fl 32 (fun _ => 0) 0 PL) (wd_fl 32 (fun _ => 0) 0 AT) (wd_fl 32 (fun _ => 0) 0 SC) (wd_fl 32 (fun _ => 0) 0 FI) (wd_fl 32 (fun j => if j < T then 0 else 1) 0 FY) OW NX ySR yRD yAD (by omega) hTH h6.2
        have u1 : wd_un (wd_fl 32 (fun _ => 0) 0 FI) T = T := wd_un_a T (fun j hj => wd_fll (by omega))
        have u2 : wd_un (wd_fl 32 (fun j => if j < T then 0 else 1) 0 FY) T = T := wd_un_a T (fun j hj => by rw [wd_fll (by omega), if_pos hj])
        rw [u1] at rX
        rw [u2, if_neg (by omega)] at rY
        have FY_ : ∀ Q : Int32 → SY → Prop, (∀ bh' SK', (ov' = 0 → Q 0 (nI n, nI T, v2, ph', ra', bh', ov', K, V, NN', W', C', OW', NX', SR', RD', AD', VA', AT', SC', FY', DC', SK')) ∧ (¬ ov' = 0 → Q 1 (nI n, nI T, v2, ph', ra', bh', ov', K, V, NN', W', C', OW', NX', SR', RD', AD', VA', AT', SC', FY', DC', SK'))) → wpY_run Q (nI n, nI T0, ar, ph, ra, bh, ov, K, V, NN, W, C, OW, NX, ySR, yRD, yAD, VA, AT, SC, FY, DC, SK) (nI T) v2 := fun Q hq => hY _ (br_f g1 (br_f g2 (br_t (by decide) ⟨193, wd_r50 Q _ 192 0 VA rfl ⟨65, wd_r75 Q _ 64 0 DC rfl ⟨33, wd_r99 Q hT 32 0 AT SC FY rfl ⟨302, rY _ _ Q hq⟩⟩⟩⟩)))
        refine br_t rfl (wd_srX _ _ _ ⟨302, rX _ _ _ _ _ fun be' OP' OM' OD' => ?_⟩)
        have RR : ∀ bh' SK', i_Rel (k + 3) (nI n, ob', ed', od', el', be', nI T, v2, go', ph', ra', ov', K, V, J', O', W', C', ST', (fun _ => 0), (fun _ => 0), (fun _ => 0), OP', OM', OD', VA', PL', SC', FI', DC') (nI n, nI T, v2, ph', ra', bh', ov', K, V, NN', W', C', OW', NX', SR', RD', AD', VA', AT', SC', FY', DC', SK') := fun bh' SK' => ⟨n, T, κ, ob', ed', od', el', be', v2, go', ph', ra', ov', bh', K, V, J', O', W', C', ST', (fun _ => 0), (fun _ => 0), (fun _ => 0), OP', OM', OD', VA', PL', SC', FI', DC', NN', OW', NX', SR', RD', AD', AT', FY', SK', rfl, rfl, h3, hT, h5, ⟨fun j => ⟨rfl, rfl, rfl⟩, r1⟩, rfl⟩
        by_cases ho : ov' = 0
        · exact br_t ho (FY_ _ fun bh' SK' => br_t ho ⟨rfl, RR bh' SK'⟩)
        · exact br_f ho (FY_ _ fun bh' SK' => br_f ho ⟨rfl, RR bh' SK'⟩)
      · have nm : ¬ nI j = -1 := fun z => absurd (nI_pos (n := j) (by omega)) (by rw [z]; decide)
        exact br_f nm (hY _ (br_f g1 (br_f g2 (br_f (nI_pos (by omega)) ⟨rfl, R1⟩))))
