/-! a phase, both sides -/
def wd_TH (κ : Nat → Nat) (n T t k : Nat) (FI FY PL AT SC : Nat → Int32) : Prop := ∀ j, j < T → FI j = FY j ∧ (FI j = 0 → wd_Live κ n (if j < t then k + 1 else k) (SC j) (PL j) (AT j))
def wd_MP (t : Nat) (W SR ST NX : Nat → Int32) : Prop := ∀ c, c < 64 → NX c = (if SR c = 0 then W c else ST c) ∧ ∀ b, t ≤ b → bt (SR c) b = false
theorem wd_Live_m {κ : Nat → Nat} {n a b : Nat} {x y z : Int32} (h : wd_Live κ n a x y z) (hb : b ≤ a) : wd_Live κ n b x y z := by
  obtain ⟨p, st, h1, h2, h3⟩ := h
  exact ⟨p, st, h1, by omega, h3⟩
theorem wd_MP_s {t : Nat} {W SR ST NX : Nat → Int32} (h : wd_MP t W SR ST NX) : wd_MP (t + 1) W SR ST NX := fun c hc => ⟨(h c hc).1, fun b hb => (h c hc).2 b (by omega)⟩
theorem wd_MP_t {t : Nat} {W SR ST NX SR' ST' OW' : Nat → Int32} (h : wd_MP t W SR ST NX) (hM : wd_MI t W SR ST SR' ST' OW') : wd_MP (t + 1) W SR' ST' (wd_fl 64 (fun c => if bt (SR' c) t = true then OW' c else NX c) 0 NX) := by
  intro c hc
  obtain ⟨h1, h2⟩ := h c hc
  obtain ⟨m1, m2, m3⟩ := hM
  refine ⟨?_, fun b hb => ?_⟩
  · unfold wd_fl
    rw [if_pos (by omega)]
    show (if bt (SR' c) t = true then OW' c else NX c) = if SR' c = 0 then W c else ST' c
    by_cases hb : bt (SR' c) t = true
    · have nz : ¬ SR' c = 0 := by
        intro z
        rw [z, b_0] at hb
        exact absurd hb (by decide)
      rw [if_pos hb, m1 c hc, if_pos hb, if_neg nz]
    · obtain ⟨e1, e2⟩ := m3 c (Bool.eq_false_iff.mpr hb)
      rw [if_neg hb, e1, e2]
      exact h1
  · rw [m2 c b (by omega)]
    exact h2 b (by omega)
theorem wd_MI_0 {t : Nat} {W SR ST NX OW : Nat → Int32} (h : wd_MP t W SR ST NX) : wd_MI t W SR ST SR ST (wd_fl 64 W 0 OW) := by
  refine ⟨fun c hc => ?_, fun _ _ _ => rfl, fun _ _ => ⟨rfl, rfl⟩⟩
  rw [(h c hc).2 t (Nat.le_refl t), if_neg (by decide)]
  unfold wd_fl
  rw [if_pos (by omega)]
theorem wd_TH_s {κ : Nat → Nat} {n T t k st : Nat} {go go' : Int32} {FI FY PL AT SC FI' FY' PL' AT' SC' : Nat → Int32} (h : wd_TH κ n T t k FI FY PL AT SC) (hst : k ≤ st) (h0 : FI t = 0) (e : wd_End κ n t st go go' FI FY FI' FY' PL AT SC PL' AT' SC') : wd_TH κ n T (t + 1) k FI' FY' PL' AT' SC' := by
  obtain ⟨e1, e2⟩ := e
  intro j hj
  obtain ⟨h1, h2⟩ := h j hj
  by_cases ej : j = t
  · subst ej
    rcases e1 with ⟨_, rfl, rfl⟩ | ⟨_, rfl, rfl, hl⟩
    · rw [pk_us, pk_us]
      exact ⟨rfl, fun z => absurd z (by decide)⟩
    · refine ⟨h1, fun _ => ?_⟩
      rw [if_pos (by omega)]
      exact wd_Live_m hl (by omega)
  · obtain ⟨a, b, c⟩ := e2 j ej
    rw [a, b, c]
    have el : (if j < t + 1 then k + 1 else k) = if j < t then k + 1 else k := by
      by_cases z : j < t
      · rw [if_pos z, if_pos (by omega)]
      · rw [if_neg z, if_neg (by omega)]
    rw [el]
    rcases e1 with ⟨_, rfl, rfl⟩ | ⟨_, rfl, rfl, hl⟩
    · rw [pk_un ej, pk_un ej]
      exact ⟨h1, h2⟩
    · exact ⟨h1, h2⟩
theorem wd_TH_k {κ : Nat → Nat} {n T t k : Nat} {FI FY PL AT SC : Nat → Int32} (h : wd_TH κ n T t k FI FY PL AT SC) (h0 : FI t ≠ 0) : wd_TH κ n T (t + 1) k FI FY PL AT SC := by
  intro j hj
  obtain ⟨h1, h2⟩ := h j hj
  refine ⟨h1, fun z => ?_⟩
  have ej : j ≠ t := fun w => h0 (by rw [← w]; exact z)
  have el : (if j < t + 1 then k + 1 else k) = if j < t then k + 1 else k := by
    by_cases z : j < t
    · rw [if_pos z, if_pos (by omega)]
    · rw [if_neg z, if_neg (by omega)]
  rw [el]
  exact h2 z
theorem wd_go {κ : Nat → Nat} {n T t st : Nat} {go' : Int32} {FI FY PL AT SC FI' FY' PL' AT' SC' : Nat → Int32} (ht : t < T) (hT : T ≤ 32) (h0 : FI t = 0) (e : wd_End κ n t st (nI (wd_un FI T)) go' FI FY FI' FY' PL AT SC PL' AT' SC') : go' = nI (wd_un FI' T) := by
  rcases e.1 with ⟨h1, rfl, _⟩ | ⟨h1, rfl, _⟩
  · rw [h1, ← wd_un_u h0 T ht, nI_pred]
  · exact h1
set_option maxHeartbeats 1600000 in
theorem wd_thl {ob ed od el ar ph ra yp : Int32} {K V J O W C NN : Nat → Int32} {κ : Nat → Nat} {n T k : Nat} (hK : wd_tok κ K V) (hn : n ≤ 64) (hpr : wd_prog κ n J) (hT : T ≤ 32) : ∀ f t (ov : Int32) (VA ST SR RD AD DC PL AT SC FI FY OW NX : Nat → Int32), t + f = T → wd_TH κ n T t k FI FY PL AT SC → wd_MP t W SR ST NX → wd_Z SR RD AD →
   ∃ (ov' : Int32) (VA' ST' SR' RD' AD' DC' PL' AT' SC' FI' FY' OW' NX' : Nat → Int32), wd_TH κ n T T k FI' FY' PL' AT' SC' ∧ wd_MP T W SR' ST' NX' ∧ wd_Z SR' RD' AD' ∧
    (∀ (be : Int32) (OP OM OD : Nat → Int32) (P : Int32 → SX → Prop) (Jc : Int32 → Int32 → Int32 → Int32 → Int32 → Int32 → Int32 → Int32 → Int32 → Int32 → Int32 → Int32 → Int32 → (Nat → Int32) → (Nat → Int32) → (Nat → Int32) → (Nat → Int32) → (Nat → Int32) → (Nat → Int32) → (Nat → Int32) → (Nat → Int32) → (Nat → Int32) → (Nat → Int32) → (Nat → Int32) → (Nat → Int32) → (Nat → Int32) → (Nat → Int32) → (Nat → Int32) → (Nat → Int32) → (Nat → Int32) → (Nat → Int32) → Prop) (x3 : Int32), (∀ be' OP' OM' OD', wX_run_46 P Jc (nI T) x3 1 (nI T) (nI n) ob ed od el be' (nI T) ar (nI (wd_un FI' T)) ph ra ov' K V J O W C ST' SR' RD' AD' OP' OM' OD' VA' PL' SC' FI' DC') → wX_run_46 P Jc (nI T) x3 (f + 1) (nI t) (nI n) ob ed od el be (nI T) ar (nI (wd_un FI T)) ph ra ov K V J O W C ST SR RD AD OP OM OD VA PL SC FI DC) ∧
    (∀ (bh : Int32) (SK : Nat → Int32) (P : SY → Prop), (∀ bh' SK', wY_phase_59 P 1 (nI T) (nI n) (nI T) ar yp ra bh' ov' K V NN W C OW' NX' SR' RD' AD' VA' AT' SC' FY' DC' SK') → wY_phase_59 P (f + 1) (nI t) (nI n) (nI T) ar yp ra bh ov K V NN W C OW NX SR RD AD VA AT SC FY DC SK) := by
  intro f
  induction f with
  | zero =>
    intro t ov VA ST SR RD AD DC PL AT SC FI FY OW NX hi hTH hMP hZ
    obtain rfl : t = T := hi
    exact ⟨ov, VA, ST, SR, RD, AD, DC, PL, AT, SC, FI, FY, OW, NX, hTH, hMP, hZ, fun be OP OM OD P Jc x3 hp => hp _ _ _ _, fun bh SK P hp => hp _ _⟩
  | succ f ih =>
    intro t ov VA ST SR RD AD DC PL AT SC FI FY OW NX hi hTH hMP hZ
    have ng : ¬ nI T ≤ nI t := nI_ge (by omega) (by omega)
    have it : vp_in (nI t) 32 := vp_in_nI (by omega) (by decide)
    have ct : (nI t).toNatClampNeg = t := nI_clamp (by omega)
    obtain ⟨hF, hL⟩ := hTH t (by omega)
    by_cases h0 : FI t = 0
    · obtain ⟨p, st, hS, hlo, h300, hP, hA, hpn, hb⟩ := hL h0
      rw [if_neg (by omega)] at hlo
      obtain ⟨go1, ov1, VA1, ST1, SR1, RD1, AD1, OW1, DC1, FI1, FY1, PL1, AT1, SC1, e, hM1, hZ1, eX, eY⟩ := wd_adv (th := nI T) (go := nI (wd_un FI T)) (ob := ob) (ed := ed) (od := od) (el := el) (ar := ar) (ph := ph) (ra := ra) (ov := ov) (yp := yp) (K := K) (V := V) (J := J) (O := O) (W := W) (C := C) (FI := FI) (NN := NN) (NX := NX) (FY := FY) hK hn hpr (by omega) 300 0 p st VA ST SR RD AD (wd_fl 64 W 0 OW) DC PL AT SC (by omega) hS (by omega) h300 hP hA hpn hb (wd_MI_0 hMP) hZ
      obtain rfl := wd_go (by omega) hT h0 e
      obtain ⟨ov', VA', ST', SR', RD', AD', DC', PL', AT', SC', FI', FY', OW', NX', r1, r2, r3, rX, rY⟩ := ih (t + 1) ov1 VA1 ST1 SR1 RD1 AD1 DC1 PL1 AT1 SC1 FI1 FY1 OW1 (wd_fl 64 (fun c => if bt (SR1 c) t = true then OW1 c else NX c) 0 NX) (by omega) (wd_TH_s hTH hlo h0 e) (wd_MP_t hMP hM1) hZ1
      refine ⟨ov', VA', ST', SR', RD', AD', DC', PL', AT', SC', FI', FY', OW', NX', r1, r2, r3, fun be OP OM OD P Jc x3 hp => ?_, fun bh SK P hp => ?_⟩
      · exact br_f ng ⟨it, br_t (by rw [ct]; exact h0) ⟨301, eX be OP OM OD _ fun be' OP' OM' OD' => nm_r (nI_1 t) (rX be' OP' OM' OD' P Jc x3 hp)⟩⟩
      · obtain ⟨N, hN⟩ := eY P (wY_phase_59 P (f + 1)) ⟨1, fun m hm bh SK => by
          obtain ⟨m, rfl⟩ : ∃ x, m = x + 1 := ⟨m - 1, by omega⟩
          exact br_t rfl ⟨65, wd_122 P _ (by omega) _ 64 0 NX rfl (fun c _ _ => rfl) (rY bh SK P hp)⟩⟩
        exact br_f ng ⟨it, br_t (by rw [ct, ← hF]; exact h0) ⟨65, wd_81 P _ _ 64 0 OW rfl ⟨N, hN N (Nat.le_refl N) bh SK⟩⟩⟩
    · obtain ⟨ov', VA', ST', SR', RD', AD', DC', PL', AT', SC', FI', FY', OW', NX', r1, r2, r3, rX, rY⟩ := ih (t + 1) ov VA ST SR RD AD DC PL AT SC FI FY OW NX (by omega) (wd_TH_k hTH h0) (wd_MP_s hMP) hZ
      exact ⟨ov', VA', ST', SR', RD', AD', DC', PL', AT', SC', FI', FY', OW', NX', r1, r2, r3, fun be OP OM OD P Jc x3 hp => br_f ng ⟨it, br_f (by rw [ct]; exact h0) (nm_r (nI_1 t) (rX be OP OM OD P Jc x3 hp))⟩, fun bh SK P hp => br_f ng ⟨it, br_f (by rw [ct, ← hF]; exact h0) (nm_r (nI_1 t) (rY bh SK P hp))⟩⟩
theorem wd_fl0 {A : Nat → Int32} (h : ∀ j, 64 ≤ j → A j = 0) : wd_fl 64 (fun _ => 0) 0 A = fun _ => 0 := by
  funext j
  unfold wd_fl
  by_cases z : j < 64
  · rw [if_pos (by omega)]
  · rw [if_neg (by omega)]
    exact h j (by omega)
set_option maxHeartbeats 1600000 in
theorem wd_phs {ob ed od el ar ph ra yp : Int32} {K V J O W C ST VA PL SC FI DC NN OW NX AT FY ySR yRD yAD : Nat → Int32} {ov : Int32} {κ : Nat → Nat} {n T k : Nat} (hK : wd_tok κ K V) (hn : n ≤ 64) (hpr : wd_prog κ n J) (hT : T ≤ 32) (hTH : wd_TH κ n T 0 k FI FY PL AT SC) (hZ : wd_Z ySR yRD yAD) :
   ∃ (ra' ov' : Int32) (W' C' VA' ST' SR' RD' AD' DC' PL' AT' SC' FI' FY' OW' NX' : Nat → Int32), wd_TH κ n T 0 (k + 1) FI' FY' PL' AT' SC' ∧ wd_Z SR' RD' AD' ∧
    (∀ (be : Int32) (OP OM OD : Nat → Int32) (P : Int32 → SX → Prop) (Jc : Int32 → Int32 → Int32 → Int32 → Int32 → Int32 → Int32 → Int32 → Int32 → Int32 → Int32 → Int32 → Int32 → (Nat → Int32) → (Nat → Int32) → (Nat → Int32) → (Nat → Int32) → (Nat → Int32) → (Nat → Int32) → (Nat → Int32) → (Nat → Int32) → (Nat → Int32) → (Nat → Int32) → (Nat → Int32) → (Nat → Int32) → (Nat → Int32) → (Nat → Int32) → (Nat → Int32) → (Nat → Int32) → (Nat → Int32) → (Nat → Int32) → Prop), (∀ be' OP' OM' OD', Jc (nI (k + 1)) (nI n) ob ed od el be' (nI T) ar (nI (wd_un FI' T)) (ph + 1) ra' ov' K V J O W' C' ST' ((fun _ => 0)) ((fun _ => 0)) ((fun _ => 0)) OP' OM' OD' VA' PL' SC' FI' DC') → wX_run_46 P Jc (nI T) (nI k) (T + 1) 0 (nI n) ob ed od el be (nI T) ar (nI (wd_un FI T)) ph ra ov K V J O W C ST ((fun _ => 0)) ((fun _ => 0)) ((fun _ => 0)) OP OM OD VA PL SC FI DC) ∧
    (∀ (bh : Int32) (SK : Nat → Int32) (P : SY → Prop), (∀ bh' SK', P (nI n, nI T, ar, yp + 1, ra', bh', ov', K, V, NN, W', C', OW', NX', SR', RD', AD', VA', AT', SC', FY', DC', SK')) → wpY_phase P (nI n, nI T, ar, yp, ra, bh, ov, K, V, NN, W, C, OW, NX, ySR, yRD, yAD, VA, AT, SC, FY, DC, SK)) := by
  have f1 := wd_fl0 (fun j hj => (hZ j hj).1)
  have f2 := wd_fl0 (fun j hj => (hZ j hj).2.1)
  have f3 := wd_fl0 (fun j hj => (hZ j hj).2.2)
  have hMP : wd_MP 0 W (fun _ => 0) ST (wd_fl 64 W 0 NX) := by
    intro c hc
    refine ⟨?_, fun b _ => b_0 b⟩
    unfold wd_fl
    rw [if_pos (by omega), if_pos rfl]
  obtain ⟨ov', VA', ST', SR', RD', AD', DC', PL', AT', SC', FI', FY', OW', NX', r1, r2, r3, rX, rY⟩ := wd_thl (yp := yp + 1) (ob := ob) (ed := ed) (od := od) (el := el) (ar := ar) (ph := ph) (ra := ra) (K := K) (V := V) (J := J) (O := O) (W := W) (C := C) (NN := NN) hK hn hpr hT T 0 ov VA ST (fun _ => 0) (fun _ => 0) (fun _ => 0) DC PL AT SC FI FY OW (wd_fl 64 W 0 NX) (by omega) hTH hMP (fun _ _ => ⟨rfl, rfl, rfl⟩)
  obtain ⟨ra', W', C', sX, sY⟩ := wd_settle (c := nI n) (th := nI T) (go := nI (wd_un FI' T)) (ov := ov') (yp := yp + 1) (VA := VA') (ST := ST') (DC := DC') (PL := PL') (AT := AT') (SC := SC') (FI := FI') (FY := FY') (OW := OW') (NX := NX') (ySR := SR') (yRD := RD') (yAD := AD') (ob := ob) (ed := ed) (od := od) (el := el) (ar := ar) (ph := ph) (K := K) (V := V) (J := J) (O := O) (NN := NN) 64 0 ra W C SR' RD' AD' rfl (fun _ _ => ⟨rfl, rfl, rfl⟩) (fun j _ hj => (r2 j hj).1)
  rw [wd_fl0 (fun j hj => (r3 j hj).1), wd_fl0 (fun j hj => (r3 j hj).2.1), wd_fl0 (fun j hj => (r3 j hj).2.2)] at sX
  refine ⟨ra', ov', W', C', VA', ST', SR', RD', AD', DC', PL', AT', SC', FI', FY', OW', NX', ?_, r3, fun be OP OM OD P Jc hp => ?_, fun bh SK P hp => ?_⟩
  · intro j hj
    obtain ⟨h1, h2⟩ := r1 j hj
    rw [if_pos hj] at h2
    rw [if_neg (by omega)]
    exact ⟨h1, h2⟩
  · exact rX be OP OM OD P Jc (nI k) fun be' OP' OM' OD' => br_t (nI_le (Nat.le_refl T) (by omega)) ⟨65, sX be' OP' OM' OD' _ (nm_e (nm_r (nI_1 k) (hp _ _ _ _)))⟩
  · refine nm_e ⟨65, wd_12 P 64 0 NX ySR yRD yAD rfl ⟨T + 1, ?_⟩⟩
    rw [f1, f2, f3]
    exact rY bh SK P fun bh' SK' => br_t (nI_le (Nat.le_refl T) (by omega)) ⟨65, sY bh' SK' P (hp _ _)⟩
