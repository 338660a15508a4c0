/-! the plain loops of a run -/
theorem wd_81 {c th ar yp ra bh ov : Int32} {K V NN W C NX SR RD AD VA AT SC FY DC SK : Nat → Int32} (P : SY → Prop) (Jc : Int32 → Int32 → Int32 → Int32 → Int32 → Int32 → Int32 → Int32 → (Nat → Int32) → (Nat → Int32) → (Nat → Int32) → (Nat → Int32) → (Nat → Int32) → (Nat → Int32) → (Nat → Int32) → (Nat → Int32) → (Nat → Int32) → (Nat → Int32) → (Nat → Int32) → (Nat → Int32) → (Nat → Int32) → (Nat → Int32) → (Nat → Int32) → (Nat → Int32) → Prop) (x1 : Int32) : ∀ f i (OW : Nat → Int32), i + f = 64 → (∃ m, wY_phase_107 P Jc x1 m 1 c th ar yp ra bh ov K V NN W C (wd_fl 64 W i OW) NX SR RD AD VA AT SC FY DC SK) → wY_phase_81 P Jc x1 c th ar yp ra bh ov (f + 1) (nI i) K V NN W C OW NX SR RD AD VA AT SC FY DC SK := by
  intro f
  induction f with
  | zero =>
    intro i OW hi hp
    obtain rfl : i = 64 := hi
    rw [wd_fl_e] at hp
    exact br_t (by decide) hp
  | succ f ih =>
    intro i OW hi hp
    have h2 : vp_in (nI i) 64 := vp_in_nI (by omega) (by decide)
    refine br_f (nI_ge (b := 64) (by omega) (by decide)) ⟨h2, h2, nm_e (nm_r (nI_1 i) (ih (i + 1) _ (by omega) ?_))⟩
    rw [nI_clamp (by omega), wd_fl_s (by omega) rfl]
    exact hp
theorem wd_122 {c th ar yp ra bh ov : Int32} {K V NN W C OW SR RD AD VA AT SC FY DC SK : Nat → Int32} (P : SY → Prop) (Jc : Int32 → Int32 → Int32 → Int32 → Int32 → Int32 → Int32 → Int32 → (Nat → Int32) → (Nat → Int32) → (Nat → Int32) → (Nat → Int32) → (Nat → Int32) → (Nat → Int32) → (Nat → Int32) → (Nat → Int32) → (Nat → Int32) → (Nat → Int32) → (Nat → Int32) → (Nat → Int32) → (Nat → Int32) → (Nat → Int32) → (Nat → Int32) → (Nat → Int32) → Prop) {t : Nat} (ht : t < 32) (A : Nat → Int32) : ∀ f i (NX : Nat → Int32), i + f = 64 → (∀ c, i ≤ c → c < 64 → A c = if bt (SR c) t = true then OW c else NX c) → Jc (nI (t + 1)) c th ar yp ra bh ov K V NN W C OW (wd_fl 64 A i NX) SR RD AD VA AT SC FY DC SK → wY_phase_122 P Jc (nI t) c th ar yp ra bh ov (f + 1) (nI i) K V NN W C OW NX SR RD AD VA AT SC FY DC SK := by
  intro f
  induction f with
  | zero =>
    intro i NX hi hA hp
    obtain rfl : i = 64 := hi
    rw [wd_fl_e] at hp
    exact br_t (by decide) (nm_r (nI_1 t) hp)
  | succ f ih =>
    intro i NX hi hA hp
    have h2 : vp_in (nI i) 64 := vp_in_nI (by omega) (by decide)
    have ci : (nI i).toNatClampNeg = i := nI_clamp (by omega)
    refine br_f (nI_ge (b := 64) (by omega) (by decide)) ⟨h2, ?_⟩
    have hAi := hA i (by omega) (by omega)
    cases hb : bt (SR i) t
    · rw [hb] at hAi
      refine br_f ?_ (nm_r (nI_1 i) (ih (i + 1) NX (by omega) (fun c h1 h3 => hA c (by omega) h3) ?_))
      · rw [ci, wd_bY ht, hb]; decide
      · rw [wd_fl_k hAi.symm]
        exact hp
    · rw [hb, if_pos rfl] at hAi
      refine br_t ?_ ⟨h2, h2, nm_e (nm_r (nI_1 i) (ih (i + 1) _ (by omega) (fun c h1 h3 => ?_) ?_))⟩
      · rw [ci, wd_bY ht]; exact hb
      · rw [ci, pk_un (by omega)]
        exact hA c (by omega) h3
      · rw [ci, wd_fl_s (by omega) hAi.symm]
        exact hp
theorem wd_12 {c th ar yp ra bh ov : Int32} {K V NN W C OW VA AT SC FY DC SK : Nat → Int32} (P : SY → Prop) : ∀ f i (NX SR RD AD : Nat → Int32), i + f = 64 → (∃ m, wY_phase_59 P m 0 c th ar yp ra bh ov K V NN W C OW (wd_fl 64 W i NX) (wd_fl 64 (fun _ => 0) i SR) (wd_fl 64 (fun _ => 0) i RD) (wd_fl 64 (fun _ => 0) i AD) VA AT SC FY DC SK) → wY_phase_12 P c th ar yp ra bh ov (f + 1) (nI i) K V NN W C OW NX SR RD AD VA AT SC FY DC SK := by
  intro f
  induction f with
  | zero =>
    intro i NX SR RD AD hi hp
    obtain rfl : i = 64 := hi
    rw [wd_fl_e, wd_fl_e, wd_fl_e, wd_fl_e] at hp
    exact br_t (by decide) hp
  | succ f ih =>
    intro i NX SR RD AD hi hp
    have h2 : vp_in (nI i) 64 := vp_in_nI (by omega) (by decide)
    refine br_f (nI_ge (b := 64) (by omega) (by decide)) ⟨h2, h2, nm_e ⟨h2, nm_e ⟨h2, nm_e ⟨h2, nm_e (nm_r (nI_1 i) (ih (i + 1) _ _ _ _ (by omega) ?_))⟩⟩⟩⟩
    rw [nI_clamp (by omega), wd_fl_s (by omega) rfl, wd_fl_s (by omega) rfl, wd_fl_s (by omega) rfl, wd_fl_s (by omega) rfl]
    exact hp
theorem wd_sr89 {c ob ed od el be th ar go ph ra ov : Int32} {K V J O W C ST SR RD AD OP OM OD VA PL SC FI : Nat → Int32} (P : SX → Prop) : ∀ f i (DC : Nat → Int32), i + f = 64 → P (c, ob, ed, od, el, be, th, ar, go, ph, ra, ov, K, V, J, O, W, C, ST, SR, RD, AD, OP, OM, OD, VA, PL, SC, FI, wd_fl 64 (fun _ => 0) i DC) → wX_startRun_89 P c ob ed od el be th ar go ph ra ov (f + 1) (nI i) K V J O W C ST SR RD AD OP OM OD VA PL SC FI DC := by
  intro f
  induction f with
  | zero =>
    intro i DC hi hp
    obtain rfl : i = 64 := hi
    rw [wd_fl_e] at hp
    exact br_t (by decide) hp
  | succ f ih =>
    intro i DC hi hp
    have h2 : vp_in (nI i) 64 := vp_in_nI (by omega) (by decide)
    refine br_f (nI_ge (b := 64) (by omega) (by decide)) ⟨h2, nm_e (nm_r (nI_1 i) (ih (i + 1) _ (by omega) ?_))⟩
    rw [nI_clamp (by omega), wd_fl_s (by omega) rfl]
    exact hp
theorem wd_sr67 {c ob ed od el be th ar go ph ra ov : Int32} {K V J O W C ST SR RD AD OP OM OD PL SC FI DC : Nat → Int32} (P : SX → Prop) : ∀ f i (VA : Nat → Int32), i + f = 192 → (∃ m, wX_startRun_89 P c ob ed od el be th ar go ph ra ov m 0 K V J O W C ST SR RD AD OP OM OD (wd_fl 192 (fun _ => 0) i VA) PL SC FI DC) → wX_startRun_67 P c ob ed od el be th ar go ph ra ov (f + 1) (nI i) K V J O W C ST SR RD AD OP OM OD VA PL SC FI DC := by
  intro f
  induction f with
  | zero =>
    intro i VA hi hp
    obtain rfl : i = 192 := hi
    rw [wd_fl_e] at hp
    exact br_t (by decide) hp
  | succ f ih =>
    intro i VA hi hp
    have h2 : vp_in (nI i) 192 := vp_in_nI (by omega) (by decide)
    refine br_f (nI_ge (b := 192) (by omega) (by decide)) ⟨h2, nm_e (nm_r (nI_1 i) (ih (i + 1) _ (by omega) ?_))⟩
    rw [nI_clamp (by omega), wd_fl_s (by omega) rfl]
    exact hp
theorem wd_sr32 {c ob ed od el be th ar go ph ra ov : Int32} {K V J O W C ST SR RD AD OP OM OD VA DC : Nat → Int32} (P : SX → Prop) : ∀ f i (PL SC FI : Nat → Int32), i + f = 32 → (∃ m, wX_startRun_67 P c ob ed od el be th ar go ph ra ov m 0 K V J O W C ST SR RD AD OP OM OD VA (wd_fl 32 (fun _ => 0) i PL) (wd_fl 32 (fun _ => 0) i SC) (wd_fl 32 (fun _ => 0) i FI) DC) → wX_startRun_32 P c ob ed od el be th ar go ph ra ov (f + 1) (nI i) K V J O W C ST SR RD AD OP OM OD VA PL SC FI DC := by
  intro f
  induction f with
  | zero =>
    intro i PL SC FI hi hp
    obtain rfl : i = 32 := hi
    rw [wd_fl_e, wd_fl_e, wd_fl_e] at hp
    exact br_t (by decide) hp
  | succ f ih =>
    intro i PL SC FI hi hp
    have h2 : vp_in (nI i) 32 := vp_in_nI (by omega) (by decide)
    refine br_f (nI_ge (b := 32) (by omega) (by decide)) ⟨h2, nm_e ⟨h2, nm_e ⟨h2, nm_e (nm_r (nI_1 i) (ih (i + 1) _ _ _ (by omega) ?_))⟩⟩⟩
    rw [nI_clamp (by omega), wd_nb0, wd_fl_s (by omega) rfl, wd_fl_s (by omega) rfl, wd_fl_s (by omega) rfl]
    exact hp
theorem wd_srX {c ob ed od el be th ar go ph ra ov : Int32} {K V J O W C ST SR RD AD OP OM OD VA PL SC FI DC : Nat → Int32} (P : SX → Prop) (p0 p1 : Int32) (hp : P (c, ob, ed, od, el, be, p0, p1, p0, 0, 0, 0, K, V, J, O, W, C, ST, SR, RD, AD, OP, OM, OD, wd_fl 192 (fun _ => 0) 0 VA, wd_fl 32 (fun _ => 0) 0 PL, wd_fl 32 (fun _ => 0) 0 SC, wd_fl 32 (fun _ => 0) 0 FI, wd_fl 64 (fun _ => 0) 0 DC)) : wpX_startRun P (c, ob, ed, od, el, be, th, ar, go, ph, ra, ov, K, V, J, O, W, C, ST, SR, RD, AD, OP, OM, OD, VA, PL, SC, FI, DC) p0 p1 :=
  ⟨33, wd_sr32 P 32 0 _ _ _ rfl ⟨193, wd_sr67 P 192 0 _ rfl ⟨65, wd_sr89 P 64 0 _ rfl hp⟩⟩⟩
theorem wd_r99 {c th ar yp ra bh ov : Int32} {K V NN W C OW NX SR RD AD VA DC SK : Nat → Int32} (P : Int32 → SY → Prop) {T : Nat} (hT : T ≤ 32) : ∀ f i (AT SC FY : Nat → Int32), i + f = 32 → (∃ m, wY_run_149 P (nI T) m 1 c th ar yp ra bh ov K V NN W C OW NX SR RD AD VA (wd_fl 32 (fun _ => 0) i AT) (wd_fl 32 (fun _ => 0) i SC) (wd_fl 32 (fun j => if j < T then 0 else 1) i FY) DC SK) → wY_run_99 P (nI T) c th ar yp ra bh ov (f + 1) (nI i) K V NN W C OW NX SR RD AD VA AT SC FY DC SK := by
  intro f
  induction f with
  | zero =>
    intro i AT SC FY hi hp
    obtain rfl : i = 32 := hi
    rw [wd_fl_e, wd_fl_e, wd_fl_e] at hp
    exact br_t (by decide) hp
  | succ f ih =>
    intro i AT SC FY hi hp
    have h2 : vp_in (nI i) 32 := vp_in_nI (by omega) (by decide)
    refine br_f (nI_ge (b := 32) (by omega) (by decide)) ⟨h2, nm_e ⟨h2, nm_e ?_⟩⟩
    by_cases hl : i < T
    · refine br_t (nI_lt hl (by omega)) ⟨h2, nm_e (nm_r (nI_1 i) (ih (i + 1) _ _ _ (by omega) ?_))⟩
      rw [nI_clamp (by omega), wd_fl_s (by omega) rfl, wd_fl_s (by omega) rfl, wd_fl_s (by omega) (by rw [if_pos hl]; rfl)]
      exact hp
    · refine br_f (nI_nlt (by omega) (by omega)) ⟨h2, nm_e (nm_r (nI_1 i) (ih (i + 1) _ _ _ (by omega) ?_))⟩
      rw [nI_clamp (by omega), wd_fl_s (by omega) rfl, wd_fl_s (by omega) rfl, wd_fl_s (by omega) (by rw [if_neg hl]; rfl)]
      exact hp
theorem wd_r75 {c th ar yp ra bh ov : Int32} {K V NN W C OW NX SR RD AD VA AT SC FY SK : Nat → Int32} (P : Int32 → SY → Prop) (x1 : Int32) : ∀ f i (DC : Nat → Int32), i + f = 64 → (∃ m, wY_run_99 P x1 c th ar yp ra bh ov m 0 K V NN W C OW NX SR RD AD VA AT SC FY (wd_fl 64 (fun _ => 0) i DC) SK) → wY_run_75 P x1 c th ar yp ra bh ov (f + 1) (nI i) K V NN W C OW NX SR RD AD VA AT SC FY DC SK := by
  intro f
  induction f with
  | zero =>
    intro i DC hi hp
    obtain rfl : i = 64 := hi
    rw [wd_fl_e] at hp
    exact br_t (by decide) hp
  | succ f ih =>
    intro i DC hi hp
    have h2 : vp_in (nI i) 64 := vp_in_nI (by omega) (by decide)
    refine br_f (nI_ge (b := 64) (by omega) (by decide)) ⟨h2, nm_e (nm_r (nI_1 i) (ih (i + 1) _ (by omega) ?_))⟩
    rw [nI_clamp (by omega), wd_fl_s (by omega) rfl]
    exact hp
theorem wd_r50 {c th ar yp ra bh ov : Int32} {K V NN W C OW NX SR RD AD AT SC FY DC SK : Nat → Int32} (P : Int32 → SY → Prop) (x1 : Int32) : ∀ f i (VA : Nat → Int32), i + f = 192 → (∃ m, wY_run_75 P x1 c th ar yp ra bh ov m 0 K V NN W C OW NX SR RD AD (wd_fl 192 (fun _ => 0) i VA) AT SC FY DC SK) → wY_run_50 P x1 c th ar yp ra bh ov (f + 1) (nI i) K V NN W C OW NX SR RD AD VA AT SC FY DC SK := by
  intro f
  induction f with
  | zero =>
    intro i VA hi hp
    obtain rfl : i = 192 := hi
    rw [wd_fl_e] at hp
    exact br_t (by decide) hp
  | succ f ih =>
    intro i VA hi hp
    have h2 : vp_in (nI i) 192 := vp_in_nI (by omega) (by decide)
    refine br_f (nI_ge (b := 192) (by omega) (by decide)) ⟨h2, nm_e (nm_r (nI_1 i) (ih (i + 1) _ (by omega) ?_))⟩
    rw [nI_clamp (by omega), wd_fl_s (by omega) rfl]
    exact hp
/-- how many of the first T threads still go -/
def wd_un (F : Nat → Int32) : Nat → Nat
  | 0 => 0
  | t + 1 => wd_un F t + (if F t = 0 then 1 else 0)
theorem wd_un_le (F : Nat → Int32) : ∀ T, wd_un F T ≤ T := by
  intro T
  induction T with
  | zero => exact Nat.le_refl 0
  | succ T ih => rw [wd_un]; split <;> omega
theorem wd_un_k {F : Nat → Int32} {t : Nat} {x : Int32} : ∀ T, T ≤ t → wd_un (upd F t x) T = wd_un F T := by
  intro T
  induction T with
  | zero => intro _; rfl
  | succ T ih => intro h; rw [wd_un, wd_un, ih (by omega), pk_un (by omega)]
theorem wd_un_u {F : Nat → Int32} {t : Nat} (h0 : F t = 0) : ∀ T, t < T → wd_un (upd F t 1) T + 1 = wd_un F T := by
  intro T
  induction T with
  | zero => intro h; omega
  | succ T ih =>
    intro h
    rw [wd_un, wd_un]
    by_cases e : T = t
    · subst e
      rw [wd_un_k T (by omega), pk_us, h0, if_neg (by decide), if_pos rfl]
    · rw [pk_un e]
      have := ih (by omega)
      omega
theorem wd_un_0 {F : Nat → Int32} : ∀ T, wd_un F T = 0 → ∀ t, t < T → F t ≠ 0 := by
  intro T
  induction T with
  | zero => intro _ t h; omega
  | succ T ih =>
    intro h t ht
    rw [wd_un] at h
    by_cases e : t = T
    · intro z
      rw [e] at z
      rw [if_pos z] at h
      omega
    · exact ih (by omega) t (by omega)
theorem wd_un_n {F : Nat → Int32} : ∀ T, wd_un F T ≠ 0 → ∃ t, t < T ∧ F t = 0 := by
  intro T
  induction T with
  | zero => intro h; exact absurd rfl h
  | succ T ih =>
    intro h
    by_cases z : F T = 0
    · exact ⟨T, by omega, z⟩
    · rw [wd_un, if_neg z] at h
      obtain ⟨t, a, b⟩ := ih (by omega)
      exact ⟨t, by omega, b⟩
theorem wd_un_c {F G : Nat → Int32} : ∀ T, (∀ j, j < T → F j = G j) → wd_un F T = wd_un G T := by
  intro T
  induction T with
  | zero => intro _; rfl
  | succ T ih => intro h; rw [wd_un, wd_un, ih (fun j hj => h j (by omega)), h T (by omega)]
theorem wd_un_a {F : Nat → Int32} : ∀ T, (∀ j, j < T → F j = 0) → wd_un F T = T := by
  intro T
  induction T with
  | zero => intro _; rfl
  | succ T ih => intro h; rw [wd_un, ih (fun j hj => h j (by omega)), if_pos (h T (by omega))]
theorem wd_164 {c th ar yp ra bh ov : Int32} {K V NN W C OW NX SR RD AD VA AT SC FY DC SK : Nat → Int32} (P : Int32 → SY → Prop) (Jc : Int32 → Int32 → Int32 → Int32 → Int32 → Int32 → Int32 → Int32 → (Nat → Int32) → (Nat → Int32) → (Nat → Int32) → (Nat → Int32) → (Nat → Int32) → (Nat → Int32) → (Nat → Int32) → (Nat → Int32) → (Nat → Int32) → (Nat → Int32) → (Nat → Int32) → (Nat → Int32) → (Nat → Int32) → (Nat → Int32) → (Nat → Int32) → (Nat → Int32) → Prop) {T : Nat} (hT : T ≤ 32) (hp : Jc (nI (if wd_un FY T = 0 then 0 else 1)) c th ar yp ra bh ov K V NN W C OW NX SR RD AD VA AT SC FY DC SK) : ∀ f i, i + f = T → wY_run_164 P Jc (nI T) c th ar yp ra bh ov K V NN W C OW NX SR RD AD VA AT SC FY DC SK (f + 1) (nI (if wd_un FY i = 0 then 0 else 1)) (nI i) := by
  intro f
  induction f with
  | zero =>
    intro i hi
    obtain rfl : i = T := hi
    exact br_t (nI_le (by omega) (by omega)) hp
  | succ f ih =>
    intro i hi
    have N := ih (i + 1) (by omega)
    have h2 : vp_in (nI i) 32 := vp_in_nI (by omega) (by decide)
    refine br_f (nI_ge (by omega) (by omega)) ?_
    by_cases h0 : wd_un FY i = 0
    · rw [if_pos h0]
      by_cases z : FY i = 0
      · have e : wd_un FY (i + 1) = 1 := by rw [wd_un, h0, if_pos z]
        rw [e, if_neg (by decide)] at N
        exact br_t rfl ⟨h2, br_t (by rw [nI_clamp (by omega)]; exact z) (nm_r (nI_1 i) N)⟩
      · have e : wd_un FY (i + 1) = 0 := by rw [wd_un, h0, if_neg z]
        rw [e, if_pos rfl] at N
        exact br_t rfl ⟨h2, br_f (by rw [nI_clamp (by omega)]; exact z) (nm_r (nI_1 i) N)⟩
    · rw [if_neg h0]
      have e : wd_un FY (i + 1) ≠ 0 := by rw [wd_un]; omega
      rw [if_neg e] at N
      exact br_f (by decide) (nm_r (nI_1 i) N)
