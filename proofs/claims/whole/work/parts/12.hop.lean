/-! ELSE and END are passed without a step -/
theorem wd_us {f : Nat → Int32} {k : Nat} {x : Int32} (h : f k = x) : upd f k x = f := by
  funext j
  unfold upd
  split
  · rename_i e; rw [e, h]
  · rfl
/-- the reference's thread loop with enough fuel, whatever lies behind and on the stack -/
def wd_G (P : SY → Prop) (Jc : Int32 → Int32 → Int32 → Int32 → Int32 → Int32 → Int32 → Int32 → (Nat → Int32) → (Nat → Int32) → (Nat → Int32) → (Nat → Int32) → (Nat → Int32) → (Nat → Int32) → (Nat → Int32) → (Nat → Int32) → (Nat → Int32) → (Nat → Int32) → (Nat → Int32) → (Nat → Int32) → (Nat → Int32) → (Nat → Int32) → (Nat → Int32) → (Nat → Int32) → Prop) (t : Nat) (b : Int32) (c th ar yp ra ov : Int32) (K V NN W C OW NX SR RD AD VA AT SC FY DC : Nat → Int32) : Prop := ∃ N, ∀ n, N ≤ n → ∀ (bh : Int32) (SK : Nat → Int32), wY_phase_107 P Jc (nI t) n b c th ar yp ra bh ov K V NN W C OW NX SR RD AD VA AT SC FY DC SK
theorem wd_G1 {P : SY → Prop} {Jc : Int32 → Int32 → Int32 → Int32 → Int32 → Int32 → Int32 → Int32 → (Nat → Int32) → (Nat → Int32) → (Nat → Int32) → (Nat → Int32) → (Nat → Int32) → (Nat → Int32) → (Nat → Int32) → (Nat → Int32) → (Nat → Int32) → (Nat → Int32) → (Nat → Int32) → (Nat → Int32) → (Nat → Int32) → (Nat → Int32) → (Nat → Int32) → (Nat → Int32) → Prop} {t : Nat} {c th ar yp ra ov : Int32} {K V NN W C OW NX SR RD AD VA AT SC FY DC : Nat → Int32} {r ov1 : Int32} {SR1 RD1 AD1 VA1 AT1 SC1 FY1 DC1 OW1 : Nat → Int32} (hs : ∀ (Q : Int32 → SY → Prop), (∀ (bh : Int32) (SK : Nat → Int32), Q r (c, th, ar, yp, ra, bh, ov1, K, V, NN, W, C, OW1, NX, SR1, RD1, AD1, VA1, AT1, SC1, FY1, DC1, SK)) → ∀ (bh : Int32) (SK : Nat → Int32), wpY_step Q (c, th, ar, yp, ra, bh, ov, K, V, NN, W, C, OW, NX, SR, RD, AD, VA, AT, SC, FY, DC, SK) (nI t)) (h : wd_G P Jc t r c th ar yp ra ov1 K V NN W C OW1 NX SR1 RD1 AD1 VA1 AT1 SC1 FY1 DC1) : wd_G P Jc t 1 c th ar yp ra ov K V NN W C OW NX SR RD AD VA AT SC FY DC := by
  obtain ⟨N, h⟩ := h
  refine ⟨N + 1, fun n hn bh SK => ?_⟩
  obtain ⟨n, rfl⟩ : ∃ x, n = x + 1 := ⟨n - 1, by omega⟩
  exact br_f (by decide) (hs _ (h n (by omega)) bh SK)
theorem wd_bnd {κ : Nat → Nat} {n : Nat} {J : Nat → Int32} (hp : wd_prog κ n J) {x : Nat} (hx : x < n) (h : κ x < 10) : (wd_st κ x).1 = 0 := by
  by_cases z : (wd_st κ x).1 = 0
  · exact z
  · have := ((hp.1 x hx).2 z).1
    omega
theorem wd_bnd1 {κ : Nat → Nat} {n : Nat} {J : Nat → Int32} (hp : wd_prog κ n J) {x : Nat} (hx : x < n) (h : κ x < 10) (he : wd_ex (κ x) = 0) : (wd_st κ (x + 1)).1 = 0 := by
  have h0 := wd_bnd hp hx h
  rw [wd_st_s0 (i := x) (e := (wd_st κ x).2.1) (u := (wd_st κ x).2.2) (by rw [← h0]) he]
theorem wd_hopY {th ar yp ra ov : Int32} {K V NN W C OW NX SR RD AD VA AT SC FY DC : Nat → Int32} {κ : Nat → Nat} {n t p : Nat} {J : Nat → Int32} (hK : wd_tok κ K V) (hn : n ≤ 64) (hpr : wd_prog κ n J) (ht : t < 32) (hp : p < n) (hA : AT t = nI p) (hk : κ p = 4 ∨ κ p = 5) : ∃ p', J p = nI p' ∧ p' ≤ n ∧ (wd_st κ p').1 = 0 ∧ (p < p' ∨ (κ p' = 6 ∧ p' < n)) ∧ ∀ (Q : Int32 → SY → Prop), (∀ (bh : Int32) (SK : Nat → Int32), Q 1 (nI n, th, ar, yp, ra, bh, ov, K, V, NN, W, C, OW, NX, SR, RD, AD, VA, upd AT t (nI p'), SC, FY, DC, SK)) → ∀ (bh : Int32) (SK : Nat → Int32), wpY_step Q (nI n, th, ar, yp, ra, bh, ov, K, V, NN, W, C, OW, NX, SR, RD, AD, VA, AT, SC, FY, DC, SK) (nI t) := by
  have it : vp_in (nI t) 32 := vp_in_nI ht (by decide)
  have ip : vp_in (nI p) 64 := vp_in_nI (by omega) (by decide)
  have eA : AT (nI t).toNatClampNeg = nI p := by rw [nI_clamp (by omega)]; exact hA
  have np : ¬ nI p = nI n := wd_neI n (by omega) (by omega) (by omega)
  have hKp := wd_cI hK (i := p) (by omega)
  have hj := hpr.2.2 p hp
  rcases hk with h4 | h5
  · obtain ⟨b, hc, hb, eJ⟩ := hj.1 (by omega)
    rw [if_neg (by omega)] at hc
    have hb5 : κ b = 5 := by
      rcases hc.2.2.2.2.2 with z | z
      · exact z
      · exact absurd z.1 (by decide)
    refine ⟨b + 1, eJ, by omega, wd_bnd1 hpr hb (by omega) (by rw [hb5]; rfl), Or.inl (by have := hc.1; omega), fun Q hq bh SK => ?_⟩
    rw [h4] at hKp
    refine ⟨it, nm_r eA (br_f np ⟨ip, nm_r hKp (br_t rfl (wd_clY (z := 0) hK (by decide) (by omega) hc _ ⟨it, nm_r (e' := upd AT t (nI (b + 1))) ?_ (hq bh SK)⟩))⟩)⟩
    rw [nI_clamp (by omega), nI_1]
  · obtain ⟨a, ho, eJ⟩ := hj.2 h5
    rw [h5] at hKp
    have ia : vp_in (nI a) 64 := vp_in_nI (by have := ho.1; omega) (by decide)
    have eK : K (nI a).toNatClampNeg = nI (κ a) := wd_cI hK (by have := ho.1; omega)
    by_cases h6 : κ a = 6
    · rw [if_pos h6] at eJ
      have hap := ho.1
      refine ⟨a, eJ, by omega, wd_bnd hpr (by omega) (by omega), Or.inr ⟨h6, by omega⟩, fun Q hq bh SK => ?_⟩
      refine ⟨it, nm_r eA (br_f np ⟨ip, nm_r hKp (br_f (by decide) (br_t rfl (wd_opeY hK (by omega) ho _ ⟨ia, br_t (by rw [eK, h6]; rfl) ⟨it, nm_r (e' := upd AT t (nI a)) ?_ (hq bh SK)⟩⟩)))⟩)⟩
      rw [nI_clamp (by omega)]
    · rw [if_neg h6] at eJ
      have h3 : κ a = 3 := by rcases ho.2.1 with z | z <;> omega
      refine ⟨p + 1, eJ, by omega, wd_bnd1 hpr hp (by omega) (by rw [h5]; rfl), Or.inl (by omega), fun Q hq bh SK => ?_⟩
      refine ⟨it, nm_r eA (br_f np ⟨ip, nm_r hKp (br_f (by decide) (br_t rfl (wd_opeY hK (by omega) ho _ ⟨ia, br_f (by rw [eK, h3]; decide) ⟨it, nm_r (e' := upd AT t (nI (p + 1))) ?_ (hq bh SK)⟩⟩)))⟩)⟩
      rw [nI_clamp (by omega), nI_1]
theorem wd_hop {ob ed od el th ar go ph ra ov yp : Int32} {K V J O W C ST SR RD AD VA PL SC FI DC NN OW NX FY : Nat → Int32} {κ : Nat → Nat} {n t : Nat} (hK : wd_tok κ K V) (hn : n ≤ 64) (hpr : wd_prog κ n J) (ht : t < 32) : ∀ f p (AT : Nat → Int32), n ≤ p + f → p ≤ n → (wd_st κ p).1 = 0 → AT t = nI p → ∃ s, s ≤ n ∧ (wd_st κ s).1 = 0 ∧ (s = n ∨ (s < n ∧ κ s ≠ 4 ∧ κ s ≠ 5)) ∧
    (∀ (be : Int32) (OP OM OD : Nat → Int32) (P : Int32 → Prop) (h g : Nat), h + f ≤ 64 → f + 2 ≤ g → P (nI s) → wX_statementFrom_4 P (nI n) ob ed od el be th ar go ph ra ov K V J O W C ST SR RD AD OP OM OD VA PL SC FI DC g (nI p) (nI h)) ∧
    (∀ (P : SY → Prop) (Jc : Int32 → Int32 → Int32 → Int32 → Int32 → Int32 → Int32 → Int32 → (Nat → Int32) → (Nat → Int32) → (Nat → Int32) → (Nat → Int32) → (Nat → Int32) → (Nat → Int32) → (Nat → Int32) → (Nat → Int32) → (Nat → Int32) → (Nat → Int32) → (Nat → Int32) → (Nat → Int32) → (Nat → Int32) → (Nat → Int32) → (Nat → Int32) → (Nat → Int32) → Prop), wd_G P Jc t 1 (nI n) th ar yp ra ov K V NN W C OW NX SR RD AD VA (upd AT t (nI s)) SC FY DC → wd_G P Jc t 1 (nI n) th ar yp ra ov K V NN W C OW NX SR RD AD VA AT SC FY DC) := by
  intro f
  induction f with
  | zero =>
    intro p AT h1 h2 h3 hA
    obtain rfl : p = n := by omega
    refine ⟨p, h2, h3, Or.inl rfl, fun be OP OM OD P h g hh hg hp => ?_, fun P Jc hG => by rw [wd_us hA] at hG; exact hG⟩
    obtain ⟨g, rfl⟩ : ∃ x, g = x + 1 := ⟨g - 1, by omega⟩
    exact br_c (fun _ => hp) fun _ => br_t (nI_le (by omega) (by omega)) hp
  | succ f ih =>
    intro p AT h1 h2 h3 hA
    by_cases hpn : p = n
    · subst hpn
      refine ⟨p, h2, h3, Or.inl rfl, fun be OP OM OD P h g hh hg hp => ?_, fun P Jc hG => by rw [wd_us hA] at hG; exact hG⟩
      obtain ⟨g, rfl⟩ : ∃ x, g = x + 1 := ⟨g - 1, by omega⟩
      exact br_c (fun _ => hp) fun _ => br_t (nI_le (by omega) (by omega)) hp
    · have ip : vp_in (nI p) 64 := vp_in_nI (by omega) (by decide)
      have np : ¬ nI n ≤ nI p := nI_ge (by omega) (by omega)
      have hKp := wd_cI hK (i := p) (by omega)
      have hkk := (hK p).2.1
      have hk31 : κ p ≤ 31 := by unfold wd_kind at hkk; omega
      by_cases hk : κ p = 4 ∨ κ p = 5
      · obtain ⟨p', eJ, hp', hs', hd, hQ⟩ := wd_hopY (th := th) (ar := ar) (yp := yp) (ra := ra) (ov := ov) (K := K) (V := V) (NN := NN) (W := W) (C := C) (OW := OW) (NX := NX) (SR := SR) (RD := RD) (AD := AD) (VA := VA) (AT := AT) (SC := SC) (FY := FY) (DC := DC) hK hn hpr ht (by omega) hA hk
        have eJ' : J (nI p).toNatClampNeg = nI p' := by rw [nI_clamp (by omega)]; exact eJ
        have X1 : ∀ (be : Int32) (OP OM OD : Nat → Int32) (P : Int32 → Prop) (h g : Nat), h + (f + 1) ≤ 64 → wX_statementFrom_4 P (nI n) ob ed od el be th ar go ph ra ov K V J O W C ST SR RD AD OP OM OD VA PL SC FI DC g (nI p') (nI (h + 1)) → wX_statementFrom_4 P (nI n) ob ed od el be th ar go ph ra ov K V J O W C ST SR RD AD OP OM OD VA PL SC FI DC (g + 1) (nI p) (nI h) := by
          intro be OP OM OD P h g hh hN
          refine br_f (nI_ge (b := 64) (by omega) (by decide)) (br_f np ⟨ip, ?_⟩)
          rcases hk with h4 | h5
          · rw [h4] at hKp
            exact br_t hKp ⟨ip, nm_r eJ' (nm_r (nI_1 h) hN)⟩
          · rw [h5] at hKp
            exact br_f (by rw [hKp]; decide) ⟨ip, br_t hKp ⟨ip, nm_r eJ' (nm_r (nI_1 h) hN)⟩⟩
        rcases hd with hd | ⟨h6, hd⟩
        · obtain ⟨s, s1, s2, s3, s4, s5⟩ := ih p' (upd AT t (nI p')) (by omega) hp' hs' pk_us
          refine ⟨s, s1, s2, s3, fun be OP OM OD P h g hh hg hp => ?_, fun P Jc hG => ?_⟩
          · obtain ⟨g, rfl⟩ : ∃ x, g = x + 1 := ⟨g - 1, by omega⟩
            exact X1 be OP OM OD P h g hh (s4 be OP OM OD P (h + 1) g (by omega) (by omega) hp)
          · exact wd_G1 hQ (s5 P Jc (by rw [wd_uu]; exact hG))
        · refine ⟨p', hp', hs', Or.inr ⟨hd, by omega, by omega⟩, fun be OP OM OD P h g hh hg hp => ?_, fun P Jc hG => wd_G1 hQ hG⟩
          obtain ⟨g, rfl⟩ : ∃ x, g = x + 1 + 1 := ⟨g - 2, by omega⟩
          have ip' : vp_in (nI p') 64 := vp_in_nI (by omega) (by decide)
          have hK6 : K (nI p').toNatClampNeg = nI (κ p') := wd_cI hK (by omega)
          rw [h6] at hK6
          exact X1 be OP OM OD P h (g + 1) hh (br_c (fun _ => hp) fun _ => br_f (nI_ge (by omega) (by omega)) ⟨ip', br_f (by rw [hK6]; decide) ⟨ip', br_f (by rw [hK6]; decide) hp⟩⟩)
      · refine ⟨p, h2, h3, Or.inr ⟨by omega, by omega, by omega⟩, fun be OP OM OD P h g hh hg hp => ?_, fun P Jc hG => by rw [wd_us hA] at hG; exact hG⟩
        obtain ⟨g, rfl⟩ : ∃ x, g = x + 1 := ⟨g - 1, by omega⟩
        exact br_f (nI_ge (b := 64) (by omega) (by decide)) (br_f np ⟨ip, br_f (by rw [hKp]; exact wd_neI 4 (by omega) (by decide) (by omega)) ⟨ip, br_f (by rw [hKp]; exact wd_neI 5 (by omega) (by decide) (by omega)) hp⟩⟩)
