/-! a thread in a phase: advance against the reference's steps -/
theorem wd_nb1 : vp_nar .boolean 1 = 1 := rfl
theorem wd_nb0 : vp_nar .boolean 0 = 0 := rfl
def wd_Live (κ : Nat → Nat) (n lo : Nat) (S P A : Int32) : Prop := ∃ p st, S = nI st ∧ lo ≤ st ∧ st ≤ 300 ∧ P = nI p ∧ A = nI p ∧ p ≤ n ∧ (wd_st κ p).1 = 0
def wd_End (κ : Nat → Nat) (n t st : Nat) (go go' : Int32) (FI FY FI' FY' PL AT SC PL' AT' SC' : Nat → Int32) : Prop := ((go' = go - 1 ∧ FI' = upd FI t 1 ∧ FY' = upd FY t 1) ∨ (go' = go ∧ FI' = FI ∧ FY' = FY ∧ wd_Live κ n (st + 1) (SC' t) (PL' t) (AT' t))) ∧ ∀ j, j ≠ t → PL' j = PL j ∧ AT' j = AT j ∧ SC' j = SC j
set_option maxHeartbeats 1600000 in
theorem wd_one {ob ed od el th ar go ph ra ov yp : Int32} {K V J O W C ST SR RD AD VA PL SC FI DC NN OW NX AT FY : Nat → Int32} {κ : Nat → Nat} {n t p st i : Nat} {SR0 ST0 : Nat → Int32} (hK : wd_tok κ K V) (hn : n ≤ 64) (hpr : wd_prog κ n J) (ht : t < 32) (hi : i ≤ 300) (hS : SC t = nI st) (hs3 : st ≤ 300) (hP : PL t = nI p) (hA : AT t = nI p) (hp : p ≤ n) (hb : (wd_st κ p).1 = 0) (hM : wd_MI t W SR0 ST0 SR ST OW) (hZ : wd_Z SR RD AD) :
   (∃ (go' ov' : Int32) (FI' FY' PL' AT' SC' DC' : Nat → Int32), wd_End κ n t st go go' FI FY FI' FY' PL AT SC PL' AT' SC' ∧
     (∀ (be : Int32) (OP OM OD : Nat → Int32) (P : SX → Prop) (g : Nat), P (nI n, ob, ed, od, el, be, th, ar, go', ph, ra, ov', K, V, J, O, W, C, ST, SR, RD, AD, OP, OM, OD, VA, PL', SC', FI', DC') → wX_advance_2 P (nI t) (g + 1) (nI i) (nI n) ob ed od el be th ar go ph ra ov K V J O W C ST SR RD AD OP OM OD VA PL SC FI DC) ∧
     (∀ (P : SY → Prop) (Jc : Int32 → Int32 → Int32 → Int32 → Int32 → Int32 → Int32 → Int32 → (Nat → Int32) → (Nat → Int32) → (Nat → Int32) → (Nat → Int32) → (Nat → Int32) → (Nat → Int32) → (Nat → Int32) → (Nat → Int32) → (Nat → Int32) → (Nat → Int32) → (Nat → Int32) → (Nat → Int32) → (Nat → Int32) → (Nat → Int32) → (Nat → Int32) → (Nat → Int32) → Prop), wd_G P Jc t 0 (nI n) th ar yp ra ov' K V NN W C OW NX SR RD AD VA AT' SC' FY' DC' → wd_G P Jc t 1 (nI n) th ar yp ra ov K V NN W C OW NX SR RD AD VA AT SC FY DC)) ∨
   (st < 300 ∧ ∃ (p' : Nat) (VA' ST' SR' RD' AD' OW' DC' : Nat → Int32), p' ≤ n ∧ (wd_st κ p').1 = 0 ∧ wd_MI t W SR0 ST0 SR' ST' OW' ∧ wd_Z SR' RD' AD' ∧
     (∀ (be : Int32) (OP OM OD : Nat → Int32) (P : SX → Prop) (g : Nat), (∀ be' OP' OM' OD', wX_advance_2 P (nI t) g (nI (i + 1)) (nI n) ob ed od el be' th ar go ph ra ov K V J O W C ST' SR' RD' AD' OP' OM' OD' VA' (upd PL t (nI p')) (upd SC t (nI (st + 1))) FI DC') → wX_advance_2 P (nI t) (g + 1) (nI i) (nI n) ob ed od el be th ar go ph ra ov K V J O W C ST SR RD AD OP OM OD VA PL SC FI DC) ∧
     (∀ (P : SY → Prop) (Jc : Int32 → Int32 → Int32 → Int32 → Int32 → Int32 → Int32 → Int32 → (Nat → Int32) → (Nat → Int32) → (Nat → Int32) → (Nat → Int32) → (Nat → Int32) → (Nat → Int32) → (Nat → Int32) → (Nat → Int32) → (Nat → Int32) → (Nat → Int32) → (Nat → Int32) → (Nat → Int32) → (Nat → Int32) → (Nat → Int32) → (Nat → Int32) → (Nat → Int32) → Prop), wd_G P Jc t 1 (nI n) th ar yp ra ov K V NN W C OW' NX SR' RD' AD' VA' (upd AT t (nI p')) (upd SC t (nI (st + 1))) FY DC' → wd_G P Jc t 1 (nI n) th ar yp ra ov K V NN W C OW NX SR RD AD VA AT SC FY DC)) := by
  obtain ⟨s, s1, s2, s3, sX, sY⟩ := wd_hop (ob := ob) (ed := ed) (od := od) (el := el) (th := th) (ar := ar) (go := go) (ph := ph) (ra := ra) (ov := ov) (yp := yp) (K := K) (V := V) (J := J) (O := O) (W := W) (C := C) (ST := ST) (SR := SR) (RD := RD) (AD := AD) (VA := VA) (PL := PL) (SC := SC) (FI := FI) (DC := DC) (NN := NN) (OW := OW) (NX := NX) (FY := FY) hK hn hpr ht n p AT (by omega) hp hb hA
  have it : vp_in (nI t) 32 := vp_in_nI ht (by decide)
  have ct : (nI t).toNatClampNeg = t := nI_clamp (by omega)
  have ePL : PL (nI t).toNatClampNeg = nI p := by rw [ct]; exact hP
  have ni : ¬ 300 < nI i := nI_nlt (a := 300) hi (by decide)
  have eFI : upd FI (nI t).toNatClampNeg (vp_nar .boolean 1) = upd FI t 1 := by rw [ct]; rfl
  have eFY : upd FY (nI t).toNatClampNeg (vp_nar .boolean 1) = upd FY t 1 := by rw [ct]; rfl
  have eAs : upd AT t (nI s) (nI t).toNatClampNeg = nI s := by rw [ct, pk_us]
  have eSC : SC (nI t).toNatClampNeg = nI st := by rw [ct]; exact hS
  rcases s3 with rfl | ⟨hs, h4, h5⟩
  · left
    refine ⟨go - 1, ov, upd FI t 1, upd FY t 1, PL, upd AT t (nI s), SC, DC, ⟨Or.inl ⟨rfl, rfl, rfl⟩, fun j hj => ⟨rfl, pk_un hj, rfl⟩⟩, fun be OP OM OD P g hp => ?_, fun P Jc hG => sY P Jc (wd_G1 (fun Q hq bh SK => ?_) hG)⟩
    · refine br_f ni ⟨it, ?_⟩
      rw [ePL]
      exact ⟨66, sX be OP OM OD _ 0 66 (by omega) (by omega) (br_f (nI_nlt (by omega) (by omega)) ⟨it, nm_r eFI (nm_e hp)⟩)⟩
    · exact ⟨it, nm_r eAs (br_t rfl ⟨it, nm_r eFY (hq bh SK)⟩)⟩
  · have is : vp_in (nI s) 64 := vp_in_nI (by omega) (by decide)
    have cs : (nI s).toNatClampNeg = s := nI_clamp (by omega)
    have lsn : nI s < nI n := nI_lt (by omega) (by omega)
    have hKs := wd_cI hK (i := s) (by omega)
    have hkk := (hK s).2.1
    have hk31 : κ s ≤ 31 := by unfold wd_kind at hkk; omega
    have nsn : ¬ nI s = nI n := wd_neI n (by omega) (by omega) (by omega)
    have m4 : ¬ nI (κ s) = 4 := wd_neI 4 (by omega) (by decide) h4
    have m5 : ¬ nI (κ s) = 5 := wd_neI 5 (by omega) (by decide) h5
    by_cases h300 : st = 300
    · left
      subst h300
      refine ⟨go - 1, 1, upd FI t 1, upd FY t 1, PL, upd AT t (nI s), SC, DC, ⟨Or.inl ⟨rfl, rfl, rfl⟩, fun j hj => ⟨rfl, pk_un hj, rfl⟩⟩, fun be OP OM OD P g hp => ?_, fun P Jc hG => sY P Jc (wd_G1 (fun Q hq bh SK => ?_) hG)⟩
      · refine br_f ni ⟨it, ?_⟩
        rw [ePL]
        exact ⟨66, sX be OP OM OD _ 0 66 (by omega) (by omega) (br_t lsn ⟨it, br_f (by rw [eSC]; decide) ⟨it, nm_r eFI (nm_e hp)⟩⟩)⟩
      · exact ⟨it, nm_r eAs (br_f nsn ⟨is, nm_r hKs (br_f m4 (br_f m5 ⟨it, br_t eSC ⟨it, nm_r eFY (hq bh SK)⟩⟩))⟩)⟩
    · have l300 : SC (nI t).toNatClampNeg < 300 := by rw [eSC]; exact nI_lt (b := 300) (by omega) (by decide)
      have n300 : ¬ SC (nI t).toNatClampNeg = 300 := by rw [eSC]; exact wd_neI 300 (by omega) (by decide) h300
      have eS1 : upd SC (nI t).toNatClampNeg (SC (nI t).toNatClampNeg + 1) = upd SC t (nI (st + 1)) := by rw [eSC, ct, nI_1]
      have eD1 : upd DC (nI s).toNatClampNeg (DC (nI s).toNatClampNeg + 1) = upd DC s (DC s + 1) := by rw [cs]
      have b1 : wd_ex (κ s) = 0 → (wd_st κ (s + 1)).1 = 0 := fun z => by
        rw [wd_st_s0 (i := s) (e := (wd_st κ s).2.1) (u := (wd_st κ s).2.2) (by rw [← s2]) z]
      by_cases h8 : κ s = 8
      · left
        rw [h8] at hKs m4 m5
        refine ⟨go - 1, ov, upd FI t 1, upd FY t 1, upd PL t (nI (s + 1)), upd AT t (nI s), upd SC t (nI (st + 1)), upd DC s (DC s + 1), ⟨Or.inl ⟨rfl, rfl, rfl⟩, fun j hj => ⟨pk_un hj, pk_un hj, pk_un hj⟩⟩, fun be OP OM OD P g hp => ?_, fun P Jc hG => sY P Jc (wd_G1 (fun Q hq bh SK => ?_) hG)⟩
        · refine br_f ni ⟨it, ?_⟩
          rw [ePL]
          exact ⟨66, sX be OP OM OD _ 0 66 (by omega) (by omega) (br_t lsn ⟨it, br_t l300 ⟨it, it, nm_r eS1 ⟨is, is, nm_r eD1 ⟨is, nm_r hKs (br_f (by decide) (br_t rfl ⟨it, nm_r (e' := upd PL t (nI (s + 1))) (by rw [ct, nI_1]) ⟨is, br_t hKs ⟨it, nm_r eFI (nm_e hp)⟩⟩⟩))⟩⟩⟩⟩)⟩
        · exact ⟨it, nm_r eAs (br_f nsn ⟨is, nm_r hKs (br_f m4 (br_f m5 ⟨it, br_f n300 ⟨it, it, nm_r eS1 ⟨is, is, nm_r eD1 (br_t rfl ⟨it, nm_r eFY ⟨rfl, hq bh SK⟩⟩)⟩⟩⟩))⟩)⟩
      · by_cases h7 : κ s = 7
        · left
          rw [h7] at hKs m4 m5
          refine ⟨go, ov, FI, FY, upd PL t (nI (s + 1)), upd AT t (nI (s + 1)), upd SC t (nI (st + 1)), upd DC s (DC s + 1), ⟨Or.inr ⟨rfl, rfl, rfl, s + 1, st + 1, pk_us, by omega, by omega, pk_us, pk_us, by omega, b1 (by rw [h7]; rfl)⟩, fun j hj => ⟨pk_un hj, pk_un hj, pk_un hj⟩⟩, fun be OP OM OD P g hp => ?_, fun P Jc hG => sY P Jc (wd_G1 (fun Q hq bh SK => ?_) hG)⟩
          · refine br_f ni ⟨it, ?_⟩
            rw [ePL]
            exact ⟨66, sX be OP OM OD _ 0 66 (by omega) (by omega) (br_t lsn ⟨it, br_t l300 ⟨it, it, nm_r eS1 ⟨is, is, nm_r eD1 ⟨is, nm_r hKs (br_t rfl ⟨it, nm_r (e' := upd PL t (nI (s + 1))) (by rw [ct, nI_1]) ⟨is, br_f (by rw [hKs]; decide) ⟨is, br_t hKs hp⟩⟩⟩)⟩⟩⟩⟩)⟩
          · exact ⟨it, nm_r eAs (br_f nsn ⟨is, nm_r hKs (br_f m4 (br_f m5 ⟨it, br_f n300 ⟨it, it, nm_r eS1 ⟨is, is, nm_r eD1 (br_f (by decide) ⟨it, nm_r (e' := upd AT t (nI (s + 1))) (by rw [ct, nI_1, wd_uu]) (br_t rfl ⟨rfl, hq bh SK⟩)⟩)⟩⟩⟩))⟩)⟩
        · right
          obtain ⟨s', VA', ST', SR', RD', AD', OW', a1, a2, a3, a4, a5, a6⟩ := wd_stm (SC := upd SC t (nI (st + 1))) (DC := upd DC s (DC s + 1)) (AT := upd AT t (nI s)) (ob := ob) (ed := ed) (od := od) (el := el) (th := th) (ar := ar) (go := go) (ph := ph) (ra := ra) (ov := ov) (yp := yp) (K := K) (V := V) (J := J) (O := O) (W := W) (C := C) (ST := ST) (SR := SR) (RD := RD) (AD := AD) (VA := VA) (PL := PL) (FI := FI) (NN := NN) (OW := OW) (NX := NX) (FY := FY) hK hn hpr ht hs s2 h4 h5 h7 h8 hM hZ
          have m8 : ¬ nI (κ s) = 8 := wd_neI 8 (by omega) (by decide) h8
          have m7 : ¬ nI (κ s) = 7 := wd_neI 7 (by omega) (by decide) h7
          refine ⟨by omega, s', VA', ST', SR', RD', AD', OW', upd DC s (DC s + 1), a1, a2, a3, a4, fun be OP OM OD P g hp => ?_, fun P Jc hG => sY P Jc (wd_G1 (fun Q hq bh SK => ?_) hG)⟩
          · refine br_f ni ⟨it, ?_⟩
            rw [ePL]
            exact ⟨66, sX be OP OM OD _ 0 66 (by omega) (by omega) (br_t lsn ⟨it, br_t l300 ⟨it, it, nm_r eS1 ⟨is, is, nm_r eD1 (a5 be OP OM OD _ fun be' OP' OM' OD' => ⟨it, nm_r (e' := upd PL t (nI s')) (by rw [ct]) ⟨is, br_f (by rw [hKs]; exact m8) ⟨is, br_f (by rw [hKs]; exact m7) (nm_r (nI_1 i) (hp _ _ _ _))⟩⟩⟩)⟩⟩⟩)⟩
          · exact ⟨it, nm_r eAs (br_f nsn ⟨is, nm_r hKs (br_f m4 (br_f m5 ⟨it, br_f n300 ⟨it, it, nm_r eS1 ⟨is, is, nm_r eD1 (a6 bh SK _ fun bh' SK' => by rw [wd_uu]; exact ⟨rfl, hq bh' SK'⟩)⟩⟩⟩))⟩)⟩
theorem wd_adv {ob ed od el th ar go ph ra ov yp : Int32} {K V J O W C FI NN NX FY : Nat → Int32} {κ : Nat → Nat} {n t : Nat} {SR0 ST0 : Nat → Int32} (hK : wd_tok κ K V) (hn : n ≤ 64) (hpr : wd_prog κ n J) (ht : t < 32) : ∀ f i p st (VA ST SR RD AD OW DC PL AT SC : Nat → Int32), i + f = 300 → SC t = nI st → i ≤ st → st ≤ 300 → PL t = nI p → AT t = nI p → p ≤ n → (wd_st κ p).1 = 0 → wd_MI t W SR0 ST0 SR ST OW → wd_Z SR RD AD →
   ∃ (go' ov' : Int32) (VA' ST' SR' RD' AD' OW' DC' FI' FY' PL' AT' SC' : Nat → Int32), wd_End κ n t st go go' FI FY FI' FY' PL AT SC PL' AT' SC' ∧ wd_MI t W SR0 ST0 SR' ST' OW' ∧ wd_Z SR' RD' AD' ∧
     (∀ (be : Int32) (OP OM OD : Nat → Int32) (P : SX → Prop), (∀ be' OP' OM' OD', P (nI n, ob, ed, od, el, be', th, ar, go', ph, ra, ov', K, V, J, O, W, C, ST', SR', RD', AD', OP', OM', OD', VA', PL', SC', FI', DC')) → wX_advance_2 P (nI t) (f + 1) (nI i) (nI n) ob ed od el be th ar go ph ra ov K V J O W C ST SR RD AD OP OM OD VA PL SC FI DC) ∧
     (∀ (P : SY → Prop) (Jc : Int32 → Int32 → Int32 → Int32 → Int32 → Int32 → Int32 → Int32 → (Nat → Int32) → (Nat → Int32) → (Nat → Int32) → (Nat → Int32) → (Nat → Int32) → (Nat → Int32) → (Nat → Int32) → (Nat → Int32) → (Nat → Int32) → (Nat → Int32) → (Nat → Int32) → (Nat → Int32) → (Nat → Int32) → (Nat → Int32) → (Nat → Int32) → (Nat → Int32) → Prop), wd_G P Jc t 0 (nI n) th ar yp ra ov' K V NN W C OW' NX SR' RD' AD' VA' AT' SC' FY' DC' → wd_G P Jc t 1 (nI n) th ar yp ra ov K V NN W C OW NX SR RD AD VA AT SC FY DC) := by
  intro f
  induction f with
  | zero =>
    intro i p st VA ST SR RD AD OW DC PL AT SC hi hS h1 h2 hP hA hp hb hM hZ
    rcases wd_one (i := i) (ob := ob) (ed := ed) (od := od) (el := el) (th := th) (ar := ar) (go := go) (ph := ph) (ra := ra) (ov := ov) (yp := yp) (K := K) (V := V) (J := J) (O := O) (W := W) (C := C) (ST := ST) (SR := SR) (RD := RD) (AD := AD) (VA := VA) (PL := PL) (SC := SC) (FI := FI) (DC := DC) (NN := NN) (OW := OW) (NX := NX) (AT := AT) (FY := FY) hK hn hpr ht (by omega) hS h2 hP hA hp hb hM hZ with ⟨go', ov', FI', FY', PL', AT', SC', DC', e, eX, eY⟩ | ⟨h, _⟩
    · exact ⟨go', ov', VA, ST, SR, RD, AD, OW, DC', FI', FY', PL', AT', SC', e, hM, hZ, fun be OP OM OD P hp => eX be OP OM OD P 0 (hp _ _ _ _), eY⟩
    · omega
  | succ f ih =>
    intro i p st VA ST SR RD AD OW DC PL AT SC hi hS h1 h2 hP hA hp hb hM hZ
    rcases wd_one (i := i) (ob := ob) (ed := ed) (od := od) (el := el) (th := th) (ar := ar) (go := go) (ph := ph) (ra := ra) (ov := ov) (yp := yp) (K := K) (V := V) (J := J) (O := O) (W := W) (C := C) (ST := ST) (SR := SR) (RD := RD) (AD := AD) (VA := VA) (PL := PL) (SC := SC) (FI := FI) (DC := DC) (NN := NN) (OW := OW) (NX := NX) (AT := AT) (FY := FY) hK hn hpr ht (by omega) hS h2 hP hA hp hb hM hZ with ⟨go', ov', FI', FY', PL', AT', SC', DC', e, eX, eY⟩ | ⟨h, p', VA1, ST1, SR1, RD1, AD1, OW1, DC1, a1, a2, a3, a4, a5, a6⟩
    · exact ⟨go', ov', VA, ST, SR, RD, AD, OW, DC', FI', FY', PL', AT', SC', e, hM, hZ, fun be OP OM OD P hp => eX be OP OM OD P (f + 1) (hp _ _ _ _), eY⟩
    · obtain ⟨go', ov', VA', ST', SR', RD', AD', OW', DC', FI', FY', PL', AT', SC', e, hM', hZ', eX, eY⟩ := ih (i + 1) p' (st + 1) VA1 ST1 SR1 RD1 AD1 OW1 DC1 (upd PL t (nI p')) (upd AT t (nI p')) (upd SC t (nI (st + 1))) (by omega) pk_us (by omega) (by omega) pk_us pk_us a1 a2 a3 a4
      refine ⟨go', ov', VA', ST', SR', RD', AD', OW', DC', FI', FY', PL', AT', SC', ⟨?_, ?_⟩, hM', hZ', fun be OP OM OD P hp => a5 be OP OM OD P (f + 1) fun be' OP' OM' OD' => eX be' OP' OM' OD' P hp, fun P Jc hG => a6 P Jc (eY P Jc hG)⟩
      · rcases e.1 with z | ⟨z1, z2, z3, q, s, b1, b2, b3⟩
        · exact Or.inl z
        · exact Or.inr ⟨z1, z2, z3, q, s, b1, by omega, b3⟩
      · intro j hj
        obtain ⟨x, y, z⟩ := e.2 j hj
        rw [pk_un hj] at x y z
        exact ⟨x, y, z⟩
