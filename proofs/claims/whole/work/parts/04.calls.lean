/-! token, zero, ran -/
def wd_fl (e : Nat) (A : Nat → Int32) (i : Nat) (B : Nat → Int32) : Nat → Int32 := fun j => if i ≤ j ∧ j < e then A j else B j
theorem wd_fl_e {e : Nat} {A B : Nat → Int32} : wd_fl e A e B = B := by
  funext j
  unfold wd_fl
  rw [if_neg (by omega)]
theorem wd_fl_s {e i : Nat} {A B : Nat → Int32} {x : Int32} (h : i < e) (hx : x = A i) : wd_fl e A (i + 1) (upd B i x) = wd_fl e A i B := by
  funext j
  unfold wd_fl upd
  by_cases hj : j = i
  · subst hj
    rw [if_neg (by omega), if_pos rfl, if_pos (by omega), hx]
  · by_cases h2 : i ≤ j ∧ j < e
    · rw [if_pos (by omega), if_pos h2]
    · rw [if_neg (by omega), if_neg hj, if_neg h2]
theorem wd_fl_k {e i : Nat} {A B : Nat → Int32} (hx : B i = A i) : wd_fl e A (i + 1) B = wd_fl e A i B := by
  funext j
  unfold wd_fl
  by_cases hj : j = i
  · subst hj
    rw [if_neg (by omega)]
    split
    · exact hx
    · rfl
  · by_cases h2 : i ≤ j ∧ j < e
    · rw [if_pos (by omega), if_pos h2]
    · rw [if_neg (by omega), if_neg h2]
theorem wd_zX {c ob ed od el be th ar go ph ra ov : Int32} {K V J O ST SR RD AD OP OM OD VA PL SC FI DC : Nat → Int32} (P : SX → Prop) : ∀ f i (W C : Nat → Int32), i + f = 64 → P (c, ob, ed, od, el, be, th, ar, go, ph, ra, ov, K, V, J, O, wd_fl 64 (fun _ => 0) i W, wd_fl 64 (fun _ => 0) i C, ST, SR, RD, AD, OP, OM, OD, VA, PL, SC, FI, DC) → wX_zero_2 P c ob ed od el be th ar go ph ra ov (f + 1) (nI i) K V J O W C ST SR RD AD OP OM OD VA PL SC FI DC := by
  intro f
  induction f with
  | zero =>
    intro i W C hi hp
    obtain rfl : i = 64 := hi
    rw [wd_fl_e, wd_fl_e] at hp
    exact br_t (by decide) hp
  | succ f ih =>
    intro i W C hi hp
    have h1 : ¬ (64 : Int32) ≤ nI i := nI_ge (b := 64) (by omega) (by decide)
    have h2 : vp_in (nI i) 64 := vp_in_nI (by omega) (by decide)
    refine br_f h1 ⟨h2, nm_e ⟨h2, nm_e (nm_r (nI_1 i) (ih (i + 1) _ _ (by omega) ?_))⟩⟩
    rw [nI_clamp (by omega), wd_fl_s (by omega) rfl, wd_fl_s (by omega) rfl]
    exact hp
theorem wd_zY {c th ar yp ra bh ov : Int32} {K V NN OW NX SR RD AD VA AT SC FY DC SK : Nat → Int32} (P : SY → Prop) : ∀ f i (W C : Nat → Int32), i + f = 64 → P (c, th, ar, yp, ra, bh, ov, K, V, NN, wd_fl 64 (fun _ => 0) i W, wd_fl 64 (fun _ => 0) i C, OW, NX, SR, RD, AD, VA, AT, SC, FY, DC, SK) → wY_zero_2 P c th ar yp ra bh ov (f + 1) (nI i) K V NN W C OW NX SR RD AD VA AT SC FY DC SK := by
  intro f
  induction f with
  | zero =>
    intro i W C hi hp
    obtain rfl : i = 64 := hi
    rw [wd_fl_e, wd_fl_e] at hp
    exact br_t (by decide) hp
  | succ f ih =>
    intro i W C hi hp
    have h1 : ¬ (64 : Int32) ≤ nI i := nI_ge (b := 64) (by omega) (by decide)
    have h2 : vp_in (nI i) 64 := vp_in_nI (by omega) (by decide)
    refine br_f h1 ⟨h2, nm_e ⟨h2, nm_e (nm_r (nI_1 i) (ih (i + 1) _ _ (by omega) ?_))⟩⟩
    rw [nI_clamp (by omega), wd_fl_s (by omega) rfl, wd_fl_s (by omega) rfl]
    exact hp
theorem i_vc_zero {k : Nat} {u : SX} {v : SY} (I : i_Rel k u v) (hk : k + 3 ≤ 1536) : wpX_zero (fun u' => wpY_zero (fun v' => i_Rel (k + 3) u' v') v) u := by
  obtain ⟨n, T, κ, ob, ed, od, el, be, ar, go, ph, ra, ov, bh, K, V, J, O, W, C, ST, SR, RD, AD, OP, OM, OD, VA, PL, SC, FI, DC, NN, OW, NX, ySR, yRD, yAD, AT, FY, SK, rfl, rfl, h3, h4, h5, h6, _⟩ := I
  refine ⟨65, wd_zX _ 64 0 _ _ rfl ⟨65, wd_zY _ 64 0 _ _ rfl ?_⟩⟩
  exact ⟨n, T, κ, ob, ed, od, el, be, ar, go, ph, ra, ov, bh, K, V, J, O, _, _, ST, SR, RD, AD, OP, OM, OD, VA, PL, SC, FI, DC, NN, OW, NX, ySR, yRD, yAD, AT, FY, SK, rfl, rfl, h3, h4, h5, h6, rfl⟩
theorem wd_ran {c ob ed od el be ar go ph ra ov bh : Int32} {K V J O W C ST SR RD AD OP OM OD VA PL SC FI DC NN OW NX AT FY SK ySR yRD yAD : Nat → Int32} {T : Nat} (hT : T ≤ 32) : ∀ f i (a m : Int32), i + f = T → ∃ a' m' : Int32,
    (∀ P : Int32 → Prop, P a' → wX_allSteps_4 P c ob ed od el be (nI T) ar go ph ra ov K V J O W C ST SR RD AD OP OM OD VA PL SC FI DC (f + 1) a (nI i)) ∧
    (∀ P : Int32 → Prop, P m' → wX_mostSteps_4 P c ob ed od el be (nI T) ar go ph ra ov K V J O W C ST SR RD AD OP OM OD VA PL SC FI DC (f + 1) m (nI i)) ∧
    (∀ (Q : Int32 → Prop) (p : Int32), ((p = 0 → (Q ph)) ∧ (¬ p = 0 → (((p = 1 → (Q a')) ∧ (¬ p = 1 → (((p = 2 → (Q m')) ∧ (¬ p = 2 → (((p = 3 → (Q ra)) ∧ (¬ p = 3 → (((p = 4 → (Q (nI T))) ∧ (¬ p = 4 → (Q 0))))))))))))))) → wY_ran_7 Q p c (nI T) ar ph ra bh ov K V NN W C OW NX ySR yRD yAD VA AT SC FY DC SK (f + 1) a m (nI i)) := by
  intro f
  induction f with
  | zero =>
    intro i a m hi
    have h1 : nI T ≤ nI i := nI_le (by omega) (by omega)
    exact ⟨a, m, fun P hp => br_t h1 hp, fun P hp => br_t h1 hp, fun Q p hp => br_t h1 hp⟩
  | succ f ih =>
    intro i a m hi
    have h1 : ¬ nI T ≤ nI i := nI_ge (by omega) (by omega)
    have h2 : vp_in (nI i) 32 := vp_in_nI (by omega) (by decide)
    by_cases hm : SC (nI i).toNatClampNeg ≤ m
    · obtain ⟨a', m', hA, hM, hY⟩ := ih (i + 1) (a + SC (nI i).toNatClampNeg) m (by omega)
      exact ⟨a', m', fun P hp => br_f h1 ⟨h2, nm_e (nm_r (nI_1 i) (hA P hp))⟩, fun P hp => br_f h1 ⟨h2, br_t hm (nm_r (nI_1 i) (hM P hp))⟩, fun Q p hp => br_f h1 ⟨h2, nm_e ⟨h2, br_t hm (nm_r (nI_1 i) (hY Q p hp))⟩⟩⟩
    · obtain ⟨a', m', hA, hM, hY⟩ := ih (i + 1) (a + SC (nI i).toNatClampNeg) (SC (nI i).toNatClampNeg) (by omega)
      exact ⟨a', m', fun P hp => br_f h1 ⟨h2, nm_e (nm_r (nI_1 i) (hA P hp))⟩, fun P hp => br_f h1 ⟨h2, br_f hm ⟨h2, nm_e (nm_r (nI_1 i) (hM P hp))⟩⟩, fun Q p hp => br_f h1 ⟨h2, nm_e ⟨h2, br_f hm ⟨h2, nm_e (nm_r (nI_1 i) (hY Q p hp))⟩⟩⟩⟩
theorem i_vc_ran {k : Nat} {u : SX} {v : SY} (I : i_Rel k u v) (hk : k + 3 ≤ 1536) (v1 : Int32) : wpX_ran (fun r => wpY_ran (fun r' => r' = r ∧ i_Rel (k + 3) u v) v v1) u v1 := by
  have I' := i_up I
  obtain ⟨n, T, κ, ob, ed, od, el, be, ar, go, ph, ra, ov, bh, K, V, J, O, W, C, ST, SR, RD, AD, OP, OM, OD, VA, PL, SC, FI, DC, NN, OW, NX, ySR, yRD, yAD, AT, FY, SK, rfl, rfl, h3, h4, h5, h6, _⟩ := I
  obtain ⟨a', m', hA, hM, hY⟩ := wd_ran (c := nI n) (ob := ob) (ed := ed) (od := od) (el := el) (be := be) (ar := ar) (go := go) (ph := ph) (ra := ra) (ov := ov) (bh := bh) (K := K) (V := V) (J := J) (O := O) (W := W) (C := C) (ST := ST) (SR := SR) (RD := RD) (AD := AD) (OP := OP) (OM := OM) (OD := OD) (VA := VA) (PL := PL) (SC := SC) (FI := FI) (DC := DC) (NN := NN) (OW := OW) (NX := NX) (AT := AT) (FY := FY) (SK := SK) (ySR := ySR) (yRD := yRD) (yAD := yAD) h4 T 0 0 0 (by omega)
  have G : ∀ r : Int32, ((v1 = 0 → r = ph) ∧ (v1 = 1 → r = a') ∧ (v1 = 2 → r = m') ∧ (v1 = 3 → r = ra) ∧ (v1 = 4 → r = nI T) ∧ (v1 < 0 ∨ 4 < v1 → r = 0)) → wpY_ran (fun r' => r' = r ∧ i_Rel (k + 3) (nI n, ob, ed, od, el, be, nI T, ar, go, ph, ra, ov, K, V, J, O, W, C, ST, SR, RD, AD, OP, OM, OD, VA, PL, SC, FI, DC) (nI n, nI T, ar, ph, ra, bh, ov, K, V, NN, W, C, OW, NX, ySR, yRD, yAD, VA, AT, SC, FY, DC, SK)) (nI n, nI T, ar, ph, ra, bh, ov, K, V, NN, W, C, OW, NX, ySR, yRD, yAD, VA, AT, SC, FY, DC, SK) v1 := by
    intro r ⟨g0, g1, g2, g3, g4, g5⟩
    refine ⟨T + 1, hY _ _ ?_⟩
    refine br_c (fun h => ⟨(g0 h).symm, I'⟩) fun n0 => br_c (fun h => ⟨(g1 h).symm, I'⟩) fun n1 => br_c (fun h => ⟨(g2 h).symm, I'⟩) fun n2 => br_c (fun h => ⟨(g3 h).symm, I'⟩) fun n3 => br_c (fun h => ⟨(g4 h).symm, I'⟩) fun n4 => ⟨(g5 ?_).symm, I'⟩
    by_cases h0 : v1 < 0
    · exact Or.inl h0
    · by_cases h1 : 4 < v1
      · exact Or.inr h1
      · exfalso
        obtain ⟨j, hj, rfl⟩ := nI_of2 (M := 4) (n := 4) (by decide) h0 (Int32.not_lt.mp h1)
        have : j = 0 ∨ j = 1 ∨ j = 2 ∨ j = 3 ∨ j = 4 := by omega
        rcases this with rfl | rfl | rfl | rfl | rfl
        · exact n0 rfl
        · exact n1 rfl
        · exact n2 rfl
        · exact n3 rfl
        · exact n4 rfl
  refine br_c (fun h => G _ ?_) fun h0 => br_c (fun h => G _ ?_) fun h1 => br_c (fun h => G _ ?_) fun n0 => br_c (fun h => ⟨T + 1, hA _ (G _ ?_)⟩) fun n1 => br_c (fun h => ⟨T + 1, hM _ (G _ ?_)⟩) fun n2 => br_c (fun h => G _ ?_) fun n3 => br_c (fun h => G _ ?_) fun n4 => trivial
  · exact ⟨fun e => absurd h (by rw [e]; decide), fun e => absurd h (by rw [e]; decide), fun e => absurd h (by rw [e]; decide), fun e => absurd h (by rw [e]; decide), fun e => absurd h (by rw [e]; decide), fun _ => rfl⟩
  · exact ⟨fun e => absurd h (by rw [e]; decide), fun e => absurd h (by rw [e]; decide), fun e => absurd h (by rw [e]; decide), fun e => absurd h (by rw [e]; decide), fun e => absurd h (by rw [e]; decide), fun _ => rfl⟩
  · subst h; exact ⟨fun _ => rfl, fun e => absurd e (by decide), fun e => absurd e (by decide), fun e => absurd e (by decide), fun e => absurd e (by decide), fun e => absurd e (by decide)⟩
  · subst h; exact ⟨fun e => absurd e (by decide), fun _ => rfl, fun e => absurd e (by decide), fun e => absurd e (by decide), fun e => absurd e (by decide), fun e => absurd e (by decide)⟩
  · subst h; exact ⟨fun e => absurd e (by decide), fun e => absurd e (by decide), fun _ => rfl, fun e => absurd e (by decide), fun e => absurd e (by decide), fun e => absurd e (by decide)⟩
  · subst h; exact ⟨fun e => absurd e (by decide), fun e => absurd e (by decide), fun e => absurd e (by decide), fun _ => rfl, fun e => absurd e (by decide), fun e => absurd e (by decide)⟩
  · subst h; exact ⟨fun e => absurd e (by decide), fun e => absurd e (by decide), fun e => absurd e (by decide), fun e => absurd e (by decide), fun _ => rfl, fun e => absurd e (by decide)⟩
theorem wd_kXY (x : Int32) : (∃ k, wd_kind k ∧ x = nI k ∧ (∀ P : Int32 → Prop, P 1 → wpX_isKind P x) ∧ (∀ (Q : Int32 → SY → Prop) (x2 : Int32) (c th ar yp ra bh ov : Int32) (K V NN W C OW NX SR RD AD VA AT SC FY DC SK : Nat → Int32), wY_token_34 Q x x2 c th ar yp ra bh ov K V NN W C OW NX SR RD AD VA AT SC FY DC SK → wpY_token Q (c, th, ar, yp, ra, bh, ov, K, V, NN, W, C, OW, NX, SR, RD, AD, VA, AT, SC, FY, DC, SK) x x2)) ∨ ((∀ P : Int32 → Prop, P 0 → wpX_isKind P x) ∧ (∀ (Q : Int32 → SY → Prop) (x2 : Int32) (c th ar yp ra bh ov : Int32) (K V NN W C OW NX SR RD AD VA AT SC FY DC SK : Nat → Int32), wY_token_38 Q x x2 c th ar yp ra bh ov K V NN W C OW NX SR RD AD VA AT SC FY DC SK → wpY_token Q (c, th, ar, yp, ra, bh, ov, K, V, NN, W, C, OW, NX, SR, RD, AD, VA, AT, SC, FY, DC, SK) x x2)) := by
  by_cases h0 : x < 0
  · refine Or.inr ⟨fun P hp => br_t h0 (br_t (Int32.lt_trans h0 (by decide)) (br_t (Int32.lt_trans h0 (by decide)) hp)), ?_⟩
    intros
    exact br_t h0 (br_t (Int32.le_of_lt (Int32.lt_trans h0 (by decide))) (br_t (Int32.le_of_lt (Int32.lt_trans h0 (by decide))) (by assumption)))
  · obtain ⟨j, hj, rfl⟩ := nI_of h0
    by_cases hk : wd_kind j
    · refine Or.inl ⟨j, hk, rfl, fun P hp => ?_, ?_⟩
      · rcases hk with h | ⟨h, h'⟩ | ⟨h, h'⟩
        · exact br_f h0 (br_t (nI_le (b := 8) h (by decide)) hp)
        · exact br_f h0 (br_f (nI_ge (a := 8) (by omega) hj) (br_f (nI_nlt (b := 10) (by omega) hj) (br_t (nI_le (b := 16) h' (by decide)) hp)))
        · exact br_f h0 (br_f (nI_ge (a := 8) (by omega) hj) (br_f (nI_nlt (b := 10) (by omega) hj) (br_f (nI_ge (a := 16) (by omega) hj) (br_f (nI_nlt (b := 20) (by omega) hj) (br_f (nI_nlt (a := 31) (by omega) (by decide)) hp)))))
      · intros
        rcases hk with h | ⟨h, h'⟩ | ⟨h, h'⟩
        · exact br_f h0 (br_t (nI_lt (b := 9) (by omega) (by decide)) (by assumption))
        · exact br_f h0 (br_f (nI_nlt (b := 9) (by omega) hj) (br_f (nI_ge (a := 9) (by omega) hj) (br_t (nI_lt (b := 17) (by omega) (by decide)) (by assumption))))
        · exact br_f h0 (br_f (nI_nlt (b := 9) (by omega) hj) (br_f (nI_ge (a := 9) (by omega) hj) (br_f (nI_nlt (b := 17) (by omega) hj) (br_f (nI_ge (a := 19) (by omega) hj) (br_f (nI_ge (b := 32) (by omega) (by decide)) (by assumption))))))
    · have hk' : j = 9 ∨ (17 ≤ j ∧ j ≤ 19) ∨ 32 ≤ j := by unfold wd_kind at hk; omega
      refine Or.inr ⟨fun P hp => ?_, ?_⟩
      · rcases hk' with rfl | ⟨h, h'⟩ | h
        · exact br_f h0 (br_f (by decide) (br_t (by decide) (br_t (by decide) hp)))
        · exact br_f h0 (br_f (nI_ge (a := 8) (by omega) hj) (br_f (nI_nlt (b := 10) (by omega) hj) (br_f (nI_ge (a := 16) (by omega) hj) (br_t (nI_lt (b := 20) (by omega) (by decide)) hp))))
        · exact br_f h0 (br_f (nI_ge (a := 8) (by omega) hj) (br_f (nI_nlt (b := 10) (by omega) hj) (br_f (nI_ge (a := 16) (by omega) hj) (br_f (nI_nlt (b := 20) (by omega) hj) (br_t (nI_lt (a := 31) (by omega) hj) hp)))))
      · intros
        rcases hk' with rfl | ⟨h, h'⟩ | h
        · exact br_f h0 (br_f (by decide) (br_t (by decide) (br_t (by decide) (by assumption))))
        · exact br_f h0 (br_f (nI_nlt (b := 9) (by omega) hj) (br_f (nI_ge (a := 9) (by omega) hj) (br_f (nI_nlt (b := 17) (by omega) hj) (br_t (nI_le (b := 19) h' (by decide)) (by assumption)))))
        · exact br_f h0 (br_f (nI_nlt (b := 9) (by omega) hj) (br_f (nI_ge (a := 9) (by omega) hj) (br_f (nI_nlt (b := 17) (by omega) hj) (br_f (nI_ge (a := 19) (by omega) hj) (br_t (nI_le (a := 32) h hj) (by assumption))))))
theorem wd_tokU {κ : Nat → Nat} {K V : Nat → Int32} (h : wd_tok κ K V) (n k : Nat) (x : Int32) (hk : wd_kind k) (hx : k = 0 ∨ k = 11 → ∃ w, w < 6 ∧ x = nI w) : wd_tok (fun i => if i = n then k else κ i) (upd K n (nI k)) (upd V n x) := by
  intro i
  unfold upd
  by_cases e : i = n
  · rw [if_pos e, if_pos e]
    dsimp only
    rw [if_pos e]
    exact ⟨rfl, hk, hx⟩
  · rw [if_neg e, if_neg e]
    dsimp only
    rw [if_neg e]
    exact h i
theorem i_vc_token {k : Nat} {u : SX} {v : SY} (I : i_Rel k u v) (hk : k + 3 ≤ 1536) (v1 : Int32) (v2 : Int32) : wpX_token (fun r u' => wpY_token (fun r' v' => r' = r ∧ i_Rel (k + 3) u' v') v v1 v2) u v1 v2 := by
  have I' := i_up I
  obtain ⟨n, T, κ, ob, ed, od, el, be, ar, go, ph, ra, ov, bh, K, V, J, O, W, C, ST, SR, RD, AD, OP, OM, OD, VA, PL, SC, FI, DC, NN, OW, NX, ySR, yRD, yAD, AT, FY, SK, rfl, rfl, h3, h4, h5, h6, _⟩ := I
  have done_ : n < 64 → ∀ q : Nat, v1 = nI q → wd_kind q → (q = 0 ∨ q = 11 → ∃ w, w < 6 ∧ v2 = nI w) → (∀ (Q : Int32 → SY → Prop), wY_token_64 Q v1 v2 (nI n) (nI T) ar ph ra bh ov K V NN W C OW NX ySR yRD yAD VA AT SC FY DC SK → wpY_token Q (nI n, nI T, ar, ph, ra, bh, ov, K, V, NN, W, C, OW, NX, ySR, yRD, yAD, VA, AT, SC, FY, DC, SK) v1 v2) → wX_token_37 (fun r u' => wpY_token (fun r' v' => r' = r ∧ i_Rel (k + 3) u' v') (nI n, nI T, ar, ph, ra, bh, ov, K, V, NN, W, C, OW, NX, ySR, yRD, yAD, VA, AT, SC, FY, DC, SK) v1 v2) v1 v2 (nI n) ob ed od el be (nI T) ar go ph ra ov K V J O W C ST SR RD AD OP OM OD VA PL SC FI DC := by
    intro hn q e1 hq hv HY
    have hi : vp_in (nI n) 64 := vp_in_nI hn (by decide)
    have ec := nI_clamp (n := n) (by omega)
    refine ⟨hi, nm_e ⟨hi, nm_e (nm_e (HY _ (br_f ?_ ⟨hi, nm_e ⟨hi, nm_e (nm_e ⟨rfl, ?_⟩)⟩⟩)))⟩⟩
    · exact fun z => absurd ((nI_eq (b := 64) (by omega) (by decide)).mp z) (by omega)
    · rw [ec, e1, nI_1]
      exact ⟨n + 1, T, _, ob, ed, od, el, be, ar, go, ph, ra, ov, bh, _, _, J, O, W, C, ST, SR, RD, AD, OP, OM, OD, VA, PL, SC, FI, DC, NN, OW, NX, ySR, yRD, yAD, AT, FY, SK, rfl, rfl, by omega, h4, wd_tokU h5 n q v2 hq hv, h6, rfl⟩
  rcases wd_kXY v1 with ⟨q, hq, e1, hX, hY⟩ | ⟨hX, hY⟩
  · refine hX _ (br_f (by decide) ?_)
    by_cases hn : n < 64
    · refine br_t (nI_lt (b := 64) hn (by decide)) ?_
      by_cases hv : q = 0 ∨ q = 11
      · by_cases g : v2 < 0 ∨ 6 ≤ v2
        · have A : ∀ Q : Int32 → SY → Prop, Q (-1) (nI n, nI T, ar, ph, ra, bh, ov, K, V, NN, W, C, OW, NX, ySR, yRD, yAD, VA, AT, SC, FY, DC, SK) → wpY_token Q (nI n, nI T, ar, ph, ra, bh, ov, K, V, NN, W, C, OW, NX, ySR, yRD, yAD, VA, AT, SC, FY, DC, SK) v1 v2 := by
            intro Q hp
            refine hY Q v2 _ _ _ _ _ _ _ _ _ _ _ _ _ _ _ _ _ _ _ _ _ _ _ (br_f (by decide) ?_)
            have B : wY_token_54 Q v1 v2 (nI n) (nI T) ar ph ra bh ov K V NN W C OW NX ySR yRD yAD VA AT SC FY DC SK := by
              by_cases g0 : v2 < 0
              · exact br_t g0 (br_t rfl hp)
              · exact br_f g0 (br_t (g.resolve_left g0) (br_t rfl hp))
            rcases hv with rfl | rfl
            · exact br_t e1 B
            · exact br_f (by rw [e1]; decide) (br_t e1 B)
          have B : wX_token_28 (fun r u' => wpY_token (fun r' v' => r' = r ∧ i_Rel (k + 3) u' v') (nI n, nI T, ar, ph, ra, bh, ov, K, V, NN, W, C, OW, NX, ySR, yRD, yAD, VA, AT, SC, FY, DC, SK) v1 v2) v1 v2 (nI n) ob ed od el be (nI T) ar go ph ra ov K V J O W C ST SR RD AD OP OM OD VA PL SC FI DC := by
            by_cases g0 : v2 < 0
            · exact br_t g0 (br_t rfl (A _ ⟨rfl, I'⟩))
            · exact br_f g0 (br_t (g.resolve_left g0) (br_t rfl (A _ ⟨rfl, I'⟩)))
          rcases hv with rfl | rfl
          · exact br_t e1 B
          · exact br_f (by rw [e1]; decide) (br_t e1 B)
        · have g0 : ¬ v2 < 0 := fun z => g (Or.inl z)
          have g1 : ¬ 6 ≤ v2 := fun z => g (Or.inr z)
          have D := done_ hn q e1 hq (fun _ => wd_thr (T := 6) (by decide) g0 g1) (by
            intro Q hp
            refine hY Q v2 _ _ _ _ _ _ _ _ _ _ _ _ _ _ _ _ _ _ _ _ _ _ _ (br_f (by decide) ?_)
            rcases hv with rfl | rfl
            · exact br_t e1 (br_f g0 (br_f g1 (br_f (by decide) hp)))
            · exact br_f (by rw [e1]; decide) (br_t e1 (br_f g0 (br_f g1 (br_f (by decide) hp)))))
          rcases hv with rfl | rfl
          · exact br_t e1 (br_f g0 (br_f g1 (br_f (by decide) D)))
          · exact br_f (by rw [e1]; decide) (br_t e1 (br_f g0 (br_f g1 (br_f (by decide) D))))
      · have hq31 : q < 2 ^ 31 := by unfold wd_kind at hq; omega
        have m0 : ¬ v1 = 0 := by
          rw [e1]; exact fun z => hv (Or.inl ((nI_eq (b := 0) hq31 (by decide)).mp z))
        have m1 : ¬ v1 = 11 := by
          rw [e1]; exact fun z => hv (Or.inr ((nI_eq (b := 11) hq31 (by decide)).mp z))
        refine br_f m0 (br_f m1 (done_ hn q e1 hq (fun z => absurd z hv) ?_))
        intro Q hp
        exact hY Q v2 _ _ _ _ _ _ _ _ _ _ _ _ _ _ _ _ _ _ _ _ _ _ _ (br_f (by decide) (br_f m0 (br_f m1 hp)))
    · refine br_f (nI_nlt (b := 64) (by omega) (by omega)) ?_
      obtain rfl : n = 64 := by omega
      have A : wY_token_64 (fun r' v' => r' = -1 ∧ i_Rel (k + 3) (nI 64, ob, ed, od, el, be, nI T, ar, go, ph, ra, ov, K, V, J, O, W, C, ST, SR, RD, AD, OP, OM, OD, VA, PL, SC, FI, DC) v') v1 v2 (nI 64) (nI T) ar ph ra bh ov K V NN W C OW NX ySR yRD yAD VA AT SC FY DC SK := br_t (by decide) ⟨rfl, I'⟩
      have B : wY_token_54 (fun r' v' => r' = -1 ∧ i_Rel (k + 3) (nI 64, ob, ed, od, el, be, nI T, ar, go, ph, ra, ov, K, V, J, O, W, C, ST, SR, RD, AD, OP, OM, OD, VA, PL, SC, FI, DC) v') v1 v2 (nI 64) (nI T) ar ph ra bh ov K V NN W C OW NX ySR yRD yAD VA AT SC FY DC SK := by
        by_cases g0 : v2 < 0
        · exact br_t g0 (br_t rfl ⟨rfl, I'⟩)
        · by_cases g1 : 6 ≤ v2
          · exact br_f g0 (br_t g1 (br_t rfl ⟨rfl, I'⟩))
          · exact br_f g0 (br_f g1 (br_f (by decide) A))
      exact hY _ v2 _ _ _ _ _ _ _ _ _ _ _ _ _ _ _ _ _ _ _ _ _ _ _ (br_f (by decide) (br_c (fun _ => B) fun _ => br_c (fun _ => B) fun _ => A))
  · exact hX _ (br_t rfl (hY _ v2 _ _ _ _ _ _ _ _ _ _ _ _ _ _ _ _ _ _ _ _ _ _ _ (br_t rfl ⟨rfl, I'⟩)))
