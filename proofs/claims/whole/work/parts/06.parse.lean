/-! firstFault and wrong, side by side -/
theorem wd_arX {x : Int32} (k : Nat) (hx : x = nI k) (h1 : 10 ≤ k) (h2 : k ≤ 31) (P : Int32 → Prop) (hp : P (nI (wd_ar k))) : wpX_operandsOf P x := by
  subst hx
  have : k = 10 ∨ k = 11 ∨ k = 12 ∨ k = 13 ∨ k = 14 ∨ k = 15 ∨ k = 16 ∨ k = 17 ∨ k = 18 ∨ k = 19 ∨ k = 20 ∨ k = 21 ∨ k = 22 ∨ k = 23 ∨ k = 24 ∨ k = 25 ∨ k = 26 ∨ k = 27 ∨ k = 28 ∨ k = 29 ∨ k = 30 ∨ k = 31 := by omega
  rcases this with rfl | rfl | rfl | rfl | rfl | rfl | rfl | rfl | rfl | rfl | rfl | rfl | rfl | rfl | rfl | rfl | rfl | rfl | rfl | rfl | rfl | rfl <;>
    (unfold wpX_operandsOf; repeat (first | exact br_t (by decide) hp | refine br_f (by decide) ?_))
theorem wd_arY {c th ar yp ra bh ov : Int32} {K V NN W C OW NX SR RD AD VA AT SC FY DC SK : Nat → Int32} {x : Int32} (k : Nat) (hx : x = nI k) (h1 : 10 ≤ k) (h2 : k ≤ 31) (P : Int32 → Prop) (hp : P (nI (wd_ar k))) : wpY_operands P (c, th, ar, yp, ra, bh, ov, K, V, NN, W, C, OW, NX, SR, RD, AD, VA, AT, SC, FY, DC, SK) x := by
  subst hx
  by_cases a : k < 15
  · have e : wd_ar k = 0 := by unfold wd_ar; rw [if_pos a]
    rw [e] at hp
    exact br_f (nI_ge (b := 15) a (by decide)) hp
  · refine br_t (nI_le (a := 15) (by omega) (by omega)) ?_
    by_cases b : k < 17
    · have e : wd_ar k = 1 := by unfold wd_ar; rw [if_neg a, if_pos b]
      rw [e] at hp
      exact br_t (nI_lt (b := 17) b (by decide)) hp
    · refine br_f (nI_nlt (b := 17) (by omega) (by omega)) ?_
      have : k = 29 ∨ k = 30 ∨ k = 31 ∨ (k ≠ 29 ∧ k ≠ 30 ∧ k ≠ 31) := by omega
      rcases this with rfl | rfl | rfl | ⟨c, d, e⟩
      · exact br_t rfl hp
      · exact br_f (by decide) (br_t rfl hp)
      · exact br_f (by decide) (br_f (by decide) (br_t rfl hp))
      · have e' : wd_ar k = 2 := by unfold wd_ar; rw [if_neg a, if_neg b, if_neg c, if_neg d, if_neg e]
        rw [e'] at hp
        exact br_f (fun z => c ((nI_eq (b := 29) (by omega) (by decide)).mp z)) (br_f (fun z => d ((nI_eq (b := 30) (by omega) (by decide)).mp z)) (br_f (fun z => e ((nI_eq (b := 31) (by omega) (by decide)).mp z)) hp))
theorem wd_exX (k : Nat) (h : k ≤ 8) (P : Int32 → Prop) (hp : P (nI (wd_ex k))) : wpX_expressionsOf P (nI k) := by
  have : k = 0 ∨ k = 1 ∨ k = 2 ∨ k = 3 ∨ k = 4 ∨ k = 5 ∨ k = 6 ∨ k = 7 ∨ k = 8 := by omega
  rcases this with rfl | rfl | rfl | rfl | rfl | rfl | rfl | rfl | rfl <;>
    (unfold wpX_expressionsOf; repeat (first | exact br_t (by decide) hp | refine br_f (by decide) ?_))
theorem wd_exY {c th ar yp ra bh ov : Int32} {K V NN W C OW NX SR RD AD VA AT SC FY DC SK : Nat → Int32} (k : Nat) (h : k ≤ 8) (P : Int32 → Prop) (hp : P (nI (wd_ex k))) : wpY_expressions P (c, th, ar, yp, ra, bh, ov, K, V, NN, W, C, OW, NX, SR, RD, AD, VA, AT, SC, FY, DC, SK) (nI k) := by
  have : k = 0 ∨ k = 1 ∨ k = 2 ∨ k = 3 ∨ k = 4 ∨ k = 5 ∨ k = 6 ∨ k = 7 ∨ k = 8 := by omega
  rcases this with rfl | rfl | rfl | rfl | rfl | rfl | rfl | rfl | rfl <;>
    (unfold wpY_expressions; dsimp only; repeat (first | exact br_t (by decide) hp | refine br_f (by decide) ?_)) <;> exact hp
theorem wd_X68 {c ob el be th ar go ph ra ov : Int32} {K V J O W C ST SR RD AD OP OM OD VA PL SC FI DC : Nat → Int32} {ed : Int32} (P : Int32 → SX → Prop) (k : Nat) (hk : k ≤ 8) (h0 : wd_ex k = 0 → P 1 (c, ob, nI 0, nI 0, el, be, th, ar, go, ph, ra, ov, K, V, J, O, W, C, ST, SR, RD, AD, OP, OM, OD, VA, PL, SC, FI, DC)) (h1 : wd_ex k ≠ 0 → P 1 (c, ob, nI (wd_ex k - 1), nI 1, nI 0, be, th, ar, go, ph, ra, ov, K, V, J, O, W, C, ST, SR, RD, AD, OP, OM, OD, VA, PL, SC, FI, DC)) : wX_takeAsStatement_68 P (nI k) c ob ed (nI 0) el be th ar go ph ra ov K V J O W C ST SR RD AD OP OM OD VA PL SC FI DC := by
  refine wd_exX k hk _ ?_
  have hl := wd_ex_le k
  by_cases h : wd_ex k = 0
  · rw [h]
    exact br_t (by decide) (h0 h)
  · refine br_f (nI_nle (by omega) (by omega)) (nm_r (e' := nI (wd_ex k - 1)) ?_ (h1 h))
    exact pk_sub (b := 1) (by omega)
theorem wd_Y165 {c th ar yp ra bh ov : Int32} {K V NN W C OW NX SR RD AD VA AT SC FY DC SK : Nat → Int32} (P : Int32 → SY → Prop) (Jc : _) (x1 u0 : Int32) (i k : Nat) (hk : k ≤ 8) (h0 : wd_ex k = 0 → Jc x1 (nI 0) (nI 0) u0 (nI (i + 1)) K V NN W C OW NX SR RD AD VA AT SC FY DC SK) (h1 : wd_ex k ≠ 0 → Jc x1 (nI (wd_ex k)) (nI 1) (nI 0) (nI (i + 1)) K V NN W C OW NX SR RD AD VA AT SC FY DC SK) : wY_wrong_165 P Jc x1 (nI 0) u0 (nI i) (nI k) c th ar yp ra bh ov K V NN W C OW NX SR RD AD VA AT SC FY DC SK := by
  refine wd_exY k hk _ ?_
  have hl := wd_ex_le k
  by_cases h : wd_ex k = 0
  · rw [h]
    exact br_t (by decide) (br_t (by decide) (nm_r (nI_1 i) (h0 h)))
  · exact br_t (by decide) (br_f (nI_nle (by omega) (by omega)) (nm_r (nI_1 i) (h1 h)))
theorem wd_neI {a : Nat} (b : Nat) (ha : a < 2 ^ 31) (hb : b < 2 ^ 31) (h : a ≠ b) : ¬ nI a = nI b := fun z => h ((nI_eq ha hb).mp z)
theorem wd_cI {K : Nat → Int32} {κ : Nat → Nat} {V : Nat → Int32} (hK : wd_tok κ K V) {i : Nat} (hi : i < 2 ^ 31) : K (nI i).toNatClampNeg = nI (κ i) := by rw [nI_clamp hi]; exact (hK i).1
set_option maxHeartbeats 1600000 in
theorem wd_parse {be th ar go ph ra ov bh yp : Int32} {K V W C ST SR RD AD OP OM OD VA PL SC FI DC OW NX AT FY SK ySR yRD yAD : Nat → Int32} {κ : Nat → Nat} {n : Nat} (hK : wd_tok κ K V) (hn : n ≤ 64) :
  ∀ f i d (p q : Nat → Nat) (m e u : Nat) (el u0 : Int32) (J O NN : Nat → Int32), i + f = n → wd_inv κ n i d p q J O NN → wd_st κ i = (m, e, u) → (m ≠ 0 → u ≤ 16 ∧ el = nI u ∧ u0 = nI u) →
  ∃ (r ob' ed' od' el' : Int32) (J' O' NN' : Nat → Int32),
   (∀ P : Int32 → SX → Prop, P r (nI n, ob', ed', od', el', be, th, ar, go, ph, ra, ov, K, V, J', O', W, C, ST, SR, RD, AD, OP, OM, OD, VA, PL, SC, FI, DC) → wX_firstFault_17 P (f + 1) (nI i) (nI n) (nI d) (nI e) (nI m) el be th ar go ph ra ov K V J O W C ST SR RD AD OP OM OD VA PL SC FI DC) ∧
   (∀ Q : Int32 → SY → Prop, Q r (nI n, th, ar, yp, ra, bh, ov, K, V, NN', W, C, OW, NX, ySR, yRD, yAD, VA, AT, SC, FY, DC, SK) → wY_wrong_12 Q (nI n) th ar yp ra bh ov (f + 1) (nI d) (nI (if m = 0 then 0 else e + 1)) (nI m) u0 (nI i) K V NN W C OW NX ySR yRD yAD VA AT SC FY DC SK) ∧
   ((r = -1 ∧ wd_prog κ n J') ∨ ∃ j, j ≤ n ∧ r = nI j) := by
  intro f
  induction f with
  | zero =>
    intro i d p q m e u el u0 J O NN hi hv hs hu
    have hc : nI n ≤ nI i := nI_le (by omega) (by omega)
    have hb := wd_st_b κ i
    rw [hs] at hb
    have hd : d ≤ i := hv.2.2.1
    dsimp only at hb
    obtain rfl : i = n := by omega
    by_cases hm : m = 0
    · subst hm
      by_cases h0 : d = 0
      · subst h0
        exact ⟨-1, _, _, _, _, _, _, _, fun P hp => br_t hc (br_f (by decide) (br_t (by decide) hp)), fun Q hq => br_t hc (br_f (by decide) (br_t (by decide) hq)), Or.inl ⟨rfl, wd_inv_f hv (by rw [hs])⟩⟩
      · have g : ¬ nI d ≤ 0 := nI_nle (by omega) (by omega)
        exact ⟨nI i, _, _, _, _, _, _, _, fun P hp => br_t hc (br_f (by decide) (br_f g hp)), fun Q hq => br_t hc (br_f (by decide) (br_f g hq)), Or.inr ⟨i, by omega, rfl⟩⟩
    · have g : 0 < nI m := nI_lt (a := 0) (by omega) (by omega)
      exact ⟨nI i, _, _, _, _, _, _, _, fun P hp => br_t hc (br_t g hp), fun Q hq => br_t hc (br_t g hq), Or.inr ⟨i, by omega, rfl⟩⟩
  | succ f ih =>
    intro i d p q m e u el u0 J O NN hi hv hs hu
    have hc : ¬ nI n ≤ nI i := nI_ge (by omega) (by omega)
    have hin : vp_in (nI i) 64 := vp_in_nI (by omega) (by decide)
    have hb := wd_st_b κ i
    rw [hs] at hb
    have hd : d ≤ i := hv.2.2.1
    dsimp only at hb
    have hk := (hK i).2.1
    have hKi := wd_cI hK (i := i) (by omega)
    have one : ¬ (1 : Int32) = 0 := by decide
    have z00 : nI 0 ≤ 0 := by decide
    generalize hke : κ i = k at hk hKi
    have hk31 : k ≤ 31 := by unfold wd_kind at hk; omega
    by_cases hm : m = 0
    · subst hm
      obtain rfl : e = 0 := hb.2.2 rfl
      by_cases k10 : 10 ≤ k
      · exact ⟨nI i, _, _, _, _, _, _, _, fun P hp => br_f hc (br_t z00 ⟨hin, nm_r hKi (br_f (nI_nlt (b := 10) k10 (by omega)) (br_t rfl hp))⟩), fun Q hq => br_f hc ⟨hin, nm_r hKi (br_t z00 (br_t (nI_lt (a := 9) (by omega) (by omega)) hq))⟩, Or.inr ⟨i, by omega, rfl⟩⟩
      · have k8 : k ≤ 8 := by unfold wd_kind at hk; omega
        have l10 : nI k < 10 := nI_lt (b := 10) (by omega) (by decide)
        have g9 : ¬ 9 < nI k := nI_nlt (a := 9) (by omega) (by decide)
        have hf : wd_fit κ i := by
          unfold wd_fit
          rw [hs]
          exact ⟨fun _ => by omega, fun z => absurd rfl z⟩
        by_cases c4 : k = 4
        · subst c4
          cases d with
          | zero => exact ⟨nI i, _, _, _, _, _, _, _, fun P hp => br_f hc (br_t z00 ⟨hin, nm_r hKi (br_t l10 (br_t rfl (br_t rfl ⟨rfl, br_t rfl hp⟩)))⟩), fun Q hq => br_f hc ⟨hin, nm_r hKi (br_t z00 (br_f g9 (br_t rfl (br_t rfl hq))))⟩, Or.inr ⟨i, by omega, rfl⟩⟩
          | succ d =>
            obtain ⟨hB, hO, hN⟩ := hv.2.2.2.1 d (by omega)
            have hpi : p d < i := hB.2.1
            have nz : ¬ nI (d + 1) = 0 := nI_ne0 (by omega) (by omega)
            have ed1 : nI (d + 1) - 1 = nI d := nI_pred d
            have in1 : vp_in (nI (d + 1) - 1) 64 := by rw [ed1]; exact vp_in_nI (by omega) (by decide)
            have cl1 : (nI (d + 1) - 1).toNatClampNeg = d := by rw [ed1, nI_clamp (by omega)]
            have eO : O (nI (d + 1) - 1).toNatClampNeg = nI (p d) := by rw [cl1]; exact hO
            have in2 : vp_in (nI (p d)) 64 := vp_in_nI (by omega) (by decide)
            have eK : K (nI (p d)).toNatClampNeg = nI (κ (p d)) := wd_cI hK (by omega)
            have eN : NN (nI (d + 1) - 1).toNatClampNeg = nI (κ (p d)) := by rw [cl1]; exact hN
            have hkp : κ (p d) ≤ 31 := by
              have := (hK (p d)).2.1
              unfold wd_kind at this
              omega
            by_cases c3 : κ (p d) = 3
            · have eK3 : K (nI (p d)).toNatClampNeg = 3 := by rw [eK, c3]; rfl
              have eN3 : NN (nI (d + 1) - 1).toNatClampNeg = 3 := by rw [eN, c3]; rfl
              have eJ : upd J (nI (p d)).toNatClampNeg (nI i + 1) = upd J (p d) (nI (i + 1)) := by rw [nI_clamp (by omega), nI_1]
              have eO' : upd O (nI (d + 1) - 1).toNatClampNeg (nI i) = upd O d (nI i) := by rw [cl1]
              have eN' : upd NN (nI (d + 1) - 1).toNatClampNeg 4 = upd NN d (nI (κ i)) := by rw [cl1, hke]; rfl
              obtain ⟨r, ob', ed', od', el', J', O', NN', hX, hY, hr⟩ := ih (i + 1) (d + 1) _ q 0 0 0 el u0 _ _ _ (by omega) (wd_inv_l hv (by omega) hf hke c3) (wd_st_s0 hs (by rw [hke]; rfl)) (fun z => absurd rfl z)
              refine ⟨r, ob', ed', od', el', J', O', NN', fun P hp => br_f hc (br_t z00 ⟨hin, nm_r hKi (br_t l10 (br_t rfl (br_f nz ⟨in1, nm_r eO ⟨in2, br_t eK3 ⟨in2, nm_r eJ ⟨in1, nm_r eO' ⟨rfl, br_f one (nm_r (nI_1 i) (hX P hp))⟩⟩⟩⟩⟩)))⟩), fun Q hq => br_f hc ⟨hin, nm_r hKi (br_t z00 (br_f g9 (br_t rfl (br_f nz ⟨in1, br_t eN3 (br_f (by decide) (br_f (by decide) (br_f (by decide) (br_t rfl ⟨in1, nm_r eN' (br_f (by decide) (wd_Y165 Q _ _ _ i 4 (by decide) (fun _ => hY Q hq) (fun z => absurd rfl z)))⟩))))⟩))))⟩, hr⟩
            · have eK3 : ¬ K (nI (p d)).toNatClampNeg = 3 := by rw [eK]; exact wd_neI 3 (by omega) (by decide) c3
              have eN3 : ¬ NN (nI (d + 1) - 1).toNatClampNeg = 3 := by rw [eN]; exact wd_neI 3 (by omega) (by decide) c3
              exact ⟨nI i, _, _, _, _, _, _, _, fun P hp => br_f hc (br_t z00 ⟨hin, nm_r hKi (br_t l10 (br_t rfl (br_f nz ⟨in1, nm_r eO ⟨in2, br_f eK3 ⟨rfl, br_t rfl hp⟩⟩⟩)))⟩), fun Q hq => br_f hc ⟨hin, nm_r hKi (br_t z00 (br_f g9 (br_t rfl (br_f nz ⟨in1, br_f eN3 hq⟩))))⟩, Or.inr ⟨i, by omega, rfl⟩⟩
        · have n4 : ¬ nI k = 4 := wd_neI 4 (by omega) (by decide) c4
          by_cases c5 : k = 5
          · subst c5
            cases d with
            | zero => exact ⟨nI i, _, _, _, _, _, _, _, fun P hp => br_f hc (br_t z00 ⟨hin, nm_r hKi (br_t l10 (br_f n4 (br_t rfl (br_t rfl ⟨rfl, br_t rfl hp⟩))))⟩), fun Q hq => br_f hc ⟨hin, nm_r hKi (br_t z00 (br_f g9 (br_f n4 (br_t rfl (br_t rfl hq)))))⟩, Or.inr ⟨i, by omega, rfl⟩⟩
            | succ d =>
              obtain ⟨hB, hO, hN⟩ := hv.2.2.2.1 d (by omega)
              have hpi : p d < i := hB.2.1
              have nz : ¬ nI (d + 1) = 0 := nI_ne0 (by omega) (by omega)
              have ed1 : nI (d + 1) - 1 = nI d := nI_pred d
              have in1 : vp_in (nI d) 64 := vp_in_nI (by omega) (by decide)
              have eO : O (nI d).toNatClampNeg = nI (p d) := by rw [nI_clamp (by omega)]; exact hO
              have in2 : vp_in (nI (p d)) 64 := vp_in_nI (by omega) (by decide)
              have eK : K (nI (p d)).toNatClampNeg = nI (κ (p d)) := wd_cI hK (by omega)
              have hkp : κ (p d) ≤ 31 := by
                have := (hK (p d)).2.1
                unfold wd_kind at this
                omega
              have eJ : upd J (nI (p d)).toNatClampNeg (nI i + 1) = upd J (p d) (nI (i + 1)) := by rw [nI_clamp (by omega), nI_1]
              obtain ⟨r, ob', ed', od', el', J', O', NN', hX, hY, hr⟩ := ih (i + 1) d p q 0 0 0 el u0 _ O NN (by omega) (wd_inv_e hv (by omega) hf hke) (wd_st_s0 hs (by rw [hke]; rfl)) (fun z => absurd rfl z)
              have hYY : ∀ Q : Int32 → SY → Prop, Q r (nI n, th, ar, yp, ra, bh, ov, K, V, NN', W, C, OW, NX, ySR, yRD, yAD, VA, AT, SC, FY, DC, SK) → wY_wrong_12 Q (nI n) th ar yp ra bh ov (f + 1 + 1) (nI (d + 1)) (nI (if (0 : Nat) = 0 then 0 else 0 + 1)) (nI 0) u0 (nI i) K V NN W C OW NX ySR yRD yAD VA AT SC FY DC SK := fun Q hq => br_f hc ⟨hin, nm_r hKi (br_t z00 (br_f g9 (br_f n4 (br_t rfl (br_f nz (br_f (by decide) (br_f (by decide) (br_f (by decide) (br_t rfl (nm_r (pk_m1 d) (wd_Y165 Q _ _ _ i 5 (by decide) (fun _ => hY Q hq) (fun z => absurd rfl z))))))))))))⟩
              by_cases c6 : κ (p d) = 6
              · have eK6 : K (nI (p d)).toNatClampNeg = 6 := by rw [eK, c6]; rfl
                have eJ2 : upd (upd J (p d) (nI (i + 1))) (nI i).toNatClampNeg (nI (p d)) = upd (upd J (p d) (nI (i + 1))) i (if κ (p d) = 6 then nI (p d) else nI (i + 1)) := by rw [nI_clamp (by omega), if_pos c6]
                exact ⟨r, ob', ed', od', el', J', O', NN', fun P hp => br_f hc (br_t z00 ⟨hin, nm_r hKi (br_t l10 (br_f n4 (br_t rfl (br_f nz (nm_r ed1 ⟨in1, nm_r eO ⟨in2, nm_r eJ ⟨in2, br_t eK6 ⟨hin, nm_r eJ2 ⟨rfl, br_f one (nm_r (nI_1 i) (hX P hp))⟩⟩⟩⟩⟩)))))⟩), hYY, hr⟩
              · have eK6 : ¬ K (nI (p d)).toNatClampNeg = 6 := by rw [eK]; exact wd_neI 6 (by omega) (by decide) c6
                have eJ2 : upd (upd J (p d) (nI (i + 1))) (nI i).toNatClampNeg (nI i + 1) = upd (upd J (p d) (nI (i + 1))) i (if κ (p d) = 6 then nI (p d) else nI (i + 1)) := by rw [nI_clamp (by omega), if_neg c6, nI_1]
                exact ⟨r, ob', ed', od', el', J', O', NN', fun P hp => br_f hc (br_t z00 ⟨hin, nm_r hKi (br_t l10 (br_f n4 (br_t rfl (br_f nz (nm_r ed1 ⟨in1, nm_r eO ⟨in2, nm_r eJ ⟨in2, br_f eK6 ⟨hin, nm_r eJ2 ⟨rfl, br_f one (nm_r (nI_1 i) (hX P hp))⟩⟩⟩⟩⟩)))))⟩), hYY, hr⟩
          · have n5 : ¬ nI k = 5 := wd_neI 5 (by omega) (by decide) c5
            by_cases c36 : k = 3 ∨ k = 6
            · have in1 : vp_in (nI d) 64 := vp_in_nI (by omega) (by decide)
              have hx1 : wd_ex k = 1 := by rcases c36 with rfl | rfl <;> rfl
              have eO' : upd O (nI d).toNatClampNeg (nI i) = upd O d (nI i) := by rw [nI_clamp (by omega)]
              have eN' : upd NN (nI d).toNatClampNeg (nI k) = upd NN d (nI (κ i)) := by rw [nI_clamp (by omega), hke]
              obtain ⟨r, ob', ed', od', el', J', O', NN', hX, hY, hr⟩ := ih (i + 1) (d + 1) _ _ 1 0 0 (nI 0) (nI 0) J _ _ (by omega) (wd_inv_o hv hf (by rw [hke]; exact c36)) (by rw [wd_st_s1 hs (by rw [hke, hx1]; decide), hke, hx1]) (fun _ => ⟨by omega, rfl, rfl⟩)
              have gX : ∀ P : Int32 → SX → Prop, P r (nI n, ob', ed', od', el', be, th, ar, go, ph, ra, ov, K, V, J', O', W, C, ST, SR, RD, AD, OP, OM, OD, VA, PL, SC, FI, DC) → wX_takeAsStatement_48 (fun r_5 u => match u with | (c, ob, ed, od, el, be, th, ar, go, ph, ra, ov, K, V, J, O, W, C, ST, SR, RD, AD, OP, OM, OD, VA, PL, SC, FI, DC) => wX_firstFault_45 P (wX_firstFault_17 P (f + 1)) (nI i) r_5 c ob ed od el be th ar go ph ra ov K V J O W C ST SR RD AD OP OM OD VA PL SC FI DC) (nI i) (nI k) (nI n) (nI d) (nI 0) (nI 0) el be th ar go ph ra ov K V J O W C ST SR RD AD OP OM OD VA PL SC FI DC := fun P hp => ⟨in1, nm_r eO' (nm_r (nI_1 d) (wd_X68 _ k k8 (fun z => by omega) (fun _ => br_f one (nm_r (nI_1 i) (by rw [hx1]; exact hX P hp)))))⟩
              have gY : ∀ Q : Int32 → SY → Prop, Q r (nI n, th, ar, yp, ra, bh, ov, K, V, NN', W, C, OW, NX, ySR, yRD, yAD, VA, AT, SC, FY, DC, SK) → wY_wrong_130 Q (wY_wrong_12 Q (nI n) th ar yp ra bh ov (f + 1)) (nI d) (nI 0) u0 (nI i) (nI k) (nI n) th ar yp ra bh ov K V NN W C OW NX ySR yRD yAD VA AT SC FY DC SK := fun Q hq => nm_r (nI_1 d) ⟨in1, nm_r eN' (br_f n4 (br_f n5 (wd_Y165 Q _ _ _ i k k8 (fun z => by omega) (fun _ => by rw [hx1]; exact hY Q hq))))⟩
              rcases c36 with rfl | rfl
              · exact ⟨r, ob', ed', od', el', J', O', NN', fun P hp => br_f hc (br_t z00 ⟨hin, nm_r hKi (br_t l10 (br_f n4 (br_f n5 (br_t rfl (gX P hp)))))⟩), fun Q hq => br_f hc ⟨hin, nm_r hKi (br_t z00 (br_f g9 (br_f n4 (br_f n5 (br_t rfl (gY Q hq))))))⟩, hr⟩
              · exact ⟨r, ob', ed', od', el', J', O', NN', fun P hp => br_f hc (br_t z00 ⟨hin, nm_r hKi (br_t l10 (br_f n4 (br_f n5 (br_f (by decide) (br_t rfl (gX P hp))))))⟩), fun Q hq => br_f hc ⟨hin, nm_r hKi (br_t z00 (br_f g9 (br_f n4 (br_f n5 (br_f (by decide) (br_t rfl (gY Q hq)))))))⟩, hr⟩
            · have n3 : ¬ nI k = 3 := wd_neI 3 (by omega) (by decide) (by omega)
              have n6 : ¬ nI k = 6 := wd_neI 6 (by omega) (by decide) (by omega)
              have hv' := wd_inv_n hv hf (by omega) (by omega) (by omega) (by omega)
              by_cases hx : wd_ex k = 0
              · obtain ⟨r, ob', ed', od', el', J', O', NN', hX, hY, hr⟩ := ih (i + 1) d p q 0 0 0 el u0 J O NN (by omega) hv' (wd_st_s0 hs (by rw [hke]; exact hx)) (fun z => absurd rfl z)
                exact ⟨r, ob', ed', od', el', J', O', NN', fun P hp => br_f hc (br_t z00 ⟨hin, nm_r hKi (br_t l10 (br_f n4 (br_f n5 (br_f n3 (br_f n6 (wd_X68 _ k k8 (fun _ => br_f one (nm_r (nI_1 i) (hX P hp))) (fun z => absurd hx z)))))))⟩), fun Q hq => br_f hc ⟨hin, nm_r hKi (br_t z00 (br_f g9 (br_f n4 (br_f n5 (br_f n3 (br_f n6 (br_f n4 (br_f n5 (wd_Y165 Q _ _ _ i k k8 (fun _ => hY Q hq) (fun z => absurd hx z))))))))))⟩, hr⟩
              · obtain ⟨r, ob', ed', od', el', J', O', NN', hX, hY, hr⟩ := ih (i + 1) d p q 1 (wd_ex k - 1) 0 (nI 0) (nI 0) J O NN (by omega) hv' (by rw [wd_st_s1 hs (by rw [hke]; exact hx), hke]) (fun _ => ⟨by omega, rfl, rfl⟩)
                rw [if_neg (by omega), show wd_ex k - 1 + 1 = wd_ex k by omega] at hY
                exact ⟨r, ob', ed', od', el', J', O', NN', fun P hp => br_f hc (br_t z00 ⟨hin, nm_r hKi (br_t l10 (br_f n4 (br_f n5 (br_f n3 (br_f n6 (wd_X68 _ k k8 (fun z => absurd z hx) (fun _ => br_f one (nm_r (nI_1 i) (hX P hp)))))))))⟩), fun Q hq => br_f hc ⟨hin, nm_r hKi (br_t z00 (br_f g9 (br_f n4 (br_f n5 (br_f n3 (br_f n6 (br_f n4 (br_f n5 (wd_Y165 Q _ _ _ i k k8 (fun z => absurd z hx) (fun _ => hY Q hq))))))))))⟩, hr⟩
    · obtain ⟨hu16, rfl, rfl⟩ := hu hm
      have m0 : ¬ nI m ≤ 0 := nI_nle (by omega) (by omega)
      rw [if_neg hm]
      by_cases k10 : 10 ≤ k
      · have nl : ¬ K (nI i).toNatClampNeg < 10 := by rw [hKi]; exact nI_nlt (b := 10) k10 (by omega)
        have nlY : ¬ nI k < 10 := nI_nlt (b := 10) k10 (by omega)
        by_cases hu2 : u = 16
        · subst hu2
          exact ⟨nI i, _, _, _, _, _, _, _, fun P hp => br_f hc (br_f m0 ⟨hin, br_f nl (br_f (by decide) (br_t rfl hp))⟩), fun Q hq => br_f hc ⟨hin, nm_r hKi (br_f m0 (br_f nlY (br_t rfl hq)))⟩, Or.inr ⟨i, by omega, rfl⟩⟩
        · have lu : nI u < 16 := nI_lt (b := 16) (by omega) (by decide)
          have nu : ¬ nI u = 16 := wd_neI 16 (by omega) (by decide) hu2
          have hf : wd_fit κ i := by
            unfold wd_fit
            rw [hs, hke]
            exact ⟨fun z => absurd z hm, fun _ => ⟨k10, by dsimp only; omega⟩⟩
          have hv' := wd_inv_n hv hf (by omega) (by omega) (by omega) (by omega)
          have har := wd_ar_le k
          have em : nI m + (nI (wd_ar k) - 1) = nI (m + wd_ar k - 1) := by
            rw [show m + wd_ar k - 1 = (m - 1) + wd_ar k by omega, ← nI_add, show nI m = nI (m - 1) + 1 by rw [nI_1]; congr 1; omega]
            grind
          by_cases hx : m + wd_ar k = 1
          · have e0 : m + wd_ar k - 1 = 0 := by omega
            rw [e0] at em
            by_cases he : e = 0
            · subst he
              obtain ⟨r, ob', ed', od', el', J', O', NN', hX, hY, hr⟩ := ih (i + 1) d p q 0 0 0 (nI (u + 1)) (nI (u + 1)) J O NN (by omega) hv' (wd_st_e0 hs hm (by rw [hke]; exact hx)) (fun z => absurd rfl z)
              exact ⟨r, ob', ed', od', el', J', O', NN', fun P hp => br_f hc (br_f m0 ⟨hin, br_f nl (br_t lu (nm_r (nI_1 u) ⟨hin, wd_arX k hKi k10 hk31 _ (nm_r em (br_t rfl (br_t z00 (br_f one (nm_r (nI_1 i) (hX P hp))))))⟩))⟩), fun Q hq => br_f hc ⟨hin, nm_r hKi (br_f m0 (br_f nlY (br_f nu (nm_r (nI_1 u) (wd_arY k rfl k10 hk31 _ (nm_r em (br_t rfl (nm_r (pk_m1 0) (br_t rfl (br_t z00 (nm_r (nI_1 i) (hY Q hq))))))))))))⟩, hr⟩
            · obtain ⟨r, ob', ed', od', el', J', O', NN', hX, hY, hr⟩ := ih (i + 1) d p q 1 (e - 1) 0 (nI 0) (nI 0) J O NN (by omega) hv' (wd_st_e1 hs hm he (by rw [hke]; exact hx)) (fun _ => ⟨by omega, rfl, rfl⟩)
              rw [if_neg (by omega), show e - 1 + 1 = e by omega] at hY
              have ge : ¬ nI e ≤ 0 := nI_nle (by omega) (by omega)
              have ee : nI e - 1 = nI (e - 1) := pk_sub (b := 1) (by omega)
              exact ⟨r, ob', ed', od', el', J', O', NN', fun P hp => br_f hc (br_f m0 ⟨hin, br_f nl (br_t lu (nm_r (nI_1 u) ⟨hin, wd_arX k hKi k10 hk31 _ (nm_r em (br_t rfl (br_f ge (nm_r ee (br_f one (nm_r (nI_1 i) (hX P hp)))))))⟩))⟩), fun Q hq => br_f hc ⟨hin, nm_r hKi (br_f m0 (br_f nlY (br_f nu (nm_r (nI_1 u) (wd_arY k rfl k10 hk31 _ (nm_r em (br_t rfl (nm_r (pk_m1 e) (br_t rfl (br_f ge (nm_r (nI_1 i) (hY Q hq))))))))))))⟩, hr⟩
          · have nz : ¬ nI (m + wd_ar k - 1) = 0 := nI_ne0 (by omega) (by omega)
            obtain ⟨r, ob', ed', od', el', J', O', NN', hX, hY, hr⟩ := ih (i + 1) d p q (m + wd_ar k - 1) e (u + 1) (nI (u + 1)) (nI (u + 1)) J O NN (by omega) hv' (by rw [wd_st_e2 hs hm (by rw [hke]; exact hx), hke]) (fun _ => ⟨by omega, rfl, rfl⟩)
            rw [if_neg (by omega)] at hY
            exact ⟨r, ob', ed', od', el', J', O', NN', fun P hp => br_f hc (br_f m0 ⟨hin, br_f nl (br_t lu (nm_r (nI_1 u) ⟨hin, wd_arX k hKi k10 hk31 _ (nm_r em (br_f nz (br_f one (nm_r (nI_1 i) (hX P hp)))))⟩))⟩), fun Q hq => br_f hc ⟨hin, nm_r hKi (br_f m0 (br_f nlY (br_f nu (nm_r (nI_1 u) (wd_arY k rfl k10 hk31 _ (nm_r em (br_f nz (br_f nz (nm_r (nI_1 i) (hY Q hq))))))))))⟩, hr⟩
      · have k8 : k ≤ 8 := by unfold wd_kind at hk; omega
        have lt : K (nI i).toNatClampNeg < 10 := by rw [hKi]; exact nI_lt (b := 10) (by omega) (by decide)
        have ltY : nI k < 10 := nI_lt (b := 10) (by omega) (by decide)
        exact ⟨nI i, _, _, _, _, _, _, _, fun P hp => br_f hc (br_f m0 ⟨hin, br_t lt (br_t rfl hp)⟩), fun Q hq => br_f hc ⟨hin, nm_r hKi (br_f m0 (br_t ltY hq))⟩, Or.inr ⟨i, by omega, rfl⟩⟩
