/-! the reference's evaluation of a tree -/
theorem wd_lfY {c th ar yp ra bh ov : Int32} {K V NN W C OW NX SR RD AD VA AT SC FY DC SK : Nat → Int32} {κ : Nat → Nat} {t p : Nat} (hK : wd_tok κ K V) (ht : t < 32) (hp : p < 64) (h10 : 10 ≤ κ p) (h15 : κ p < 15) (P : Int32 → Prop) (h : P (wd_lf κ V VA t th ar p)) : wpY_leaf P (c, th, ar, yp, ra, bh, ov, K, V, NN, W, C, OW, NX, SR, RD, AD, VA, AT, SC, FY, DC, SK) (nI t) (nI p) := by
  have hin : vp_in (nI p) 64 := vp_in_nI hp (by decide)
  have hKp := wd_cI hK (i := p) (by omega)
  have hV := (hK p).2.2
  unfold wd_lf at h
  generalize hke : κ p = k at h10 h15 h hKp hV
  have : k = 10 ∨ k = 11 ∨ k = 12 ∨ k = 13 ∨ k = 14 := by omega
  rcases this with rfl | rfl | rfl | rfl | rfl
  · refine ⟨hin, nm_r hKp (br_f (by decide) (br_f (by decide) (br_t rfl ⟨hin, ?_⟩)))⟩
    rw [nI_clamp (by omega)]
    exact h
  · obtain ⟨w, hw, ew⟩ := hV (Or.inr rfl)
    have ev : V (nI p).toNatClampNeg = nI w := by rw [nI_clamp (by omega)]; exact ew
    have ei : 6 * nI t + V (nI p).toNatClampNeg = nI (6 * t + w) := by rw [ev, ← nI_add, ← pk_mul]; rfl
    refine ⟨hin, nm_r hKp (br_f (by decide) (br_f (by decide) (br_f (by decide) (br_t rfl ⟨hin, ?_, ?_⟩))))⟩
    · rw [ei]; exact vp_in_nI (by omega) (by decide)
    · rw [ei, nI_clamp (by omega)]
      rw [ew, nI_clamp (by omega)] at h
      exact h
  · exact ⟨hin, nm_r hKp (br_f (by decide) (br_f (by decide) (br_f (by decide) (br_f (by decide) (br_t rfl h)))))⟩
  · exact ⟨hin, nm_r hKp (br_f (by decide) (br_f (by decide) (br_f (by decide) (br_f (by decide) (br_f (by decide) (br_t rfl h))))))⟩
  · exact ⟨hin, nm_r hKp (br_f (by decide) (br_t (by decide) h))⟩
theorem wd_opY {c th ar yp ra bh ov : Int32} {K V NN W C OW NX SR RD AD VA AT SC FY DC SK : Nat → Int32} {mem cnt : Nat → Int32} {k : Nat} (h20 : 20 ≤ k) (h31 : k ≤ 31) (a b c' : Int32) (P : Int32 → Prop) (hp : P (wd_ov mem cnt k a b c')) : wpY_operator P (c, th, ar, yp, ra, bh, ov, K, V, NN, W, C, OW, NX, SR, RD, AD, VA, AT, SC, FY, DC, SK) (nI k) a b c' := by
  have : k = 20 ∨ k = 21 ∨ k = 22 ∨ k = 23 ∨ k = 24 ∨ k = 25 ∨ k = 26 ∨ k = 27 ∨ k = 28 ∨ k = 29 ∨ k = 30 ∨ k = 31 := by omega
  rcases this with rfl | rfl | rfl | rfl | rfl | rfl | rfl | rfl | rfl | rfl | rfl | rfl
  · exact br_f (by decide) (br_f (by decide) (br_t rfl hp))
  · exact br_f (by decide) (br_f (by decide) (br_f (by decide) (br_t rfl hp)))
  · exact br_f (by decide) (br_f (by decide) (br_f (by decide) (br_f (by decide) (br_t rfl hp))))
  · refine br_f (by decide) (br_f (by decide) (br_f (by decide) (br_f (by decide) (br_f (by decide) (br_t rfl ?_)))))
    replace hp : P (if b = 0 then 0 else a / b) := hp
    by_cases z : b = 0
    · rw [if_pos z] at hp; exact br_t z hp
    · rw [if_neg z] at hp; exact br_f z ⟨z, hp⟩
  · refine br_f (by decide) (br_f (by decide) (br_f (by decide) (br_f (by decide) (br_f (by decide) (br_f (by decide) (br_t rfl ?_))))))
    replace hp : P (if b = 0 then 0 else a - a / b * b) := hp
    by_cases z : b = 0
    · rw [if_pos z] at hp; exact br_t z hp
    · rw [if_neg z] at hp; exact br_f z ⟨z, hp⟩
  · refine br_f (by decide) (br_f (by decide) (br_f (by decide) (br_f (by decide) (br_f (by decide) (br_f (by decide) (br_f (by decide) (br_t rfl ?_)))))))
    replace hp : P (if a = b then 1 else 0) := hp
    by_cases z : a = b
    · rw [if_pos z] at hp; exact br_t z hp
    · rw [if_neg z] at hp; exact br_f z hp
  · refine br_f (by decide) (br_f (by decide) (br_f (by decide) (br_f (by decide) (br_f (by decide) (br_f (by decide) (br_f (by decide) (br_f (by decide) (br_t rfl ?_))))))))
    replace hp : P (if b ≤ a then 0 else 1) := hp
    by_cases z : b ≤ a
    · rw [if_pos z] at hp; exact br_t z hp
    · rw [if_neg z] at hp; exact br_f z hp
  · refine br_f (by decide) (br_f (by decide) (br_f (by decide) (br_f (by decide) (br_f (by decide) (br_f (by decide) (br_f (by decide) (br_f (by decide) (br_f (by decide) (br_t rfl ?_)))))))))
    replace hp : P (if a = 0 then 0 else if b = 0 then 0 else 1) := hp
    by_cases z : a = 0
    · rw [if_pos z] at hp; exact br_t z hp
    · rw [if_neg z] at hp
      by_cases z2 : b = 0
      · rw [if_pos z2] at hp; exact br_f z (br_t z2 hp)
      · rw [if_neg z2] at hp; exact br_f z (br_f z2 hp)
  · refine br_f (by decide) (br_f (by decide) (br_f (by decide) (br_f (by decide) (br_f (by decide) (br_f (by decide) (br_f (by decide) (br_f (by decide) (br_f (by decide) (br_f (by decide) (br_t rfl ?_))))))))))
    replace hp : P (if a = 0 then (if b = 0 then 0 else 1) else 1) := hp
    by_cases z : a = 0
    · rw [if_pos z] at hp
      by_cases z2 : b = 0
      · rw [if_pos z2] at hp; exact br_t z (br_t z2 hp)
      · rw [if_neg z2] at hp; exact br_t z (br_f z2 hp)
    · rw [if_neg z] at hp; exact br_f z hp
  · refine br_f (by decide) (br_f (by decide) (br_f (by decide) (br_f (by decide) (br_f (by decide) (br_f (by decide) (br_f (by decide) (br_f (by decide) (br_f (by decide) (br_f (by decide) (br_f (by decide) (br_t rfl ?_)))))))))))
    replace hp : P (if a = 0 then 1 else 0) := hp
    by_cases z : a = 0
    · rw [if_pos z] at hp; exact br_t z hp
    · rw [if_neg z] at hp; exact br_f z hp
  · exact br_f (by decide) (br_f (by decide) (br_f (by decide) (br_f (by decide) (br_f (by decide) (br_f (by decide) (br_f (by decide) (br_f (by decide) (br_f (by decide) (br_f (by decide) (br_f (by decide) (br_f (by decide) (br_t rfl hp))))))))))))
  · refine br_f (by decide) (br_t (by decide) ?_)
    replace hp : P (if a = 0 then c' else b) := hp
    by_cases z : a = 0
    · rw [if_pos z] at hp; exact br_t z hp
    · rw [if_neg z] at hp; exact br_f z hp
/-- the reference's turn at token p: the three topmost values, then its own step -/
theorem wd_sY {c th ar yp ra bh ov : Int32} {K V NN W C OW NX SR RD AD VA AT SC FY DC SK : Nat → Int32} {κ : Nat → Nat} (P : Int32 → SY → Prop) {g H p fr : Nat} {x1 x4 : Int32} (hK : wd_tok κ K V) (hH : H ≤ 64) (hp : p < 64) (hf : fr ≤ p) (hC : ∀ a b c', (0 < H → a = SK (H - 1)) → (1 < H → b = SK (H - 2)) → (2 < H → c' = SK (H - 3)) → wY_solve_115 P (wY_solve_40 P x1 (nI fr) x4 g) x1 (nI fr) x4 (nI H) (nI p) (nI (κ p)) a b c' c th ar yp ra bh ov K V NN W C OW NX SR RD AD VA AT SC FY DC SK) : wY_solve_40 P x1 (nI fr) x4 (g + 1) (nI H) (nI p) c th ar yp ra bh ov K V NN W C OW NX SR RD AD VA AT SC FY DC SK := by
  have hin : vp_in (nI p) 64 := vp_in_nI hp (by decide)
  have e1 : 0 < H → (nI H - 1).toNatClampNeg = H - 1 ∧ vp_in (nI H - 1) 64 := fun h => by
    rw [show nI H - 1 = nI (H - 1) from pk_sub (b := 1) (by omega)]
    exact ⟨nI_clamp (by omega), vp_in_nI (by omega) (by decide)⟩
  have e2 : 1 < H → (nI H - 2).toNatClampNeg = H - 2 ∧ vp_in (nI H - 2) 64 := fun h => by
    rw [show nI H - 2 = nI (H - 2) from pk_sub (b := 2) (by omega)]
    exact ⟨nI_clamp (by omega), vp_in_nI (by omega) (by decide)⟩
  have e3 : 2 < H → (nI H - 3).toNatClampNeg = H - 3 ∧ vp_in (nI H - 3) 64 := fun h => by
    rw [show nI H - 3 = nI (H - 3) from pk_sub (b := 3) (by omega)]
    exact ⟨nI_clamp (by omega), vp_in_nI (by omega) (by decide)⟩
  refine br_f (nI_nlt hf (by omega)) ⟨hin, nm_r (wd_cI hK (by omega)) ?_⟩
  have S3 : ∀ a b, (0 < H → a = SK (H - 1)) → (1 < H → b = SK (H - 2)) → wY_solve_94 P (wY_solve_40 P x1 (nI fr) x4 g) x1 (nI fr) x4 (nI H) (nI p) (nI (κ p)) a b c th ar yp ra bh ov K V NN W C OW NX SR RD AD VA AT SC FY DC SK := by
    intro a b ha hb
    by_cases h : H ≤ 2
    · exact br_t (nI_le (b := 2) h (by decide)) (hC a b 0 ha hb (fun z => by omega))
    · refine br_f (nI_ge (a := 2) (by omega) (by omega)) ⟨(e3 (by omega)).2, hC a b _ ha hb (fun z => by rw [(e3 z).1])⟩
  have S2 : ∀ a, (0 < H → a = SK (H - 1)) → wY_solve_73 P (wY_solve_40 P x1 (nI fr) x4 g) x1 (nI fr) x4 (nI H) (nI p) (nI (κ p)) a c th ar yp ra bh ov K V NN W C OW NX SR RD AD VA AT SC FY DC SK := by
    intro a ha
    by_cases h : H ≤ 1
    · exact br_t (nI_le (b := 1) h (by decide)) (S3 a 0 ha (fun z => by omega))
    · refine br_f (nI_ge (a := 1) (by omega) (by omega)) ⟨(e2 (by omega)).2, S3 a _ ha (fun z => by rw [(e2 z).1])⟩
  by_cases h : H ≤ 0
  · exact br_t (nI_le (b := 0) h (by decide)) (S2 0 (fun z => by omega))
  · refine br_f (nI_ge (a := 0) (by omega) (by omega)) ⟨(e1 (by omega)).2, S2 _ (fun z => by rw [(e1 z).1])⟩
theorem wd_tY {c th ar yp ra bh ov : Int32} {K V NN W C OW NX SR AD VA AT SC FY DC : Nat → Int32} {RD SK : Nat → Int32} {κ : Nat → Nat} {mem : Nat → Int32} (P : Int32 → SY → Prop) {g s p fr t : Nat} {x4 : Int32} (hK : wd_tok κ K V) (ht : t < 32) (hm : ∀ c, c < 64 → mem c = OW c) (hs : s + 3 ≤ 64) (hp : p < 64) (h1 : 1 ≤ p) (hf : fr ≤ p) (h10 : 10 ≤ κ p) (v a b c' : Int32) (ha : 1 ≤ wd_ar (κ p) → a = SK (s + wd_ar (κ p) - 1)) (hb : 2 ≤ wd_ar (κ p) → b = SK (s + wd_ar (κ p) - 2)) (hc : 3 ≤ wd_ar (κ p) → c' = SK (s + wd_ar (κ p) - 3)) (hv : v = if wd_ar (κ p) = 0 then wd_lf κ V VA t th ar p else wd_ov mem C (κ p) a b c')
    (hC : wY_solve_40 P (nI t) (nI fr) x4 g (nI (s + 1)) (nI (p - 1)) c th ar yp ra bh ov K V NN W C OW NX SR (wd_or RD (wd_bit t) (wd_rd (κ p) a)) AD VA AT SC FY DC (upd SK s v)) : wY_solve_40 P (nI t) (nI fr) x4 (g + 1) (nI (s + wd_ar (κ p))) (nI p) c th ar yp ra bh ov K V NN W C OW NX SR RD AD VA AT SC FY DC SK := by
  have hkk := (hK p).2.1
  have hk31 : κ p ≤ 31 := by unfold wd_kind at hkk; omega
  have h3 := wd_ar_le (κ p)
  refine wd_sY P hK (by omega) hp hf ?_
  intro a2 b2 c2 ha2 hb2 hc2
  have es : nI (s + wd_ar (κ p)) - nI (wd_ar (κ p)) = nI s := by rw [pk_sub (by omega)]; congr 1; omega
  have is : vp_in (nI s) 64 := vp_in_nI (by omega) (by decide)
  have eu : upd SK (nI s).toNatClampNeg v = upd SK s v := by rw [nI_clamp (by omega)]
  have ep : nI p + (-1) = nI (p - 1) := by rw [wd_pm]; exact pk_sub (b := 1) (by omega)
  refine wd_arY (κ p) rfl h10 hk31 _ (nm_r es ?_)
  rcases wd_ar_cases (κ p) with h | h | h | h
  · have h15 := wd_ar0 h
    rw [if_pos h] at hv
    rw [wd_or_n (by omega)] at hC
    exact br_f (nI_ge (b := 15) h15 (by decide)) (wd_lfY hK ht hp h10 h15 _ (by rw [← hv]; exact ⟨is, nm_r eu (nm_r (nI_1 s) (nm_r ep hC))⟩))
  · have h15 := wd_ar1 h
    have ea : a2 = a := by rw [ha2 (by omega), ha (by omega)]
    rw [if_neg (by omega), wd_ov1 h15, ← wd_ov1 h15 a b2 c2] at hv
    subst ea
    refine br_t (nI_le (a := 15) (by omega) (by omega)) ?_
    by_cases h17 : 17 ≤ κ p
    · rw [wd_or_n (by omega)] at hC
      exact br_t (nI_le (a := 17) h17 (by omega)) (wd_opY (mem := mem) (cnt := C) (by omega) hk31 a2 b2 c2 _ (by rw [← hv]; exact ⟨is, nm_r eu (nm_r (nI_1 s) (nm_r ep hC))⟩))
    · refine br_f (nI_ge (b := 17) (by omega) (by decide)) ?_
      have hin : vp_in (a2 &&& 63) 64 := pk_andIn a2 (m := 63) 6 (by decide) (by decide)
      have : κ p = 15 ∨ κ p = 16 := by omega
      rcases this with e | e
      · rw [e] at hv hC
        rw [e]
        have hv' : v = OW (wd_m63 a2) := by rw [hv, ← hm _ (wd_m63_lt a2)]; rfl
        subst hv'
        exact br_f (by decide) ⟨hin, hin, nm_r wd_or_w ⟨hin, ⟨is, nm_r eu (nm_r (nI_1 s) (nm_r ep hC))⟩⟩⟩
      · rw [e] at hv hC
        rw [e]
        rw [wd_or_n (by decide)] at hC
        have hv' : v = C (wd_m63 a2) := hv
        subst hv'
        exact br_t rfl ⟨hin, ⟨is, nm_r eu (nm_r (nI_1 s) (nm_r ep hC))⟩⟩
  · have h20 := wd_ar2 hkk h
    have ea : a2 = a := by rw [ha2 (by omega), ha (by omega)]
    have eb : b2 = b := by rw [hb2 (by omega), hb (by omega)]
    rw [if_neg (by omega), wd_ov2 h20, ← wd_ov2 h20 a b c2] at hv
    subst ea eb
    rw [wd_or_n (by omega)] at hC
    exact br_t (nI_le (a := 15) (by omega) (by omega)) (br_t (nI_le (a := 17) (by omega) (by omega)) (wd_opY (mem := mem) (cnt := C) (by omega) hk31 a2 b2 c2 _ (by rw [← hv]; exact ⟨is, nm_r eu (nm_r (nI_1 s) (nm_r ep hC))⟩)))
  · have h31 := wd_ar3 h
    have ea : a2 = a := by rw [ha2 (by omega), ha (by omega)]
    have eb : b2 = b := by rw [hb2 (by omega), hb (by omega)]
    have ec : c2 = c' := by rw [hc2 (by omega), hc (by omega)]
    rw [if_neg (by omega)] at hv
    subst ea eb ec
    rw [wd_or_n (by omega)] at hC
    exact br_t (nI_le (a := 15) (by omega) (by omega)) (br_t (nI_le (a := 17) (by omega) (by omega)) (wd_opY (mem := mem) (cnt := C) (by omega) hk31 a2 b2 c2 _ (by rw [← hv]; exact ⟨is, nm_r eu (nm_r (nI_1 s) (nm_r ep hC))⟩)))
theorem wd_or_3 {RD : Nat → Int32} {b : Int32} {R1 R2 R3 : Nat → Bool} : wd_or (wd_or (wd_or RD b R3) b R2) b R1 = wd_or RD b (fun c => (R1 c || R2 c) || R3 c) := by
  rw [wd_or_or, wd_or_or]
  congr 1
  funext c
  cases R1 c <;> cases R2 c <;> cases R3 c <;> rfl
theorem wd_eY {th ar yp ra bh ov : Int32} {K V NN W C OW NX SR AD VA AT SC FY DC : Nat → Int32} {κ : Nat → Nat} {n t fr : Nat} {x4 : Int32} {mem : Nat → Int32} (hK : wd_tok κ K V) (hn : n ≤ 64) (ht : t < 32) (hm : ∀ c, c < 64 → mem c = OW c) (P : Int32 → SY → Prop) : ∀ f p q v R, wd_tr κ n (wd_lf κ V VA t th ar) mem C f p q v R → ∀ (s g : Nat) (RD SK : Nat → Int32), s + (q - p) ≤ 60 → 1 ≤ p → fr ≤ p →
   (∀ SK' : Nat → Int32, (∀ j, j < s → SK' j = SK j) → SK' s = v → wY_solve_40 P (nI t) (nI fr) x4 g (nI (s + 1)) (nI (p - 1)) (nI n) th ar yp ra bh ov K V NN W C OW NX SR (wd_or RD (wd_bit t) R) AD VA AT SC FY DC SK') →
   wY_solve_40 P (nI t) (nI fr) x4 (g + (q - p)) (nI s) (nI (q - 1)) (nI n) th ar yp ra bh ov K V NN W C OW NX SR RD AD VA AT SC FY DC SK := by
  intro f
  induction f with
  | zero => intro p q v R h; exact absurd h id
  | succ f ih =>
    intro p q v R htr s g RD SK hs h1 hf hC
    have hlt := wd_tr_lt _ _ _ _ _ htr
    obtain ⟨hpn, h10, htr⟩ := htr
    have hkk := (hK p).2.1
    rcases htr with ⟨ha, rfl, rfl, rfl⟩ | ⟨ha, a, R1, ta, rfl, rfl⟩ | ⟨ha, q1, a, b, R1, R2, ta, tb, rfl, rfl⟩ | ⟨ha, q1, q2, a, b, c', R1, R2, R3, ta, tb, tc, rfl, rfl⟩
    · have key := wd_tY (g := g) (a := 0) (b := 0) (c' := 0) (SK := SK) (RD := RD) (s := s) P hK ht hm (by omega) (by omega) h1 hf h10 (wd_lf κ V VA t th ar p) (by omega) (by omega) (by omega) (by rw [if_pos ha]) (by rw [wd_or_n (by have := wd_ar0 ha; omega)]; exact hC (upd SK s _) (fun j hj => pk_un (by omega)) pk_us)
      rw [ha] at key
      rw [show p + 1 - p = 1 by omega]
      exact key
    · have l1 := wd_tr_lt _ _ _ _ _ ta
      rw [show g + (q - p) = (g + 1) + (q - (p + 1)) by omega]
      refine ih (p + 1) q a R1 ta s (g + 1) RD SK (by omega) (by omega) (by omega) ?_
      intro SK1 hA hv
      have key := wd_tY (g := g) (a := a) (b := 0) (c' := 0) (SK := SK1) (RD := wd_or RD (wd_bit t) R1) (s := s) P hK ht hm (by omega) (by omega) h1 hf h10 (wd_ov mem C (κ p) a 0 0) (fun _ => by rw [ha]; exact hv.symm) (by omega) (by omega) (by rw [if_neg (by omega)]) (by rw [wd_or_or]; exact hC (upd SK1 s _) (fun j hj => by rw [pk_un (by omega)]; exact hA j hj) pk_us)
      rw [ha] at key
      exact key
    · have l1 := wd_tr_lt _ _ _ _ _ ta
      have l2 := wd_tr_lt _ _ _ _ _ tb
      have h20 := wd_ar2 hkk ha
      rw [show g + (q - p) = (g + 1 + (q1 - (p + 1))) + (q - q1) by omega]
      refine ih q1 q b R2 tb s _ RD SK (by omega) (by omega) (by omega) ?_
      intro SK1 hA hv
      refine ih (p + 1) q1 a R1 ta (s + 1) (g + 1) _ SK1 (by omega) (by omega) (by omega) ?_
      intro SK2 hA2 hv2
      have hb2 : SK2 s = b := by rw [hA2 s (by omega)]; exact hv
      have key := wd_tY (g := g) (a := a) (b := b) (c' := 0) (SK := SK2) (RD := wd_or (wd_or RD (wd_bit t) R2) (wd_bit t) R1) (s := s) P hK ht hm (by omega) (by omega) h1 hf h10 (wd_ov mem C (κ p) a b 0) (fun _ => by rw [ha]; exact hv2.symm) (fun _ => by rw [ha]; exact hb2.symm) (by omega) (by rw [if_neg (by omega)]) (by rw [wd_or_n (by omega), wd_or_c, wd_or_or]; exact hC (upd SK2 s _) (fun j hj => by rw [pk_un (by omega), hA2 j (by omega)]; exact hA j hj) pk_us)
      rw [ha] at key
      exact key
    · have l1 := wd_tr_lt _ _ _ _ _ ta
      have l2 := wd_tr_lt _ _ _ _ _ tb
      have l3 := wd_tr_lt _ _ _ _ _ tc
      have h31 := wd_ar3 ha
      rw [show g + (q - p) = (g + 1 + (q1 - (p + 1)) + (q2 - q1)) + (q - q2) by omega]
      refine ih q2 q c' R3 tc s _ RD SK (by omega) (by omega) (by omega) ?_
      intro SK1 hA hv
      refine ih q1 q2 b R2 tb (s + 1) _ _ SK1 (by omega) (by omega) (by omega) ?_
      intro SK2 hA2 hv2
      refine ih (p + 1) q1 a R1 ta (s + 1 + 1) (g + 1) _ SK2 (by omega) (by omega) (by omega) ?_
      intro SK3 hA3 hv3
      have hc2 : SK3 s = c' := by rw [hA3 s (by omega), hA2 s (by omega)]; exact hv
      have hb2 : SK3 (s + 1) = b := by rw [hA3 (s + 1) (by omega)]; exact hv2
      have key := wd_tY (g := g) (a := a) (b := b) (c' := c') (SK := SK3) (RD := wd_or (wd_or (wd_or RD (wd_bit t) R3) (wd_bit t) R2) (wd_bit t) R1) (s := s) P hK ht hm (by omega) (by omega) h1 hf h10 (wd_ov mem C (κ p) a b c') (fun _ => by rw [ha]; exact hv3.symm) (fun _ => by rw [ha]; exact hb2.symm) (fun _ => by rw [ha]; exact hc2.symm) (by rw [if_neg (by omega)]) (by rw [wd_or_n (by omega), wd_or_3]; exact hC (upd SK3 s _) (fun j hj => by rw [pk_un (by omega), hA3 j (by omega), hA2 j (by omega)]; exact hA j hj) pk_us)
      rw [ha] at key
      exact key
theorem wd_fY {th ar yp ra bh ov : Int32} {K V NN W C OW NX SR RD AD VA AT SC FY DC SK : Nat → Int32} {κ : Nat → Nat} {n : Nat} {x1 x2 : Int32} {lf mem cnt : Nat → Int32} (hK : wd_tok κ K V) (hn : n ≤ 64) (P : Int32 → SY → Prop) : ∀ f p q v R, wd_tr κ n lf mem cnt f p q v R → ∀ m g, m + (q - p) ≤ 100 → wY_solve_5 P x1 x2 (nI n) th ar yp ra bh ov K V NN W C OW NX SR RD AD VA AT SC FY DC SK g (nI m) (nI q) → wY_solve_5 P x1 x2 (nI n) th ar yp ra bh ov K V NN W C OW NX SR RD AD VA AT SC FY DC SK (g + (q - p)) (nI (m + 1)) (nI p) := by
  intro f
  induction f with
  | zero => intro p q v R h; exact absurd h id
  | succ f ih =>
    intro p q v R htr m g hm hC
    have hlt := wd_tr_lt _ _ _ _ _ htr
    obtain ⟨hpn, h10, htr⟩ := htr
    have hkk := (hK p).2.1
    have hk31 : κ p ≤ 31 := by unfold wd_kind at hkk; omega
    have hin : vp_in (nI p) 64 := vp_in_nI (by omega) (by decide)
    have ST : ∀ r g1, wd_ar (κ p) = r → wY_solve_5 P x1 x2 (nI n) th ar yp ra bh ov K V NN W C OW NX SR RD AD VA AT SC FY DC SK g1 (nI (m + r)) (nI (p + 1)) → wY_solve_5 P x1 x2 (nI n) th ar yp ra bh ov K V NN W C OW NX SR RD AD VA AT SC FY DC SK (g1 + 1) (nI (m + 1)) (nI p) := by
      intro r g1 hr hN
      refine br_f (nI_nle (by omega) (by omega)) ⟨hin, wd_arY (κ p) (wd_cI hK (by omega)) h10 hk31 _ (nm_r (e' := nI (m + r)) ?_ (nm_r (nI_1 p) hN))⟩
      rw [hr, ← nI_add m r, ← nI_1]
      grind
    rcases htr with ⟨ha, rfl, rfl, rfl⟩ | ⟨ha, a, R1, ta, rfl, rfl⟩ | ⟨ha, q1, a, b, R1, R2, ta, tb, rfl, rfl⟩ | ⟨ha, q1, q2, a, b, c', R1, R2, R3, ta, tb, tc, rfl, rfl⟩
    · rw [show p + 1 - p = 1 by omega]
      exact ST 0 g ha hC
    · have l1 := wd_tr_lt _ _ _ _ _ ta
      rw [show g + (q - p) = g + (q - (p + 1)) + 1 by omega]
      exact ST 1 _ ha (ih _ _ _ _ ta m g (by omega) hC)
    · have l1 := wd_tr_lt _ _ _ _ _ ta
      have l2 := wd_tr_lt _ _ _ _ _ tb
      rw [show g + (q - p) = g + (q - q1) + (q1 - (p + 1)) + 1 by omega]
      exact ST 2 _ ha (ih _ _ _ _ ta (m + 1) _ (by omega) (ih _ _ _ _ tb m g (by omega) hC))
    · have l1 := wd_tr_lt _ _ _ _ _ ta
      have l2 := wd_tr_lt _ _ _ _ _ tb
      have l3 := wd_tr_lt _ _ _ _ _ tc
      rw [show g + (q - p) = g + (q - q2) + (q2 - q1) + (q1 - (p + 1)) + 1 by omega]
      exact ST 3 _ ha (ih _ _ _ _ ta (m + 1 + 1) _ (by omega) (ih _ _ _ _ tb (m + 1) _ (by omega) (ih _ _ _ _ tc m g (by omega) hC)))
theorem wd_evY {th ar yp ra bh ov : Int32} {K V NN W C OW NX SR RD AD VA AT SC FY DC SK : Nat → Int32} {κ : Nat → Nat} {n t f p q : Nat} {v : Int32} {R : Nat → Bool} {mem : Nat → Int32} (hK : wd_tok κ K V) (hn : n ≤ 64) (ht : t < 32) (hm : ∀ c, c < 64 → mem c = OW c) (htr : wd_tr κ n (wd_lf κ V VA t th ar) mem C f p q v R) (hl : q - p ≤ 16) (h1 : 1 ≤ p) {x : Int32} (hx : x = nI p) (P : Int32 → SY → Prop) (hp : ∀ SK' : Nat → Int32, P v (nI n, th, ar, yp, ra, nI q, ov, K, V, NN, W, C, OW, NX, SR, wd_or RD (wd_bit t) R, AD, VA, AT, SC, FY, DC, SK')) : wpY_solve P (nI n, th, ar, yp, ra, bh, ov, K, V, NN, W, C, OW, NX, SR, RD, AD, VA, AT, SC, FY, DC, SK) (nI t) x := by
  subst hx
  have l1 := wd_tr_lt _ _ _ _ _ htr
  refine ⟨1 + (q - p), wd_fY hK hn P f p q v R htr 0 1 (by omega) (br_t (by decide) (nm_r (e' := nI (q - 1)) ?_ ⟨1 + (q - p), wd_eY (fr := p) hK hn ht hm P f p q v R htr 0 1 RD SK (by omega) h1 (by omega) ?_⟩))⟩
  · exact pk_sub (b := 1) (by omega)
  · intro SK' hA hv
    refine br_t (nI_lt (by omega) (by omega)) ?_
    rw [hv]
    exact hp SK'
