/-! the component's evaluation of a tree -/
theorem wd_lfX {c ob ed od el be th ar go ph ra ov : Int32} {K V J O W C ST SR RD AD OP OM OD VA PL SC FI DC : Nat → Int32} {κ : Nat → Nat} {t p : Nat} (hK : wd_tok κ K V) (ht : t < 32) (hp : p < 64) (h10 : 10 ≤ κ p) (h15 : κ p < 15) (P : Int32 → Prop) (h : P (wd_lf κ V VA t th ar p)) : wpX_leaf P (c, ob, ed, od, el, be, th, ar, go, ph, ra, ov, K, V, J, O, W, C, ST, SR, RD, AD, OP, OM, OD, VA, PL, SC, FI, DC) (nI t) (nI p) := by
  have hin : vp_in (nI p) 64 := vp_in_nI hp (by decide)
  have hKp := wd_cI hK (i := p) (by omega)
  have hV := (hK p).2.2
  unfold wd_lf at h
  generalize hke : κ p = k at h10 h15 h hKp hV
  have : k = 10 ∨ k = 11 ∨ k = 12 ∨ k = 13 ∨ k = 14 := by omega
  rcases this with rfl | rfl | rfl | rfl | rfl
  · refine ⟨hin, nm_r hKp (br_f (by decide) (br_f (by decide) (br_t rfl ⟨hin, ?_⟩)))⟩
    rw [nI_clamp (by omega)]
    exact h
  · obtain ⟨w, hw, ew⟩ := hV (Or.inr rfl)
    have ev : V (nI p).toNatClampNeg = nI w := by rw [nI_clamp (by omega)]; exact ew
    have ei : nI t * 6 + V (nI p).toNatClampNeg = nI (6 * t + w) := by rw [ev, Nat.mul_comm, ← nI_add, ← pk_mul]; rfl
    refine ⟨hin, nm_r hKp (br_f (by decide) (br_f (by decide) (br_f (by decide) (br_t rfl ⟨hin, ?_, ?_⟩))))⟩
    · rw [ei]; exact vp_in_nI (by omega) (by decide)
    · rw [ei, nI_clamp (by omega)]
      rw [ew, nI_clamp (by omega)] at h
      exact h
  · exact ⟨hin, nm_r hKp (br_f (by decide) (br_f (by decide) (br_f (by decide) (br_f (by decide) (br_t rfl h)))))⟩
  · exact ⟨hin, nm_r hKp (br_f (by decide) (br_f (by decide) (br_f (by decide) (br_f (by decide) (br_f (by decide) (br_t rfl h))))))⟩
  · exact ⟨hin, nm_r hKp (br_f (by decide) (br_t (by decide) h))⟩
theorem wd_rwX {c ob ed od el be th ar go ph ra ov : Int32} {K V J O W C ST SR RD AD OP OM OD VA PL SC FI DC : Nat → Int32} {mem : Nat → Int32} {t : Nat} (ht : t < 32) (hm : ∀ c, c < 64 → mem c = if bt (SR c) t = true then ST c else W c) (a : Int32) (P : Int32 → SX → Prop) (h : P (mem (wd_m63 a)) (c, ob, ed, od, el, be, th, ar, go, ph, ra, ov, K, V, J, O, W, C, ST, SR, wd_or RD (wd_bit t) (wd_rd 15 a), AD, OP, OM, OD, VA, PL, SC, FI, DC)) : wpX_readWord P (c, ob, ed, od, el, be, th, ar, go, ph, ra, ov, K, V, J, O, W, C, ST, SR, RD, AD, OP, OM, OD, VA, PL, SC, FI, DC) (nI t) (a &&& 63) := by
  have hin : vp_in (a &&& 63) 64 := pk_andIn a (m := 63) 6 (by decide) (by decide)
  rw [hm _ (wd_m63_lt a)] at h
  refine ⟨hin, hin, nm_r wd_or_w ⟨hin, ?_⟩⟩
  cases hb : bt (SR (wd_m63 a)) t
  · rw [hb] at h
    exact br_t ((wd_bX ht _).mpr hb) (br_t rfl ⟨hin, h⟩)
  · rw [hb] at h
    exact br_f (fun z => absurd ((wd_bX ht _).mp z) (by show ¬ bt (SR (wd_m63 a)) t = false; rw [hb]; decide)) (br_f (by decide) ⟨hin, h⟩)
theorem wd_opX {c ob ed od el be th ar go ph ra ov : Int32} {K V J O W C ST SR RD AD OP OM OD VA PL SC FI DC : Nat → Int32} {mem : Nat → Int32} {t k h : Nat} {x : Int32} (ht : t < 32) (hm : ∀ c, c < 64 → mem c = if bt (SR c) t = true then ST c else W c) (hk : wd_kind k) (h15 : 15 ≤ k) (hh : h + 2 < 18) (hx : x = nI k) (P : Int32 → SX → Prop) (hp : P (wd_ov mem C k (OD h) (OD (h + 1)) (OD (h + 2))) (c, ob, ed, od, el, be, th, ar, go, ph, ra, ov, K, V, J, O, W, C, ST, SR, wd_or RD (wd_bit t) (wd_rd k (OD h)), AD, OP, OM, OD, VA, PL, SC, FI, DC)) : wpX_operate P (c, ob, ed, od, el, be, th, ar, go, ph, ra, ov, K, V, J, O, W, C, ST, SR, RD, AD, OP, OM, OD, VA, PL, SC, FI, DC) (nI t) x (nI h) := by
  subst hx
  have e1 : nI h + 1 = nI (h + 1) := nI_1 h
  have e2 : nI h + 2 = nI (h + 2) := nI_add h 2
  have i0 : vp_in (nI h) 18 := vp_in_nI (by omega) (by decide)
  have i1 : vp_in (nI h + 1) 18 := by rw [e1]; exact vp_in_nI (by omega) (by decide)
  have i2 : vp_in (nI h + 2) 18 := by rw [e2]; exact vp_in_nI (by omega) (by decide)
  refine ⟨i0, nm_r (e' := OD h) (by rw [nI_clamp (by omega)]) ⟨i1, nm_r (e' := OD (h + 1)) (by rw [e1, nI_clamp (by omega)]) ⟨i2, nm_r (e' := OD (h + 2)) (by rw [e2, nI_clamp (by omega)]) ?_⟩⟩⟩
  generalize OD (h + 2) = c' at hp ⊢
  generalize OD (h + 1) = b at hp ⊢
  generalize OD h = a at hp ⊢
  by_cases k15 : k = 15
  · subst k15
    exact br_f (by decide) (br_f (by decide) (br_t rfl (wd_rwX ht hm a _ hp)))
  · rw [wd_or_n k15] at hp
    have : k = 16 ∨ k = 20 ∨ k = 21 ∨ k = 22 ∨ k = 23 ∨ k = 24 ∨ k = 25 ∨ k = 26 ∨ k = 27 ∨ k = 28 ∨ k = 29 ∨ k = 30 ∨ k = 31 := by unfold wd_kind at hk; omega
    rcases this with rfl | rfl | rfl | rfl | rfl | rfl | rfl | rfl | rfl | rfl | rfl | rfl | rfl
    · refine br_f (by decide) (br_f (by decide) (br_f (by decide) (br_t rfl ⟨pk_andIn a (m := 63) 6 (by decide) (by decide), hp⟩)))
    · refine br_f (by decide) (br_f (by decide) ?_)
      repeat (first | exact br_t (by decide) hp | refine br_f (by decide) ?_)
    · refine br_f (by decide) (br_f (by decide) ?_)
      repeat (first | exact br_t (by decide) hp | refine br_f (by decide) ?_)
    · refine br_f (by decide) (br_f (by decide) ?_)
      repeat (first | exact br_t (by decide) hp | refine br_f (by decide) ?_)
    · refine br_f (by decide) (br_f (by decide) (br_f (by decide) (br_f (by decide) (br_f (by decide) (br_f (by decide) (br_f (by decide) (br_f (by decide) (br_f (by decide) (br_f (by decide) (br_t rfl ?_))))))))))
      replace hp : P (if b = 0 then 0 else a / b) (c, ob, ed, od, el, be, th, ar, go, ph, ra, ov, K, V, J, O, W, C, ST, SR, RD, AD, OP, OM, OD, VA, PL, SC, FI, DC) := hp
      by_cases z : b = 0
      · rw [if_pos z] at hp; exact br_t z hp
      · rw [if_neg z] at hp; exact br_f z ⟨z, hp⟩
    · refine br_f (by decide) (br_f (by decide) (br_f (by decide) (br_f (by decide) (br_f (by decide) (br_f (by decide) (br_f (by decide) (br_f (by decide) (br_f (by decide) (br_f (by decide) (br_f (by decide) (br_t rfl ?_)))))))))))
      replace hp : P (if b = 0 then 0 else a - a / b * b) (c, ob, ed, od, el, be, th, ar, go, ph, ra, ov, K, V, J, O, W, C, ST, SR, RD, AD, OP, OM, OD, VA, PL, SC, FI, DC) := hp
      by_cases z : b = 0
      · rw [if_pos z] at hp; exact br_t z hp
      · rw [if_neg z] at hp; exact br_f z ⟨z, hp⟩
    · refine br_f (by decide) (br_f (by decide) (br_f (by decide) (br_f (by decide) (br_f (by decide) (br_f (by decide) (br_f (by decide) (br_f (by decide) (br_f (by decide) (br_f (by decide) (br_f (by decide) (br_f (by decide) (br_t rfl ?_))))))))))))
      replace hp : P (if a = b then 1 else 0) (c, ob, ed, od, el, be, th, ar, go, ph, ra, ov, K, V, J, O, W, C, ST, SR, RD, AD, OP, OM, OD, VA, PL, SC, FI, DC) := hp
      by_cases z : a = b
      · rw [if_pos z] at hp; exact br_t z hp
      · rw [if_neg z] at hp; exact br_f z hp
    · refine br_f (by decide) (br_f (by decide) (br_f (by decide) (br_f (by decide) (br_f (by decide) (br_f (by decide) (br_f (by decide) (br_f (by decide) (br_f (by decide) (br_f (by decide) (br_f (by decide) (br_f (by decide) (br_f (by decide) (br_t rfl ?_)))))))))))))
      replace hp : P (if b ≤ a then 0 else 1) (c, ob, ed, od, el, be, th, ar, go, ph, ra, ov, K, V, J, O, W, C, ST, SR, RD, AD, OP, OM, OD, VA, PL, SC, FI, DC) := hp
      by_cases z : b ≤ a
      · rw [if_pos z] at hp; exact br_t z hp
      · rw [if_neg z] at hp; exact br_f z hp
    · refine br_f (by decide) (br_f (by decide) (br_f (by decide) (br_f (by decide) (br_f (by decide) (br_f (by decide) (br_f (by decide) (br_f (by decide) (br_f (by decide) (br_f (by decide) (br_f (by decide) (br_f (by decide) (br_f (by decide) (br_f (by decide) (br_t rfl ?_))))))))))))))
      replace hp : P (if a = 0 then 0 else if b = 0 then 0 else 1) (c, ob, ed, od, el, be, th, ar, go, ph, ra, ov, K, V, J, O, W, C, ST, SR, RD, AD, OP, OM, OD, VA, PL, SC, FI, DC) := hp
      by_cases z : a = 0
      · rw [if_pos z] at hp; exact br_t z hp
      · rw [if_neg z] at hp
        by_cases z2 : b = 0
        · rw [if_pos z2] at hp; exact br_f z (br_t z2 hp)
        · rw [if_neg z2] at hp; exact br_f z (br_f z2 hp)
    · refine br_f (by decide) (br_f (by decide) (br_f (by decide) (br_f (by decide) (br_f (by decide) (br_f (by decide) (br_f (by decide) (br_f (by decide) (br_f (by decide) (br_f (by decide) (br_f (by decide) (br_f (by decide) (br_f (by decide) (br_f (by decide) (br_f (by decide) (br_t rfl ?_)))))))))))))))
      replace hp : P (if a = 0 then (if b = 0 then 0 else 1) else 1) (c, ob, ed, od, el, be, th, ar, go, ph, ra, ov, K, V, J, O, W, C, ST, SR, RD, AD, OP, OM, OD, VA, PL, SC, FI, DC) := hp
      by_cases z : a = 0
      · rw [if_pos z] at hp
        by_cases z2 : b = 0
        · rw [if_pos z2] at hp; exact br_t z (br_t z2 hp)
        · rw [if_neg z2] at hp; exact br_t z (br_f z2 hp)
      · rw [if_neg z] at hp; exact br_f z hp
    · refine br_f (by decide) (br_f (by decide) (br_f (by decide) (br_f (by decide) (br_f (by decide) (br_f (by decide) (br_f (by decide) (br_f (by decide) (br_f (by decide) (br_f (by decide) (br_f (by decide) (br_f (by decide) (br_f (by decide) (br_f (by decide) (br_f (by decide) (br_f (by decide) (br_t rfl ?_))))))))))))))))
      replace hp : P (if a = 0 then 1 else 0) (c, ob, ed, od, el, be, th, ar, go, ph, ra, ov, K, V, J, O, W, C, ST, SR, RD, AD, OP, OM, OD, VA, PL, SC, FI, DC) := hp
      by_cases z : a = 0
      · rw [if_pos z] at hp; exact br_t z hp
      · rw [if_neg z] at hp; exact br_f z hp
    · refine br_f (by decide) (br_f (by decide) ?_)
      repeat (first | exact br_t (by decide) hp | refine br_f (by decide) ?_)
    · refine br_f (by decide) (br_t (by decide) ?_)
      replace hp : P (if a = 0 then c' else b) (c, ob, ed, od, el, be, th, ar, go, ph, ra, ov, K, V, J, O, W, C, ST, SR, RD, AD, OP, OM, OD, VA, PL, SC, FI, DC) := hp
      by_cases z : a = 0
      · rw [if_pos z] at hp; exact br_t z hp
      · rw [if_neg z] at hp; exact br_f z hp
theorem wd_pm (w : Nat) : nI w + (-1) = nI w - 1 := by rw [Int32.sub_eq_add_neg]
theorem wd_iM {c ob ed od el be th ar go ph ra ov : Int32} {K V J O W C ST SR RD AD OP OD VA PL SC FI DC : Nat → Int32} {OM : Nat → Int32} (P : Int32 → SX → Prop) {t w h L s g' : Nat} (hw : w < 18) (hs : 1 ≤ s) (hs3 : s ≤ 3) (hO : OM w = nI (s + 1)) (hC : wX_evaluate_13 P (nI t) g' (nI (w + 1)) (nI h) (nI (L + 1)) c ob ed od el be th ar go ph ra ov K V J O W C ST SR RD AD OP (upd OM w (nI s)) OD VA PL SC FI DC) : ∀ g, 1 < g → wX_evaluate_116 P (wX_evaluate_13 P (nI t) g') (nI t) (nI L) g (nI (w + 1)) (nI h) 1 (nI (w + 1) - 1) c ob ed od el be th ar go ph ra ov K V J O W C ST SR RD AD OP OM OD VA PL SC FI DC := by
  intro g hg
  obtain ⟨g, rfl⟩ : ∃ x, g = x + 1 + 1 := ⟨g - 2, by omega⟩
  have e1 : nI (w + 1) - 1 = nI w := nI_pred w
  have i1 : vp_in (nI (w + 1) - 1) 18 := by rw [e1]; exact vp_in_nI hw (by decide)
  have c1 : (nI (w + 1) - 1).toNatClampNeg = w := by rw [e1, nI_clamp (by omega)]
  have nl : ¬ nI (w + 1) - 1 < 0 := by rw [e1]; exact nI_pos (by omega)
  have eu : upd OM (nI (w + 1) - 1).toNatClampNeg (OM (nI (w + 1) - 1).toNatClampNeg - 1) = upd OM w (nI s) := by rw [c1, hO, nI_pred]
  have nz : ¬ upd OM w (nI s) (nI (w + 1) - 1).toNatClampNeg = 0 := by rw [c1, pk_us]; exact nI_ne0 (by omega) (by omega)
  have G : wX_evaluate_210 P (wX_evaluate_13 P (nI t) g') (nI t) (nI (w + 1)) (nI h) (nI L) c ob ed od el be th ar go ph ra ov K V J O W C ST SR RD AD OP (upd OM w (nI s)) OD VA PL SC FI DC := br_f (nI_ne0 (by omega) (by omega)) (nm_r (nI_1 L) hC)
  refine br_f nl (br_f (by decide) ⟨i1, i1, nm_r eu ⟨i1, br_f nz (br_t rfl (nm_e (br_c (fun _ => G) fun _ => br_t rfl G)))⟩⟩)
theorem wd_iD {c ob ed od el be th ar go ph ra ov : Int32} {K V J O W C ST SR AD VA PL SC FI DC : Nat → Int32} {OM OP OD RD : Nat → Int32} {mem : Nat → Int32} {t w h k g : Nat} {x5 : Int32} {Jc : _} (P : Int32 → SX → Prop) (ht : t < 32) (hm : ∀ c, c < 64 → mem c = if bt (SR c) t = true then ST c else W c) (hk : wd_kind k) (h15 : 15 ≤ k) (hh : h + 2 < 18) (hw : w < 18) (hO : OM w = nI 1) (hP : OP w = nI k) (hC : wX_evaluate_116 P Jc (nI t) x5 g (nI w) (nI (h + 1)) 1 (nI w - 1) c ob ed od el be th ar go ph ra ov K V J O W C ST SR (wd_or RD (wd_bit t) (wd_rd k (OD h))) AD OP (upd OM w (nI 0)) (upd OD h (wd_ov mem C k (OD h) (OD (h + 1)) (OD (h + 2)))) VA PL SC FI DC) : wX_evaluate_116 P Jc (nI t) x5 (g + 1) (nI (w + 1)) (nI (h + wd_ar k)) 1 (nI (w + 1) - 1) c ob ed od el be th ar go ph ra ov K V J O W C ST SR RD AD OP OM OD VA PL SC FI DC := by
  have e1 : nI (w + 1) - 1 = nI w := nI_pred w
  have i0 : vp_in (nI w) 18 := vp_in_nI hw (by decide)
  have nl : ¬ nI w < 0 := nI_pos (by omega)
  have eu : upd OM (nI w).toNatClampNeg (OM (nI w).toNatClampNeg - 1) = upd OM w (nI 0) := by rw [nI_clamp (by omega), hO]; rfl
  have nz : upd OM w (nI 0) (nI w).toNatClampNeg = 0 := by rw [nI_clamp (by omega), pk_us]; rfl
  have eP : OP (nI w).toNatClampNeg = nI k := by rw [nI_clamp (by omega)]; exact hP
  have eh : nI (h + wd_ar k) - nI (wd_ar k) = nI h := by rw [pk_sub (by omega)]; congr 1; omega
  have ih : vp_in (nI h) 18 := vp_in_nI (by omega) (by decide)
  have hk31 : k ≤ 31 := by unfold wd_kind at hk; omega
  rw [e1]
  refine br_f nl (br_f (by decide) ⟨i0, i0, nm_r eu ⟨i0, br_t nz (br_f (by decide) ⟨i0, wd_arX k eP (by omega) hk31 _ (nm_r eh ⟨i0, wd_opX ht hm hk h15 hh eP _ ⟨ih, nm_r (e' := upd OD h (wd_ov mem C k (OD h) (OD (h + 1)) (OD (h + 2)))) (by rw [nI_clamp (by omega)]) (nm_r (nI_1 h) (nm_r (wd_pm w) hC))⟩⟩)⟩)⟩⟩)
theorem wd_eX {ob ed od el th ar go ph ra ov : Int32} {K V J O W C ST SR AD VA PL SC FI DC : Nat → Int32} {κ : Nat → Nat} {n t : Nat} {mem : Nat → Int32} (hK : wd_tok κ K V) (hn : n ≤ 64) (ht : t < 32) (hm : ∀ c, c < 64 → mem c = if bt (SR c) t = true then ST c else W c) (P : Int32 → SX → Prop) : ∀ f p q v R, wd_tr κ n (wd_lf κ V VA t th ar) mem C f p q v R → ∀ (L w h g0 : Nat) (RD OP OM OD : Nat → Int32), L + g0 = 16 → q - p ≤ g0 → w ≤ L → h ≤ L →
   (∀ (g' L' : Nat), g' + (q - p) = g0 → L' + 1 = L + (q - p) → ∀ (OP' OM' OD' : Nat → Int32), (∀ j, j < w → OP' j = OP j ∧ OM' j = OM j) → (∀ j, j < h → OD' j = OD j) → OD' h = v → ∀ g, w < g → wX_evaluate_116 P (wX_evaluate_13 P (nI t) (g' + 1)) (nI t) (nI L') g (nI w) (nI (h + 1)) 1 (nI w - 1) (nI n) ob ed od el (nI q) th ar go ph ra ov K V J O W C ST SR (wd_or RD (wd_bit t) R) AD OP' OM' OD' VA PL SC FI DC) →
   wX_evaluate_13 P (nI t) (g0 + 1) (nI w) (nI h) (nI L) (nI n) ob ed od el (nI p) th ar go ph ra ov K V J O W C ST SR RD AD OP OM OD VA PL SC FI DC := by
  intro f
  induction f with
  | zero => intro p q v R h; exact absurd h id
  | succ f ih =>
    intro p q v R htr L w h g0 RD OP OM OD hL hq hw hh hC
    have hlt := wd_tr_lt _ _ _ _ _ htr
    obtain ⟨hpn, h10, htr⟩ := htr
    have hkk := (hK p).2.1
    have hk31 : κ p ≤ 31 := by unfold wd_kind at hkk; omega
    have hKp := wd_cI hK (i := p) (by omega)
    have hin : vp_in (nI p) 64 := vp_in_nI (by omega) (by decide)
    have n16 : ¬ 16 ≤ nI L := nI_ge (b := 16) (by omega) (by decide)
    have nnp : ¬ nI n ≤ nI p := nI_ge (by omega) (by omega)
    have iw : vp_in (nI w) 18 := vp_in_nI (by omega) (by decide)
    have ih18 : vp_in (nI h) 18 := vp_in_nI (by omega) (by decide)
    obtain ⟨g1, rfl⟩ : ∃ x, g0 = x + 1 := ⟨g0 - 1, by omega⟩
    have PUSH : ∀ r, wd_ar (κ p) = r → 1 ≤ r → wX_evaluate_13 P (nI t) (g1 + 1) (nI (w + 1)) (nI h) (nI (L + 1)) (nI n) ob ed od el (nI (p + 1)) th ar go ph ra ov K V J O W C ST SR RD AD (upd OP w (nI (κ p))) (upd OM w (nI r)) OD VA PL SC FI DC → wX_evaluate_13 P (nI t) (g1 + 1 + 1) (nI w) (nI h) (nI L) (nI n) ob ed od el (nI p) th ar go ph ra ov K V J O W C ST SR RD AD OP OM OD VA PL SC FI DC := by
      intro r hr h1 hN
      have h3 := wd_ar_le (κ p)
      refine br_f n16 (br_f nnp (nm_r (nI_1 p) ⟨hin, wd_arX (κ p) hKp h10 hk31 _ (br_f ?_ ⟨hin, iw, nm_r (e' := upd OP w (nI (κ p))) ?_ ⟨iw, nm_r (e' := upd OM w (nI r)) ?_ (nm_r (nI_1 w) (nm_r (nI_1 L) hN))⟩⟩)⟩))
      · rw [hr]; exact nI_nle (by omega) (by omega)
      · rw [hKp, nI_clamp (by omega)]
      · rw [hr, nI_clamp (by omega)]
    rcases htr with ⟨ha, rfl, rfl, rfl⟩ | ⟨ha, a, R1, ta, rfl, rfl⟩ | ⟨ha, q1, a, b, R1, R2, ta, tb, rfl, rfl⟩ | ⟨ha, q1, q2, a, b, c', R1, R2, R3, ta, tb, tc, rfl, rfl⟩
    · refine br_f n16 (br_f nnp (nm_r (nI_1 p) ⟨hin, wd_arX (κ p) hKp h10 hk31 _ (br_t ?_ (wd_lfX hK ht (by omega) h10 (wd_ar0 ha) _ ⟨ih18, nm_r (e' := upd OD h (wd_lf κ V VA t th ar p)) ?_ (nm_r (nI_1 h) (nm_e ⟨w + 1, ?_⟩))⟩))⟩))
      · rw [ha]; decide
      · rw [nI_clamp (by omega)]
      · exact hC g1 L (by omega) (by omega) OP OM _ (fun j _ => ⟨rfl, rfl⟩) (fun j hj => pk_un (by omega)) pk_us (w + 1) (by omega)
    · have h15 : 15 ≤ κ p := by rcases wd_ar1 ha with e | e | e | e <;> omega
      have l1 := wd_tr_lt _ _ _ _ _ ta
      refine PUSH 1 ha (by omega) (ih (p + 1) q a R1 ta (L + 1) (w + 1) h g1 RD _ _ OD (by omega) (by omega) (by omega) (by omega) ?_)
      intro g' L' hg' hL' OP' OM' OD' hA hB hv g hg
      obtain ⟨g, rfl⟩ : ∃ x, g = x + 1 := ⟨g - 1, by omega⟩
      obtain ⟨aw1, aw2⟩ := hA w (by omega)
      rw [pk_us] at aw1 aw2
      have key := wd_iD (g := g) (k := κ p) (x5 := nI L') (Jc := wX_evaluate_13 P (nI t) (g' + 1)) P ht hm hkk h15 (h := h) (by omega) (w := w) (by omega) aw2 aw1 (hC g' L' (by omega) (by omega) OP' (upd OM' w (nI 0)) (upd OD' h (wd_ov mem C (κ p) (OD' h) (OD' (h + 1)) (OD' (h + 2)))) ?_ ?_ ?_ g (by omega) |> fun z => by rw [← wd_or_or, ← hv] at z; exact z)
      · rw [ha] at key
        exact key
      · intro j hj
        obtain ⟨x1, x2⟩ := hA j (by omega)
        rw [pk_un (by omega)] at x1 x2
        exact ⟨x1, by rw [pk_un (by omega)]; exact x2⟩
      · intro j hj
        rw [pk_un (by omega)]
        exact hB j hj
      · rw [pk_us, hv, wd_ov1 (wd_ar1 ha)]
    · have h20 := wd_ar2 hkk ha
      have l1 := wd_tr_lt _ _ _ _ _ ta
      have l2 := wd_tr_lt _ _ _ _ _ tb
      refine PUSH 2 ha (by omega) (ih (p + 1) q1 a R1 ta (L + 1) (w + 1) h g1 RD _ _ OD (by omega) (by omega) (by omega) (by omega) ?_)
      intro g' L' hg' hL' OP' OM' OD' hA hB hv g hg
      obtain ⟨aw1, aw2⟩ := hA w (by omega)
      rw [pk_us] at aw1 aw2
      refine wd_iM P (s := 1) (by omega) (by omega) (by omega) aw2 ?_ g (by omega)
      refine ih q1 q b R2 tb (L' + 1) (w + 1) (h + 1) g' _ _ _ _ (by omega) (by omega) (by omega) (by omega) ?_
      intro g2 L2 hg2 hL2 OP2 OM2 OD2 hA2 hB2 hv2 g hg
      obtain ⟨g, rfl⟩ : ∃ x, g = x + 1 := ⟨g - 1, by omega⟩
      obtain ⟨bw1, bw2⟩ := hA2 w (by omega)
      rw [pk_us] at bw2
      have av : OD2 h = a := by rw [hB2 h (by omega)]; exact hv
      have key := wd_iD (g := g) (k := κ p) (x5 := nI L2) (Jc := wX_evaluate_13 P (nI t) (g2 + 1)) P ht hm hkk (by omega) (h := h) (by omega) (w := w) (by omega) bw2 (bw1.trans aw1) (hC g2 L2 (by omega) (by omega) OP2 (upd OM2 w (nI 0)) (upd OD2 h (wd_ov mem C (κ p) (OD2 h) (OD2 (h + 1)) (OD2 (h + 2)))) ?_ ?_ ?_ g (by omega) |> fun z => by rw [← wd_or_or, ← wd_or_n (RD := wd_or (wd_or RD (wd_bit t) R1) (wd_bit t) R2) (k := κ p) (a := OD2 h) (b := wd_bit t) (by omega)] at z; exact z)
      · rw [ha] at key
        exact key
      · intro j hj
        obtain ⟨x1, x2⟩ := hA j (by omega)
        obtain ⟨y1, y2⟩ := hA2 j (by omega)
        rw [pk_un (by omega)] at x1 x2 y2
        exact ⟨y1.trans x1, by rw [pk_un (by omega)]; exact y2.trans x2⟩
      · intro j hj
        rw [pk_un (by omega)]
        exact (hB2 j (by omega)).trans (hB j hj)
      · rw [pk_us, av, hv2, wd_ov2 h20]
    · have h31 := wd_ar3 ha
      have l1 := wd_tr_lt _ _ _ _ _ ta
      have l2 := wd_tr_lt _ _ _ _ _ tb
      have l3 := wd_tr_lt _ _ _ _ _ tc
      refine PUSH 3 ha (by omega) (ih (p + 1) q1 a R1 ta (L + 1) (w + 1) h g1 RD _ _ OD (by omega) (by omega) (by omega) (by omega) ?_)
      intro g' L' hg' hL' OP' OM' OD' hA hB hv g hg
      obtain ⟨aw1, aw2⟩ := hA w (by omega)
      rw [pk_us] at aw1 aw2
      refine wd_iM P (s := 2) (by omega) (by omega) (by omega) aw2 ?_ g (by omega)
      refine ih q1 q2 b R2 tb (L' + 1) (w + 1) (h + 1) g' _ _ _ _ (by omega) (by omega) (by omega) (by omega) ?_
      intro g2 L2 hg2 hL2 OP2 OM2 OD2 hA2 hB2 hv2 g hg
      obtain ⟨bw1, bw2⟩ := hA2 w (by omega)
      rw [pk_us] at bw2
      refine wd_iM P (s := 1) (by omega) (by omega) (by omega) bw2 ?_ g (by omega)
      refine ih q2 q c' R3 tc (L2 + 1) (w + 1) (h + 1 + 1) g2 _ _ _ _ (by omega) (by omega) (by omega) (by omega) ?_
      intro g3 L3 hg3 hL3 OP3 OM3 OD3 hA3 hB3 hv3 g hg
      obtain ⟨g, rfl⟩ : ∃ x, g = x + 1 := ⟨g - 1, by omega⟩
      obtain ⟨cw1, cw2⟩ := hA3 w (by omega)
      rw [pk_us] at cw2
      have av : OD3 h = a := by rw [hB3 h (by omega), hB2 h (by omega)]; exact hv
      have bv : OD3 (h + 1) = b := by rw [hB3 (h + 1) (by omega)]; exact hv2
      have key := wd_iD (g := g) (k := κ p) (x5 := nI L3) (Jc := wX_evaluate_13 P (nI t) (g3 + 1)) P ht hm hkk (by omega) (h := h) (by omega) (w := w) (by omega) cw2 (cw1.trans (bw1.trans aw1)) (hC g3 L3 (by omega) (by omega) OP3 (upd OM3 w (nI 0)) (upd OD3 h (wd_ov mem C (κ p) (OD3 h) (OD3 (h + 1)) (OD3 (h + 2)))) ?_ ?_ ?_ g (by omega) |> fun z => by rw [← wd_or_or, ← wd_or_or, ← wd_or_n (RD := wd_or (wd_or (wd_or RD (wd_bit t) R1) (wd_bit t) R2) (wd_bit t) R3) (k := κ p) (a := OD3 h) (b := wd_bit t) (by omega)] at z; exact z)
      · rw [ha] at key
        exact key
      · intro j hj
        obtain ⟨x1, x2⟩ := hA j (by omega)
        obtain ⟨y1, y2⟩ := hA2 j (by omega)
        obtain ⟨z1, z2⟩ := hA3 j (by omega)
        rw [pk_un (by omega)] at x1 x2 y2 z2
        exact ⟨z1.trans (y1.trans x1), by rw [pk_un (by omega)]; exact z2.trans (y2.trans x2)⟩
      · intro j hj
        rw [pk_un (by omega)]
        exact (hB3 j (by omega)).trans ((hB2 j (by omega)).trans (hB j hj))
      · rw [pk_us, av, bv, show OD3 (h + 2) = c' from hv3]
theorem wd_evX {ob ed od el be th ar go ph ra ov : Int32} {K V J O W C ST SR RD AD OP OM OD VA PL SC FI DC : Nat → Int32} {κ : Nat → Nat} {n t f p q : Nat} {v : Int32} {R : Nat → Bool} {mem : Nat → Int32} (hK : wd_tok κ K V) (hn : n ≤ 64) (ht : t < 32) (hm : ∀ c, c < 64 → mem c = if bt (SR c) t = true then ST c else W c) (htr : wd_tr κ n (wd_lf κ V VA t th ar) mem C f p q v R) (hl : q - p ≤ 16) {x : Int32} (hx : x = nI p) (P : Int32 → SX → Prop) (hp : ∀ OP' OM' OD' : Nat → Int32, P v (nI n, ob, ed, od, el, nI q, th, ar, go, ph, ra, ov, K, V, J, O, W, C, ST, SR, wd_or RD (wd_bit t) R, AD, OP', OM', OD', VA, PL, SC, FI, DC)) : wpX_evaluate P (nI n, ob, ed, od, el, be, th, ar, go, ph, ra, ov, K, V, J, O, W, C, ST, SR, RD, AD, OP, OM, OD, VA, PL, SC, FI, DC) (nI t) x := by
  subst hx
  refine ⟨17, wd_eX hK hn ht hm P f p q v R htr 0 0 0 16 RD OP OM OD rfl hl (by omega) (by omega) ?_⟩
  intro g' L' hg' hL' OP' OM' OD' hA hB hv g hg
  obtain ⟨g, rfl⟩ : ∃ x, g = x + 1 := ⟨g - 1, by omega⟩
  refine br_t (by decide) (br_t rfl ?_)
  rw [hv]
  exact hp OP' OM' OD'
