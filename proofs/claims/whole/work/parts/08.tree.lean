/-! expressions as trees: start, end, value, words read -/
def wd_m63 (a : Int32) : Nat := (a &&& 63).toNatClampNeg
theorem wd_m63_lt (a : Int32) : wd_m63 a < 64 := by
  obtain ⟨j, hj, e⟩ := wd_63 a
  unfold wd_m63
  rw [e, nI_clamp (by omega)]
  exact hj
def wd_ov (mem cnt : Nat → Int32) (k : Nat) (a b c : Int32) : Int32 :=
  if k = 15 then mem (wd_m63 a) else if k = 16 then cnt (wd_m63 a) else if k = 20 then a + b else if k = 21 then a - b else if k = 22 then a * b
  else if k = 23 then (if b = 0 then 0 else a / b) else if k = 24 then (if b = 0 then 0 else a - a / b * b) else if k = 25 then (if a = b then 1 else 0)
  else if k = 26 then (if b ≤ a then 0 else 1) else if k = 27 then (if a = 0 then 0 else if b = 0 then 0 else 1) else if k = 28 then (if a = 0 then (if b = 0 then 0 else 1) else 1)
  else if k = 29 then (if a = 0 then 1 else 0) else if k = 30 then -a else (if a = 0 then c else b)
theorem wd_ov1 {mem cnt : Nat → Int32} {k : Nat} (h : k = 15 ∨ k = 16 ∨ k = 29 ∨ k = 30) (a b c : Int32) : wd_ov mem cnt k a b c = wd_ov mem cnt k a 0 0 := by
  rcases h with rfl | rfl | rfl | rfl <;> rfl
theorem wd_ov2 {mem cnt : Nat → Int32} {k : Nat} (h : 20 ≤ k ∧ k ≤ 28) (a b c : Int32) : wd_ov mem cnt k a b c = wd_ov mem cnt k a b 0 := by
  have : k = 20 ∨ k = 21 ∨ k = 22 ∨ k = 23 ∨ k = 24 ∨ k = 25 ∨ k = 26 ∨ k = 27 ∨ k = 28 := by omega
  rcases this with rfl | rfl | rfl | rfl | rfl | rfl | rfl | rfl | rfl <;> rfl
def wd_rd (k : Nat) (a : Int32) : Nat → Bool := fun c => decide (k = 15 ∧ c = wd_m63 a)
def wd_bit (t : Nat) : Int32 := (1 : Int32) <<< (nI t &&& 31)
def wd_or (RD : Nat → Int32) (b : Int32) (R : Nat → Bool) : Nat → Int32 := fun c => if R c = true then RD c ||| b else RD c
theorem wd_or_0 {RD : Nat → Int32} {b : Int32} : wd_or RD b (fun _ => false) = RD := rfl
theorem wd_or_n {RD : Nat → Int32} {b : Int32} {k : Nat} {a : Int32} (h : k ≠ 15) : wd_or RD b (wd_rd k a) = RD := by
  funext c
  unfold wd_or wd_rd
  rw [decide_eq_false (by omega)]
  rfl
theorem wd_or_w {RD : Nat → Int32} {b a : Int32} : upd RD (wd_m63 a) (RD (wd_m63 a) ||| b) = wd_or RD b (wd_rd 15 a) := by
  funext c
  unfold wd_or wd_rd upd
  by_cases h : c = wd_m63 a
  · rw [if_pos h, decide_eq_true ⟨rfl, h⟩, if_pos rfl, h]
  · rw [if_neg h, decide_eq_false (by omega)]
    rfl
theorem wd_or_or {RD : Nat → Int32} {b : Int32} {R1 R2 : Nat → Bool} : wd_or (wd_or RD b R1) b R2 = wd_or RD b (fun c => R1 c || R2 c) := by
  funext c
  show (if R2 c = true then (if R1 c = true then RD c ||| b else RD c) ||| b else (if R1 c = true then RD c ||| b else RD c)) = if (R1 c || R2 c) = true then RD c ||| b else RD c
  cases R1 c <;> cases R2 c <;> simp [Int32.or_assoc]
theorem wd_or_c {RD : Nat → Int32} {b : Int32} {R1 R2 : Nat → Bool} : wd_or (wd_or RD b R1) b R2 = wd_or (wd_or RD b R2) b R1 := by
  rw [wd_or_or, wd_or_or]
  congr 1
  funext c
  exact Bool.or_comm _ _
def wd_lf (κ : Nat → Nat) (V VA : Nat → Int32) (t : Nat) (th ar : Int32) : Nat → Int32 := fun p => if κ p = 10 then V p else if κ p = 11 then VA (6 * t + (V p).toNatClampNeg) else if κ p = 12 then nI t else if κ p = 13 then th else ar
def wd_tr (κ : Nat → Nat) (n : Nat) (lf mem cnt : Nat → Int32) : Nat → Nat → Nat → Int32 → (Nat → Bool) → Prop
  | 0 => fun _ _ _ _ => False
  | f + 1 => fun p q v R => p < n ∧ 10 ≤ κ p ∧ (
     (wd_ar (κ p) = 0 ∧ q = p + 1 ∧ v = lf p ∧ R = fun _ => false) ∨
     (wd_ar (κ p) = 1 ∧ ∃ a R1, wd_tr κ n lf mem cnt f (p + 1) q a R1 ∧ v = wd_ov mem cnt (κ p) a 0 0 ∧ R = fun c => R1 c || wd_rd (κ p) a c) ∨
     (wd_ar (κ p) = 2 ∧ ∃ q1 a b R1 R2, wd_tr κ n lf mem cnt f (p + 1) q1 a R1 ∧ wd_tr κ n lf mem cnt f q1 q b R2 ∧ v = wd_ov mem cnt (κ p) a b 0 ∧ R = fun c => R1 c || R2 c) ∨
     (wd_ar (κ p) = 3 ∧ ∃ q1 q2 a b c' R1 R2 R3, wd_tr κ n lf mem cnt f (p + 1) q1 a R1 ∧ wd_tr κ n lf mem cnt f q1 q2 b R2 ∧ wd_tr κ n lf mem cnt f q2 q c' R3 ∧ v = wd_ov mem cnt (κ p) a b c' ∧ R = fun c => (R1 c || R2 c) || R3 c))
theorem wd_tr_lt {κ : Nat → Nat} {n : Nat} {lf mem cnt : Nat → Int32} : ∀ f p q v R, wd_tr κ n lf mem cnt f p q v R → p < q ∧ q ≤ n := by
  intro f
  induction f with
  | zero => intro p q v R h; exact absurd h id
  | succ f ih =>
    intro p q v R ⟨h1, h2, h⟩
    rcases h with ⟨_, rfl, _⟩ | ⟨_, a, R1, ha, _⟩ | ⟨_, q1, a, b, R1, R2, ha, hb, _⟩ | ⟨_, q1, q2, a, b, c', R1, R2, R3, ha, hb, hc, _⟩
    · omega
    · have := ih _ _ _ _ ha; omega
    · have := ih _ _ _ _ ha; have := ih _ _ _ _ hb; omega
    · have := ih _ _ _ _ ha; have := ih _ _ _ _ hb; have := ih _ _ _ _ hc; omega
theorem wd_ar_cases (k : Nat) : wd_ar k = 0 ∨ wd_ar k = 1 ∨ wd_ar k = 2 ∨ wd_ar k = 3 := by have := wd_ar_le k; omega
theorem wd_ar1 {k : Nat} (h : wd_ar k = 1) : k = 15 ∨ k = 16 ∨ k = 29 ∨ k = 30 := by
  unfold wd_ar at h
  by_cases a : k < 15
  · rw [if_pos a] at h; omega
  · rw [if_neg a] at h
    by_cases b : k < 17
    · omega
    · rw [if_neg b] at h
      by_cases c : k = 29
      · omega
      · rw [if_neg c] at h
        by_cases d : k = 30
        · omega
        · rw [if_neg d] at h
          split at h <;> omega
theorem wd_ar2 {k : Nat} (hk : wd_kind k) (h : wd_ar k = 2) : 20 ≤ k ∧ k ≤ 28 := by
  unfold wd_kind at hk
  unfold wd_ar at h
  by_cases a : k < 15
  · rw [if_pos a] at h; omega
  · rw [if_neg a] at h
    by_cases b : k < 17
    · rw [if_pos b] at h; omega
    · rw [if_neg b] at h
      by_cases c : k = 29
      · rw [if_pos c] at h; omega
      · rw [if_neg c] at h
        by_cases d : k = 30
        · rw [if_pos d] at h; omega
        · rw [if_neg d] at h
          split at h <;> omega
theorem wd_ar3 {k : Nat} (h : wd_ar k = 3) : k = 31 := by
  unfold wd_ar at h
  by_cases a : k < 15
  · rw [if_pos a] at h; omega
  · rw [if_neg a] at h
    by_cases b : k < 17
    · rw [if_pos b] at h; omega
    · rw [if_neg b] at h
      by_cases c : k = 29
      · rw [if_pos c] at h; omega
      · rw [if_neg c] at h
        by_cases d : k = 30
        · rw [if_pos d] at h; omega
        · rw [if_neg d] at h
          split at h <;> omega
theorem wd_ar0 {k : Nat} (h : wd_ar k = 0) : k < 15 := by
  unfold wd_ar at h
  by_cases a : k < 15
  · exact a
  · rw [if_neg a] at h
    split at h
    · omega
    · split at h
      · omega
      · split at h
        · omega
        · split at h <;> omega
theorem wd_tree {κ : Nat → Nat} {n : Nat} {J : Nat → Int32} (hp : wd_prog κ n J) (lf mem cnt : Nat → Int32) : ∀ f p c e u, n ≤ p + f → p ≤ n → wd_st κ p = (c + 1, e, u) → ∃ q v R, wd_tr κ n lf mem cnt f p q v R ∧ u + (q - p) ≤ 16 ∧ (c ≠ 0 → wd_st κ q = (c, e, u + (q - p))) ∧ (c = 0 → e = 0 → wd_st κ q = (0, 0, 0)) ∧ (c = 0 → e ≠ 0 → wd_st κ q = (1, e - 1, 0)) := by
  intro f
  induction f with
  | zero =>
    intro p c e u h1 h2 hs
    obtain rfl : p = n := by omega
    have := hp.2.1
    rw [hs] at this
    exact absurd this (by dsimp only; omega)
  | succ f ih =>
    intro p c e u h1 h2 hs
    have hpn : p < n := by
      by_cases z : p = n
      · subst z
        have := hp.2.1
        rw [hs] at this
        exact absurd this (by dsimp only; omega)
      · omega
    obtain ⟨h10, hu⟩ := (hp.1 p hpn).2 (by rw [hs]; dsimp only; omega)
    rw [hs] at hu
    dsimp only at hu
    rcases wd_ar_cases (κ p) with ha | ha | ha | ha
    · refine ⟨p + 1, lf p, fun _ => false, ⟨hpn, h10, Or.inl ⟨ha, rfl, rfl, rfl⟩⟩, by omega, fun hc => ?_, fun hc he => ?_, fun hc he => ?_⟩
      · rw [wd_st_e2 hs (by omega) (by omega), ha]
        congr 2
        omega
      · subst he
        exact wd_st_e0 hs (by omega) (by omega)
      · exact wd_st_e1 hs (by omega) he (by omega)
    · have hs1 : wd_st κ (p + 1) = (c + 1, e, u + 1) := by
        rw [wd_st_e2 hs (by omega) (by omega), ha]
        rfl
      obtain ⟨q, v, R, t1, t2, t3, t4, t5⟩ := ih (p + 1) c e (u + 1) (by omega) (by omega) hs1
      have hl := wd_tr_lt _ _ _ _ _ t1
      refine ⟨q, _, _, ⟨hpn, h10, Or.inr (Or.inl ⟨ha, v, R, t1, rfl, rfl⟩)⟩, by omega, fun hc => ?_, t4, t5⟩
      rw [t3 hc]
      congr 2
      omega
    · have hs1 : wd_st κ (p + 1) = (c + 1 + 1, e, u + 1) := by
        rw [wd_st_e2 hs (by omega) (by omega), ha]
        rfl
      obtain ⟨q1, v1, R1, t1, t2, t3, t4, t5⟩ := ih (p + 1) (c + 1) e (u + 1) (by omega) (by omega) hs1
      have hl := wd_tr_lt _ _ _ _ _ t1
      obtain ⟨q, v, R, s1, s2, s3, s4, s5⟩ := ih q1 c e _ (by omega) (by omega) (t3 (by omega))
      have hl2 := wd_tr_lt _ _ _ _ _ s1
      refine ⟨q, _, _, ⟨hpn, h10, Or.inr (Or.inr (Or.inl ⟨ha, q1, v1, v, R1, R, t1, s1, rfl, rfl⟩))⟩, by omega, fun hc => ?_, s4, s5⟩
      rw [s3 hc]
      congr 2
      omega
    · have hs1 : wd_st κ (p + 1) = (c + 1 + 1 + 1, e, u + 1) := by
        rw [wd_st_e2 hs (by omega) (by omega), ha]
        rfl
      obtain ⟨q1, v1, R1, t1, t2, t3, t4, t5⟩ := ih (p + 1) (c + 1 + 1) e (u + 1) (by omega) (by omega) hs1
      have hl := wd_tr_lt _ _ _ _ _ t1
      obtain ⟨q2, v2, R2, w1, w2, w3, w4, w5⟩ := ih q1 (c + 1) e _ (by omega) (by omega) (t3 (by omega))
      have hl2 := wd_tr_lt _ _ _ _ _ w1
      obtain ⟨q, v, R, s1, s2, s3, s4, s5⟩ := ih q2 c e _ (by omega) (by omega) (w3 (by omega))
      have hl3 := wd_tr_lt _ _ _ _ _ s1
      refine ⟨q, _, _, ⟨hpn, h10, Or.inr (Or.inr (Or.inr ⟨ha, q1, q2, v1, v2, v, R1, R2, R, t1, w1, s1, rfl, rfl⟩))⟩, by omega, fun hc => ?_, s4, s5⟩
      rw [s3 hc]
      congr 2
      omega
theorem wd_b1 (y : Int32) : y &&& 1 = 0 ↔ bt y 0 = false := by
  have h1 : ∀ i, i < 32 → bt 1 i = decide (i = 0) := by decide +kernel
  constructor
  · intro h
    have e : bt (y &&& 1) 0 = bt 0 0 := by rw [h]
    rw [b_and, h1 0 (by decide), b_0] at e
    cases hb : bt y 0
    · rfl
    · rw [hb] at e; exact absurd e (by decide)
  · intro h
    apply b_ext
    intro i hi
    rw [b_and, h1 i hi, b_0]
    by_cases z : i = 0
    · rw [z, h]; rfl
    · rw [decide_eq_false z, Bool.and_false]
theorem wd_bX {t : Nat} (ht : t < 32) (x : Int32) : ((x.toUInt32 >>> ((nI t).toUInt32 &&& Int32.toUInt32 31)).toInt32 &&& 1) = 0 ↔ bt x t = false := by
  rw [wd_b1, b_ushr t ht]
  rfl
theorem wd_bY {t : Nat} (ht : t < 32) (x : Int32) : ((x >>> (nI t &&& 31)) &&& 1) = 1 ↔ bt x t = true := by
  have h1 : ∀ i, i < 32 → bt 1 i = decide (i = 0) := by decide +kernel
  have e0 : bt (x >>> (nI t &&& 31)) 0 = bt x t := by rw [b_sshr t ht x (by decide), if_pos (by omega)]; rfl
  constructor
  · intro h
    have e : bt ((x >>> (nI t &&& 31)) &&& 1) 0 = bt 1 0 := by rw [h]
    rw [b_and, e0, h1 0 (by decide), decide_eq_true rfl, Bool.and_true] at e
    exact e
  · intro h
    apply b_ext
    intro i hi
    rw [b_and, h1 i hi]
    by_cases z : i = 0
    · rw [z, e0, h]; rfl
    · rw [decide_eq_false z, Bool.and_false]
