/-! PURE: the place that a mend would turn -/
theorem pl_iff : ∀ L, L < 16 → ∀ k, k < 16 → (tabL k = nI L ↔ k = tabPN L) := by decide +kernel
def fdP (L k : Nat) : Int32 := if tabPN L < k then nI (tabPN L) else -1
theorem r_placeOf (h : AH) {L : Nat} (hL : L < 16) : fX6_placeOf h (nI L) = some (nI (tabPN L)) := by
  have hP := (tabP_N L hL).2.1
  unfold fX6_placeOf
  rw [nm_eq]
  refine lup (fun n (s : Int32 × Int32) => fX6_placeOf_4 h (nI L) n s.1 s.2) (fun k => (fdP L k, nI k)) 16 ?_ ?_ 0 FU (Nat.zero_le _) (FU_lt (by omega))
  · intro n k hk
    show fX6_placeOf_4b (fX6_placeOf_4 h (nI L) n) h (nI L) (fdP L k) (nI k) = fX6_placeOf_4 h (nI L) n (fdP L (k + 1)) (nI (k + 1))
    unfold fX6_placeOf_4b
    rw [if_neg (show ¬ (16 : Int32) ≤ nI k from nI_ge (b := 16) hk (by omega)), r_labelOf h hk, bR_s]
    unfold fX6_placeOf_23
    simp only [nm_eq]
    rw [nI_1]
    by_cases hk2 : k = tabPN L
    · rw [if_pos ((pl_iff L hL k hk).mpr hk2)]
      unfold fdP
      rw [if_pos (by omega), hk2]
    · rw [if_neg (fun q => hk2 ((pl_iff L hL k hk).mp q))]
      unfold fdP
      by_cases h3 : tabPN L < k
      · rw [if_pos h3, if_pos (by omega)]
      · rw [if_neg h3, if_neg (by omega)]
  · intro n
    show fX6_placeOf_4b _ h (nI L) (fdP L 16) (nI 16) = _
    unfold fX6_placeOf_4b fdP
    rw [if_pos (show (16 : Int32) ≤ nI 16 from nI_le (a := 16) (Nat.le_refl 16) (by omega)), if_pos hP]
/-- whether one of a bit's words is sound, besides word i, r -/
def hsd (K : Nat) (w : Nat → Bool) (a i r : Nat) : Bool :=
  ((decide (a / 64 ≠ i) || decide (a / 8 % 8 ≠ r)) && snd w (a / 8)) || (decide (a / 64 < K) && (decide (a / 64 + 1 ≠ i) || decide (a % 8 ≠ r)) && snd w (8 * (a / 64 + 1) + a % 8))
theorem div64 {a : Nat} (h : a < 2 ^ 31) : nI a / 64 = nI (a / 64) := pk_div (d := 64) h (by decide) (by decide)
theorem div8 {a : Nat} (h : a < 2 ^ 31) : nI a / 8 = nI (a / 8) := pk_div (d := 8) h (by decide) (by decide)
theorem rem8 {a : Nat} (h : a < 2 ^ 31) : nI a - nI a / 8 * 8 = nI (a % 8) := pk_rem (d := 8) h (by decide) (by decide)
theorem r_has92 (h : AH) (a1 a2 a3 : Int32) (x y : Bool) : fX6_hasSound_92 h a1 a2 a3 (b2i x) (b2i y) = some (b2i (x || y)) := by cases x <;> cases y <;> rfl
theorem r_hasSound {h : AH} {K a i r : Nat} {w : Nat → Bool} (hw : Ro 32 w h) (hm : h.1 29 0 = nI K) (hK : K ≤ 6) (ha : 64 ≤ a) (ha2 : a < 64 * (K + 1)) (hi : i < 2 ^ 30) (hr : r < 8) : fX6_hasSound h (nI a) (nI i) (nI r) = some (b2i (hsd K w a i r)) := by
  have e49 : ∀ x : Bool, fX6_hasSound_49 h (nI a) (nI i) (nI r) (nI (a / 64)) (nI (a % 8)) (b2i x) = some (b2i (x || (decide (a / 64 < K) && (decide (a / 64 + 1 ≠ i) || decide (a % 8 ≠ r)) && snd w (8 * (a / 64 + 1) + a % 8)))) := by
    intro x
    have e91 : fX6_hasSound_91 h (nI a) (nI i) (nI r) (b2i x) = some (b2i (x || false)) := r_has92 h _ _ _ x false
    have e74 : a / 64 < K → fX6_hasSound_74 h (nI a) (nI i) (nI r) (nI (a / 64)) (nI (a % 8)) (b2i x) = some (b2i (x || snd w (8 * (a / 64 + 1) + a % 8))) := by
      intro hlt
      unfold fX6_hasSound_74
      rw [nI_1, r_isSound hw (by omega) (by omega) (by omega), bR_s]
      cases snd w (8 * (a / 64 + 1) + a % 8)
      · rw [if_pos b2f]; exact e91
      · rw [if_neg b2t]; exact r_has92 h _ _ _ x true
    unfold fX6_hasSound_49
    rw [hm, nI_1]
    have c1 : nI K ≤ nI (a / 64) ↔ K ≤ a / 64 := nI_leI (by omega) (by omega)
    have c2 : nI (a / 64 + 1) = nI i ↔ a / 64 + 1 = i := nI_eq (by omega) (by omega)
    have c3 : nI (a % 8) = nI r ↔ a % 8 = r := nI_eq (by omega) (by omega)
    by_cases h1 : K ≤ a / 64
    · rw [if_pos (c1.mpr h1), e91, decide_eq_false (by omega)]
      simp
    · rw [if_neg (fun q => h1 (c1.mp q)), decide_eq_true (show a / 64 < K by omega)]
      by_cases h2 : a / 64 + 1 = i
      · rw [if_pos (c2.mpr h2)]
        by_cases h3 : a % 8 = r
        · rw [if_pos (c3.mpr h3), e91]
          simp [h2, h3]
        · rw [if_neg (fun q => h3 (c3.mp q)), e74 (by omega)]
          simp [h3]
      · rw [if_neg (fun q => h2 (c2.mp q)), e74 (by omega)]
        simp [h2]
  have e33 : fX6_hasSound_33 h (nI a) (nI i) (nI r) (nI (a / 64)) (nI (a / 8 % 8)) (nI (a % 8)) = some (b2i (snd w (a / 8) || (decide (a / 64 < K) && (decide (a / 64 + 1 ≠ i) || decide (a % 8 ≠ r)) && snd w (8 * (a / 64 + 1) + a % 8)))) := by
    unfold fX6_hasSound_33
    rw [r_isSound hw (by omega) (by omega) (by omega), bR_s, show 8 * (a / 64) + a / 8 % 8 = a / 8 by omega]
    cases snd w (a / 8)
    · rw [if_pos b2f]; exact e49 false
    · rw [if_neg b2t]; exact e49 true
  unfold fX6_hasSound hsd
  simp only [nm_eq, div64 (show a < 2 ^ 31 by omega), div8 (show a < 2 ^ 31 by omega)]
  rw [show nI (a / 8) - nI (a / 8) / 8 * 8 = nI (a / 8 % 8) from rem8 (by omega), show nI a - nI (a / 8) * 8 = nI (a % 8) by rw [← div8 (by omega)]; exact rem8 (by omega)]
  have c2 : nI (a / 64) = nI i ↔ a / 64 = i := nI_eq (by omega) (by omega)
  have c3 : nI (a / 8 % 8) = nI r ↔ a / 8 % 8 = r := nI_eq (by omega) (by omega)
  by_cases h2 : a / 64 = i
  · rw [if_pos (c2.mpr h2)]
    by_cases h3 : a / 8 % 8 = r
    · rw [if_pos (c3.mpr h3)]
      have := e49 false
      simp only [fX6_hasSound_48]
      rw [show (0 : Int32) = b2i false from rfl, this]
      simp [h2, h3]
    · rw [if_neg (fun q => h3 (c3.mp q)), e33]
      simp [h3]
  · rw [if_neg (fun q => h2 (c2.mp q)), e33]
    simp [h2]
/-- the place that a mend of a word would turn, if it turns one -/
def plc (w : Nat → Bool) (W : Nat) : Nat := tabPN (laN w W 16)
def may (K rl : Nat) (w : Nat → Bool) (W : Nat) : Bool := odd w W && (decide (64 ≤ bA W (plc w W)) && (rl == 0 || !(hsd K w (bA W (plc w W)) (W / 8) (W % 8))))
theorem plc_lt (w : Nat → Bool) (W : Nat) : plc w W < 16 := (tabP_N _ (laN_lt w W 16 (by decide))).2.1
theorem bA_K {K i r p : Nat} (hi : 1 ≤ i) (hiK : i ≤ K) (hr : r < 8) (hp : p < 16) : bA (8 * i + r) p < 64 * (K + 1) := by
  unfold bA
  by_cases h : p < 8
  · rw [if_pos h]; omega
  · rw [if_neg h]; omega
theorem r_placeBy {h : AH} {K rl i r : Nat} {w : Nat → Bool} (hw : Ro 32 w h) (hm : h.1 29 0 = nI K) (hrl : h.1 29 1 = nI rl) (hrl1 : rl ≤ 1) (hK : K ≤ 6) (hi : 1 ≤ i) (hiK : i ≤ K) (hr : r < 8) : fX6_placeBy h (nI i) (nI r) = some (if may K rl w (8 * i + r) then nI (plc w (8 * i + r)) else -1) := by
  have hL := laN_lt w (8 * i + r) 16 (by decide)
  have hb := bA_K (p := plc w (8 * i + r)) hi hiK hr (plc_lt w _)
  unfold fX6_placeBy
  rw [r_checkOf hw hi (by omega) hr, bR_s, r_placeOf h hL, bR_s, show tabPN (laN w (8 * i + r) 16) = plc w (8 * i + r) from rfl, r_bitAt h hi (by omega) hr (plc_lt w (8 * i + r)), bR_s, r_isOdd hw hi (by omega) hr, bR_s]
  have e56 : fX6_placeBy_56 h (nI i) (nI r) (nI (plc w (8 * i + r))) = some (-1) := rfl
  have e52 : fX6_placeBy_52 h (nI i) (nI r) (nI (plc w (8 * i + r))) = some (nI (plc w (8 * i + r))) := rfl
  have em : may K rl w (8 * i + r) = (odd w (8 * i + r) && (decide (64 ≤ bA (8 * i + r) (plc w (8 * i + r))) && (rl == 0 || !(hsd K w (bA (8 * i + r) (plc w (8 * i + r))) i r)))) := by
    unfold may
    rw [show (8 * i + r) / 8 = i by omega, show (8 * i + r) % 8 = r by omega]
  rw [em]
  cases odd w (8 * i + r)
  · rw [if_pos b2f, e56]
    simp
  · rw [if_neg b2t]
    have c1 : nI (bA (8 * i + r) (plc w (8 * i + r))) < 64 ↔ bA (8 * i + r) (plc w (8 * i + r)) < 64 := nI_ltI (b := 64) (by omega) (by decide)
    by_cases h64 : bA (8 * i + r) (plc w (8 * i + r)) < 64
    · rw [if_pos (c1.mpr h64), e56, decide_eq_false (by omega)]
      simp
    · rw [if_neg (fun q => h64 (c1.mp q)), hrl, decide_eq_true (show 64 ≤ bA (8 * i + r) (plc w (8 * i + r)) by omega)]
      have c2 : nI rl = 0 ↔ rl = 0 := nI_eq (b := 0) (by omega) (by decide)
      by_cases h0 : rl = 0
      · rw [if_pos (c2.mpr h0), e52, h0]
        simp
      · rw [if_neg (fun q => h0 (c2.mp q)), r_hasSound hw hm hK (show 64 ≤ bA (8 * i + r) (plc w (8 * i + r)) by omega) hb (by omega) hr, bR_s]
        cases hsd K w (bA (8 * i + r) (plc w (8 * i + r))) i r
        · rw [if_pos b2f, e52]
          simp
        · rw [if_neg b2t, e56]
          simp [h0]
