/-! PURE: the reference's words -/
theorem lI (n : Nat) : nI n = nI n := rfl
theorem r_bitAt (h : AH) {i r p : Nat} (hi : 1 ≤ i) (hi6 : i ≤ 6) (hr : r < 8) (hp : p < 16) : fX6_bitAt h (nI i) (nI r) (nI p) = some (nI (bA (8 * i + r) p)) := by
  have m64 : ∀ n : Nat, (64 : Int32) * nI n = nI (64 * n) := fun n => pk_mul 64 n
  have m8 : ∀ n : Nat, (8 : Int32) * nI n = nI (8 * n) := fun n => pk_mul 8 n
  have s1 : nI i - 1 = nI (i - 1) := pk_sub (b := 1) hi
  have hle : (8 : Int32) ≤ nI p ↔ 8 ≤ p := nI_leI (a := 8) (by decide) (by omega)
  unfold fX6_bitAt bA
  by_cases h8 : 8 ≤ p
  · rw [if_pos (hle.mpr h8), if_neg (by omega), m64, m8, nI_add, nI_add]
    have s8 : nI (64 * i + 8 * r + p) - 8 = nI (64 * i + 8 * r + p - 8) := pk_sub (b := 8) (by omega)
    rw [s8]
    congr 2
    omega
  · rw [if_neg (fun q => h8 (hle.mp q)), if_pos (by omega), s1, m64, m8, nI_add, nI_add]
    congr 2
    omega
theorem r_labelOf (h : AH) {p : Nat} (hp : p < 16) : fX6_labelOf h (nI p) = some (tabL p) :=
  match p, hp with
  | 0, _ => rfl
  | 1, _ => rfl
  | 2, _ => rfl
  | 3, _ => rfl
  | 4, _ => rfl
  | 5, _ => rfl
  | 6, _ => rfl
  | 7, _ => rfl
  | 8, _ => rfl
  | 9, _ => rfl
  | 10, _ => rfl
  | 11, _ => rfl
  | 12, _ => rfl
  | 13, _ => rfl
  | 14, _ => rfl
  | 15, _ => rfl
  | n + 16, hn => absurd hn (by omega)
theorem bA_lt {i r p : Nat} (hi : 1 ≤ i) (hi6 : i ≤ 6) (hr : r < 8) (hp : p < 16) : bA (8 * i + r) p < 448 := by
  unfold bA
  by_cases h : p < 8
  · rw [if_pos h]; omega
  · rw [if_neg h]; omega
theorem b2f : b2i false = 0 := rfl
theorem b2t : ¬ b2i true = 0 := by decide
theorem b2i_0 (b : Bool) : (b2i b = 0) = (b = false) := by cases b <;> simp [b2i]
/-- a row of truths -/
def Ro (c : Nat) (w : Nat → Bool) (h : AH) : Prop := ∀ a, a < 448 → h.1 c a = b2i (w a)
theorem r_labelsOf {h : AH} {c i r N : Nat} {w : Nat → Bool} (hc : ln c = 448) (hw : Ro c w h) (hi : 1 ≤ i) (hi6 : i ≤ 6) (hr : r < 8) (hN : N ≤ 16) : fX6_labelsOf h c (nI i) (nI r) (nI N) = some (nI (laN w (8 * i + r) N)) := by
  unfold fX6_labelsOf
  refine lup (fun n (s : Int32 × Int32) => fX6_labelsOf_6 h c (nI i) (nI r) (nI N) n s.1 s.2) (fun k => (nI (laN w (8 * i + r) k), nI k)) N ?_ ?_ 0 FU (Nat.zero_le _) (FU_lt (by omega))
  · intro n k hk
    show fX6_labelsOf_6b (fX6_labelsOf_6 h c (nI i) (nI r) (nI N) n) h c (nI i) (nI r) (nI N) (nI (laN w (8 * i + r) k)) (nI k) = fX6_labelsOf_6 h c (nI i) (nI r) (nI N) n (nI (laN w (8 * i + r) (k + 1))) (nI (k + 1))
    unfold fX6_labelsOf_6b
    have hb := bA_lt (p := k) hi hi6 hr (by omega)
    rw [if_neg (nI_ge hk (by omega)), r_bitAt h hi hi6 hr (by omega), bR_s, hc, ck_in hb (by decide), nI_clamp (by omega), hw _ hb]
    have hL := laN_lt w (8 * i + r) k (by omega)
    unfold fX6_labelsOf_35
    simp only [nm_eq]
    cases hwb : w (bA (8 * i + r) k)
    · rw [if_pos b2f, Int32.xor_zero, nI_1]
      show _ = fX6_labelsOf_6 h c (nI i) (nI r) (nI N) n (nI (laN w (8 * i + r) k ^^^ _)) (nI (k + 1))
      rw [hwb, if_neg (by decide), Nat.xor_zero]
    · rw [if_neg b2t, r_labelOf h (by omega), bR_s, (tabL_N k (by omega)).1, (xo1 _ hL 0 (by decide) _ (tabL_N k (by omega)).2).2.2, nI_1]
      show _ = fX6_labelsOf_6 h c (nI i) (nI r) (nI N) n (nI (laN w (8 * i + r) k ^^^ _)) (nI (k + 1))
      rw [hwb, if_pos rfl]
  · intro n
    show fX6_labelsOf_6b _ h c (nI i) (nI r) (nI N) (nI (laN w (8 * i + r) N)) (nI N) = _
    unfold fX6_labelsOf_6b
    rw [if_pos (nI_le (Nat.le_refl N) (by omega))]
theorem r_onesOf {h : AH} {c i r : Nat} {w : Nat → Bool} (hc : ln c = 448) (hw : Ro c w h) (hi : 1 ≤ i) (hi6 : i ≤ 6) (hr : r < 8) : fX6_onesOf h c (nI i) (nI r) 0 16 = some (nI (onN w (8 * i + r) 16)) := by
  unfold fX6_onesOf
  refine lup (fun n (s : Int32 × Int32) => fX6_onesOf_6 h c (nI i) (nI r) 0 16 n s.1 s.2) (fun k => (nI (onN w (8 * i + r) k), nI k)) 16 ?_ ?_ 0 FU (Nat.zero_le _) (FU_lt (by omega))
  · intro n k hk
    show fX6_onesOf_6b (fX6_onesOf_6 h c (nI i) (nI r) 0 16 n) h c (nI i) (nI r) 0 (nI 16) (nI (onN w (8 * i + r) k)) (nI k) = fX6_onesOf_6 h c (nI i) (nI r) 0 16 n (nI (onN w (8 * i + r) (k + 1))) (nI (k + 1))
    unfold fX6_onesOf_6b
    have hb := bA_lt (p := k) hi hi6 hr (by omega)
    rw [if_neg (nI_ge hk (by omega)), r_bitAt h hi hi6 hr (by omega), bR_s, hc, ck_in hb (by decide), nI_clamp (by omega), hw _ hb]
    unfold fX6_onesOf_32
    simp only [nm_eq]
    have e : onN w (8 * i + r) (k + 1) = onN w (8 * i + r) k + (if w (bA (8 * i + r) k) then 1 else 0) := rfl
    rw [e]
    cases hwb : w (bA (8 * i + r) k)
    · rw [if_pos b2f, nI_1, if_neg (by decide)]
      congr 1
      exact Int32.add_zero _
    · rw [if_neg b2t, nI_1, nI_1, if_pos rfl]
  · intro n
    show fX6_onesOf_6b _ h c (nI i) (nI r) 0 (nI 16) (nI (onN w (8 * i + r) 16)) (nI 16) = _
    unfold fX6_onesOf_6b
    rw [if_pos (nI_le (Nat.le_refl 16) (by omega))]
theorem onN_le (w : Nat → Bool) (W : Nat) : onN w W 16 ≤ 16 := cnt_le _ 16
theorem rem2 {n : Nat} (h : n < 2 ^ 31) : nI n - nI n / 2 * 2 = nI (n % 2) := pk_rem (d := 2) h (by decide) (by decide)
theorem r_checkOf {h : AH} {i r : Nat} {w : Nat → Bool} (hw : Ro 32 w h) (hi : 1 ≤ i) (hi6 : i ≤ 6) (hr : r < 8) : fX6_checkOf h (nI i) (nI r) = some (nI (laN w (8 * i + r) 16)) := by
  unfold fX6_checkOf
  rw [show (16 : Int32) = nI 16 from rfl, r_labelsOf rfl hw hi hi6 hr (by decide)]
  rfl
/-- whether a word is odd, sound -/
def odd (w : Nat → Bool) (W : Nat) : Bool := onN w W 16 % 2 == 1
def snd (w : Nat → Bool) (W : Nat) : Bool := !(odd w W) && (laN w W 16 == 0)
def sta (w : Nat → Bool) (W : Nat) : Nat := if odd w W then 2 else if laN w W 16 = 0 then 0 else 1
theorem r_isOdd {h : AH} {i r : Nat} {w : Nat → Bool} (hw : Ro 32 w h) (hi : 1 ≤ i) (hi6 : i ≤ 6) (hr : r < 8) : fX6_isOdd h (nI i) (nI r) = some (b2i (odd w (8 * i + r))) := by
  unfold fX6_isOdd odd
  rw [r_onesOf rfl hw hi hi6 hr, bR_s, rem2 (Nat.lt_of_le_of_lt (onN_le _ _) (by decide))]
  rcases (show onN w (8 * i + r) 16 % 2 = 0 ∨ onN w (8 * i + r) 16 % 2 = 1 by omega) with q | q
  · rw [q]; rfl
  · rw [q]; rfl
theorem r_isSound {h : AH} {i r : Nat} {w : Nat → Bool} (hw : Ro 32 w h) (hi : 1 ≤ i) (hi6 : i ≤ 6) (hr : r < 8) : fX6_isSound h (nI i) (nI r) = some (b2i (snd w (8 * i + r))) := by
  unfold fX6_isSound snd
  rw [r_isOdd hw hi hi6 hr, bR_s, r_checkOf hw hi hi6 hr, bR_s]
  have hL := laN_lt w (8 * i + r) 16 (by decide)
  have hz : nI (laN w (8 * i + r) 16) = 0 ↔ laN w (8 * i + r) 16 = 0 := nI_eq (b := 0) (by omega) (by decide)
  cases odd w (8 * i + r)
  · by_cases h0 : laN w (8 * i + r) 16 = 0
    · rw [h0]; rfl
    · have : ¬ nI (laN w (8 * i + r) 16) = 0 := fun q => h0 (hz.mp q)
      simp [b2i, this, h0]
  · simp [b2i]
theorem r_stateOf {h : AH} {i r : Nat} {w : Nat → Bool} (hw : Ro 32 w h) (hi : 1 ≤ i) (hi6 : i ≤ 6) (hr : r < 8) : fX6_stateOf h (nI i) (nI r) = some (nI (sta w (8 * i + r))) := by
  unfold fX6_stateOf sta
  rw [r_isOdd hw hi hi6 hr, bR_s]
  have hL := laN_lt w (8 * i + r) 16 (by decide)
  have hz : nI (laN w (8 * i + r) 16) = 0 ↔ laN w (8 * i + r) 16 = 0 := nI_eq (b := 0) (by omega) (by decide)
  cases odd w (8 * i + r)
  · rw [r_checkOf hw hi hi6 hr]
    by_cases h0 : laN w (8 * i + r) 16 = 0
    · simp [b2i, h0, bR_s, nI_0]
    · have : ¬ nI (laN w (8 * i + r) 16) = 0 := fun q => h0 (hz.mp q)
      simp [b2i, this, h0, bR_s]
      rfl
  · simp [b2i]
    rfl
