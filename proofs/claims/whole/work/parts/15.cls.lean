/-! PURE: the class's words -/
theorem c_val {h : AH} {a0 K W : Nat} {w : Nat → Bool} (hS : St a0 K w h) (hK : K ≤ 6) (h1 : 8 ≤ W) (h2 : W < 8 * (K + 1)) : h.1 (a0 + 2) W = nI (16 * (onN w W 16 % 2) + laN w W 16) := by
  rw [hS.2.2 W (by omega), if_pos ⟨h1, h2⟩, ckF_eq w W 16 (by decide)]
theorem chk_15 : ∀ e, e < 2 → ∀ L, L < 16 → nI (16 * e + L) &&& 15 = nI L := by decide +kernel
theorem chk_16 : ∀ e, e < 2 → ∀ L, L < 16 → (nI (16 * e + L) &&& 16 = 0 ↔ e = 0) := by decide +kernel
theorem chk_0 : ∀ e, e < 2 → ∀ L, L < 16 → (nI (16 * e + L) = 0 ↔ e = 0 ∧ L = 0) := by decide +kernel
theorem odd_iff (w : Nat → Bool) (W : Nat) : odd w W = false ↔ onN w W 16 % 2 = 0 := by
  unfold odd
  rcases (show onN w W 16 % 2 = 0 ∨ onN w W 16 % 2 = 1 by omega) with q | q
  · rw [q]; decide
  · rw [q]; decide
theorem snd_iff (w : Nat → Bool) (W : Nat) : snd w W = true ↔ onN w W 16 % 2 = 0 ∧ laN w W 16 = 0 := by
  rw [← odd_iff]
  unfold snd
  cases odd w W <;> simp
section CW
variable {h : AH} {a0 K W : Nat} {w : Nat → Bool}
theorem c_checkOf (hS : St a0 K w h) (hK : K ≤ 6) (h1 : 8 ≤ W) (h2 : W < 8 * (K + 1)) : fX4_checkOf h a0 (nI W) = some (nI (laN w W 16)) := by
  unfold fX4_checkOf
  rw [ck_in (show W < 56 by omega) (by decide), nI_clamp (by omega), c_val hS hK h1 h2, chk_15 _ (by omega) _ (laN_lt w W 16 (by decide))]
theorem c_isOdd (hS : St a0 K w h) (hK : K ≤ 6) (h1 : 8 ≤ W) (h2 : W < 8 * (K + 1)) : fX4_isOdd h a0 (nI W) = some (b2i (odd w W)) := by
  unfold fX4_isOdd
  rw [ck_in (show W < 56 by omega) (by decide), nI_clamp (by omega), c_val hS hK h1 h2]
  have hc := chk_16 (onN w W 16 % 2) (by omega) _ (laN_lt w W 16 (by decide))
  cases ho : odd w W
  · rw [if_pos (hc.mpr ((odd_iff w W).mp ho))]; rfl
  · rw [if_neg (fun q => by have := (odd_iff w W).mpr (hc.mp q); rw [ho] at this; cases this)]; rfl
theorem c_snd0 (hS : St a0 K w h) (hK : K ≤ 6) (h1 : 8 ≤ W) (h2 : W < 8 * (K + 1)) : h.1 (a0 + 2) W = 0 ↔ snd w W = true := by
  rw [c_val hS hK h1 h2, chk_0 _ (by omega) _ (laN_lt w W 16 (by decide)), snd_iff]
theorem c_isSound (hS : St a0 K w h) (hK : K ≤ 6) (h1 : 8 ≤ W) (h2 : W < 8 * (K + 1)) : fX4_isSound h a0 (nI W) = some (b2i (snd w W)) := by
  unfold fX4_isSound
  rw [ck_in (show W < 56 by omega) (by decide), nI_clamp (by omega)]
  have hc := c_snd0 hS hK h1 h2
  cases hs : snd w W
  · rw [if_neg (fun q => by have := hc.mp q; rw [hs] at this; cases this)]; rfl
  · rw [if_pos (hc.mpr hs)]; rfl
theorem sta_0 : sta w W = 0 ↔ snd w W = true := by
  rw [snd_iff]
  unfold sta
  have := odd_iff w W
  cases ho : odd w W
  · have h0 := this.mp ho
    by_cases hl : laN w W 16 = 0
    · simp [hl, h0]
    · simp [hl]
  · have h0 : ¬ onN w W 16 % 2 = 0 := fun q => by have := this.mpr q; rw [ho] at this; cases this
    simp [h0]
theorem sta_lt : sta w W < 3 := by
  unfold sta
  cases odd w W
  · by_cases hl : laN w W 16 = 0
    · simp [hl]
    · simp [hl]
  · simp
theorem sta_2 : sta w W = 2 ↔ odd w W = true := by
  unfold sta
  cases odd w W
  · by_cases hl : laN w W 16 = 0
    · simp [hl]
    · simp [hl]
  · simp
theorem snd_odd (hs : snd w W = true) : odd w W = false := (odd_iff w W).mpr ((snd_iff w W).mp hs).1
theorem c_stateOf (hS : St a0 K w h) (hK : K ≤ 6) (h1 : 8 ≤ W) (h2 : W < 8 * (K + 1)) : fX4_stateOf h a0 (nI W) = some (nI (sta w W)) := by
  unfold fX4_stateOf
  rw [c_isSound hS hK h1 h2, bR_s, c_isOdd hS hK h1 h2]
  have a := sta_0 (w := w) (W := W)
  have b := sta_2 (w := w) (W := W)
  have c := sta_lt (w := w) (W := W)
  cases hs : snd w W
  · rw [if_pos b2f, bR_s]
    cases ho : odd w W
    · rw [if_pos b2f]
      have : sta w W = 1 := by
        rw [hs] at a; rw [ho] at b
        have a' : sta w W ≠ 0 := fun q => by have := a.mp q; cases this
        have b' : sta w W ≠ 2 := fun q => by have := b.mp q; cases this
        omega
      rw [this]; rfl
    · rw [if_neg b2t, b.mpr ho]; rfl
  · rw [if_neg b2t, a.mpr hs]; rfl
theorem c_isStalled (hS : St a0 K w h) (hK : K ≤ 6) (h1 : 8 ≤ W) (h2 : W < 8 * (K + 1)) : fX4_isStalled h a0 (nI W) = some (b2i (sta w W == 1)) := by
  unfold fX4_isStalled
  rw [c_isSound hS hK h1 h2, c_isOdd hS hK h1 h2, bR_s]
  have a := sta_0 (w := w) (W := W)
  have b := sta_2 (w := w) (W := W)
  have c := sta_lt (w := w) (W := W)
  cases ho : odd w W
  · rw [if_pos b2f, bR_s]
    cases hs : snd w W
    · rw [if_pos b2f]
      have : sta w W = 1 := by
        rw [hs] at a; rw [ho] at b
        have a' : sta w W ≠ 0 := fun q => by have := a.mp q; cases this
        have b' : sta w W ≠ 2 := fun q => by have := b.mp q; cases this
        omega
      rw [this]; rfl
    · rw [if_neg b2t, a.mpr hs]; rfl
  · rw [if_neg b2t, b.mpr ho]; rfl
theorem hsd_bA {p : Nat} (h1 : 8 ≤ W) (hp : p < 16) : hsd K w (bA W p) (W / 8) (W % 8) = if p < 8 then snd w (8 * (W / 8 - 1) + p) else (decide (W / 8 < K) && snd w (8 * (W / 8 + 1) + (p - 8))) := by
  unfold hsd bA
  by_cases h8 : p < 8
  · rw [if_pos h8, if_pos h8]
    have e1 : (64 * (W / 8 - 1) + 8 * p + W % 8) / 64 = W / 8 - 1 := by omega
    have e2 : (64 * (W / 8 - 1) + 8 * p + W % 8) / 8 = 8 * (W / 8 - 1) + p := by omega
    have e3 : (64 * (W / 8 - 1) + 8 * p + W % 8) % 8 = W % 8 := by omega
    rw [e1, e2, e3]
    have e4 : W / 8 - 1 ≠ W / 8 := by omega
    have e5 : W / 8 - 1 + 1 = W / 8 := by omega
    simp [e4, e5]
  · rw [if_neg h8, if_neg h8]
    have e1 : (8 * W + (p - 8)) / 64 = W / 8 := by omega
    have e2 : (8 * W + (p - 8)) / 8 % 8 = W % 8 := by omega
    have e3 : (8 * W + (p - 8)) % 8 = p - 8 := by omega
    rw [e1, e2, e3]
    simp
theorem c_placeToMend {rl : Nat} (hS : St a0 K w h) (hK : K ≤ 6) (hrl : rl ≤ 1) (h1 : 8 ≤ W) (h2 : W < 8 * (K + 1)) : fX4_placeToMend h a0 (nI W) (nI rl) = some (if may K rl w W then nI (plc w W) else if odd w W then -5 else -1) := by
  have hL := laN_lt w W 16 (by decide)
  have hp := plc_lt w W
  have hq := hsd_bA (K := K) (w := w) (p := plc w W) h1 hp
  unfold fX4_placeToMend
  rw [ck_in (show W < 56 by omega) (by decide)]
  simp only [nm_eq]
  rw [nI_clamp (by omega), c_val hS hK h1 h2, chk_15 _ (by omega) _ hL, shr3 (by omega)]
  have hc := chk_16 (onN w W 16 % 2) (by omega) _ hL
  have hmay : may K rl w W = (odd w W && (decide (64 ≤ bA W (plc w W)) && (rl == 0 || !(hsd K w (bA W (plc w W)) (W / 8) (W % 8))))) := rfl
  cases ho : odd w W
  · rw [if_pos (hc.mpr ((odd_iff w W).mp ho))]
    rw [ho] at hmay
    rw [hmay]
    simp
  · rw [if_neg (fun q => by have := (odd_iff w W).mpr (hc.mp q); rw [ho] at this; cases this), ck_in hL (by decide), nI_clamp (by omega), (tabP_N _ hL).1, show tabPN (laN w W 16) = plc w W from rfl]
    have e103 : ∀ (x : Bool) (V : Nat), (x = true → 8 ≤ V ∧ V < 8 * (K + 1)) → fX4_placeToMend_103 h a0 (nI W) (nI rl) (nI (plc w W)) (b2i x) (nI V) = some (if rl = 1 ∧ x = true ∧ snd w V = true then -5 else nI (plc w W)) := by
      intro x V hV
      unfold fX4_placeToMend_103
      have c1 : nI rl = 1 ↔ rl = 1 := nI_eq (b := 1) (by omega) (by decide)
      by_cases hr1 : rl = 1
      · rw [if_pos (c1.mpr hr1)]
        cases x
        · rw [if_pos b2f]; simp
        · obtain ⟨v1, v2⟩ := hV rfl
          rw [if_neg b2t, ck_in (show V < 56 by omega) (by decide), nI_clamp (by omega)]
          have hs := c_snd0 hS hK v1 v2
          by_cases hz : snd w V = true
          · rw [if_pos (hs.mpr hz), if_pos ⟨hr1, rfl, hz⟩]
          · rw [if_neg (fun q => hz (hs.mp q)), if_neg (fun q => hz q.2.2)]
      · rw [if_neg (fun q => hr1 (c1.mp q)), if_neg (fun q => hr1 q.1)]
    have c8 : (8 : Int32) ≤ nI (plc w W) ↔ 8 ≤ plc w W := nI_leI (a := 8) (by decide) (by omega)
    have c8b : nI (plc w W) < 8 ↔ plc w W < 8 := nI_ltI (b := 8) (by omega) (by decide)
    have m8 : ∀ n : Nat, (8 : Int32) * nI n = nI (8 * n) := fun n => pk_mul 8 n
    have s1 : nI (W / 8) - 1 = nI (W / 8 - 1) := pk_sub (b := 1) (by omega)
    rw [ho] at hmay
    rw [hq] at hmay
    by_cases h8 : 8 ≤ plc w W
    · rw [if_pos (c8.mpr h8)]
      unfold fX4_placeToMend_47
      rw [if_neg (fun q => by have := c8b.mp q; omega), hS.1]
      have cK : nI K ≤ nI (W / 8) ↔ K ≤ W / 8 := nI_leI (by omega) (by omega)
      have hb : 64 ≤ bA W (plc w W) := by unfold bA; rw [if_neg (by omega)]; omega
      rw [decide_eq_true hb, if_neg (by omega)] at hmay
      have e68 : ∀ x : Bool, (x = true → W / 8 < K) → fX4_placeToMend_68 h a0 (nI W) (nI rl) (nI (plc w W)) (nI (W / 8)) (b2i x) = some (if rl = 1 ∧ x = true ∧ snd w (8 * (W / 8 + 1) + (plc w W - 8)) = true then -5 else nI (plc w W)) := by
        intro x hx
        unfold fX4_placeToMend_68
        rw [if_pos (c8.mpr h8), nI_1, m8, nI_add]
        have s8 : nI (8 * (W / 8 + 1) + plc w W) - 8 = nI (8 * (W / 8 + 1) + (plc w W - 8)) := by
          have := pk_sub (a := 8 * (W / 8 + 1) + plc w W) (b := 8) (by omega)
          rw [show 8 * (W / 8 + 1) + plc w W - 8 = 8 * (W / 8 + 1) + (plc w W - 8) by omega] at this
          exact this
        rw [s8]
        exact e103 x _ (fun hx2 => by have := hx hx2; omega)
      by_cases hlast : K ≤ W / 8
      · rw [if_pos (cK.mpr hlast), show (0 : Int32) = b2i false from rfl, e68 false (fun q => by cases q), hmay, decide_eq_false (show ¬ W / 8 < K by omega)]
        simp
      · rw [if_neg (fun q => hlast (cK.mp q))]
        show fX4_placeToMend_68 h a0 (nI W) (nI rl) (nI (plc w W)) (nI (W / 8)) (b2i true) = _
        rw [e68 true (fun _ => by omega), hmay, decide_eq_true (show W / 8 < K by omega)]
        rcases (show rl = 0 ∨ rl = 1 by omega) with r0 | r0
        · simp [r0]
        · cases hz : snd w (8 * (W / 8 + 1) + (plc w W - 8)) <;> simp [r0]
    · rw [if_neg (fun q => h8 (c8.mp q))]
      have c1 : nI (W / 8) = 1 ↔ W / 8 = 1 := nI_eq (b := 1) (by omega) (by decide)
      by_cases hf : W / 8 = 1
      · rw [if_pos (c1.mpr hf)]
        have hb : ¬ 64 ≤ bA W (plc w W) := by unfold bA; rw [if_pos (by omega)]; omega
        rw [hmay, decide_eq_false hb]
        simp
      · rw [if_neg (fun q => hf (c1.mp q))]
        unfold fX4_placeToMend_47
        rw [if_pos (c8b.mpr (by omega))]
        show fX4_placeToMend_68 h a0 (nI W) (nI rl) (nI (plc w W)) (nI (W / 8)) (b2i true) = _
        unfold fX4_placeToMend_68
        rw [if_neg (fun q => h8 (c8.mp q)), s1, m8, nI_add, e103 true _ (fun _ => by omega)]
        have hb : 64 ≤ bA W (plc w W) := by unfold bA; rw [if_pos (by omega)]; omega
        rw [decide_eq_true hb, if_pos (by omega)] at hmay
        rw [hmay]
        rcases (show rl = 0 ∨ rl = 1 by omega) with r0 | r0
        · simp [r0]
        · cases hz : snd w (8 * (W / 8 - 1) + plc w W) <;> simp [r0]
theorem c_bitAt {p : Nat} (h1 : 8 ≤ W) (h2 : W < 56) (hp : p < 16) : fX5_bitAt h (nI W) (nI p) = some (nI (bA W p)) := by
  have m64 : ∀ n : Nat, (64 : Int32) * nI n = nI (64 * n) := fun n => pk_mul 64 n
  have m8 : ∀ n : Nat, (8 : Int32) * nI n = nI (8 * n) := fun n => pk_mul 8 n
  have s1 : nI (W / 8) - 1 = nI (W / 8 - 1) := pk_sub (b := 1) (by omega)
  have c8 : nI p < 8 ↔ p < 8 := nI_ltI (b := 8) (by omega) (by decide)
  unfold fX5_bitAt bA
  by_cases h8 : p < 8
  · rw [if_pos (c8.mpr h8), if_pos h8, shr3 (by omega), s1, m64, m8, and7 (by omega), nI_add, nI_add]
  · rw [if_neg (fun q => h8 (c8.mp q)), if_neg h8, m8, nI_add]
    have s8 : nI (8 * W + p) - 8 = nI (8 * W + p - 8) := pk_sub (b := 8) (by omega)
    rw [s8, show 8 * W + p - 8 = 8 * W + (p - 8) by omega]
end CW
