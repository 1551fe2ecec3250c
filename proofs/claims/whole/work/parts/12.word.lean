/-! PURE: words, checks, turning a bit -/
def tabLN (p : Nat) : Nat := ([7, 9, 10, 11, 12, 13, 14, 15, 3, 5, 6, 0, 1, 2, 4, 8] : List Nat).getD p 0
def tabPN (p : Nat) : Nat := ([11, 12, 13, 8, 14, 9, 10, 0, 15, 1, 2, 3, 4, 5, 6, 7] : List Nat).getD p 0
theorem tabL_N : ∀ p, p < 16 → tabL p = nI (tabLN p) ∧ tabLN p < 16 := by decide +kernel
theorem tabP_N : ∀ p, p < 16 → tabP p = nI (tabPN p) ∧ tabPN p < 16 ∧ tabLN (tabPN p) = p := by decide +kernel
/-- the bit at a place of a word -/
def bA (W p : Nat) : Nat := if p < 8 then 64 * (W / 8 - 1) + 8 * p + W % 8 else 8 * W + (p - 8)
/-- check and oddness of a word as the class holds them: over its first n places -/
def ckF (w : Nat → Bool) (W : Nat) : Nat → Int32
  | 0 => 0
  | n + 1 => ckF w W n ^^^ (if w (bA W n) then 16 ||| tabL n else 0)
/-- the check of a word, over its first n places -/
def laN (w : Nat → Bool) (W : Nat) : Nat → Nat
  | 0 => 0
  | n + 1 => laN w W n ^^^ (if w (bA W n) then tabLN n else 0)
/-- how many of its first n places are set -/
def onN (w : Nat → Bool) (W n : Nat) : Nat := cnt (fun p => w (bA W p)) n
theorem xo1 : ∀ L, L < 16 → ∀ e, e < 2 → ∀ q, q < 16 → nI (16 * e + L) ^^^ (16 ||| nI q) = nI (16 * ((e + 1) % 2) + (L ^^^ q)) ∧ L ^^^ q < 16 ∧ nI L ^^^ nI q = nI (L ^^^ q) := by decide +kernel
theorem laN_lt (w : Nat → Bool) (W : Nat) : ∀ n, n ≤ 16 → laN w W n < 16 := by
  intro n
  induction n with
  | zero => intro _; show 0 < 16; decide
  | succ n ih =>
    intro hn
    show laN w W n ^^^ _ < 16
    by_cases h : w (bA W n) = true
    · rw [if_pos h]
      exact (xo1 _ (ih (by omega)) 0 (by decide) _ (tabL_N n (by omega)).2).2.1
    · rw [if_neg h, Nat.xor_zero]
      exact ih (by omega)
theorem ckF_eq (w : Nat → Bool) (W : Nat) : ∀ n, n ≤ 16 → ckF w W n = nI (16 * (onN w W n % 2) + laN w W n) := by
  intro n
  induction n with
  | zero => intro _; rfl
  | succ n ih =>
    intro hn
    show ckF w W n ^^^ _ = nI (16 * ((onN w W n + (if w (bA W n) then 1 else 0)) % 2) + (laN w W n ^^^ _))
    have hL := laN_lt w W n (by omega)
    by_cases h : w (bA W n) = true
    · rw [if_pos h, if_pos h, if_pos h, ih (by omega), (tabL_N n (by omega)).1, (xo1 _ hL (onN w W n % 2) (by omega) _ (tabL_N n (by omega)).2).1]
      congr 3
      omega
    · rw [if_neg h, if_neg h, if_neg h, ih (by omega), Int32.xor_zero, Nat.xor_zero, Nat.add_zero]
/-- a bit is turned -/
def fl (w : Nat → Bool) (a : Nat) : Nat → Bool := fun b => if b = a then !(w b) else w b
def dF (a W : Nat) : Nat → Int32
  | 0 => 0
  | n + 1 => dF a W n ^^^ (if bA W n = a then 16 ||| tabL n else 0)
theorem ckF_fl (w : Nat → Bool) (a W : Nat) : ∀ n, ckF (fl w a) W n = ckF w W n ^^^ dF a W n := by
  intro n
  induction n with
  | zero => exact Int32.xor_zero.symm
  | succ n ih =>
    show ckF (fl w a) W n ^^^ _ = (ckF w W n ^^^ _) ^^^ (dF a W n ^^^ _)
    rw [ih]
    generalize ckF w W n = A
    generalize dF a W n = B
    by_cases hb : bA W n = a
    · rw [if_pos hb]
      have e : fl w a (bA W n) = !(w (bA W n)) := by unfold fl; rw [if_pos hb]
      rw [e]
      generalize (16 ||| tabL n) = X
      cases w (bA W n)
      · show (A ^^^ B) ^^^ X = (A ^^^ 0) ^^^ (B ^^^ X)
        rw [Int32.xor_zero, Int32.xor_assoc]
      · show (A ^^^ B) ^^^ 0 = (A ^^^ X) ^^^ (B ^^^ X)
        rw [Int32.xor_zero, Int32.xor_comm B X, ← Int32.xor_assoc, Int32.xor_assoc A X X, Int32.xor_self, Int32.xor_zero]
    · rw [if_neg hb, Int32.xor_zero]
      have e : fl w a (bA W n) = w (bA W n) := by unfold fl; rw [if_neg hb]
      rw [e]
      generalize (if w (bA W n) = true then 16 ||| tabL n else 0) = X
      rw [Int32.xor_assoc, Int32.xor_comm B X, ← Int32.xor_assoc]
theorem dF_no {a W : Nat} : ∀ n, (∀ p, p < n → bA W p ≠ a) → dF a W n = 0 := by
  intro n
  induction n with
  | zero => intro _; rfl
  | succ n ih =>
    intro h
    show dF a W n ^^^ _ = 0
    rw [ih (fun p hp => h p (by omega)), if_neg (h n (by omega)), Int32.xor_zero]
theorem dF_one {a W p0 : Nat} : ∀ n, p0 < n → (∀ p, p < n → (bA W p = a ↔ p = p0)) → dF a W n = 16 ||| tabL p0 := by
  intro n
  induction n with
  | zero => intro h; omega
  | succ n ih =>
    intro hp h
    show dF a W n ^^^ _ = _
    by_cases hn : p0 = n
    · subst hn
      rw [dF_no p0 (fun p hp2 e => by have := (h p (by omega)).mp e; omega), if_pos ((h p0 (by omega)).mpr rfl), Int32.zero_xor]
    · rw [ih (by omega) (fun p hp2 => h p (by omega)), if_neg (fun e => by have := (h n (by omega)).mp e; omega), Int32.xor_zero]
/-- which words a bit is in, and at which places -/
theorem bA_row {a p : Nat} (hp : p < 16) (ha : 64 ≤ a) : bA (a / 8) p = a ↔ p = 8 + a % 8 := by
  unfold bA
  by_cases h : p < 8
  · rw [if_pos h]; omega
  · rw [if_neg h]; omega
theorem bA_col {a p : Nat} (hp : p < 16) : bA (8 * (a / 64 + 1) + a % 8) p = a ↔ p = a / 8 % 8 := by
  unfold bA
  by_cases h : p < 8
  · rw [if_pos h]; omega
  · rw [if_neg h]; omega
theorem bA_no {a W p : Nat} (hp : p < 16) (hW : 8 ≤ W) (h1 : W ≠ a / 8) (h2 : W ≠ 8 * (a / 64 + 1) + a % 8) : bA W p ≠ a := by
  unfold bA
  by_cases h : p < 8
  · rw [if_pos h]; omega
  · rw [if_neg h]; omega
theorem ck_row (w : Nat → Bool) {a : Nat} (ha : 64 ≤ a) : ckF (fl w a) (a / 8) 16 = ckF w (a / 8) 16 ^^^ (16 ||| tabL (8 + a % 8)) := by
  rw [ckF_fl, dF_one 16 (by omega) (fun p hp => bA_row hp ha)]
theorem ck_col (w : Nat → Bool) (a : Nat) : ckF (fl w a) (8 * (a / 64 + 1) + a % 8) 16 = ckF w (8 * (a / 64 + 1) + a % 8) 16 ^^^ (16 ||| tabL (a / 8 % 8)) := by
  rw [ckF_fl, dF_one 16 (by omega) (fun p hp => bA_col hp)]
theorem ck_els (w : Nat → Bool) {a W : Nat} (hW : 8 ≤ W) (h1 : W ≠ a / 8) (h2 : W ≠ 8 * (a / 64 + 1) + a % 8) : ckF (fl w a) W 16 = ckF w W 16 := by
  rw [ckF_fl, dF_no 16 (fun p hp => bA_no hp hW h1 h2), Int32.xor_zero]
/-- one bit set in a long -/
theorem amtL : ∀ p, p < 64 → (((nI p).toInt64 &&& 63).toBitVec.smod 64).toNat = p := by decide +kernel
theorem oneBit {p j : Nat} (hp : p < 64) (hj : j < 64) : ((1 : Int64) <<< ((nI p).toInt64 &&& 63)).toBitVec.getLsbD j = decide (j = p) := by
  show ((1#64) <<< (((nI p).toInt64 &&& 63).toBitVec.smod 64)).getLsbD j = _
  rw [BitVec.shiftLeft_eq', amtL p hp, BitVec.getLsbD_shiftLeft, BitVec.getLsbD_one]
  by_cases h : j = p
  · subst h; simp [hj]
  · by_cases h2 : j < p
    · simp [h, h2]
    · have : j - p ≠ 0 := by omega
      simp [h, this]
theorem L_xor (x y : Int64) (j : Nat) : (x ^^^ y).toBitVec.getLsbD j = (x.toBitVec.getLsbD j ^^ y.toBitVec.getLsbD j) := by
  show (x.toBitVec ^^^ y.toBitVec).getLsbD j = _
  rw [BitVec.getLsbD_xor]
/-- the WRONG BITS and the CHECKS that a Stairs holds -/
def St (a0 K : Nat) (w : Nat → Bool) (h : AH) : Prop :=
  h.1 a0 0 = nI K ∧ (∀ i, i < 7 → ∀ j, j < 64 → (h.2 (a0 + 1) i).toBitVec.getLsbD j = w (64 * i + j)) ∧ ∀ W, W < 56 → h.1 (a0 + 2) W = if 8 ≤ W ∧ W < 8 * (K + 1) then ckF w W 16 else 0
def FrS (a0 : Nat) (h h1 : AH) : Prop := (∀ k, k ≠ a0 + 2 → h1.1 k = h.1 k) ∧ ∀ k, k ≠ a0 + 1 → h1.2 k = h.2 k
theorem turn_ok {h : AH} {a0 K a : Nat} {w : Nat → Bool} (hK : K ≤ 6) (ha : 64 ≤ a) (ha2 : a < 64 * (K + 1)) (hS : St a0 K w h) : ∃ h1, fX4_turnBit h a0 (nI a) = some h1 ∧ St a0 K (fl w a) h1 ∧ FrS a0 h h1 := by
  obtain ⟨s1, s2, s3⟩ := hS
  have e8 : ∀ n : Nat, (8 : Int32) + nI n = nI (8 + n) := fun n => nI_add 8 n
  have e1 : ∀ n : Nat, nI n + (1 : Int32) = nI (n + 1) := fun n => nI_add n 1
  have m8 : ∀ n : Nat, (8 : Int32) * nI n = nI (8 * n) := fun n => pk_mul 8 n
  unfold fX4_turnBit
  simp only [nm_eq, shr6 (show a < 2 ^ 31 by omega), shr3 (show a < 2 ^ 31 by omega), and7 (show a / 8 < 2 ^ 32 by omega), and7 (show a < 2 ^ 32 by omega), and63 (show a < 2 ^ 32 by omega), e8, e1, m8, nI_add, ck_in (show a / 64 < 7 by omega) (by decide), ck_in (show a / 8 < 56 by omega) (by decide), ck_in (show 8 + a % 8 < 16 by omega) (by decide), nI_clamp (show a / 64 < 2 ^ 31 by omega), nI_clamp (show a / 8 < 2 ^ 31 by omega), nI_clamp (show 8 + a % 8 < 2 ^ 31 by omega)]
  have hb : (sI (sL h (a0 + 1) (a / 64) ((h.2 (a0 + 1) (a / 64)) ^^^ (1 <<< ((nI (a % 64)).toInt64 &&& 63)))) (a0 + 2) (a / 8) (((sL h (a0 + 1) (a / 64) ((h.2 (a0 + 1) (a / 64)) ^^^ (1 <<< ((nI (a % 64)).toInt64 &&& 63)))).1 (a0 + 2) (a / 8)) ^^^ (16 ||| tabL (8 + a % 8)))).1 a0 0 = nI K := by
    rw [sI_r (by omega)]
    exact s1
  rw [hb]
  have hle : nI K ≤ nI (a / 64) ↔ K ≤ a / 64 := nI_leI (by omega) (by omega)
  have w2 : ∀ i, i < 7 → ∀ j, j < 64 → (((sL h (a0 + 1) (a / 64) ((h.2 (a0 + 1) (a / 64)) ^^^ (1 <<< ((nI (a % 64)).toInt64 &&& 63)))).2 (a0 + 1) i).toBitVec.getLsbD j) = fl w a (64 * i + j) := by
    intro i hi j hj
    rw [sL_u]
    unfold vp_updL fl
    by_cases hia : i = a / 64
    · rw [if_pos hia, L_xor, oneBit (by omega) hj, hia, s2 _ (by omega) j hj]
      by_cases hja : j = a % 64
      · rw [decide_eq_true hja, if_pos (by omega), Bool.xor_true]
      · rw [decide_eq_false hja, if_neg (by omega), Bool.xor_false]
    · rw [if_neg hia, if_neg (by omega)]
      exact s2 i hi j hj
  by_cases hlast : K ≤ a / 64
  · rw [if_pos (hle.mpr hlast)]
    refine ⟨_, rfl, ⟨hb, w2, fun W hW => ?_⟩, fun k hk => ?_, fun k hk => ?_⟩
    · rw [sI_u]
      unfold upd
      by_cases hWa : W = a / 8
      · rw [if_pos hWa, hWa, if_pos (by omega), ck_row w ha]
        show h.1 (a0 + 2) (a / 8) ^^^ _ = _
        rw [s3 _ (by omega), if_pos (by omega)]
      · rw [if_neg hWa]
        show h.1 (a0 + 2) W = _
        rw [s3 W hW]
        by_cases hr : 8 ≤ W ∧ W < 8 * (K + 1)
        · rw [if_pos hr, if_pos hr, ck_els w hr.1 hWa (by omega)]
        · rw [if_neg hr, if_neg hr]
    · rw [sI_r hk]; rfl
    · show (sL h (a0 + 1) _ _).2 k = _
      rw [sL_r hk]
  · rw [if_neg (fun q => hlast (hle.mp q)), ck_in (show 8 * (a / 64 + 1) + a % 8 < 56 by omega) (by decide), ck_in (show 8 * (a / 64 + 1) + a % 8 < 56 by omega) (by decide), ck_in (show a / 8 % 8 < 16 by omega) (by decide), nI_clamp (show 8 * (a / 64 + 1) + a % 8 < 2 ^ 31 by omega), nI_clamp (show a / 8 % 8 < 2 ^ 31 by omega)]
    refine ⟨_, rfl, ⟨?_, w2, fun W hW => ?_⟩, fun k hk => ?_, fun k hk => ?_⟩
    · rw [sI_r (by omega)]
      exact hb
    · rw [sI_u]
      unfold upd
      by_cases hWc : W = 8 * (a / 64 + 1) + a % 8
      · rw [if_pos hWc, hWc, if_pos (by omega), ck_col w a, sI_u]
        unfold upd
        rw [if_neg (by omega)]
        show h.1 (a0 + 2) _ ^^^ _ = _
        rw [s3 _ (by omega), if_pos (by omega)]
      · rw [if_neg hWc, sI_u]
        unfold upd
        by_cases hWa : W = a / 8
        · rw [if_pos hWa, hWa, if_pos (by omega), ck_row w ha]
          show h.1 (a0 + 2) (a / 8) ^^^ _ = _
          rw [s3 _ (by omega), if_pos (by omega)]
        · rw [if_neg hWa]
          show h.1 (a0 + 2) W = _
          rw [s3 W hW]
          by_cases hr : 8 ≤ W ∧ W < 8 * (K + 1)
          · rw [if_pos hr, if_pos hr, ck_els w hr.1 hWa hWc]
          · rw [if_neg hr, if_neg hr]
    · rw [sI_r hk, sI_r hk]; rfl
    · show (sL h (a0 + 1) _ _).2 k = _
      rw [sL_r hk]
