/-! PURE: what is sent -/
section SE
variable {K rl : Nat} {d : Nat → Nat} {se w g w' g' : Nat → Bool} {j j' : List Nat} {T T' : Sht} {fi : Int32} {h h1 h2 : AH}
theorem laF_lt (q : Nat → Bool) : ∀ n, n ≤ 16 → laF q n < 16 := by
  intro n
  induction n with
  | zero => intro _; show 0 < 16; decide
  | succ n ih =>
    intro hn
    show laF q n ^^^ _ < 16
    by_cases h : q n = true
    · rw [if_pos h]
      exact (xo1 _ (ih (by omega)) 0 (by decide) _ (tabL_N n (by omega)).2).2.1
    · rw [if_neg h, Nat.xor_zero]
      exact ih (by omega)
theorem laF_cong {p q : Nat → Bool} : ∀ n, (∀ k, k < n → p k = q k) → laF p n = laF q n := by
  intro n
  induction n with
  | zero => intro _; rfl
  | succ n ih =>
    intro hn
    show laF p n ^^^ _ = laF q n ^^^ _
    rw [ih (fun k hk => hn k (by omega)), hn n (by omega)]
theorem laN_F (w : Nat → Bool) (W : Nat) : ∀ n, laN w W n = laF (fun p => w (bA W p)) n := by
  intro n
  induction n with
  | zero => rfl
  | succ n ih =>
    show laN w W n ^^^ _ = laF _ n ^^^ _
    rw [ih]
theorem laF_step (q : Nat → Bool) {n : Nat} (hn : n < 16) : (if q n then nI (laF q n) ^^^ tabL n else nI (laF q n)) = nI (laF q (n + 1)) := by
  show _ = nI (laF q n ^^^ (if q n then tabLN n else 0))
  have hL := laF_lt q n (by omega)
  cases q n
  · rw [if_neg (show ¬ (false = true) by decide), if_neg (show ¬ (false = true) by decide), Nat.xor_zero]
  · rw [if_pos rfl, if_pos rfl, (tabL_N n hn).1, (xo1 _ hL 0 (by decide) _ (tabL_N n hn).2).2.2]
theorem sr1 : ∀ v, v < 16 → ∀ c, c < 4 → ((((nI v >>> (nI c &&& 31)) &&& 1) = 0 ↔ v.testBit c = false) ∧ (((nI v >>> (nI c &&& 31)) &&& 1) = 1 ↔ v.testBit c = true)) := by decide +kernel
theorem sr2 : ∀ v, v < 8 → ∀ k, k < 16 → nI v ||| (nI k <<< ((4 : Int32) &&& 31)) = nI (v + 16 * k) := by decide +kernel
theorem sr3 : ∀ v, v < 8 → ∀ k, k < 16 → ∀ e, e < 2 → nI (v + 16 * k) ||| (nI e <<< ((3 : Int32) &&& 31)) = nI (v + 16 * k + 8 * e) := by decide +kernel
theorem sr4 : ∀ v, v < 8 → ∀ k, k < 16 → ∀ c, c < 8 → (v + 16 * k).testBit c = (if c < 3 then v.testBit c else if c = 3 then false else k.testBit (c - 4)) := by decide +kernel
theorem sr5 : ∀ v, v < 8 → ∀ k, k < 16 → ∀ e, e < 2 → ∀ c, c < 8 → (v + 16 * k + 8 * e).testBit c = (if c < 3 then v.testBit c else if c = 3 then e == 1 else k.testBit (c - 4)) := by decide +kernel
theorem c_sr66 {i r v : Nat} {b : Nat → Bool} (hi : 1 ≤ i) (hi6 : i ≤ 6) (hr : r < 8) (hv : v < 8) (hb : ∀ t, t < 64 → (h.2 9 (i - 1)).toBitVec.getLsbD t = b t) : fX2_soundRow_66 h (nI i) (nI r) FU (nI v) (nI (laF (pv b v r) 8)) 0 = some (nI (v + 16 * laF (pv b v r) 11 + 8 * ((cnt (fun c => (v + 16 * laF (pv b v r) 11).testBit c) 8 + cnt (fun p => b (8 * p + r)) 8) % 2))) := by
  have s1 : nI i - 1 = nI (i - 1) := pk_sub (b := 1) hi
  have hk16 := laF_lt (pv b v r) 11 (by decide)
  refine lup (fun n (s : Int32 × Int32) => fX2_soundRow_66 h (nI i) (nI r) n (nI v) s.1 s.2) (fun c => (nI (laF (pv b v r) (8 + c)), nI c)) 3 ?_ ?_ 0 FU (by decide) (FU_lt (by decide))
  · intro n c hc
    show fX2_soundRow_66b (fX2_soundRow_66 h (nI i) (nI r) n) h (nI i) (nI r) (nI v) (nI (laF (pv b v r) (8 + c))) (nI c) = fX2_soundRow_66 h (nI i) (nI r) n (nI v) (nI (laF (pv b v r) (8 + c + 1))) (nI (c + 1))
    have ep : pv b v r (8 + c) = v.testBit c := by unfold pv; rw [if_neg (by omega), show 8 + c - 8 = c by omega]
    rw [← laF_step (pv b v r) (show 8 + c < 16 by omega), ep]
    unfold fX2_soundRow_66b fX2_soundRow_95
    simp only [nm_eq]
    have q0 := (sr1 v (by omega) c (by omega)).1
    rw [if_neg (show ¬ (3 : Int32) ≤ nI c from nI_ge (b := 3) hc (by decide)), show (8 : Int32) + nI c = nI (8 + c) from nI_add 8 c, ck_in (show 8 + c < 16 by omega) (by decide), nI_clamp (by omega), nI_1]
    cases hz : v.testBit c
    · rw [if_pos (q0.mpr hz)]; rfl
    · rw [if_neg (fun z => by have := q0.mp z; rw [hz] at this; cases this)]; rfl
  · intro n
    show fX2_soundRow_66b _ h (nI i) (nI r) (nI v) (nI (laF (pv b v r) 11)) (nI 3) = _
    unfold fX2_soundRow_66b
    simp only [nm_eq]
    have h256 : v + 16 * laF (pv b v r) 11 < 256 := by omega
    rw [if_pos (show (3 : Int32) ≤ nI 3 by decide), sr2 v hv _ hk16, pop8 h h256, bR_s, s1, ck_in (show i - 1 < 7 by omega) (by decide), nI_clamp (by omega), pop64, bR_s, nI_add]
    have ec : cnt (fun t => ((h.2 9 (i - 1)) &&& (72340172838076673 <<< ((nI r).toInt64 &&& 63))).toBitVec.getLsbD t) 64 = cnt (fun p => b (8 * p + r)) 8 := by
      rw [cnt_cong (q := fun t => b t && decide (t % 8 = r)) (fun t ht => by rw [L_and, hb t ht, colM r hr t ht]), show (64 : Nat) = 8 * 8 from rfl, cnt_col b hr]
    rw [ec]
    have b1 := cnt_le (fun c => (v + 16 * laF (pv b v r) 11).testBit c) 8
    have b2 := cnt_le (fun p => b (8 * p + r)) 8
    rw [and1 (by omega), sr3 v hv _ hk16 _ (by omega)]
theorem c_sr18 {i r v : Nat} {b : Nat → Bool} {o : Option Int32} (hi : 1 ≤ i) (hi6 : i ≤ 6) (hr : r < 8) (hb : ∀ t, t < 64 → (h.2 9 (i - 1)).toBitVec.getLsbD t = b t) (l66 : fX2_soundRow_66 h (nI i) (nI r) FU (nI v) (nI (laF (pv b v r) 8)) 0 = o) : fX2_soundRow_18 h (nI i) (nI r) FU (nI v) 0 0 = o := by
  have s1 : nI i - 1 = nI (i - 1) := pk_sub (b := 1) hi
  refine lup (fun n (s : Int32 × Int32) => fX2_soundRow_18 h (nI i) (nI r) n (nI v) s.1 s.2) (fun p => (nI (laF (pv b v r) p), nI p)) 8 ?_ ?_ 0 FU (by decide) (FU_lt (by decide))
  · intro n p hp
    show fX2_soundRow_18b (fX2_soundRow_18 h (nI i) (nI r) n) h (nI i) (nI r) (nI v) (nI (laF (pv b v r) p)) (nI p) = fX2_soundRow_18 h (nI i) (nI r) n (nI v) (nI (laF (pv b v r) (p + 1))) (nI (p + 1))
    have ep : pv b v r p = b (8 * p + r) := by unfold pv; rw [if_pos hp]
    rw [← laF_step (pv b v r) (show p < 16 by omega), ep]
    unfold fX2_soundRow_18b fX2_soundRow_57
    simp only [nm_eq]
    rw [if_neg (show ¬ (8 : Int32) ≤ nI p from nI_ge (b := 8) hp (by decide)), s1, ck_in (show i - 1 < 7 by omega) (by decide), nI_clamp (show i - 1 < 2 ^ 31 by omega), m8, nI_add, g_bitOf h _ (show 8 * p + r < 64 by omega), bR_s, hb _ (by omega), ck_in (show p < 16 by omega) (by decide), nI_clamp (by omega), nI_1]
    cases b (8 * p + r)
    · rw [if_pos b2f, if_neg (show ¬ (false = true) by decide)]
    · rw [if_neg b2t, if_pos rfl]
  · intro n
    show fX2_soundRow_18b _ h (nI i) (nI r) (nI v) (nI (laF (pv b v r) 8)) (nI 8) = _
    unfold fX2_soundRow_18b
    rw [if_pos (show (8 : Int32) ≤ nI 8 by decide)]
    exact l66
/-- the class's sound row -/
theorem c_soundRow {i r v : Nat} {b : Nat → Bool} (hi : 1 ≤ i) (hi6 : i ≤ 6) (hr : r < 8) (hv : v < 8) (hd : h.1 8 (8 * i + r) = nI v) (hb : ∀ t, t < 64 → (h.2 9 (i - 1)).toBitVec.getLsbD t = b t) : ∃ N, N < 256 ∧ fX2_soundRow h (nI i) (nI r) = some (nI N) ∧ ∀ c, c < 8 → N.testBit c = rowG b v r c := by
  have hk16 := laF_lt (pv b v r) 11 (by decide)
  have l66 := c_sr18 hi hi6 hr hb (c_sr66 (h := h) hi hi6 hr hv hb)
  have e0 : fX2_soundRow h (nI i) (nI r) = fX2_soundRow_18 h (nI i) (nI r) FU (nI v) 0 0 := by
    unfold fX2_soundRow
    rw [nm_eq, m8, nI_add, ck_in (show 8 * i + r < 56 by omega) (by decide), nm_eq, nI_clamp (by omega), hd]
  rw [e0, l66]
  unfold rowG
  generalize laF (pv b v r) 11 = k at hk16 ⊢
  have he2 : (cnt (fun c => (v + 16 * k).testBit c) 8 + cnt (fun p => b (8 * p + r)) 8) % 2 < 2 := Nat.mod_lt _ (by decide)
  generalize (cnt (fun c => (v + 16 * k).testBit c) 8 + cnt (fun p => b (8 * p + r)) 8) % 2 = e at he2 ⊢
  exact ⟨v + 16 * k + 8 * e, by omega, rfl, fun c hc => sr5 v hv k hk16 e he2 c hc⟩
theorem rowL {N : Nat} (hN : N < 256) {r t : Nat} (hr : r < 8) (ht : t < 64) : (((nI N).toInt64) <<< ((nI (8 * r)).toInt64 &&& 63)).toBitVec.getLsbD t = (decide (8 * r ≤ t) && N.testBit (t - 8 * r)) := by
  rw [nI_l (by omega)]
  show ((lN N).toBitVec <<< (((nI (8 * r)).toInt64 &&& 63).toBitVec.smod 64)).getLsbD t = _
  rw [BitVec.shiftLeft_eq', amtL _ (by omega), BitVec.getLsbD_shiftLeft]
  show (_ && _ && (BitVec.ofNat 64 N).getLsbD (t - 8 * r)) = _
  rw [BitVec.getLsbD_ofNat, decide_eq_true ht, decide_eq_true (show t - 8 * r < 64 by omega)]
  by_cases q : 8 * r ≤ t
  · rw [decide_eq_true q, decide_eq_false (by omega)]; simp
  · rw [decide_eq_false q, decide_eq_true (by omega)]; simp
theorem seB_row (d : Nat → Nat) {i r c : Nat} (hi : 1 ≤ i) (hr : r < 8) (hc : c < 8) : seB d i (8 * r + c) = rowG (seB d (i - 1)) (d (8 * i + r)) r c := by
  obtain ⟨n, rfl⟩ : ∃ n, i = n + 1 := ⟨i - 1, by omega⟩
  show rowG (seB d n) (d (8 * (n + 1) + (8 * r + c) / 8)) ((8 * r + c) / 8) ((8 * r + c) % 8) = _
  rw [show (8 * r + c) / 8 = r by omega, show (8 * r + c) % 8 = c by omega, show n + 1 - 1 = n by omega]
theorem seG_at {i t : Nat} (hiK : i ≤ K) (ht : t < 64) : seG K d (64 * i + t) = seB d i t := by
  unfold seG
  rw [show (64 * i + t) / 64 = i by omega, show (64 * i + t) % 64 = t by omega, decide_eq_true hiK, Bool.true_and]
theorem seG_out {a : Nat} (ha : 64 * (K + 1) ≤ a) : seG K d a = false := by
  unfold seG
  rw [decide_eq_false (by omega), Bool.false_and]
theorem seG_0 {a : Nat} (ha : a < 64) : seG K d a = false := by
  unfold seG
  rw [show a / 64 = 0 by omega]
  show (_ && false) = false
  rw [Bool.and_false]
theorem seB_cong {d d' : Nat → Nat} : ∀ i, (∀ W, W < 8 * (i + 1) → d W = d' W) → ∀ t, t < 64 → seB d i t = seB d' i t := by
  intro i
  induction i with
  | zero => intro _ t _; rfl
  | succ i ih =>
    intro hd t ht
    have hb := ih (fun W hW => hd W (by omega))
    show rowG (seB d i) (d (8 * (i + 1) + t / 8)) (t / 8) (t % 8) = rowG (seB d' i) (d' (8 * (i + 1) + t / 8)) (t / 8) (t % 8)
    rw [hd (8 * (i + 1) + t / 8) (by omega)]
    have ep : ∀ p, p < 11 → pv (seB d i) (d' (8 * (i + 1) + t / 8)) (t / 8) p = pv (seB d' i) (d' (8 * (i + 1) + t / 8)) (t / 8) p := by
      intro p hp
      unfold pv
      by_cases q : p < 8
      · rw [if_pos q, if_pos q, hb _ (by omega)]
      · rw [if_neg q, if_neg q]
    have e1 := laF_cong 11 ep
    have e2 : cnt (fun p => seB d i (8 * p + t / 8)) 8 = cnt (fun p => seB d' i (8 * p + t / 8)) 8 := cnt_cong (fun p hp => hb _ (by omega))
    unfold rowG
    rw [e1, e2]
theorem seB_z : ∀ i t, seB (fun _ => 0) i t = false := by
  intro i
  induction i with
  | zero => intro t; rfl
  | succ i ih =>
    intro t
    have e : seB (fun _ => 0) i = fun _ => false := funext ih
    show rowG (seB (fun _ => 0) i) 0 (t / 8) (t % 8) = false
    rw [e]
    have hl : laF (pv (fun _ => false) 0 (t / 8)) 11 = 0 := by
      have ep : ∀ p, p < 11 → pv (fun _ => false) 0 (t / 8) p = (fun _ => false) p := by
        intro p hp
        unfold pv
        by_cases q : p < 8
        · rw [if_pos q]
        · rw [if_neg q, Nat.zero_testBit]
      rw [laF_cong 11 ep]
      rfl
    unfold rowG
    rw [hl]
    by_cases q1 : t % 8 < 3
    · rw [if_pos q1, Nat.zero_testBit]
    · rw [if_neg q1]
      by_cases q2 : t % 8 = 3
      · rw [if_pos q2]; rfl
      · rw [if_neg q2, Nat.zero_testBit]
theorem seG_z (K : Nat) : seG K (fun _ => 0) = fun _ => false := by
  funext a
  unfold seG
  rw [seB_z, Bool.and_false]
/-- a block of the class's is built -/
theorem c_blockB {i v0 : Nat} {k12 : AH → Int32 → Option AH} {a1 a2 a3 : Int32} (hi : 1 ≤ i) (hi6 : i ≤ 6) (hd8 : ∀ W, d W < 8) (hd : Da 8 d h) (hb : ∀ t, t < 64 → (h.2 9 (i - 1)).toBitVec.getLsbD t = seB d (i - 1) t) : ∃ h1, fX2_change_29 k12 a1 a2 a3 FU (sL h 9 i 0) (nI i) 0 = k12 h1 (nI (i + 1)) ∧ (∀ t, t < 64 → (h1.2 9 i).toBitVec.getLsbD t = seB d i t) ∧ (∀ q, q ≠ i → h1.2 9 q = h.2 9 q) ∧ Fx [] [9] h h1 := by
  refine linv (fun n (s : AH × Int32) => fX2_change_29 k12 a1 a2 a3 n s.1 (nI i) s.2) (fun r s => s.2 = nI r ∧ (∀ t, t < 64 → (s.1.2 9 i).toBitVec.getLsbD t = (decide (t < 8 * r) && seB d i t)) ∧ (∀ q, q ≠ i → s.1.2 9 q = h.2 9 q) ∧ Fx [] [9] h s.1) 8 (fun o => ∃ h1, o = k12 h1 (nI (i + 1)) ∧ (∀ t, t < 64 → (h1.2 9 i).toBitVec.getLsbD t = seB d i t) ∧ (∀ q, q ≠ i → h1.2 9 q = h.2 9 q) ∧ Fx [] [9] h h1) ?_ ?_ 8 0 FU (sL h 9 i 0, 0) rfl (FU_lt (by decide)) ⟨rfl, fun t ht => ?_, fun q hq => ?_, Fx.sL⟩
  · intro n r s hr hI
    obtain ⟨s1, s2⟩ := s
    obtain ⟨i1, i2, i3, i4⟩ := hI
    simp only at i1 i2 i3 i4
    subst i1
    obtain ⟨N, n1, n2, n3⟩ := c_soundRow (h := s1) (i := i) (r := r) (v := d (8 * i + r)) (b := seB d (i - 1)) hi hi6 hr (hd8 _) (by rw [i4.1 8 (by decide)]; exact hd _ (by omega)) (fun t ht => by rw [i3 _ (by omega)]; exact hb t ht)
    refine ⟨(sL s1 9 i ((s1.2 9 i) ||| (((nI N).toInt64) <<< ((nI (8 * r)).toInt64 &&& 63))), nI (r + 1)), ⟨rfl, fun t ht => ?_, fun q hq => ?_, Fx.tr i4 Fx.sL⟩, ?_⟩
    · show ((sL s1 9 i _).2 9 i).toBitVec.getLsbD t = _
      rw [sL_u, pk_uLs, L_or, i2 t ht, rowL n1 hr ht]
      by_cases q1 : t < 8 * r
      · rw [decide_eq_true q1, decide_eq_true (show t < 8 * (r + 1) by omega), decide_eq_false (show ¬ 8 * r ≤ t by omega)]; simp
      · rw [decide_eq_false q1, decide_eq_true (show 8 * r ≤ t by omega)]
        by_cases q2 : t < 8 * (r + 1)
        · rw [decide_eq_true q2, n3 _ (by omega), ← seB_row d hi hr (by omega), show 8 * r + (t - 8 * r) = t by omega]; simp
        · rw [decide_eq_false q2, Nat.testBit_lt_two_pow (Nat.lt_of_lt_of_le n1 (Nat.pow_le_pow_right (n := 2) (by decide) (show 8 ≤ t - 8 * r by omega)))]; simp
    · show (sL s1 9 i _).2 9 q = _
      rw [sL_u, pk_uLn hq]; exact i3 q hq
    · show fX2_change_29b k12 (fX2_change_29 k12 a1 a2 a3 n) a1 a2 a3 s1 (nI i) (nI r) = _
      unfold fX2_change_29b
      simp only [nm_eq]
      rw [if_neg (show ¬ (8 : Int32) ≤ nI r from nI_ge (b := 8) hr (by decide)), ck_in (show i < 7 by omega) (by decide), n2, bR_s, ck_in (show i < 7 by omega) (by decide), nI_clamp (by omega), m8, nI_1]
  · intro n s hI
    obtain ⟨s1, s2⟩ := s
    obtain ⟨i1, i2, i3, i4⟩ := hI
    simp only at i1 i2 i3 i4
    subst i1
    refine ⟨s1, ?_, fun t ht => by rw [i2 t ht, decide_eq_true (by omega), Bool.true_and], i3, i4⟩
    show fX2_change_29b k12 _ a1 a2 a3 s1 (nI i) (nI 8) = _
    unfold fX2_change_29b
    rw [if_pos (show (8 : Int32) ≤ nI 8 by decide), nm_eq, nI_1]
  · show ((sL h 9 i 0).2 9 i).toBitVec.getLsbD t = _
    rw [sL_u, pk_uLs]
    show (0#64).getLsbD t = _
    simp
  · show (sL h 9 i 0).2 9 q = _
    rw [sL_u, pk_uLn hq]
theorem c_change {W v : Nat} (hK : K ≤ 6) (h8 : 8 ≤ W) (hW : W < 8 * (K + 1)) (hv : v < 8) (hd8 : ∀ W, d W < 8) (hd : Da 8 d h) (hb : Lb 9 (seG K d) h) : ∃ h1, fX2_change h (nI W) (nI v) (nI K) = some h1 ∧ Da 8 (fun q => if q = W then v else d q) h1 ∧ Lb 9 (seG K (fun q => if q = W then v else d q)) h1 ∧ Fx [8] [9] h h1 := by
  obtain ⟨d', hd'⟩ : ∃ d' : Nat → Nat, d' = fun q => if q = W then v else d q := ⟨_, rfl⟩
  rw [← hd']
  have d8' : ∀ q, d' q < 8 := by
    intro q
    rw [hd']
    show (if q = W then v else d q) < 8
    by_cases e : q = W
    · rw [if_pos e]; exact hv
    · rw [if_neg e]; exact hd8 q
  have hde : ∀ q, q < W → d q = d' q := by
    intro q hq
    rw [hd']
    show d q = if q = W then v else d q
    rw [if_neg (by omega)]
  have D1 : Da 8 d' (sI h 8 W (nI v)) := by
    intro q hq
    rw [sI_u, hd']
    unfold upd
    show (if q = W then nI v else h.1 8 q) = nI (if q = W then v else d q)
    by_cases e : q = W
    · rw [if_pos e, if_pos e]
    · rw [if_neg e, if_neg e]; exact hd q hq
  have F1 : Fx [8] [] h (sI h 8 W (nI v)) := Fx.sI
  unfold fX2_change
  simp only [nm_eq]
  rw [ck_in (show W < 56 by omega) (by decide), nI_clamp (by omega), shr3 (by omega)]
  refine linv (fun n (s : AH × Int32) => fX2_change_12 (nI W) (nI v) (nI K) n s.1 s.2) (fun k s => s.2 = nI (W / 8 + k) ∧ (∀ i, i < W / 8 + k → ∀ t, t < 64 → (s.1.2 9 i).toBitVec.getLsbD t = seB d' i t) ∧ (∀ i, W / 8 + k ≤ i → s.1.2 9 i = h.2 9 i) ∧ Da 8 d' s.1 ∧ Fx [8] [9] h s.1) (K + 1 - W / 8) (fun o => ∃ h1, o = some h1 ∧ Da 8 d' h1 ∧ Lb 9 (seG K d') h1 ∧ Fx [8] [9] h h1) ?_ ?_ (K + 1 - W / 8) 0 FU (sI h 8 W (nI v), nI (W / 8)) (Nat.zero_add _) (FU_lt (by omega)) ⟨rfl, fun i hi t ht => ?_, fun i _ => rfl, D1, Fx.mo F1 (by decide) (by decide)⟩
  · intro n k s hk hI
    obtain ⟨s1, s2⟩ := s
    obtain ⟨i1, i2, i3, i4, i5⟩ := hI
    simp only at i1 i2 i3 i4 i5
    subst i1
    obtain ⟨h1, e1, e2, e3, e4⟩ := c_blockB (v0 := 0) (h := s1) (i := W / 8 + k) (k12 := fX2_change_12 (nI W) (nI v) (nI K) n) (a1 := nI W) (a2 := nI v) (a3 := nI K) (by omega) (by omega) d8' i4 (i2 _ (by omega))
    refine ⟨(h1, nI (W / 8 + (k + 1))), ⟨rfl, fun i hi t ht => ?_, fun i hi => ?_, Da.fx e4 i4 (by decide), Fx.tr i5 (Fx.mo e4 (by decide) (by decide))⟩, ?_⟩
    · by_cases e : i = W / 8 + k
      · rw [e]; exact e2 t ht
      · show (h1.2 9 i).toBitVec.getLsbD t = _
        rw [e3 i e]; exact i2 i (by omega) t ht
    · show h1.2 9 i = _
      rw [e3 i (by omega)]; exact i3 i (by omega)
    · show fX2_change_12b (fX2_change_12 (nI W) (nI v) (nI K) n) (nI W) (nI v) (nI K) s1 (nI (W / 8 + k)) = _
      unfold fX2_change_12b
      rw [if_neg (nI_nlt (by omega) (by omega)), ck_in (show W / 8 + k < 7 by omega) (by decide), nm_eq, nI_clamp (by omega), e1]
      rfl
  · intro n s hI
    obtain ⟨s1, s2⟩ := s
    obtain ⟨i1, i2, i3, i4, i5⟩ := hI
    simp only at i1 i2 i3 i4 i5
    subst i1
    refine ⟨s1, ?_, i4, fun i hi t ht => ?_, i5⟩
    · show fX2_change_12b _ (nI W) (nI v) (nI K) s1 (nI (W / 8 + (K + 1 - W / 8))) = _
      unfold fX2_change_12b
      rw [if_pos (nI_lt (by omega) (by omega))]
    · by_cases e : i ≤ K
      · rw [i2 i (by omega) t ht, seG_at e ht]
      · rw [i3 i (by omega), hb i hi t ht, seG_out (by omega), seG_out (by omega)]
  · show ((sI h 8 W (nI v)).2 9 i).toBitVec.getLsbD t = _
    show (h.2 9 i).toBitVec.getLsbD t = _
    rw [hb i (by omega) t ht, seG_at (by omega) ht, seB_cong i (fun q hq => hde q (by omega)) t ht]
/-! the reference's -/
def Tr (K : Nat) (d : Nat → Nat) (n : Nat) (a : Nat) : Bool := decide (a < n) && seG K d a
theorem Ro_set {c a : Nat} {u u' : Nat → Bool} {v : Int32} (hu : Ro c u h) (hv : v = b2i (u' a)) (hne : ∀ b, b ≠ a → u' b = u b) : Ro c u' (sI h c a v) := by
  intro b hb
  rw [sI_u]
  unfold upd
  by_cases e : b = a
  · rw [if_pos e, hv, e]
  · rw [if_neg e, hu b hb, hne b e]
theorem Tr_b {n a : Nat} : Tr K d (n + 1) a = if a = n then seG K d n else Tr K d n a := by
  unfold Tr
  by_cases e : a = n
  · rw [if_pos e, e, decide_eq_true (by omega), Bool.true_and]
  · rw [if_neg e]
    by_cases e2 : a < n
    · rw [decide_eq_true e2, decide_eq_true (by omega)]
    · rw [decide_eq_false e2, decide_eq_false (by omega)]
def Us (K : Nat) (d : Nat → Nat) (B c : Nat) (a : Nat) : Bool := decide (a < B + 4 + c) && (decide (a ≠ B + 3) && seG K d a)
theorem b2if (b : Bool) (v : Int32) (q : v = 1 ↔ b = true) {α : Type} (f : Int32 → α) : (if v = 1 then f 1 else f 0) = f (b2i b) := by
  cases b
  · rw [if_neg (fun z => by have := q.mp z; cases this)]; rfl
  · rw [if_pos (q.mpr rfl)]; rfl
theorem r_rowS {i r : Nat} {k24 : AH → Int32 → Option AH} {k34 : AH → Int32 → Int32 → Option AH} (hi : 1 ≤ i) (hiK : i ≤ K) (hK : K ≤ 6) (hr : r < 8) (hd8 : ∀ W, d W < 8) (hd : Da 30 d h) (hu : Ro 31 (Tr K d (64 * i + 8 * r)) h) : ∃ h1, fX6_sends_42 k24 k34 FU h (nI i) (nI r) 0 = k34 h1 (nI i) (nI (r + 1)) ∧ Ro 31 (Tr K d (64 * i + 8 * r + 8)) h1 ∧ Fx [31] [] h h1 := by
  have row : ∀ c, c < 8 → seG K d (64 * i + 8 * r + c) = rowG (seB d (i - 1)) (d (8 * i + r)) r c := fun c hc => by
    rw [Nat.add_assoc, seG_at hiK (by omega), seB_row d hi hr hc]
  have prev : ∀ p, p < 8 → seG K d (64 * (i - 1) + 8 * p + r) = seB d (i - 1) (8 * p + r) := fun p hp => by
    rw [Nat.add_assoc, seG_at (by omega) (by omega)]
  have hv := hd8 (8 * i + r)
  have hk16 := laF_lt (pv (seB d (i - 1)) (d (8 * i + r)) r) 11 (by decide)
  -- the last bit
  have l193 : ∀ h0 : AH, Ro 31 (Us K d (64 * i + 8 * r) 4) h0 → ∃ h1, fX6_sends_108b k24 k34 (fun _ _ _ _ _ => none) h0 (nI i) (nI r) (nI (laF (pv (seB d (i - 1)) (d (8 * i + r)) r) 11)) (nI 8) = k34 h1 (nI i) (nI (r + 1)) ∧ Ro 31 (Tr K d (64 * i + 8 * r + 8)) h1 ∧ Fx [31] [] h0 h1 := by
    intro h0 hu0
    unfold fX6_sends_108b
    rw [if_pos (show (8 : Int32) ≤ nI 8 by decide), r_onesOf rfl hu0 hi (by omega) hr, bR_s, rem2 (Nat.lt_of_le_of_lt (onN_le _ _) (by decide))]
    have eo : onN (Us K d (64 * i + 8 * r) 4) (8 * i + r) 16 = cnt (fun c => (d (8 * i + r) + 16 * laF (pv (seB d (i - 1)) (d (8 * i + r)) r) 11).testBit c) 8 + cnt (fun p => seB d (i - 1) (8 * p + r)) 8 := by
      rw [onN_split, Nat.add_comm, show (8 * i + r) / 8 = i by omega, show (8 * i + r) % 8 = r by omega]
      congr 1
      · refine cnt_cong (fun c hc => ?_)
        show Us K d (64 * i + 8 * r) 4 (8 * (8 * i + r) + c) = _
        unfold Us
        rw [show 8 * (8 * i + r) + c = 64 * i + 8 * r + c by omega, decide_eq_true (by omega), Bool.true_and, row c hc, sr4 _ hv _ hk16 c hc]
        unfold rowG
        by_cases q1 : c < 3
        · rw [if_pos q1, if_pos q1, decide_eq_true (by omega), Bool.true_and]
        · rw [if_neg q1, if_neg q1]
          by_cases q2 : c = 3
          · rw [if_pos q2, if_pos q2, decide_eq_false (by omega), Bool.false_and]
          · rw [if_neg q2, if_neg q2, decide_eq_true (by omega), Bool.true_and]
      · refine cnt_cong (fun p hp => ?_)
        show Us K d (64 * i + 8 * r) 4 (64 * (i - 1) + 8 * p + r) = _
        unfold Us
        rw [decide_eq_true (by omega), decide_eq_true (by omega), Bool.true_and, Bool.true_and, prev p hp]
    rw [eo]
    obtain ⟨e, he⟩ : ∃ e, e = (cnt (fun c => (d (8 * i + r) + 16 * laF (pv (seB d (i - 1)) (d (8 * i + r)) r) 11).testBit c) 8 + cnt (fun p => seB d (i - 1) (8 * p + r)) 8) % 2 := ⟨_, rfl⟩
    have r3 : seG K d (64 * i + 8 * r + 3) = (e == 1) := by
      rw [row 3 (by decide), he]
      unfold rowG
      rw [if_neg (by decide), if_pos rfl]
    rw [← he]
    have ce : nI e = 1 ↔ (e == 1) = true := by
      rw [show (1 : Int32) = nI 1 from rfl, nI_eq (by omega) (by decide)]
      simp
    rw [b2if (e == 1) (nI e) ce (fun z => fX6_sends_193 k24 k34 h0 (nI i) (nI r) (((64 * nI i) + (8 * nI r)) + 3) z)]
    unfold fX6_sends_193
    simp only [nm_eq]
    rw [m64, m8, nI_add, show nI (64 * i + 8 * r) + 3 = nI (64 * i + 8 * r + 3) from nI_add _ 3, ck_in (show 64 * i + 8 * r + 3 < 448 by omega) (by decide), nI_clamp (by omega), vn_b, nI_1]
    refine ⟨_, rfl, Ro_set hu0 ?_ ?_, Fx.sI⟩
    · unfold Tr
      rw [decide_eq_true (by omega), Bool.true_and, r3]
    · intro b hb
      unfold Tr Us
      rw [decide_eq_true hb, Bool.true_and]
  -- columns 4 to 7
  have l108 : ∀ h0 : AH, Ro 31 (Us K d (64 * i + 8 * r) 0) h0 → ∃ h1, fX6_sends_108 k24 k34 FU h0 (nI i) (nI r) (nI (laF (pv (seB d (i - 1)) (d (8 * i + r)) r) 11)) 4 = k34 h1 (nI i) (nI (r + 1)) ∧ Ro 31 (Tr K d (64 * i + 8 * r + 8)) h1 ∧ Fx [31] [] h0 h1 := by
    intro h0 hu0
    refine linv (fun n (s : AH × Int32) => fX6_sends_108 k24 k34 n s.1 (nI i) (nI r) (nI (laF (pv (seB d (i - 1)) (d (8 * i + r)) r) 11)) s.2) (fun c s => s.2 = nI (4 + c) ∧ Ro 31 (Us K d (64 * i + 8 * r) c) s.1 ∧ Fx [31] [] h0 s.1) 4 (fun o => ∃ h1, o = k34 h1 (nI i) (nI (r + 1)) ∧ Ro 31 (Tr K d (64 * i + 8 * r + 8)) h1 ∧ Fx [31] [] h0 h1) ?_ ?_ 4 0 FU (h0, 4) rfl (FU_lt (by decide)) ⟨rfl, hu0, Fx.rf _ _ _⟩
    · intro n c s hc hI
      obtain ⟨s1, s2⟩ := s
      obtain ⟨i1, i2, i3⟩ := hI
      simp only at i1 i2 i3
      subst i1
      have rc : seG K d (64 * i + 8 * r + (4 + c)) = (laF (pv (seB d (i - 1)) (d (8 * i + r)) r) 11).testBit c := by
        rw [row (4 + c) (by omega)]
        unfold rowG
        rw [if_neg (by omega), if_neg (by omega), show 4 + c - 4 = c by omega]
      refine ⟨(sI s1 31 (64 * i + 8 * r + (4 + c)) (b2i ((laF (pv (seB d (i - 1)) (d (8 * i + r)) r) 11).testBit c)), nI (4 + (c + 1))), ⟨rfl, Ro_set i2 ?_ ?_, Fx.tr i3 Fx.sI⟩, ?_⟩
      · unfold Us
        rw [decide_eq_true (by omega), decide_eq_true (by omega), Bool.true_and, Bool.true_and, rc]
      · intro b hb
        unfold Us
        by_cases q : b < 64 * i + 8 * r + 4 + c
        · rw [decide_eq_true q, decide_eq_true (show b < 64 * i + 8 * r + 4 + (c + 1) by omega)]
        · rw [decide_eq_false q, decide_eq_false (show ¬ b < 64 * i + 8 * r + 4 + (c + 1) by omega)]
      · show fX6_sends_108b k24 k34 (fX6_sends_108 k24 k34 n) s1 (nI i) (nI r) (nI (laF (pv (seB d (i - 1)) (d (8 * i + r)) r) 11)) (nI (4 + c)) = _
        unfold fX6_sends_108b
        have s4 : nI (4 + c) - 4 = nI c := by
          have := pk_sub (a := 4 + c) (b := 4) (by omega)
          rw [show 4 + c - 4 = c by omega] at this
          exact this
        rw [if_neg (show ¬ (8 : Int32) ≤ nI (4 + c) from nI_ge (b := 8) (by omega) (by decide)), s4]
        rw [b2if ((laF (pv (seB d (i - 1)) (d (8 * i + r)) r) 11).testBit c) _ (sr1 _ hk16 c hc).2 (fun z => fX6_sends_148 k24 k34 (fX6_sends_108 k24 k34 n) s1 (nI i) (nI r) (nI (laF (pv (seB d (i - 1)) (d (8 * i + r)) r) 11)) (nI (4 + c)) (((64 * nI i) + (8 * nI r)) + nI (4 + c)) z)]
        unfold fX6_sends_148
        simp only [nm_eq]
        rw [m64, m8, nI_add, nI_add, ck_in (show 64 * i + 8 * r + (4 + c) < 448 by omega) (by decide), nI_clamp (by omega), vn_b, nI_1]
        rfl
    · intro n s hI
      obtain ⟨s1, s2⟩ := s
      obtain ⟨i1, i2, i3⟩ := hI
      simp only at i1 i2 i3
      subst i1
      obtain ⟨h1, e1, e2, e3⟩ := l193 s1 i2
      refine ⟨h1, ?_, e2, Fx.tr i3 e3⟩
      rw [← e1]
      rfl
  -- data
  refine linv (fun n (s : AH × Int32) => fX6_sends_42 k24 k34 n s.1 (nI i) (nI r) s.2) (fun c s => s.2 = nI c ∧ Ro 31 (Tr K d (64 * i + 8 * r + c)) s.1 ∧ Fx [31] [] h s.1) 3 (fun o => ∃ h1, o = k34 h1 (nI i) (nI (r + 1)) ∧ Ro 31 (Tr K d (64 * i + 8 * r + 8)) h1 ∧ Fx [31] [] h h1) ?_ ?_ 3 0 FU (h, 0) rfl (FU_lt (by decide)) ⟨rfl, hu, Fx.rf _ _ _⟩
  · intro n c s hc hI
    obtain ⟨s1, s2⟩ := s
    obtain ⟨i1, i2, i3⟩ := hI
    simp only at i1 i2 i3
    subst i1
    have rc : seG K d (64 * i + 8 * r + c) = (d (8 * i + r)).testBit c := by
      rw [row c (by omega)]
      unfold rowG
      rw [if_pos hc]
    refine ⟨(sI s1 31 (64 * i + 8 * r + c) (b2i ((d (8 * i + r)).testBit c)), nI (c + 1)), ⟨rfl, Ro_set i2 ?_ ?_, Fx.tr i3 Fx.sI⟩, ?_⟩
    · rw [← Nat.add_assoc, Tr_b, if_pos rfl, rc]
    · intro b hb
      rw [← Nat.add_assoc, Tr_b, if_neg hb]
    · show fX6_sends_42b k24 k34 (fX6_sends_42 k24 k34 n) s1 (nI i) (nI r) (nI c) = _
      unfold fX6_sends_42b
      simp only [nm_eq]
      have hd1 : s1.1 30 (8 * i + r) = nI (d (8 * i + r)) := by rw [i3.1 30 (by decide)]; exact hd _ (by omega)
      rw [if_neg (show ¬ (3 : Int32) ≤ nI c from nI_ge (b := 3) hc (by decide)), m8, nI_add, ck_in (show 8 * i + r < 56 by omega) (by decide), nI_clamp (by omega), hd1]
      rw [b2if ((d (8 * i + r)).testBit c) _ (sr1 _ (by omega) c (by omega)).2 (fun z => fX6_sends_86 k24 k34 (fX6_sends_42 k24 k34 n) s1 (nI i) (nI r) (nI c) (((64 * nI i) + (8 * nI r)) + nI c) z)]
      unfold fX6_sends_86
      simp only [nm_eq]
      rw [m64, m8, nI_add, nI_add, ck_in (show 64 * i + 8 * r + c < 448 by omega) (by decide), nI_clamp (by omega), vn_b, nI_1]
  · intro n s hI
    obtain ⟨s1, s2⟩ := s
    obtain ⟨i1, i2, i3⟩ := hI
    simp only at i1 i2 i3
    subst i1
    have hu0 : Ro 31 (Us K d (64 * i + 8 * r) 0) s1 := by
      intro a ha
      rw [i2 a ha]
      unfold Tr Us
      by_cases q : a < 64 * i + 8 * r + 3
      · rw [decide_eq_true q, decide_eq_true (by omega), decide_eq_true (by omega)]; rfl
      · rw [decide_eq_false q]
        by_cases q2 : a = 64 * i + 8 * r + 3
        · rw [decide_eq_false (show ¬ a ≠ 64 * i + 8 * r + 3 from fun z => z q2)]; simp
        · rw [decide_eq_false (show ¬ a < 64 * i + 8 * r + 4 + 0 by omega)]; rfl
    obtain ⟨h1, e1, e2, e3⟩ := l108 s1 hu0
    refine ⟨h1, ?_, e2, Fx.tr i3 e3⟩
    show fX6_sends_42b k24 k34 (fX6_sends_42 k24 k34 n) s1 (nI i) (nI r) (nI 3) = _
    unfold fX6_sends_42b
    have el : laN (Tr K d (64 * i + 8 * r + 3)) (8 * i + r) 11 = laF (pv (seB d (i - 1)) (d (8 * i + r)) r) 11 := by
      rw [laN_F]
      refine laF_cong 11 (fun p hp => ?_)
      unfold pv bA Tr
      by_cases q : p < 8
      · rw [if_pos q, if_pos q, show (8 * i + r) / 8 = i by omega, show (8 * i + r) % 8 = r by omega, decide_eq_true (by omega), Bool.true_and, prev p q]
      · rw [if_neg q, if_neg q, show 8 * (8 * i + r) + (p - 8) = 64 * i + 8 * r + (p - 8) by omega, decide_eq_true (by omega), Bool.true_and, row _ (by omega)]
        unfold rowG
        rw [if_pos (by omega)]
    have e11 := r_labelsOf (N := 11) rfl i2 hi (show i ≤ 6 by omega) hr (by decide)
    rw [el] at e11
    rw [if_pos (show (3 : Int32) ≤ nI 3 by decide), show (11 : Int32) = nI 11 from rfl, e11, bR_s]
    exact e1
theorem r_sends (hK : K ≤ 6) (hd8 : ∀ W, d W < 8) (hd : Da 30 d h) (hm : h.1 29 0 = nI K) : ∃ h1, fX6_sends h = some h1 ∧ Ro 31 (seG K d) h1 ∧ Fx [31] [] h h1 := by
  have l24 : ∀ h0 : AH, Da 30 d h0 → h0.1 29 0 = nI K → Ro 31 (Tr K d 64) h0 → ∃ h1, fX6_sends_24 FU h0 1 = some h1 ∧ Ro 31 (seG K d) h1 ∧ Fx [31] [] h0 h1 := by
    intro h0 hd0 hm0 hu0
    refine linv (fun n (s : AH × Int32) => fX6_sends_24 n s.1 s.2) (fun k s => s.2 = nI (k + 1) ∧ Ro 31 (Tr K d (64 * (k + 1))) s.1 ∧ Fx [31] [] h0 s.1) K (fun o => ∃ h1, o = some h1 ∧ Ro 31 (seG K d) h1 ∧ Fx [31] [] h0 h1) ?_ ?_ K 0 FU (h0, 1) (Nat.zero_add K) (FU_lt (by omega)) ⟨rfl, hu0, Fx.rf _ _ _⟩
    · intro n k s hk hI
      obtain ⟨s1, s2⟩ := s
      obtain ⟨i1, i2, i3⟩ := hI
      simp only at i1 i2 i3
      subst i1
      show ∃ s', _ ∧ fX6_sends_24b (fX6_sends_24 n) s1 (nI (k + 1)) = _
      unfold fX6_sends_24b
      rw [i3.1 29 (by decide), hm0, if_neg (nI_nlt (by omega) (by omega))]
      refine linv (fun f (u : AH × Int32) => fX6_sends_34 (fX6_sends_24 n) f u.1 (nI (k + 1)) u.2) (fun r u => u.2 = nI r ∧ Ro 31 (Tr K d (64 * (k + 1) + 8 * r)) u.1 ∧ Fx [31] [] h0 u.1) 8 (fun o => ∃ s' : AH × Int32, (s'.2 = nI (k + 1 + 1) ∧ Ro 31 (Tr K d (64 * (k + 1 + 1))) s'.1 ∧ Fx [31] [] h0 s'.1) ∧ o = fX6_sends_24 n s'.1 s'.2) ?_ ?_ 8 0 FU (s1, 0) rfl (FU_lt (by decide)) ⟨rfl, i2, i3⟩
      · intro f r u hr hJ
        obtain ⟨u1, u2⟩ := u
        obtain ⟨j1, j2, j3⟩ := hJ
        simp only at j1 j2 j3
        subst j1
        obtain ⟨h1, e1, e2, e3⟩ := r_rowS (h := u1) (i := k + 1) (r := r) (k24 := fX6_sends_24 n) (k34 := fX6_sends_34 (fX6_sends_24 n) f) (by omega) (by omega) hK hr hd8 (Da.fx j3 hd0 (by decide)) j2
        refine ⟨(h1, nI (r + 1)), ⟨rfl, by rw [show 64 * (k + 1) + 8 * (r + 1) = 64 * (k + 1) + 8 * r + 8 by omega]; exact e2, Fx.tr j3 e3⟩, ?_⟩
        show fX6_sends_34b (fX6_sends_24 n) (fX6_sends_34 (fX6_sends_24 n) f) u1 (nI (k + 1)) (nI r) = _
        unfold fX6_sends_34b
        rw [if_neg (show ¬ (8 : Int32) ≤ nI r from nI_ge (b := 8) hr (by decide)), e1]
      · intro f u hJ
        obtain ⟨u1, u2⟩ := u
        obtain ⟨j1, j2, j3⟩ := hJ
        simp only at j1 j2 j3
        subst j1
        refine ⟨(u1, nI (k + 1 + 1)), ⟨rfl, by rw [show 64 * (k + 1 + 1) = 64 * (k + 1) + 8 * 8 by omega]; exact j2, j3⟩, ?_⟩
        show fX6_sends_34b (fX6_sends_24 n) _ u1 (nI (k + 1)) (nI 8) = _
        unfold fX6_sends_34b
        rw [if_pos (show (8 : Int32) ≤ nI 8 by decide), nm_eq, nI_1]
    · intro n s hI
      obtain ⟨s1, s2⟩ := s
      obtain ⟨i1, i2, i3⟩ := hI
      simp only at i1 i2 i3
      subst i1
      refine ⟨s1, ?_, fun a ha => ?_, i3⟩
      · show fX6_sends_24b _ s1 (nI (K + 1)) = _
        unfold fX6_sends_24b
        rw [i3.1 29 (by decide), hm0, if_pos (nI_lt (by omega) (by omega))]
      · rw [i2 a ha]
        unfold Tr
        by_cases q : a < 64 * (K + 1)
        · rw [decide_eq_true q, Bool.true_and]
        · rw [decide_eq_false q, seG_out (by omega)]; rfl
  unfold fX6_sends
  refine linv (fun n (s : AH × Int32) => fX6_sends_2 n s.1 s.2) (fun k s => s.2 = nI k ∧ (∀ a, a < k → s.1.1 31 a = 0) ∧ Fx [31] [] h s.1) 448 (fun o => ∃ h1, o = some h1 ∧ Ro 31 (seG K d) h1 ∧ Fx [31] [] h h1) ?_ ?_ 448 0 FU (h, 0) rfl (FU_lt (by decide)) ⟨rfl, fun a ha => absurd ha (Nat.not_lt_zero a), Fx.rf _ _ _⟩
  · intro n k s hk hI
    obtain ⟨s1, s2⟩ := s
    obtain ⟨i1, i2, i3⟩ := hI
    simp only at i1 i2 i3
    subst i1
    refine ⟨(sI s1 31 k 0, nI (k + 1)), ⟨rfl, fun a ha => ?_, Fx.tr i3 Fx.sI⟩, ?_⟩
    · show (sI s1 31 k 0).1 31 a = 0
      rw [sI_u]
      unfold upd
      by_cases e : a = k
      · rw [if_pos e]
      · rw [if_neg e]; exact i2 a (by omega)
    · show fX6_sends_2b (fX6_sends_2 n) s1 (nI k) = _
      unfold fX6_sends_2b
      simp only [nm_eq]
      rw [if_neg (show ¬ (448 : Int32) ≤ nI k from nI_ge (b := 448) hk (by decide)), ck_in hk (by decide), nI_clamp (by omega), nI_1, nz0]
  · intro n s hI
    obtain ⟨s1, s2⟩ := s
    obtain ⟨i1, i2, i3⟩ := hI
    simp only at i1 i2 i3
    subst i1
    obtain ⟨h1, e1, e2, e3⟩ := l24 s1 (Da.fx i3 hd (by decide)) (by rw [i3.1 29 (by decide)]; exact hm) (fun a ha => by
      rw [i2 a ha]
      unfold Tr
      by_cases q : a < 64
      · rw [seG_0 q, Bool.and_false]; rfl
      · rw [decide_eq_false q]; rfl)
    refine ⟨h1, ?_, e2, Fx.tr i3 e3⟩
    show fX6_sends_2b _ s1 (nI 448) = _
    unfold fX6_sends_2b
    rw [if_pos (show (448 : Int32) ≤ nI 448 by decide)]
    exact e1
end SE
