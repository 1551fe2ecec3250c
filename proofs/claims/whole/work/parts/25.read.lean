/-! PURE: bits, rows, blocks and words told -/
section RD
variable {K rl : Nat} {d : Nat → Nat} {se w g w' g' : Nat → Bool} {j j' : List Nat} {T : Sht} {fi : Int32} {h h1 h2 : AH}
def rowN (f : Nat → Bool) : Nat → Nat
  | 0 => 0
  | n + 1 => rowN f n ||| (if f n then 2 ^ n else 0)
theorem rowN_lt (f : Nat → Bool) : ∀ n, rowN f n < 2 ^ n := by
  intro n
  induction n with
  | zero => show 0 < 1; decide
  | succ n ih =>
    show rowN f n ||| _ < 2 ^ (n + 1)
    apply Nat.or_lt_two_pow
    · exact Nat.lt_of_lt_of_le ih (Nat.pow_le_pow_right (by decide) (by omega))
    · by_cases hf : f n = true
      · rw [if_pos hf]; exact Nat.pow_lt_pow_right (by decide) (by omega)
      · rw [if_neg hf]; exact Nat.two_pow_pos _
theorem rowN_bit (f : Nat → Bool) : ∀ n i, (rowN f n).testBit i = (decide (i < n) && f i) := by
  intro n
  induction n with
  | zero => intro i; show (0 : Nat).testBit i = _; rw [Nat.zero_testBit]; simp
  | succ n ih =>
    intro i
    show (rowN f n ||| _).testBit i = _
    rw [Nat.testBit_or, ih]
    by_cases hi : i = n
    · subst hi
      by_cases hf : f i = true
      · rw [if_pos hf, Nat.testBit_two_pow_self, hf]; simp
      · rw [if_neg hf, Nat.zero_testBit]; simp [hf]
    · have hz : (if f n then 2 ^ n else 0).testBit i = false := by
        by_cases hf : f n = true
        · rw [if_pos hf, Nat.testBit_two_pow_of_ne (by omega)]
        · rw [if_neg hf, Nat.zero_testBit]
      rw [hz, Bool.or_false]
      by_cases hl : i < n
      · rw [decide_eq_true hl, decide_eq_true (by omega)]
      · rw [decide_eq_false hl, decide_eq_false (by omega)]
theorem or_bit : ∀ c, c < 8 → ∀ m, m < 256 → nI m ||| ((1 : Int32) <<< (nI c &&& 31)) = nI (m ||| 2 ^ c) := by decide +kernel
theorem or_bit0 : ∀ c, c < 8 → (0 : Int32) <<< (nI c &&& 31) = 0 := by decide +kernel
theorem rowN_step (f : Nat → Bool) {c : Nat} (hc : c < 8) : nI (rowN f c) ||| (b2i (f c) <<< (nI c &&& 31)) = nI (rowN f (c + 1)) := by
  show _ = nI (rowN f c ||| (if f c then 2 ^ c else 0))
  have hl : rowN f c < 256 := Nat.lt_of_lt_of_le (rowN_lt f c) (Nat.pow_le_pow_right (n := 2) (by decide) (show c ≤ 8 by omega))
  cases f c
  · show nI (rowN f c) ||| ((0 : Int32) <<< (nI c &&& 31)) = nI (rowN f c ||| 0)
    rw [or_bit0 c hc, Int32.or_zero, Nat.or_zero]
  · exact or_bit c hc _ hl
/-- a row of a long, by its bits -/
theorem row_eq (x : Int64) {r : Nat} {f : Nat → Bool} (hf : ∀ c, c < 8 → x.toBitVec.getLsbD (8 * r + c) = f c) : x.toBitVec.toNat / 2 ^ (8 * r) % 256 = rowN f 8 := by
  apply Nat.eq_of_testBit_eq
  intro i
  rw [rowN_bit]
  by_cases hi : i < 8
  · rw [row_bit x r i hi, hf i hi, decide_eq_true hi, Bool.true_and]
  · rw [decide_eq_false hi, Bool.false_and]
    apply Nat.testBit_lt_two_pow
    exact Nat.lt_of_lt_of_le (Nat.mod_lt _ (by decide)) (Nat.pow_le_pow_right (n := 2) (by decide) (show 8 ≤ i by omega))
theorem g_rowOf (h : AH) (x : Int64) {r : Nat} (hr : r < 8) {f : Nat → Bool} (hf : ∀ c, c < 8 → x.toBitVec.getLsbD (8 * r + c) = f c) : fX5_rowOf h x (nI r) = some (nI (rowN f 8)) := by
  unfold fX5_rowOf
  rw [m8, getRow x hr, row_eq x hf]
theorem g_bitOf (h : AH) (x : Int64) {p : Nat} (hp : p < 64) : fX5_bitOf h x (nI p) = some (b2i (x.toBitVec.getLsbD p)) := by
  unfold fX5_bitOf
  rw [getBit x hp]
theorem b2i_inj (x y : Bool) : b2i x = b2i y ↔ x = y := by cases x <;> cases y <;> simp [b2i]
/-- what is there now -/
def nw (se w : Nat → Bool) (a : Nat) : Bool := se a ^^ w a
theorem g_now {i : Nat} (hi : i < 7) (hS : St 1 K w h) (hs : Lb 9 se h) : ∃ x, fX5_now h (nI i) = some x ∧ ∀ t, t < 64 → x.toBitVec.getLsbD t = nw se w (64 * i + t) := by
  unfold fX5_now
  rw [ck_in hi (by decide), ck_in hi (by decide), nI_clamp (by omega)]
  refine ⟨_, rfl, fun t ht => ?_⟩
  rw [L_xor, hs i hi t ht, show (h.2 2 i).toBitVec.getLsbD t = w (64 * i + t) from hS.2.1 i hi t ht]
  rfl
theorem c_times {a : Nat} (hJ : CJ j h) (ha : a < 448) (hj : ∀ b, b ∈ j → b < 448) : fX0_timesOf h (nI a) = some (nI (cnt (fun k => decide (j.getD k 0 = a)) j.length)) := by
  have hJ0 := hJ
  obtain ⟨o, ho, e1, e2, hl, e3⟩ := hJ
  unfold fX0_timesOf
  refine lup (fun n (s : Int32 × Int32) => fX0_timesOf_4 h (nI a) n s.1 s.2) (fun k => (nI (cnt (fun k => decide (j.getD k 0 = a)) k), nI k)) j.length ?_ ?_ 0 FU (by omega) (FU_lt (by omega))
  · intro n k hk
    show fX0_timesOf_4b (fX0_timesOf_4 h (nI a) n) h (nI a) (nI _) (nI k) = fX0_timesOf_4 h (nI a) n (nI (cnt (fun k => decide (j.getD k 0 = a)) k + (if decide (j.getD k 0 = a) then 1 else 0))) (nI (k + 1))
    unfold fX0_timesOf_4b fX0_timesOf_24
    simp only [nm_eq]
    have hb := hj _ (jd_mem hk)
    have ce : nI (j.getD k 0) = nI a ↔ j.getD k 0 = a := nI_eq (by omega) (by omega)
    rw [e2, if_neg (nI_ge hk (by omega)), c_bitOfMend hJ0 hk, bR_s]
    by_cases hq : j.getD k 0 = a
    · rw [if_pos (ce.mpr hq), decide_eq_true hq, nI_1, nI_1, if_pos rfl]
    · rw [if_neg (fun q => hq (ce.mp q)), decide_eq_false hq, nI_1]
      rfl
  · intro n
    show fX0_timesOf_4b _ h (nI a) _ (nI j.length) = _
    unfold fX0_timesOf_4b
    rw [e2, if_pos (nI_le (Nat.le_refl _) (by omega))]
theorem r_times {a : Nat} (hJ : MJ j h) (ha : a < 448) (hj : ∀ b, b ∈ j → b < 448) : fX6_timesMended h (nI a) = some (nI (cnt (fun k => decide (j.getD k 0 = a)) j.length)) := by
  obtain ⟨e2, hl, e3⟩ := hJ
  unfold fX6_timesMended
  refine lup (fun n (s : Int32 × Int32) => fX6_timesMended_4 h (nI a) n s.1 s.2) (fun k => (nI (cnt (fun k => decide (j.getD k 0 = a)) k), nI k)) j.length ?_ ?_ 0 FU (by omega) (FU_lt (by omega))
  · intro n k hk
    show fX6_timesMended_4b (fX6_timesMended_4 h (nI a) n) h (nI a) (nI _) (nI k) = fX6_timesMended_4 h (nI a) n (nI (cnt (fun k => decide (j.getD k 0 = a)) k + (if decide (j.getD k 0 = a) then 1 else 0))) (nI (k + 1))
    unfold fX6_timesMended_4b fX6_timesMended_28
    simp only [nm_eq]
    have hb := hj _ (jd_mem hk)
    have ce : nI (j.getD k 0) = nI a ↔ j.getD k 0 = a := nI_eq (by omega) (by omega)
    rw [e2, if_neg (nI_ge hk (by omega)), ck_in (show k < 60 by omega) (by decide), nI_clamp (by omega), e3 k hk]
    by_cases hq : j.getD k 0 = a
    · rw [if_pos (ce.mpr hq), decide_eq_true hq, nI_1, nI_1, if_pos rfl]
    · rw [if_neg (fun q => hq (ce.mp q)), decide_eq_false hq, nI_1]
      congr 1
      exact Int32.add_zero _
  · intro n
    show fX6_timesMended_4b _ h (nI a) _ (nI j.length) = _
    unfold fX6_timesMended_4b
    rw [e2, if_pos (nI_le (Nat.le_refl _) (by omega))]
theorem r_bitOf0 {a : Nat} (hs : Ro 31 se h) (hw : Ro 32 w h) (ha : a < 448) : fX6_bitOf h (nI a) 0 = some (b2i (nw se w a)) := by
  unfold fX6_bitOf
  rw [if_pos rfl, ck_in ha (by decide), ck_in ha (by decide), nI_clamp (by omega), hs a ha, hw a ha]
  unfold nw
  cases se a <;> cases w a <;> rfl
theorem r_bitOf1 {a : Nat} (hs : Ro 31 se h) (ha : a < 448) : fX6_bitOf h (nI a) 1 = some (b2i (se a)) := by
  unfold fX6_bitOf
  rw [if_neg (by decide), if_pos rfl, ck_in ha (by decide), nI_clamp (by omega), hs a ha]
  cases se a <;> rfl
theorem o_bit (B : Bo h) (x y z v : Int32) : Oq (fun h => fX5_bit h x y z v) (fun h => fX6_bit h x y z v) h := by
  obtain ⟨K, rl, d, se, w, g, j, T, fi, hI, hC, hM⟩ := B
  have hK := hI.2.1
  have c0 : fX5_isBit h x y z = _ := g_isBit hC.1.1 hK x y z
  have c1 : fX6_isBit h x y z = _ := m_isBit hM.1.2.2.1 hK x y z
  have c2 : fX6_in h v 0 4 = _ := r_in h v (a := 0) (b := 4) (by decide) (by decide)
  cases hr : (rg x 1 K && rg y 0 7 && rg z 0 7)
  · rw [hr] at c0 c1
    refine ⟨-2, ?_, ?_⟩
    · show fX5_bit h x y z v = _
      unfold fX5_bit
      rw [c0, bR_s, if_pos b2f]
    · show fX6_bit h x y z v = _
      unfold fX6_bit
      rw [c1, bR_s, if_pos b2f]
  · rw [hr] at c0 c1
    simp only [Bool.and_eq_true] at hr
    obtain ⟨⟨hx, hy⟩, hz⟩ := hr
    obtain ⟨i, i1, i2, rfl⟩ := rg_n (by omega) hx
    obtain ⟨r, r1, r2, rfl⟩ := rg_n (by omega) hy
    obtain ⟨c, cc1, cc2, rfl⟩ := rg_n (by omega) hz
    have ea : (64 : Int32) * nI i + 8 * nI r + nI c = nI (64 * i + 8 * r + c) := by rw [m64, m8, nI_add, nI_add]
    have eb : (8 : Int32) * nI r + nI c = nI (8 * r + c) := by rw [m8, nI_add]
    have hi7 : i < 7 := by omega
    have hp : 8 * r + c < 64 := by omega
    have ha : 64 * i + 8 * r + c < 448 := by omega
    show ∃ v', fX5_bit h (nI i) (nI r) (nI c) v = some v' ∧ fX6_bit h (nI i) (nI r) (nI c) v = some v'
    unfold fX5_bit fX6_bit
    rw [c0, bR_s, if_neg b2t, nm_eq, eb, c1, bR_s, if_neg b2t, c2, bR_s, ea]
    have hj448 : ∀ b, b ∈ j → b < 448 := fun b hb => by have := (hI.2.2.2.2.2.2.1 b hb).2; omega
    cases hv : rg v 0 4
    · have nv : ∀ n, n ≤ 4 → v ≠ nI n := fun n hn e => by rw [e, rg_t (by omega) (by omega) hn] at hv; cases hv
      refine ⟨-2, ?_, by rw [if_pos b2f]⟩
      rw [if_neg (show ¬ v = 0 from nv 0 (by decide)), if_neg (show ¬ v = 1 from nv 1 (by decide)), if_neg (show ¬ v = 2 from nv 2 (by decide)), if_neg (show ¬ v = 3 from nv 3 (by decide)), if_neg (show ¬ v = 4 from nv 4 (by decide))]
    · obtain ⟨n, n1, n2, rfl⟩ := rg_n (by omega) hv
      rw [if_neg b2t]
      rcases (show n = 0 ∨ n = 1 ∨ n = 2 ∨ n = 3 ∨ n = 4 by omega) with rfl | rfl | rfl | rfl | rfl
      · obtain ⟨q, q1, q2⟩ := g_now hi7 hC.1 hC.2.2.1
        refine ⟨b2i (nw se w (64 * i + 8 * r + c)), ?_, ?_⟩
        · rw [if_pos (show nI 0 = 0 from rfl), q1, bR_s, g_bitOf h q hp, bR_s, q2 _ hp, ← Nat.add_assoc]
        · rw [show nI 0 = 0 from rfl, r_bitOf0 hM.2.2.1 hM.1.1 ha, bR_s]
      · refine ⟨b2i (se (64 * i + 8 * r + c)), ?_, ?_⟩
        · rw [if_neg (by decide), if_pos (show nI 1 = 1 from rfl), ck_in hi7 (by decide), nI_clamp (by omega), g_bitOf h _ hp, bR_s, hC.2.2.1 i hi7 _ hp, ← Nat.add_assoc]
        · rw [show nI 1 = 1 from rfl, r_bitOf1 hM.2.2.1 ha, bR_s]
      · refine ⟨b2i (w (64 * i + 8 * r + c)), ?_, ?_⟩
        · rw [if_neg (by decide), if_neg (by decide), if_pos (show nI 2 = 2 from rfl), ck_in hi7 (by decide), nI_clamp (by omega), g_bitOf h _ hp, bR_s, show (h.2 2 i).toBitVec.getLsbD (8 * r + c) = w (64 * i + (8 * r + c)) from hC.1.2.1 i hi7 _ hp, ← Nat.add_assoc]
        · unfold fX6_bitOf
          rw [if_neg (by decide), if_neg (by decide), if_pos (show nI 2 = 2 from rfl), ck_in ha (by decide), nI_clamp (by omega), hM.1.1 _ ha]
          cases w (64 * i + 8 * r + c) <;> rfl
      · refine ⟨b2i (g (64 * i + 8 * r + c)), ?_, ?_⟩
        · rw [if_neg (by decide), if_neg (by decide), if_neg (by decide), if_pos (show nI 3 = 3 from rfl), ck_in hi7 (by decide), nI_clamp (by omega), g_bitOf h _ hp, bR_s, hC.2.2.2.1 i hi7 _ hp, ← Nat.add_assoc]
        · unfold fX6_bitOf
          rw [if_neg (by decide), if_neg (by decide), if_neg (by decide), if_pos (show nI 3 = 3 from rfl), ck_in ha (by decide), nI_clamp (by omega), hM.2.2.2.1 _ ha]
          cases g (64 * i + 8 * r + c) <;> rfl
      · refine ⟨nI (cnt (fun k => decide (j.getD k 0 = 64 * i + 8 * r + c)) j.length), ?_, ?_⟩
        · unfold fX5_bitNumber
          rw [if_neg (by decide), if_neg (by decide), if_neg (by decide), if_neg (by decide), if_pos (show nI 4 = 4 from rfl), bR_s, ea, c_times hC.2.2.2.2.1 ha hj448, bR_s]
        · unfold fX6_bitOf
          rw [if_neg (by decide), if_neg (by decide), if_neg (by decide), if_neg (by decide), r_times hM.1.2.1 ha hj448, bR_s]
          rfl
/-! rows -/
theorem r_rowloop {i r N wh : Nat} {bt : Int32} {f : Nat → Bool} (hN : N ≤ 8) (hb : ∀ c, c < 8 → fX6_bitOf h (nI (64 * i + 8 * r + c)) bt = some (b2i (f c)))
    (hwh : wh < 3) (h1 : (if nI wh = 2 then (3 : Int32) else 8) = nI N) (h2 : (if nI wh = 1 then (1 : Int32) else 0) = bt) : fX6_rowOf h (nI i) (nI r) (nI wh) = some (nI (rowN f N)) := by
  have s6 : ∀ k6 x4 x5, fX6_rowOf_6b k6 h (nI i) (nI r) (nI wh) x4 x5 = fX6_rowOf_19 k6 h (nI i) (nI r) (nI wh) x4 x5 x5 (nI N) := by
    intro k6 x4 x5
    unfold fX6_rowOf_6b
    rw [← h1]
    by_cases q : nI wh = 2
    · rw [if_pos q, if_pos q]
    · rw [if_neg q, if_neg q]
  have s19 : ∀ k6 x4 x5, fX6_rowOf_19 k6 h (nI i) (nI r) (nI wh) x4 x5 x5 (nI N) = if nI N ≤ x5 then (if nI wh = 3 then (nm ((8 * nI i) + nI r) fun v1 => ck (inb v1 56) <| some (h.1 30 v1.toNatClampNeg)) else some x4) else fX6_rowOf_47 k6 h (nI i) (nI r) (nI wh) x5 x4 (((64 * nI i) + (8 * nI r)) + x5) bt := by
    intro k6 x4 x5
    unfold fX6_rowOf_19
    rw [← h2]
    by_cases q : nI wh = 1
    · rw [if_pos q, if_pos q]
    · rw [if_neg q, if_neg q]
  unfold fX6_rowOf
  refine lup (fun n (s : Int32 × Int32) => fX6_rowOf_6 h (nI i) (nI r) (nI wh) n s.1 s.2) (fun k => (nI (rowN f k), nI k)) N ?_ ?_ 0 FU (by omega) (FU_lt (by omega))
  · intro n k hk
    show fX6_rowOf_6b (fX6_rowOf_6 h (nI i) (nI r) (nI wh) n) h (nI i) (nI r) (nI wh) (nI (rowN f k)) (nI k) = fX6_rowOf_6 h (nI i) (nI r) (nI wh) n (nI (rowN f (k + 1))) (nI (k + 1))
    rw [s6, s19, if_neg (nI_ge hk (by omega))]
    unfold fX6_rowOf_47
    simp only [nm_eq]
    rw [m64, m8, nI_add, nI_add, hb k (by omega), bR_s, rowN_step f (by omega), nI_1]
  · intro n
    show fX6_rowOf_6b _ h (nI i) (nI r) (nI wh) (nI (rowN f N)) (nI N) = _
    rw [s6, s19, if_pos (nI_le (Nat.le_refl N) (by omega)), if_neg (fun q => by have := (nI_eq (a := wh) (b := 3) (by omega) (by decide)).mp q; omega)]
/-- the reference's row 3: its data, after a loop of no use -/
theorem r_row3 {i r : Nat} (hi : 1 ≤ i) (hi6 : i ≤ 6) (hr : r < 8) (hs : Ro 31 se h) (hw : Ro 32 w h) (hd : Da 30 d h) : fX6_rowOf h (nI i) (nI r) 3 = some (nI (d (8 * i + r))) := by
  unfold fX6_rowOf
  refine lup (fun n (s : Int32 × Int32) => fX6_rowOf_6 h (nI i) (nI r) 3 n s.1 s.2) (fun k => (nI (rowN (fun c => nw se w (64 * i + 8 * r + c)) k), nI k)) 8 ?_ ?_ 0 FU (by omega) (FU_lt (by omega))
  · intro n k hk
    show fX6_rowOf_6b (fX6_rowOf_6 h (nI i) (nI r) 3 n) h (nI i) (nI r) 3 (nI (rowN _ k)) (nI k) = fX6_rowOf_6 h (nI i) (nI r) 3 n (nI (rowN _ (k + 1))) (nI (k + 1))
    unfold fX6_rowOf_6b fX6_rowOf_19 fX6_rowOf_47
    simp only [nm_eq]
    rw [if_neg (show ¬ (3 : Int32) = 2 by decide), if_neg (show ¬ (8 : Int32) ≤ nI k from nI_ge (b := 8) hk (by decide)), if_neg (show ¬ (3 : Int32) = 1 by decide), m64, m8, nI_add, nI_add, r_bitOf0 hs hw (by omega), bR_s, rowN_step (fun c => nw se w (64 * i + 8 * r + c)) hk, nI_1]
  · intro n
    show fX6_rowOf_6b _ h (nI i) (nI r) 3 (nI (rowN _ 8)) (nI 8) = _
    unfold fX6_rowOf_6b fX6_rowOf_19
    rw [if_neg (show ¬ (3 : Int32) = 2 by decide), if_pos (show (8 : Int32) ≤ nI 8 by decide), if_pos rfl, nm_eq, m8, nI_add, ck_in (show 8 * i + r < 56 by omega) (by decide), nI_clamp (by omega), hd _ (by omega)]
/-- row r of block i, by what -/
def rwV (d : Nat → Nat) (se w : Nat → Bool) (i r n : Nat) : Nat :=
  if n = 0 then rowN (fun c => nw se w (64 * i + 8 * r + c)) 8 else if n = 1 then rowN (fun c => se (64 * i + 8 * r + c)) 8 else if n = 2 then rowN (fun c => nw se w (64 * i + 8 * r + c)) 3 else d (8 * i + r)
theorem r_rowOf {i r n : Nat} (hi : 1 ≤ i) (hi6 : i ≤ 6) (hr : r < 8) (hn : n < 4) (hs : Ro 31 se h) (hw : Ro 32 w h) (hd : Da 30 d h) : fX6_rowOf h (nI i) (nI r) (nI n) = some (nI (rwV d se w i r n)) := by
  rcases (show n = 0 ∨ n = 1 ∨ n = 2 ∨ n = 3 by omega) with rfl | rfl | rfl | rfl
  · exact r_rowloop (wh := 0) (N := 8) (bt := 0) (Nat.le_refl 8) (fun c hc => r_bitOf0 hs hw (by omega)) (by decide) (by decide) (by decide)
  · exact r_rowloop (wh := 1) (N := 8) (bt := 1) (Nat.le_refl 8) (fun c hc => r_bitOf1 hs (by omega)) (by decide) (by decide) (by decide)
  · exact r_rowloop (wh := 2) (N := 3) (bt := 0) (by decide) (fun c hc => r_bitOf0 hs hw (by omega)) (by decide) (by decide) (by decide)
  · exact r_row3 hi hi6 hr hs hw hd
theorem row7 (f : Nat → Bool) : nI (rowN f 8) &&& 7 = nI (rowN f 3) := by
  have hl := rowN_lt f 8
  rw [and7 (by omega)]
  congr 1
  apply Nat.eq_of_testBit_eq
  intro i
  rw [rowN_bit, show (8 : Nat) = 2 ^ 3 from rfl, Nat.testBit_mod_two_pow, rowN_bit]
  by_cases hi : i < 3
  · rw [decide_eq_true hi, decide_eq_true (show i < 2 ^ 3 by omega)]; simp
  · rw [decide_eq_false hi]; simp
theorem g_row {i r n : Nat} (hi : 1 ≤ i) (hiK : i ≤ K) (hK : K ≤ 6) (hr : r < 8) (hn : n < 4) (hC : Cl K rl d se w g j T fi h) : fX5_row h (nI i) (nI r) (nI n) = some (nI (rwV d se w i r n)) := by
  unfold fX5_row
  rw [g_isWord hC.1.1 hK, rg_t (by omega) hi hiK, rg_t (by omega) (Nat.zero_le r) (by omega), bR_s, if_neg (show ¬ b2i (true && true) = 0 by decide)]
  obtain ⟨q, q1, q2⟩ := g_now (i := i) (by omega) hC.1 hC.2.2.1
  have qr : fX5_rowOf h q (nI r) = some (nI (rowN (fun c => nw se w (64 * i + 8 * r + c)) 8)) := g_rowOf h q hr (fun c hc => by rw [q2 _ (by omega), ← Nat.add_assoc])
  rcases (show n = 0 ∨ n = 1 ∨ n = 2 ∨ n = 3 by omega) with rfl | rfl | rfl | rfl
  · rw [if_pos (show nI 0 = 0 from rfl), q1, bR_s, qr, bR_s]; rfl
  · rw [if_neg (by decide), if_pos (show nI 1 = 1 from rfl), ck_in (show i < 7 by omega) (by decide), nI_clamp (by omega), g_rowOf h _ hr (fun c hc => by rw [hC.2.2.1 i (by omega) _ (by omega), ← Nat.add_assoc]), bR_s]; rfl
  · rw [if_neg (by decide), if_neg (by decide), if_pos (show nI 2 = 2 from rfl), q1, bR_s, qr, bR_s, row7]; rfl
  · rw [if_neg (by decide), if_neg (by decide), if_neg (by decide), if_pos (show nI 3 = 3 from rfl), nm_eq, m8, nI_add, ck_in (show 8 * i + r < 56 by omega) (by decide), nI_clamp (by omega), hC.2.1 _ (by omega)]; rfl
theorem o_row (B : Bo h) (x y v : Int32) : Oq (fun h => fX5_row h x y v) (fun h => fX6_row h x y v) h := by
  obtain ⟨K, rl, d, se, w, g, j, T, fi, hI, hC, hM⟩ := B
  have hK := hI.2.1
  have c0 : fX5_isWord h x y = _ := g_isWord hC.1.1 hK x y
  have c1 : fX6_isWord h x y = _ := m_isWord hM.1.2.2.1 hK x y
  have c2 : fX6_in h v 0 3 = _ := r_in h v (a := 0) (b := 3) (by decide) (by decide)
  cases hr : (rg x 1 K && rg y 0 7)
  · rw [hr] at c0 c1
    refine ⟨-2, ?_, ?_⟩
    · show fX5_row h x y v = _
      unfold fX5_row
      rw [c0, bR_s, if_pos b2f]
    · show fX6_row h x y v = _
      unfold fX6_row
      rw [c1, bR_s, if_pos b2f]
  · rw [hr] at c0 c1
    simp only [Bool.and_eq_true] at hr
    obtain ⟨hx, hy⟩ := hr
    obtain ⟨i, i1, i2, rfl⟩ := rg_n (by omega) hx
    obtain ⟨r, r1, r2, rfl⟩ := rg_n (by omega) hy
    cases hv : rg v 0 3
    · have nv : ∀ n, n ≤ 3 → v ≠ nI n := fun n hn e => by rw [e, rg_t (by omega) (by omega) hn] at hv; cases hv
      refine ⟨-2, ?_, ?_⟩
      · show fX5_row h (nI i) (nI r) v = _
        unfold fX5_row
        rw [c0, bR_s, if_neg b2t, if_neg (show ¬ v = 0 from nv 0 (by decide)), if_neg (show ¬ v = 1 from nv 1 (by decide)), if_neg (show ¬ v = 2 from nv 2 (by decide)), if_neg (show ¬ v = 3 from nv 3 (by decide))]
      · show fX6_row h (nI i) (nI r) v = _
        unfold fX6_row
        rw [c1, bR_s, if_neg b2t, c2, bR_s, hv, if_pos b2f]
    · obtain ⟨n, n1, n2, rfl⟩ := rg_n (by omega) hv
      refine ⟨nI (rwV d se w i r n), g_row i1 i2 hK (by omega) (by omega) hC, ?_⟩
      show fX6_row h (nI i) (nI r) (nI n) = _
      unfold fX6_row
      rw [c1, bR_s, if_neg b2t, c2, bR_s, hv, if_neg b2t, r_rowOf i1 (by omega) (by omega) (by omega) hM.2.2.1 hM.1.1 hM.2.1, bR_s]
/-! blocks -/
theorem L_ext {x y : Int64} (e : ∀ t, t < 64 → x.toBitVec.getLsbD t = y.toBitVec.getLsbD t) : x = y := Int64.toBitVec_inj.mp (BitVec.eq_of_getLsbD_eq (fun i hi => e i hi))
theorem L_or (x y : Int64) (t : Nat) : (x ||| y).toBitVec.getLsbD t = (x.toBitVec.getLsbD t || y.toBitVec.getLsbD t) := by
  show (x.toBitVec ||| y.toBitVec).getLsbD t = _
  rw [BitVec.getLsbD_or]
theorem L_and (x y : Int64) (t : Nat) : (x &&& y).toBitVec.getLsbD t = (x.toBitVec.getLsbD t && y.toBitVec.getLsbD t) := by
  show (x.toBitVec &&& y.toBitVec).getLsbD t = _
  rw [BitVec.getLsbD_and]
theorem shl1 (x : Int64) (t : Nat) : (x <<< ((1 : Int32).toInt64 &&& 63)).toBitVec.getLsbD t = (decide (t < 64) && (!decide (t < 1) && x.toBitVec.getLsbD (t - 1))) := by
  show (x.toBitVec <<< (((1 : Int32).toInt64 &&& 63).toBitVec.smod 64)).getLsbD t = _
  rw [BitVec.shiftLeft_eq', show (((1 : Int32).toInt64 &&& 63).toBitVec.smod 64).toNat = 1 from by decide, BitVec.getLsbD_shiftLeft]
  rw [Bool.and_assoc]
theorem b2L (b : Bool) (t : Nat) : ((b2i b).toInt64).toBitVec.getLsbD t = (decide (t = 0) && b) := by
  cases b
  · rw [show (b2i false).toInt64 = 0 from rfl, Bool.and_false]
    exact BitVec.getLsbD_zero
  · rw [show (b2i true).toInt64 = 1 from rfl, Bool.and_true]
    show (1#64).getLsbD t = _
    rw [BitVec.getLsbD_one]
    simp
theorem r_blockOf {i : Nat} (hi6 : i ≤ 6) (hs : Ro 31 se h) (hw : Ro 32 w h) : ∃ x, fX6_blockOf h (nI i) = some x ∧ ∀ t, t < 64 → x.toBitVec.getLsbD t = nw se w (64 * i + t) := by
  unfold fX6_blockOf
  refine linv (fun n (s : Int64 × Int32) => fX6_blockOf_6 h (nI i) n s.1 s.2) (fun k s => s.2 = dn (64 - k) ∧ ∀ t, t < 64 → s.1.toBitVec.getLsbD t = (decide (t < k) && nw se w (64 * i + (64 - k) + t))) 64 (fun o => ∃ x, o = some x ∧ ∀ t, t < 64 → x.toBitVec.getLsbD t = nw se w (64 * i + t)) ?_ ?_ 64 0 FU (0, 63) rfl (FU_lt (by decide)) ⟨rfl, fun t ht => by show (0#64).getLsbD t = _; simp⟩
  · intro n k s hk hiv
    obtain ⟨s1, s2⟩ := s
    obtain ⟨i1, i2⟩ := hiv
    simp only at i1 i2
    subst i1
    obtain ⟨m, hm⟩ : ∃ m, 64 - k = m + 1 := ⟨63 - k, by omega⟩
    refine ⟨((s1 <<< ((1 : Int32).toInt64 &&& 63)) ||| (b2i (nw se w (64 * i + m))).toInt64, dn (64 - (k + 1))), ⟨rfl, ?_⟩, ?_⟩
    · intro t ht
      show (((s1 <<< ((1 : Int32).toInt64 &&& 63)) ||| (b2i (nw se w (64 * i + m))).toInt64)).toBitVec.getLsbD t = _
      rw [L_or, shl1, b2L, decide_eq_true ht, Bool.true_and]
      rcases Nat.eq_zero_or_pos t with h0 | h0
      · subst h0
        rw [decide_eq_true (show 0 < k + 1 by omega), show 64 * i + (64 - (k + 1)) + 0 = 64 * i + m by omega]
        simp
      · rw [decide_eq_false (show ¬ t < 1 by omega), decide_eq_false (show ¬ t = 0 by omega), i2 (t - 1) (by omega), show 64 * i + (64 - k) + (t - 1) = 64 * i + (64 - (k + 1)) + t by omega]
        by_cases hl : t < k + 1
        · rw [decide_eq_true hl, decide_eq_true (show t - 1 < k by omega)]; simp
        · rw [decide_eq_false hl, decide_eq_false (show ¬ t - 1 < k by omega)]; simp
    · show fX6_blockOf_6b (fX6_blockOf_6 h (nI i) n) h (nI i) s1 (dn (64 - k)) = fX6_blockOf_6 h (nI i) n _ _
      unfold fX6_blockOf_6b
      simp only [nm_eq]
      rw [hm, dn_s, if_neg (nI_pos (by omega)), m64, nI_add, r_bitOf0 hs hw (by omega), bR_s, show 64 - (k + 1) = m by omega]
      rfl
  · intro n s hiv
    obtain ⟨s1, s2⟩ := s
    obtain ⟨i1, i2⟩ := hiv
    simp only at i1 i2
    subst i1
    refine ⟨s1, ?_, fun t ht => ?_⟩
    · show fX6_blockOf_6b _ h (nI i) s1 (dn 0) = _
      unfold fX6_blockOf_6b
      rw [if_pos dn_0]
    · rw [i2 t ht, decide_eq_true ht, Bool.true_and]
      rfl
theorem both_now {i : Nat} (hi6 : i ≤ 6) (hS : St 1 K w h) (hs : Lb 9 se h) (hs' : Ro 31 se h1) (hw' : Ro 32 w h1) : ∃ x, fX5_now h (nI i) = some x ∧ fX6_blockOf h1 (nI i) = some x := by
  obtain ⟨x, q1, q2⟩ := g_now (i := i) (by omega) hS hs
  obtain ⟨y, p1, p2⟩ := r_blockOf hi6 hs' hw'
  have : x = y := L_ext (fun t ht => by rw [q2 t ht, p2 t ht])
  rw [← this] at p1
  exact ⟨x, q1, p1⟩
theorem o_block (B : Bo h) (x : Int32) : Oq (fun h => fX5_block h x) (fun h => fX6_block h x) h := by
  obtain ⟨K, rl, d, se, w, g, j, T, fi, hI, hC, hM⟩ := B
  have hK := hI.2.1
  have c0 : fX5_isBlock h x = _ := g_isBlock hC.1.1 hK x
  have c1 : fX6_isBlock h x = _ := m_isBlock hM.1.2.2.1 hK x
  cases hr : rg x 1 K
  · rw [hr] at c0 c1
    refine ⟨0, ?_, ?_⟩
    · show fX5_block h x = _
      unfold fX5_block
      rw [c0, bR_s, if_pos b2f]
    · show fX6_block h x = _
      unfold fX6_block
      rw [c1, bR_s, if_pos b2f]
  · rw [hr] at c0 c1
    obtain ⟨i, i1, i2, rfl⟩ := rg_n (by omega) hr
    obtain ⟨v, v1, v2⟩ := both_now (i := i) (by omega) hC.1 hC.2.2.1 hM.2.2.1 hM.1.1
    refine ⟨v, ?_, ?_⟩
    · show fX5_block h (nI i) = _
      unfold fX5_block
      rw [c0, bR_s, if_neg b2t, v1, bR_s]
    · show fX6_block h (nI i) = _
      unfold fX6_block
      rw [c1, bR_s, if_neg b2t, v2, bR_s]
/-! words -/
theorem c_wrongRow {a0 W : Nat} (hS : St a0 K w h) (hW : W < 56) : fX4_wrongRow h a0 (nI W) = some (nI (rowN (fun c => w (8 * W + c)) 8)) := by
  unfold fX4_wrongRow
  rw [nm_eq, shr3 (by omega), ck_in (show W / 8 < 7 by omega) (by decide), nI_clamp (by omega), and7 (by omega), g_rowOf h _ (show W % 8 < 8 by omega) (f := fun c => w (8 * W + c)) (fun c hc => by
    rw [hS.2.1 (W / 8) (by omega) _ (by omega)]
    congr 1
    omega), bR_s]
theorem colM : ∀ r, r < 8 → ∀ t, t < 64 → ((72340172838076673 : Int64) <<< ((nI r).toInt64 &&& 63)).toBitVec.getLsbD t = decide (t % 8 = r) := by decide +kernel
theorem c_wrongColumn {a0 W : Nat} (hS : St a0 K w h) (h8 : 8 ≤ W) (hW : W < 56) : ∃ x, fX4_wrongColumn h a0 (nI W) = some x ∧ ∀ t, t < 64 → x.toBitVec.getLsbD t = (w (64 * (W / 8 - 1) + t) && decide (t % 8 = W % 8)) := by
  unfold fX4_wrongColumn
  have s1 : nI (W / 8) - 1 = nI (W / 8 - 1) := pk_sub (b := 1) (by omega)
  rw [nm_eq, shr3 (by omega), s1, ck_in (show W / 8 - 1 < 7 by omega) (by decide), nI_clamp (by omega), and7 (by omega)]
  refine ⟨_, rfl, fun t ht => ?_⟩
  rw [L_and, hS.2.1 (W / 8 - 1) (by omega) t ht, colM _ (by omega) t ht]
theorem cnt_col8 (f : Nat → Bool) {r : Nat} (hr : r < 8) : cnt (fun t => f t && decide (t = r)) 8 = if f r then 1 else 0 := by
  rcases (show r = 0 ∨ r = 1 ∨ r = 2 ∨ r = 3 ∨ r = 4 ∨ r = 5 ∨ r = 6 ∨ r = 7 by omega) with rfl | rfl | rfl | rfl | rfl | rfl | rfl | rfl <;> simp [cnt]
theorem cnt_col (f : Nat → Bool) {r : Nat} (hr : r < 8) : ∀ n, cnt (fun t => f t && decide (t % 8 = r)) (8 * n) = cnt (fun p => f (8 * p + r)) n := by
  intro n
  induction n with
  | zero => rfl
  | succ n ih =>
    rw [show 8 * (n + 1) = 8 * n + 8 by omega, cnt_add, ih]
    show _ = cnt (fun p => f (8 * p + r)) n + (if f (8 * n + r) then 1 else 0)
    rw [← cnt_col8 (fun t => f (8 * n + t)) hr]
    congr 1
    apply cnt_cong
    intro t ht
    show (f (8 * n + t) && decide ((8 * n + t) % 8 = r)) = (f (8 * n + t) && decide (t = r))
    rw [show (8 * n + t) % 8 = t by omega]
theorem onN_split (w : Nat → Bool) {W : Nat} : onN w W 16 = cnt (fun p => w (64 * (W / 8 - 1) + 8 * p + W % 8)) 8 + cnt (fun c => w (8 * W + c)) 8 := by
  unfold onN
  rw [show (16 : Nat) = 8 + 8 from rfl, cnt_add]
  exact congr (congrArg HAdd.hAdd (cnt_cong (fun p hp => by unfold bA; rw [if_pos hp]))) (cnt_cong (fun p hp => by unfold bA; rw [if_neg (by omega), show 8 + p - 8 = p by omega]))
theorem c_wrongBitsOf {a0 W : Nat} (hS : St a0 K w h) (h8 : 8 ≤ W) (hW : W < 56) : fX4_wrongBitsOf h a0 (nI W) = some (nI (onN w W 16)) := by
  obtain ⟨x, q1, q2⟩ := c_wrongColumn hS h8 hW
  unfold fX4_wrongBitsOf
  have hl := rowN_lt (fun c => w (8 * W + c)) 8
  rw [c_wrongRow hS hW, bR_s, pop8 h (by omega), bR_s, q1, bR_s, pop64, bR_s, nI_add, onN_split]
  congr 2
  rw [Nat.add_comm, cnt_cong (q := fun t => w (64 * (W / 8 - 1) + t) && decide (t % 8 = W % 8)) q2, show (64 : Nat) = 8 * 8 from rfl, cnt_col (fun t => w (64 * (W / 8 - 1) + t)) (by omega)]
  congr 1
  · exact cnt_cong (fun p hp => by rw [← Nat.add_assoc])
  · exact cnt_cong (fun c hc => by rw [rowN_bit, decide_eq_true hc, Bool.true_and])
/-- word W, by what -/
def wdV (K rl : Nat) (w : Nat → Bool) (W n : Nat) : Int32 :=
  if n = 0 then nI (laN w W 16) else if n = 1 then b2i (odd w W) else if n = 2 then nI (sta w W) else if n = 3 then nI (onN w W 16) else if may K rl w W then nI (plc w W) else -1
theorem g_word {i r n : Nat} (hi : 1 ≤ i) (hiK : i ≤ K) (hK : K ≤ 6) (hrl : rl ≤ 1) (hr : r < 8) (hn : n < 5) (hC : Cl K rl d se w g j T fi h) : fX5_word h (nI i) (nI r) (nI n) = some (wdV K rl w (8 * i + r) n) := by
  unfold fX5_word
  rw [g_isWord hC.1.1 hK, rg_t (by omega) hi hiK, rg_t (by omega) (Nat.zero_le r) (by omega), bR_s, if_neg (show ¬ b2i (true && true) = 0 by decide), nm_eq, m8, nI_add]
  rcases (show n = 0 ∨ n = 1 ∨ n = 2 ∨ n = 3 ∨ n = 4 by omega) with rfl | rfl | rfl | rfl | rfl
  · rw [if_pos (show nI 0 = 0 from rfl), c_checkOf hC.1 hK (by omega) (by omega), bR_s]; rfl
  · rw [if_neg (by decide), if_pos (show nI 1 = 1 from rfl), c_isOdd hC.1 hK (by omega) (by omega), bR_s]
    show _ = some (b2i (odd w (8 * i + r)))
    cases odd w (8 * i + r) <;> rfl
  · rw [if_neg (by decide), if_neg (by decide), if_pos (show nI 2 = 2 from rfl), c_stateOf hC.1 hK (by omega) (by omega), bR_s]; rfl
  · rw [if_neg (by decide), if_neg (by decide), if_neg (by decide), if_pos (show nI 3 = 3 from rfl), c_wrongBitsOf hC.1 (by omega) (by omega), bR_s]; rfl
  · rw [if_neg (by decide), if_neg (by decide), if_neg (by decide), if_neg (by decide), if_pos (show nI 4 = 4 from rfl), hC.2.2.2.2.2.2.1, c_placeToMend hC.1 hK hrl (by omega) (by omega), bR_s]
    show _ = some (if may K rl w (8 * i + r) then nI (plc w (8 * i + r)) else -1)
    have hp := plc_lt w (8 * i + r)
    have hlt : (-1 : Int32) < nI (plc w (8 * i + r)) := by
      rw [Int32.lt_iff_toInt_lt, nI_toInt (by omega)]
      show (-1 : Int) < _
      omega
    cases may K rl w (8 * i + r)
    · cases odd w (8 * i + r) <;> rfl
    · rw [if_pos rfl, if_pos hlt]; rfl
theorem r_wordOf {i r n : Nat} (hi : 1 ≤ i) (hiK : i ≤ K) (hK : K ≤ 6) (hrl : rl ≤ 1) (hr : r < 8) (hn : n < 5) (hM : MSt K rl w j h) : fX6_wordOf h (nI i) (nI r) (nI n) = some (wdV K rl w (8 * i + r) n) := by
  unfold fX6_wordOf
  rcases (show n = 0 ∨ n = 1 ∨ n = 2 ∨ n = 3 ∨ n = 4 by omega) with rfl | rfl | rfl | rfl | rfl
  · rw [if_pos (show nI 0 = 0 from rfl), r_checkOf hM.1 hi (by omega) hr, bR_s]; rfl
  · rw [if_neg (by decide), if_pos (show nI 1 = 1 from rfl), r_isOdd hM.1 hi (by omega) hr, bR_s]
    show _ = some (b2i (odd w (8 * i + r)))
    cases odd w (8 * i + r) <;> rfl
  · rw [if_neg (by decide), if_neg (by decide), if_pos (show nI 2 = 2 from rfl), r_stateOf hM.1 hi (by omega) hr, bR_s]; rfl
  · rw [if_neg (by decide), if_neg (by decide), if_neg (by decide), if_pos (show nI 3 = 3 from rfl), r_onesOf rfl hM.1 hi (by omega) hr, bR_s]; rfl
  · rw [if_neg (by decide), if_neg (by decide), if_neg (by decide), if_neg (by decide), r_placeBy hM.1 hM.2.2.1 hM.2.2.2 hrl hK hi hiK hr, bR_s]; rfl
theorem o_word (B : Bo h) (x y v : Int32) : Oq (fun h => fX5_word h x y v) (fun h => fX6_word h x y v) h := by
  obtain ⟨K, rl, d, se, w, g, j, T, fi, hI, hC, hM⟩ := B
  have hK := hI.2.1
  have c0 : fX5_isWord h x y = _ := g_isWord hC.1.1 hK x y
  have c1 : fX6_isWord h x y = _ := m_isWord hM.1.2.2.1 hK x y
  have c2 : fX6_in h v 0 4 = _ := r_in h v (a := 0) (b := 4) (by decide) (by decide)
  cases hr : (rg x 1 K && rg y 0 7)
  · rw [hr] at c0 c1
    refine ⟨-2, ?_, ?_⟩
    · show fX5_word h x y v = _
      unfold fX5_word
      rw [c0, bR_s, if_pos b2f]
    · show fX6_word h x y v = _
      unfold fX6_word
      rw [c1, bR_s, if_pos b2f]
  · rw [hr] at c0 c1
    simp only [Bool.and_eq_true] at hr
    obtain ⟨hx, hy⟩ := hr
    obtain ⟨i, i1, i2, rfl⟩ := rg_n (by omega) hx
    obtain ⟨r, r1, r2, rfl⟩ := rg_n (by omega) hy
    cases hv : rg v 0 4
    · have nv : ∀ n, n ≤ 4 → v ≠ nI n := fun n hn e => by rw [e, rg_t (by omega) (by omega) hn] at hv; cases hv
      refine ⟨-2, ?_, ?_⟩
      · show fX5_word h (nI i) (nI r) v = _
        unfold fX5_word
        rw [c0, bR_s, if_neg b2t, nm_eq, if_neg (show ¬ v = 0 from nv 0 (by decide)), if_neg (show ¬ v = 1 from nv 1 (by decide)), if_neg (show ¬ v = 2 from nv 2 (by decide)), if_neg (show ¬ v = 3 from nv 3 (by decide)), if_neg (show ¬ v = 4 from nv 4 (by decide))]
      · show fX6_word h (nI i) (nI r) v = _
        unfold fX6_word
        rw [c1, bR_s, if_neg b2t, c2, bR_s, hv, if_pos b2f]
    · obtain ⟨n, n1, n2, rfl⟩ := rg_n (by omega) hv
      refine ⟨wdV K rl w (8 * i + r) n, g_word i1 i2 hK hI.2.2.1 (by omega) (by omega) hC, ?_⟩
      show fX6_word h (nI i) (nI r) (nI n) = _
      unfold fX6_word
      rw [c1, bR_s, if_neg b2t, c2, bR_s, hv, if_neg b2t, r_wordOf i1 i2 hK hI.2.2.1 (by omega) (by omega) hM.1, bR_s]
end RD
