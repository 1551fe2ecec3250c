/-! PURE: digest -/
section DG
variable {K rl : Nat} {d : Nat → Nat} {se w g w' g' : Nat → Bool} {j j' : List Nat} {T T' : Sht} {fi : Int32} {h h1 h2 : AH} {S : PS}
def hS1 (x : Int64) (v : Int32) : Int64 := (31 * x) + (v.toInt64)
def hsF (f : Nat → Int32) (x : Int64) : Nat → Int64
  | 0 => x
  | n + 1 => hS1 (hsF f x n) (f n)
theorem gt_3 {n : Nat} (hn : n < 4) : ¬ (3 : Int32) < nI n := nI_nlt (a := 3) (by omega) (by decide)
theorem gt_4 {n : Nat} (hn : n < 5) : ¬ (4 : Int32) < nI n := nI_nlt (a := 4) (by omega) (by decide)
/-! pieces -/
noncomputable def pcD (K : Nat) (w : Nat → Bool) (S : PS) (x : Int64) : Nat → Int64
  | 0 => x
  | k + 1 => hsF (fun q => pvV K w (S.2.2 k) q) (pcD K w S x k) 4
theorem c_102 {x a1 : Int64} (hc : h.1 13 0 = nI S.1) (hS : S.1 ≤ 56) (ht : ∀ k, k < S.1 → ∀ n, n < 4 → fX1_tell h (nI k) (nI n) = some (pvV K w (S.2.2 k) n)) : fX5_digestOfLists_102 a1 FU h x 0 = some (pcD K w S x S.1, h) := by
  refine lup (fun n (s : Int64 × Int32) => fX5_digestOfLists_102 a1 n h s.1 s.2) (fun k => (pcD K w S x k, nI k)) S.1 ?_ ?_ 0 FU (Nat.zero_le _) (FU_lt (by omega))
  · intro n k hk
    show fX5_digestOfLists_102b (fX5_digestOfLists_102 a1 n) a1 h (pcD K w S x k) (nI k) = fX5_digestOfLists_102 a1 n h (hsF (fun q => pvV K w (S.2.2 k) q) (pcD K w S x k) 4) (nI (k + 1))
    unfold fX5_digestOfLists_102b
    rw [hc, if_neg (nI_ge hk (by omega))]
    refine lup (fun m (s : Int64 × Int32) => fX5_digestOfLists_117 (fX5_digestOfLists_102 a1 n) a1 m h s.1 (nI k) s.2) (fun q => (hsF (fun q => pvV K w (S.2.2 k) q) (pcD K w S x k) q, nI q)) 4 ?_ ?_ 0 FU (Nat.zero_le _) (FU_lt (by omega))
    · intro m q hq
      show fX5_digestOfLists_117b (fX5_digestOfLists_102 a1 n) (fX5_digestOfLists_117 (fX5_digestOfLists_102 a1 n) a1 m) a1 h (hsF (fun q => pvV K w (S.2.2 k) q) (pcD K w S x k) q) (nI k) (nI q) = fX5_digestOfLists_117 (fX5_digestOfLists_102 a1 n) a1 m h (hS1 (hsF (fun q => pvV K w (S.2.2 k) q) (pcD K w S x k) q) (pvV K w (S.2.2 k) q)) (nI k) (nI (q + 1))
      unfold fX5_digestOfLists_117b
      rw [if_neg (gt_3 hq), ht k hk q hq, bR_s, nm_eq, nm_eq, nI_1]
      rfl
    · intro m
      show fX5_digestOfLists_117b (fX5_digestOfLists_102 a1 n) (fX5_digestOfLists_117 (fX5_digestOfLists_102 a1 n) a1 m) a1 h (hsF (fun q => pvV K w (S.2.2 k) q) (pcD K w S x k) 4) (nI k) (nI 4) = _
      unfold fX5_digestOfLists_117b
      rw [if_pos (show (3 : Int32) < nI 4 by decide), nm_eq, nI_1]
  · intro n
    show fX5_digestOfLists_102b (fX5_digestOfLists_102 a1 n) a1 h (pcD K w S x S.1) (nI S.1) = _
    unfold fX5_digestOfLists_102b
    rw [hc, if_pos (nI_le (Nat.le_refl _) (by omega))]
theorem r_46 {x a1 : Int64} (hc : h.1 29 10 = nI S.1) (hS : S.1 ≤ 56) (ht : ∀ k, k < S.1 → ∀ n, n < 4 → fX6_pieceBy h (nI k) (nI n) = some (pvV K w (S.2.2 k) n)) : fX6_stuckDigest_46 a1 FU h x 0 = some (pcD K w S x S.1, h) := by
  refine lup (fun n (s : Int64 × Int32) => fX6_stuckDigest_46 a1 n h s.1 s.2) (fun k => (pcD K w S x k, nI k)) S.1 ?_ ?_ 0 FU (Nat.zero_le _) (FU_lt (by omega))
  · intro n k hk
    show fX6_stuckDigest_46b (fX6_stuckDigest_46 a1 n) a1 h (pcD K w S x k) (nI k) = fX6_stuckDigest_46 a1 n h (hsF (fun q => pvV K w (S.2.2 k) q) (pcD K w S x k) 4) (nI (k + 1))
    unfold fX6_stuckDigest_46b
    rw [hc, if_neg (nI_ge hk (by omega))]
    refine lup (fun m (s : Int64 × Int32) => fX6_stuckDigest_58 (fX6_stuckDigest_46 a1 n) a1 m h s.1 (nI k) s.2) (fun q => (hsF (fun q => pvV K w (S.2.2 k) q) (pcD K w S x k) q, nI q)) 4 ?_ ?_ 0 FU (Nat.zero_le _) (FU_lt (by omega))
    · intro m q hq
      show fX6_stuckDigest_58b (fX6_stuckDigest_46 a1 n) (fX6_stuckDigest_58 (fX6_stuckDigest_46 a1 n) a1 m) a1 h (hsF (fun q => pvV K w (S.2.2 k) q) (pcD K w S x k) q) (nI k) (nI q) = fX6_stuckDigest_58 (fX6_stuckDigest_46 a1 n) a1 m h (hS1 (hsF (fun q => pvV K w (S.2.2 k) q) (pcD K w S x k) q) (pvV K w (S.2.2 k) q)) (nI k) (nI (q + 1))
      unfold fX6_stuckDigest_58b
      rw [if_neg (show ¬ (4 : Int32) ≤ nI q from nI_ge (b := 4) hq (by decide)), ht k hk q hq, bR_s, nm_eq, nm_eq, nI_1]
      rfl
    · intro m
      show fX6_stuckDigest_58b (fX6_stuckDigest_46 a1 n) (fX6_stuckDigest_58 (fX6_stuckDigest_46 a1 n) a1 m) a1 h (hsF (fun q => pvV K w (S.2.2 k) q) (pcD K w S x k) 4) (nI k) (nI 4) = _
      unfold fX6_stuckDigest_58b
      rw [if_pos (show (4 : Int32) ≤ nI 4 by decide), nm_eq, nI_1]
  · intro n
    show fX6_stuckDigest_46b (fX6_stuckDigest_46 a1 n) a1 h (pcD K w S x S.1) (nI S.1) = _
    unfold fX6_stuckDigest_46b
    rw [hc, if_pos (nI_le (Nat.le_refl _) (by omega))]
/-! stalled words -/
def stD (p : Nat → Bool) (x : Int64) : Nat → Int64
  | 0 => x
  | n + 1 => if p (8 + n) then hS1 (stD p x n) (nI (8 + n)) else stD p x n
theorem stF_at (p : Nat → Bool) : ∀ (n N W : Nat), p (W + n) = true → n < N → stF p N W (cnt (fun t => p (W + t)) n) = nI (W + n) := by
  intro n
  induction n with
  | zero =>
    intro N W hp hN
    obtain ⟨N', rfl⟩ : ∃ N', N = N' + 1 := ⟨N - 1, by omega⟩
    rw [stF_s, if_pos (show p W = true from hp), if_pos (show cnt (fun t => p (W + t)) 0 = 0 from rfl)]
    rfl
  | succ n ih =>
    intro N W hp hN
    obtain ⟨N', rfl⟩ : ∃ N', N = N' + 1 := ⟨N - 1, by omega⟩
    have e : cnt (fun t => p (W + t)) (n + 1) = (if p W then 1 else 0) + cnt (fun t => p (W + 1 + t)) n := by
      rw [Nat.add_comm n 1, cnt_add]
      congr 1
      · show 0 + (if p (W + 0) then 1 else 0) = _
        rw [Nat.zero_add, Nat.add_zero]
      · exact cnt_cong (fun t _ => by rw [Nat.add_assoc])
    have hp' : p (W + 1 + n) = true := by rw [show W + 1 + n = W + (n + 1) by omega]; exact hp
    have i := ih N' (W + 1) hp' (by omega)
    rw [stF_s, e]
    by_cases q : p W = true
    · rw [if_pos q, if_pos q, if_neg (by omega), show 1 + cnt (fun t => p (W + 1 + t)) n - 1 = cnt (fun t => p (W + 1 + t)) n by omega, i, show W + 1 + n = W + (n + 1) by omega]
    · rw [if_neg q, if_neg q, Nat.zero_add, i, show W + 1 + n = W + (n + 1) by omega]
theorem stD_F (p : Nat → Bool) (x : Int64) (N : Nat) : ∀ n, n ≤ N → stD p x n = hsF (fun k => stF p N 8 k) x (cnt (fun t => p (8 + t)) n) := by
  intro n
  induction n with
  | zero => intro _; rfl
  | succ n ih =>
    intro hn
    have e : cnt (fun t => p (8 + t)) (n + 1) = cnt (fun t => p (8 + t)) n + (if p (8 + n) then 1 else 0) := rfl
    show (if p (8 + n) then hS1 (stD p x n) (nI (8 + n)) else stD p x n) = _
    rw [e]
    by_cases q : p (8 + n) = true
    · rw [if_pos q, if_pos q, ih (by omega)]
      show _ = hS1 (hsF (fun k => stF p N 8 k) x (cnt (fun t => p (8 + t)) n)) (stF p N 8 (cnt (fun t => p (8 + t)) n))
      rw [stF_at p n N 8 q (by omega)]
    · rw [if_neg q, if_neg q, ih (by omega)]
      rfl
theorem cnt_stl8 (hK : K ≤ 6) : cnt (fun t => stl w (8 + t)) (8 * K) = cnt (stl w) (8 * (K + 1)) := by
  rw [show 8 * (K + 1) = 8 + 8 * K by omega, cnt_add, cnt_none (fun W hW => stl8 W hW), Nat.zero_add]
/-- journal, stalled words, pieces -/
noncomputable def dlV (K : Nat) (w : Nat → Bool) (j : List Nat) (S : PS) (x : Int64) : Int64 := pcD K w S (stD (stl w) (hsF (fun k => nI (j.getD k 0)) x j.length) (8 * K)) S.1
theorem c_lists {x : Int64} (hI : Iv K rl d se w g j T) (hC : Cl K rl d se w g j T fi h) : ∃ h1, fX5_digestOfLists h x = some (dlV K w j (bcS K w 448) x, h1) ∧ Cl K rl d se w g j T fi h1 ∧ Lo h h1 := by
  have hK := hI.2.1
  have hO := hI.ot
  have c48 := bcS_48 hO
  obtain ⟨h1, e1, e2, e3⟩ := c_find hK hO hC.1
  have ht : ∀ k, k < (bcS K w 448).1 → ∀ n, n < 4 → fX1_tell h1 (nI k) (nI n) = some (pvV K w ((bcS K w 448).2.2 k) n) := fun k hk n hn => c_tell hk (by omega) e2 hn
  refine ⟨h1, ?_, hC.pf e3, e3.lo (by decide) (by decide)⟩
  generalize bcS K w 448 = S at e2 c48 ht
  have hJ := hC.2.2.2.2.1
  obtain ⟨o, ho, q1, q2, hl, q3⟩ := hC.2.2.2.2.1
  have l53 : ∀ y, fX5_digestOfLists_53 x FU h y (nI (8 * (K + 1))) 8 = some (pcD K w S (stD (stl w) y (8 * K)) S.1, h1) := by
    intro y
    refine lup (fun n (s : Int64 × Int32) => fX5_digestOfLists_53 x n h s.1 (nI (8 * (K + 1))) s.2) (fun k => (stD (stl w) y k, nI (8 + k))) (8 * K) ?_ ?_ 0 FU (Nat.zero_le _) (FU_lt (by omega))
    · intro n k hk
      show fX5_digestOfLists_53b (fX5_digestOfLists_53 x n) x h (stD (stl w) y k) (nI (8 * (K + 1))) (nI (8 + k)) = fX5_digestOfLists_53 x n h (if stl w (8 + k) then hS1 (stD (stl w) y k) (nI (8 + k)) else stD (stl w) y k) (nI (8 * (K + 1))) (nI (8 + (k + 1)))
      unfold fX5_digestOfLists_53b
      rw [if_neg (nI_ge (by omega) (by omega)), c_isStalled hC.1 hK (by omega) (by omega), bR_s]
      have eu : stl w (8 + k) = (sta w (8 + k) == 1) := by unfold stl; rw [decide_eq_true (by omega), Bool.true_and]
      rw [eu]
      unfold fX5_digestOfLists_82
      cases (sta w (8 + k) == 1)
      · rw [if_pos b2f, if_neg (show ¬ (false = true) by decide), nm_eq, nI_1]
        rfl
      · rw [if_neg b2t, if_pos rfl, nm_eq, nm_eq, nI_1]
        rfl
    · intro n
      show fX5_digestOfLists_53b (fX5_digestOfLists_53 x n) x h (stD (stl w) y (8 * K)) (nI (8 * (K + 1))) (nI (8 + 8 * K)) = _
      unfold fX5_digestOfLists_53b
      rw [if_pos (nI_le (by omega) (by omega)), e1, bR_s, c_102 e2.1 (by omega) ht]
  unfold fX5_digestOfLists dlV
  refine lup (fun n (s : Int64 × Int32) => fX5_digestOfLists_5 x n h s.1 s.2) (fun k => (hsF (fun k => nI (j.getD k 0)) x k, nI k)) j.length ?_ ?_ 0 FU (Nat.zero_le _) (FU_lt (by omega))
  · intro n k hk
    show fX5_digestOfLists_5b (fX5_digestOfLists_5 x n) x h (hsF (fun k => nI (j.getD k 0)) x k) (nI k) = fX5_digestOfLists_5 x n h (hS1 (hsF (fun k => nI (j.getD k 0)) x k) (nI (j.getD k 0))) (nI (k + 1))
    unfold fX5_digestOfLists_5b
    rw [q2, if_neg (nI_ge hk (by omega)), c_bitOfMend hJ hk, bR_s, nm_eq, nm_eq, nI_1]
    rfl
  · intro n
    show fX5_digestOfLists_5b (fX5_digestOfLists_5 x n) x h (hsF (fun k => nI (j.getD k 0)) x j.length) (nI j.length) = _
    unfold fX5_digestOfLists_5b
    rw [q2, if_pos (nI_le (Nat.le_refl _) (by omega)), c_endOfWords hC.1, bR_s, l53]
theorem r_stuckD {y : Int64} (hI : Iv K rl d se w g j T) (hM : Mo K rl d se w g j T fi h) : ∃ h1, fX6_stuckDigest h y = some (pcD K w (bcS K w 448) (stD (stl w) y (8 * K)) (bcS K w 448).1, h1) ∧ Mo K rl d se w g j T fi h1 ∧ Hi h h1 := by
  have hK := hI.2.1
  have hO := hI.ot
  have c48 := bcS_48 hO
  obtain ⟨h1, e1, e2, e3⟩ := r_find hK hO hM.1.1 hM.1.2.2.1
  have hM1 := hM.pf e3
  have hp : ∀ k, k < (bcS K w 448).1 → ∀ n, n < 4 → fX6_pieceBy h1 (nI k) (nI n) = some (pvV K w ((bcS K w 448).2.2 k) n) := fun k hk n hn => r_pieceBy hK hO hM1.1.1 hM1.1.2.2.1 e2 hk hn
  refine ⟨h1, ?_, hM1, e3.1.hi (by decide) (by decide)⟩
  generalize bcS K w 448 = S at e2 c48 hp
  unfold fX6_stuckDigest
  rw [r_words1 hK hM.1.1 hM.1.2.2.1, bR_s, stD_F (stl w) y (8 * K) (8 * K) (Nat.le_refl _), cnt_stl8 hK]
  have hcl := cnt_le (stl w) (8 * (K + 1))
  refine lup (fun n (s : Int64 × Int32) => fX6_stuckDigest_12 y n h s.1 (nI (cnt (stl w) (8 * (K + 1)))) s.2) (fun k => (hsF (fun k => stF (stl w) (8 * K) 8 k) y k, nI k)) (cnt (stl w) (8 * (K + 1))) ?_ ?_ 0 FU (Nat.zero_le _) (FU_lt (by omega))
  · intro n k hk
    show fX6_stuckDigest_12b (fX6_stuckDigest_12 y n) y h (hsF (fun k => stF (stl w) (8 * K) 8 k) y k) (nI (cnt (stl w) (8 * (K + 1)))) (nI k) = fX6_stuckDigest_12 y n h (hS1 (hsF (fun k => stF (stl w) (8 * K) 8 k) y k) (stF (stl w) (8 * K) 8 k)) (nI (cnt (stl w) (8 * (K + 1)))) (nI (k + 1))
    unfold fX6_stuckDigest_12b
    rw [if_neg (nI_ge hk (by omega)), r_stallOf hK (by omega) hM.1.1 hM.1.2.2.1, bR_s, nm_eq, nm_eq, nI_1]
    rfl
  · intro n
    show fX6_stuckDigest_12b (fX6_stuckDigest_12 y n) y h (hsF (fun k => stF (stl w) (8 * K) 8 k) y (cnt (stl w) (8 * (K + 1)))) (nI (cnt (stl w) (8 * (K + 1)))) (nI (cnt (stl w) (8 * (K + 1)))) = _
    unfold fX6_stuckDigest_12b
    rw [if_pos (nI_le (Nat.le_refl _) (by omega)), e1, bR_s, r_46 e2.1 (by omega) hp]
/-! blocks -/
def bkV (se w : Nat → Bool) (i : Nat) : Int64 := ⟨⟨BitVec.ofNat 64 (rowN (fun t => nw se w (64 * i + t)) 64)⟩⟩
theorem bkV_bit {i t : Nat} (ht : t < 64) : (bkV se w i).toBitVec.getLsbD t = nw se w (64 * i + t) := by
  show (BitVec.ofNat 64 (rowN (fun t => nw se w (64 * i + t)) 64)).getLsbD t = _
  rw [BitVec.getLsbD_ofNat, rowN_bit, decide_eq_true ht, Bool.true_and, Bool.true_and]
theorem c_block {i : Nat} (hi : 1 ≤ i) (hiK : i ≤ K) (hK : K ≤ 6) (hC : Cl K rl d se w g j T fi h) : fX5_block h (nI i) = some (bkV se w i) := by
  obtain ⟨x, q1, q2⟩ := g_now (i := i) (by omega) hC.1 hC.2.2.1
  unfold fX5_block
  rw [g_isBlock hC.1.1 hK, bR_s, rg_t (by omega) hi hiK, if_neg b2t, q1, bR_s, L_ext (x := x) (y := bkV se w i) (fun t ht => by rw [q2 t ht, bkV_bit ht])]
theorem r_block {i : Nat} (hi6 : i ≤ 6) (hM : Mo K rl d se w g j T fi h) : fX6_blockOf h (nI i) = some (bkV se w i) := by
  obtain ⟨x, q1, q2⟩ := r_blockOf hi6 hM.2.2.1 hM.1.1
  rw [q1, L_ext (x := x) (y := bkV se w i) (fun t ht => by rw [q2 t ht, bkV_bit ht])]
def rwD (d : Nat → Nat) (se w : Nat → Bool) (i : Nat) (x : Int64) : Nat → Int64
  | 0 => x
  | r + 1 => hsF (fun q => nI (rwV d se w i r (q + 1))) (rwD d se w i x r) 3
def wdD (K rl : Nat) (w : Nat → Bool) (i : Nat) (x : Int64) : Nat → Int64
  | 0 => x
  | r + 1 => hsF (fun q => wdV K rl w (8 * i + r) q) (wdD K rl w i x r) 5
def bkD (K rl : Nat) (d : Nat → Nat) (se w : Nat → Bool) (i : Nat) (x : Int64) : Int64 := wdD K rl w i (rwD d se w i ((31 * x) + bkV se w i) 8) 8
theorem c_bdig {i : Nat} {x : Int64} (hi : 1 ≤ i) (hiK : i ≤ K) (hI : Iv K rl d se w g j T) (hC : Cl K rl d se w g j T fi h) : fX5_digestOfBlock h x (nI i) = some (bkD K rl d se w i x) := by
  have hK := hI.2.1
  have hrl := hI.2.2.1
  have l66 : ∀ y, fX5_digestOfBlock_66 h x (nI i) FU y 0 = some (wdD K rl w i y 8) := by
    intro y
    refine lup (fun n (s : Int64 × Int32) => fX5_digestOfBlock_66 h x (nI i) n s.1 s.2) (fun r => (wdD K rl w i y r, nI r)) 8 ?_ ?_ 0 FU (Nat.zero_le _) (FU_lt (by omega))
    · intro n r hr
      show fX5_digestOfBlock_66b (fX5_digestOfBlock_66 h x (nI i) n) h x (nI i) (wdD K rl w i y r) (nI r) = fX5_digestOfBlock_66 h x (nI i) n (hsF (fun q => wdV K rl w (8 * i + r) q) (wdD K rl w i y r) 5) (nI (r + 1))
      unfold fX5_digestOfBlock_66b
      rw [if_neg (show ¬ (8 : Int32) ≤ nI r from nI_ge (b := 8) hr (by decide))]
      refine lup (fun m (s : Int64 × Int32) => fX5_digestOfBlock_76 (fX5_digestOfBlock_66 h x (nI i) n) h x (nI i) m s.1 (nI r) s.2) (fun q => (hsF (fun q => wdV K rl w (8 * i + r) q) (wdD K rl w i y r) q, nI q)) 5 ?_ ?_ 0 FU (Nat.zero_le _) (FU_lt (by omega))
      · intro m q hq
        show fX5_digestOfBlock_76b (fX5_digestOfBlock_66 h x (nI i) n) (fX5_digestOfBlock_76 (fX5_digestOfBlock_66 h x (nI i) n) h x (nI i) m) h x (nI i) (hsF (fun q => wdV K rl w (8 * i + r) q) (wdD K rl w i y r) q) (nI r) (nI q) = fX5_digestOfBlock_76 (fX5_digestOfBlock_66 h x (nI i) n) h x (nI i) m (hS1 (hsF (fun q => wdV K rl w (8 * i + r) q) (wdD K rl w i y r) q) (wdV K rl w (8 * i + r) q)) (nI r) (nI (q + 1))
        unfold fX5_digestOfBlock_76b
        rw [if_neg (gt_4 hq), g_word hi hiK hK hrl hr hq hC, bR_s, nm_eq, nm_eq, nI_1]
        rfl
      · intro m
        show fX5_digestOfBlock_76b (fX5_digestOfBlock_66 h x (nI i) n) (fX5_digestOfBlock_76 (fX5_digestOfBlock_66 h x (nI i) n) h x (nI i) m) h x (nI i) (hsF (fun q => wdV K rl w (8 * i + r) q) (wdD K rl w i y r) 5) (nI r) (nI 5) = _
        unfold fX5_digestOfBlock_76b
        rw [if_pos (show (4 : Int32) < nI 5 by decide), nm_eq, nI_1]
    · intro n
      show fX5_digestOfBlock_66b (fX5_digestOfBlock_66 h x (nI i) n) h x (nI i) (wdD K rl w i y 8) (nI 8) = _
      unfold fX5_digestOfBlock_66b
      rw [if_pos (show (8 : Int32) ≤ nI 8 by decide)]
  unfold fX5_digestOfBlock bkD
  rw [c_block hi hiK hK hC, bR_s, nm_eq]
  generalize (31 * x) + bkV se w i = y
  refine lup (fun n (s : Int64 × Int32) => fX5_digestOfBlock_16 h x (nI i) n s.1 s.2) (fun r => (rwD d se w i y r, nI r)) 8 ?_ ?_ 0 FU (Nat.zero_le _) (FU_lt (by omega))
  · intro n r hr
    show fX5_digestOfBlock_16b (fX5_digestOfBlock_16 h x (nI i) n) h x (nI i) (rwD d se w i y r) (nI r) = fX5_digestOfBlock_16 h x (nI i) n (hsF (fun q => nI (rwV d se w i r (q + 1))) (rwD d se w i y r) 3) (nI (r + 1))
    unfold fX5_digestOfBlock_16b
    rw [if_neg (show ¬ (8 : Int32) ≤ nI r from nI_ge (b := 8) hr (by decide))]
    refine lup (fun m (s : Int64 × Int32) => fX5_digestOfBlock_26 (fX5_digestOfBlock_16 h x (nI i) n) h x (nI i) m s.1 (nI r) s.2) (fun q => (hsF (fun q => nI (rwV d se w i r (q + 1))) (rwD d se w i y r) q, nI (q + 1))) 3 ?_ ?_ 0 FU (Nat.zero_le _) (FU_lt (by omega))
    · intro m q hq
      show fX5_digestOfBlock_26b (fX5_digestOfBlock_16 h x (nI i) n) (fX5_digestOfBlock_26 (fX5_digestOfBlock_16 h x (nI i) n) h x (nI i) m) h x (nI i) (hsF (fun q => nI (rwV d se w i r (q + 1))) (rwD d se w i y r) q) (nI r) (nI (q + 1)) = fX5_digestOfBlock_26 (fX5_digestOfBlock_16 h x (nI i) n) h x (nI i) m (hS1 (hsF (fun q => nI (rwV d se w i r (q + 1))) (rwD d se w i y r) q) (nI (rwV d se w i r (q + 1)))) (nI r) (nI (q + 1 + 1))
      unfold fX5_digestOfBlock_26b
      rw [if_neg (gt_3 (show q + 1 < 4 by omega)), g_row hi hiK hK hr (by omega) hC, bR_s, nm_eq, nm_eq, nI_1]
      rfl
    · intro m
      show fX5_digestOfBlock_26b (fX5_digestOfBlock_16 h x (nI i) n) (fX5_digestOfBlock_26 (fX5_digestOfBlock_16 h x (nI i) n) h x (nI i) m) h x (nI i) (hsF (fun q => nI (rwV d se w i r (q + 1))) (rwD d se w i y r) 3) (nI r) (nI (3 + 1)) = _
      unfold fX5_digestOfBlock_26b
      rw [if_pos (show (3 : Int32) < nI (3 + 1) by decide), nm_eq, nI_1]
  · intro n
    show fX5_digestOfBlock_16b (fX5_digestOfBlock_16 h x (nI i) n) h x (nI i) (rwD d se w i y 8) (nI 8) = _
    unfold fX5_digestOfBlock_16b
    rw [if_pos (show (8 : Int32) ≤ nI 8 by decide), l66]
theorem r_bdig {i : Nat} {x : Int64} (hi : 1 ≤ i) (hiK : i ≤ K) (hI : Iv K rl d se w g j T) (hM : Mo K rl d se w g j T fi h) : fX6_blockDigest h x (nI i) = some (bkD K rl d se w i x) := by
  have hK := hI.2.1
  have hrl := hI.2.2.1
  have l66 : ∀ y, fX6_blockDigest_66 h x (nI i) FU y 0 = some (wdD K rl w i y 8) := by
    intro y
    refine lup (fun n (s : Int64 × Int32) => fX6_blockDigest_66 h x (nI i) n s.1 s.2) (fun r => (wdD K rl w i y r, nI r)) 8 ?_ ?_ 0 FU (Nat.zero_le _) (FU_lt (by omega))
    · intro n r hr
      show fX6_blockDigest_66b (fX6_blockDigest_66 h x (nI i) n) h x (nI i) (wdD K rl w i y r) (nI r) = fX6_blockDigest_66 h x (nI i) n (hsF (fun q => wdV K rl w (8 * i + r) q) (wdD K rl w i y r) 5) (nI (r + 1))
      unfold fX6_blockDigest_66b
      rw [if_neg (show ¬ (8 : Int32) ≤ nI r from nI_ge (b := 8) hr (by decide))]
      refine lup (fun m (s : Int64 × Int32) => fX6_blockDigest_76 (fX6_blockDigest_66 h x (nI i) n) h x (nI i) m s.1 (nI r) s.2) (fun q => (hsF (fun q => wdV K rl w (8 * i + r) q) (wdD K rl w i y r) q, nI q)) 5 ?_ ?_ 0 FU (Nat.zero_le _) (FU_lt (by omega))
      · intro m q hq
        show fX6_blockDigest_76b (fX6_blockDigest_66 h x (nI i) n) (fX6_blockDigest_76 (fX6_blockDigest_66 h x (nI i) n) h x (nI i) m) h x (nI i) (hsF (fun q => wdV K rl w (8 * i + r) q) (wdD K rl w i y r) q) (nI r) (nI q) = fX6_blockDigest_76 (fX6_blockDigest_66 h x (nI i) n) h x (nI i) m (hS1 (hsF (fun q => wdV K rl w (8 * i + r) q) (wdD K rl w i y r) q) (wdV K rl w (8 * i + r) q)) (nI r) (nI (q + 1))
        unfold fX6_blockDigest_76b
        rw [if_neg (show ¬ (5 : Int32) ≤ nI q from nI_ge (b := 5) hq (by decide)), r_wordOf hi hiK hK hrl hr hq hM.1, bR_s, nm_eq, nm_eq, nI_1]
        rfl
      · intro m
        show fX6_blockDigest_76b (fX6_blockDigest_66 h x (nI i) n) (fX6_blockDigest_76 (fX6_blockDigest_66 h x (nI i) n) h x (nI i) m) h x (nI i) (hsF (fun q => wdV K rl w (8 * i + r) q) (wdD K rl w i y r) 5) (nI r) (nI 5) = _
        unfold fX6_blockDigest_76b
        rw [if_pos (show (5 : Int32) ≤ nI 5 by decide), nm_eq, nI_1]
    · intro n
      show fX6_blockDigest_66b (fX6_blockDigest_66 h x (nI i) n) h x (nI i) (wdD K rl w i y 8) (nI 8) = _
      unfold fX6_blockDigest_66b
      rw [if_pos (show (8 : Int32) ≤ nI 8 by decide)]
  unfold fX6_blockDigest bkD
  rw [r_block (by omega) hM, bR_s, nm_eq]
  generalize (31 * x) + bkV se w i = y
  refine lup (fun n (s : Int64 × Int32) => fX6_blockDigest_16 h x (nI i) n s.1 s.2) (fun r => (rwD d se w i y r, nI r)) 8 ?_ ?_ 0 FU (Nat.zero_le _) (FU_lt (by omega))
  · intro n r hr
    show fX6_blockDigest_16b (fX6_blockDigest_16 h x (nI i) n) h x (nI i) (rwD d se w i y r) (nI r) = fX6_blockDigest_16 h x (nI i) n (hsF (fun q => nI (rwV d se w i r (q + 1))) (rwD d se w i y r) 3) (nI (r + 1))
    unfold fX6_blockDigest_16b
    rw [if_neg (show ¬ (8 : Int32) ≤ nI r from nI_ge (b := 8) hr (by decide))]
    refine lup (fun m (s : Int64 × Int32) => fX6_blockDigest_26 (fX6_blockDigest_16 h x (nI i) n) h x (nI i) m s.1 (nI r) s.2) (fun q => (hsF (fun q => nI (rwV d se w i r (q + 1))) (rwD d se w i y r) q, nI (q + 1))) 3 ?_ ?_ 0 FU (Nat.zero_le _) (FU_lt (by omega))
    · intro m q hq
      show fX6_blockDigest_26b (fX6_blockDigest_16 h x (nI i) n) (fX6_blockDigest_26 (fX6_blockDigest_16 h x (nI i) n) h x (nI i) m) h x (nI i) (hsF (fun q => nI (rwV d se w i r (q + 1))) (rwD d se w i y r) q) (nI r) (nI (q + 1)) = fX6_blockDigest_26 (fX6_blockDigest_16 h x (nI i) n) h x (nI i) m (hS1 (hsF (fun q => nI (rwV d se w i r (q + 1))) (rwD d se w i y r) q) (nI (rwV d se w i r (q + 1)))) (nI r) (nI (q + 1 + 1))
      unfold fX6_blockDigest_26b
      rw [if_neg (show ¬ (4 : Int32) ≤ nI (q + 1) from nI_ge (b := 4) (by omega) (by decide)), r_rowOf hi (by omega) hr (by omega) hM.2.2.1 hM.1.1 hM.2.1, bR_s, nm_eq, nm_eq, nI_1]
      rfl
    · intro m
      show fX6_blockDigest_26b (fX6_blockDigest_16 h x (nI i) n) (fX6_blockDigest_26 (fX6_blockDigest_16 h x (nI i) n) h x (nI i) m) h x (nI i) (hsF (fun q => nI (rwV d se w i r (q + 1))) (rwD d se w i y r) 3) (nI r) (nI (3 + 1)) = _
      unfold fX6_blockDigest_26b
      rw [if_pos (show (4 : Int32) ≤ nI (3 + 1) by decide), nm_eq, nI_1]
  · intro n
    show fX6_blockDigest_16b (fX6_blockDigest_16 h x (nI i) n) h x (nI i) (rwD d se w i y 8) (nI 8) = _
    unfold fX6_blockDigest_16b
    rw [if_pos (show (8 : Int32) ≤ nI 8 by decide), l66]
/-! all -/
def bsD (K rl : Nat) (d : Nat → Nat) (se w : Nat → Bool) (x : Int64) : Nat → Int64
  | 0 => x
  | i + 1 => bkD K rl d se w (i + 1) (bsD K rl d se w x i)
noncomputable def enD (K rl : Nat) (w : Nat → Bool) (j : List Nat) (x : Int64) : Int64 :=
  hS1 (hS1 (hS1 (hS1 (hS1 (hS1 x (nI (wbV K 0 2 3 w j))) (nI (wbV K 1 2 3 w j))) (nI (wbV K 0 K 9 w j))) (nI (beS (fun n => wbV K rl n 3 w j) (K - 2)).1)) (nI (arK K 1))) (nI (arK K 2))
noncomputable def dgV (K rl : Nat) (d : Nat → Nat) (se w g : Nat → Bool) (j : List Nat) (fi : Int32) (S : PS) : Int64 :=
  enD K rl w j (dlV K w j S (bsD K rl d se w (hsF (ctV K w g j fi S) 17 8) K))
theorem c_end {x : Int64} (hI : Iv K rl d se w g j T) (hC : Cl K rl d se w g j T fi h) : ∃ h1, (bW (fX5_digestOfLists h x) fun r2 h1 => bW (fX5_would h1 2 3 0) fun r4 h3 => nm ((31 * r2) + (r4.toInt64)) fun v5 => bW (fX5_would h3 2 3 1) fun r7 h6 => nm ((31 * v5) + (r7.toInt64)) fun v8 => bW (fX5_would h6 (h6.1 1 0) 9 0) fun r10 h9 => nm ((31 * v8) + (r10.toInt64)) fun v11 => bW (fX5_best h9 3) fun r13 h12 => nm ((31 * v11) + (r13.toInt64)) fun v14 => bR (fX5_around h12 1 0 0) fun r15 => nm ((31 * v14) + (r15.toInt64)) fun v16 => bR (fX5_around h12 2 3 4) fun r17 => nm ((31 * v16) + (r17.toInt64)) fun v18 => some (v18, h12)) = some (enD K rl w j (dlV K w j (bcS K w 448) x), h1) ∧ Cl K rl d se w g j T fi h1 ∧ Lo h h1 := by
  have hK := hI.2.1
  have hK2 := hI.1
  obtain ⟨h1, a1, a2, a3⟩ := c_lists (x := x) hI hC
  generalize dlV K w j (bcS K w 448) x = y at a1
  obtain ⟨h2, b1, b2, b3⟩ := c_would (n := 2) (t := 3) (q := 0) hI (by decide) (by decide) hK2 (by decide) (by decide) a2
  obtain ⟨h3, c1, c2, c3⟩ := c_would (n := 2) (t := 3) (q := 1) hI (by decide) (by decide) hK2 (by decide) (by decide) b2
  obtain ⟨h4, d1, d2, d3⟩ := c_would (n := K) (t := 9) (q := 0) hI (by decide) hK2 (Nat.le_refl K) (by decide) (by decide) c2
  obtain ⟨h5, e1, e2, e3⟩ := c_best (t := 3) hI (by decide) (by decide) d2
  have f1 := c_around (i := 1) (r := 0) (c := 0) hK e2.1.1 (by decide) (by omega) (by decide) (by decide)
  have f2 := c_around (i := 2) (r := 3) (c := 4) hK e2.1.1 (by decide) hK2 (by decide) (by decide)
  refine ⟨h5, ?_, e2, Lo.tr a3 (Lo.tr b3 (Lo.tr c3 (Lo.tr d3 e3)))⟩
  rw [a1, bW_s, show fX5_would h1 2 3 0 = _ from b1, bW_s, nm_eq, show fX5_would h2 2 3 1 = _ from c1, bW_s, nm_eq, c2.1.1, show fX5_would h3 (nI K) 9 0 = _ from d1, bW_s, nm_eq, show fX5_best h4 3 = _ from e1, bW_s, nm_eq, show fX5_around h5 1 0 0 = _ from f1, bR_s, nm_eq, show fX5_around h5 2 3 4 = _ from f2, bR_s, nm_eq]
  rfl
theorem r_end {x : Int64} (hI : Iv K rl d se w g j T) (hM : Mo K rl d se w g j T fi h) : ∃ h1, (bW (fX6_stuckDigest h x) fun r2 h1 => bW (fX6_wouldBe h1 2 3 0) fun r4 h3 => nm ((31 * r2) + (r4.toInt64)) fun v5 => bW (fX6_wouldBe h3 2 3 1) fun r7 h6 => nm ((31 * v5) + (r7.toInt64)) fun v8 => bW (fX6_wouldBe h6 (h6.1 29 0) 9 0) fun r10 h9 => nm ((31 * v8) + (r10.toInt64)) fun v11 => bW (fX6_bestOf h9 3) fun r13 h12 => nm ((31 * v11) + (r13.toInt64)) fun v14 => bR (fX6_aroundOf h12 1 0 0) fun r15 => nm ((31 * v14) + (r15.toInt64)) fun v16 => bR (fX6_aroundOf h12 2 3 4) fun r17 => some ((31 * v16) + (r17.toInt64), h12)) = some (enD K rl w j (pcD K w (bcS K w 448) (stD (stl w) x (8 * K)) (bcS K w 448).1), h1) ∧ Mo K rl d se w g j T fi h1 ∧ Hi h h1 := by
  have hK := hI.2.1
  have hK2 := hI.1
  obtain ⟨h1, a1, a2, a3⟩ := r_stuckD (y := x) hI hM
  generalize pcD K w (bcS K w 448) (stD (stl w) x (8 * K)) (bcS K w 448).1 = y at a1
  obtain ⟨h2, b1, b2, b3⟩ := r_would (n := 2) (t := 3) (q := 0) hI (by decide) (by decide) hK2 (by decide) a2
  obtain ⟨h3, c1, c2, c3⟩ := r_would (n := 2) (t := 3) (q := 1) hI (by decide) (by decide) hK2 (by decide) b2
  obtain ⟨h4, d1, d2, d3⟩ := r_would (n := K) (t := 9) (q := 0) hI (by decide) hK2 (Nat.le_refl K) (by decide) c2
  obtain ⟨h5, e1, e2, e3⟩ := r_best (t := 3) hI (by decide) d2
  have f1 := r_aroundOf (i := 1) (r := 0) (c := 0) hK2 hK e2.1.2.2.1 (by decide) (by omega) (by decide) (by decide)
  have f2 := r_aroundOf (i := 2) (r := 3) (c := 4) hK2 hK e2.1.2.2.1 (by decide) hK2 (by decide) (by decide)
  refine ⟨h5, ?_, e2, Hi.tr a3 (Hi.tr b3 (Hi.tr c3 (Hi.tr d3 e3)))⟩
  rw [a1, bW_s, show fX6_wouldBe h1 2 3 0 = _ from b1, bW_s, nm_eq, show fX6_wouldBe h2 2 3 1 = _ from c1, bW_s, nm_eq, c2.1.2.2.1, show fX6_wouldBe h3 (nI K) 9 0 = _ from d1, bW_s, nm_eq, show fX6_bestOf h4 3 = _ from e1, bW_s, nm_eq, show fX6_aroundOf h5 1 0 0 = _ from f1, bR_s, nm_eq, show fX6_aroundOf h5 2 3 4 = _ from f2, bR_s]
  rfl
theorem c_digest (hI : Iv K rl d se w g j T) (hC : Cl K rl d se w g j T fi h) : ∃ h1, fX5_digest h = some (dgV K rl d se w g j fi (bcS K w 448), h1) ∧ Cl K rl d se w g j T fi h1 ∧ Lo h h1 := by
  have hK := hI.2.1
  have l33 : ∀ (h0 : AH) (x : Int64), Cl K rl d se w g j T fi h0 → ∃ h1, fX5_digest_33 FU h0 x 1 = some (enD K rl w j (dlV K w j (bcS K w 448) (bsD K rl d se w x K)), h1) ∧ Cl K rl d se w g j T fi h1 ∧ Lo h0 h1 := by
    intro h0 x hC0
    obtain ⟨h1, a1, a2, a3⟩ := c_end (x := bsD K rl d se w x K) hI hC0
    refine ⟨h1, ?_, a2, a3⟩
    generalize enD K rl w j (dlV K w j (bcS K w 448) (bsD K rl d se w x K)) = Z at a1
    refine lup (fun n (s : Int64 × Int32) => fX5_digest_33 n h0 s.1 s.2) (fun i => (bsD K rl d se w x i, nI (i + 1))) K ?_ ?_ 0 FU (Nat.zero_le _) (FU_lt (by omega))
    · intro n i hi
      show fX5_digest_33b (fX5_digest_33 n) h0 (bsD K rl d se w x i) (nI (i + 1)) = fX5_digest_33 n h0 (bkD K rl d se w (i + 1) (bsD K rl d se w x i)) (nI (i + 1 + 1))
      unfold fX5_digest_33b
      rw [hC0.1.1, if_neg (nI_nlt (by omega) (by omega)), c_bdig (by omega) (by omega) hI hC0, bR_s, nm_eq, nI_1]
    · intro n
      show fX5_digest_33b (fX5_digest_33 n) h0 (bsD K rl d se w x K) (nI (K + 1)) = _
      unfold fX5_digest_33b
      rw [hC0.1.1, if_pos (nI_lt (by omega) (by omega))]
      exact a1
  unfold fX5_digest dgV
  refine linv (fun n (s : AH × Int64 × Int32) => fX5_digest_6 n s.1 s.2.1 s.2.2) (fun n s => s.2.1 = hsF (ctV K w g j fi (bcS K w 448)) 17 n ∧ s.2.2 = nI n ∧ Cl K rl d se w g j T fi s.1 ∧ Lo h s.1) 8 (fun o => ∃ h1, o = some (enD K rl w j (dlV K w j (bcS K w 448) (bsD K rl d se w (hsF (ctV K w g j fi (bcS K w 448)) 17 8) K)), h1) ∧ Cl K rl d se w g j T fi h1 ∧ Lo h h1) ?_ ?_ 8 0 FU (h, 17, 0) rfl (FU_lt (by decide)) ⟨rfl, rfl, hC, Lo.rf h⟩
  · intro f n s hn hs
    obtain ⟨s1, s2, s3⟩ := s
    obtain ⟨i1, i2, i3, i4⟩ := hs
    simp only at i1 i2 i3 i4
    subst i1 i2
    obtain ⟨h1, e1, e2, e3⟩ := c_count (n := n) (by omega) hI i3
    refine ⟨(h1, hS1 (hsF (ctV K w g j fi (bcS K w 448)) 17 n) (ctV K w g j fi (bcS K w 448) n), nI (n + 1)), ⟨rfl, rfl, e2, Lo.tr i4 e3⟩, ?_⟩
    show fX5_digest_6b (fX5_digest_6 f) s1 (hsF (ctV K w g j fi (bcS K w 448)) 17 n) (nI n) = _
    unfold fX5_digest_6b
    rw [if_neg (show ¬ (7 : Int32) < nI n from nI_nlt (a := 7) (by omega) (by decide)), e1, bW_s, nm_eq, nm_eq, nI_1]
    rfl
  · intro f s hs
    obtain ⟨s1, s2, s3⟩ := s
    obtain ⟨i1, i2, i3, i4⟩ := hs
    simp only at i1 i2 i3 i4
    subst i1 i2
    obtain ⟨h1, e1, e2, e3⟩ := l33 s1 (hsF (ctV K w g j fi (bcS K w 448)) 17 8) i3
    refine ⟨h1, ?_, e2, Lo.tr i4 e3⟩
    show fX5_digest_6b (fX5_digest_6 f) s1 (hsF (ctV K w g j fi (bcS K w 448)) 17 8) (nI 8) = _
    unfold fX5_digest_6b
    rw [if_pos (show (7 : Int32) < nI 8 by decide), e1]
theorem r_digest (hI : Iv K rl d se w g j T) (hM : Mo K rl d se w g j T fi h) : ∃ h1, fX6_digest h = some (dgV K rl d se w g j fi (bcS K w 448), h1) ∧ Mo K rl d se w g j T fi h1 ∧ Hi h h1 := by
  have hK := hI.2.1
  have l56 : ∀ (h0 : AH) (x : Int64), Mo K rl d se w g j T fi h0 → ∃ h1, fX6_digest_56 FU h0 x 0 = some (enD K rl w j (dlV K w j (bcS K w 448) x), h1) ∧ Mo K rl d se w g j T fi h1 ∧ Hi h0 h1 := by
    intro h0 x hM0
    obtain ⟨h1, a1, a2, a3⟩ := r_end (x := hsF (fun k => nI (j.getD k 0)) x j.length) hI hM0
    refine ⟨h1, ?_, a2, a3⟩
    obtain ⟨j1, j2, j3⟩ := hM0.1.2.1
    unfold dlV
    generalize enD K rl w j (pcD K w (bcS K w 448) (stD (stl w) (hsF (fun k => nI (j.getD k 0)) x j.length) (8 * K)) (bcS K w 448).1) = Z at a1
    refine lup (fun n (s : Int64 × Int32) => fX6_digest_56 n h0 s.1 s.2) (fun k => (hsF (fun k => nI (j.getD k 0)) x k, nI k)) j.length ?_ ?_ 0 FU (Nat.zero_le _) (FU_lt (by omega))
    · intro n k hk
      show fX6_digest_56b (fX6_digest_56 n) h0 (hsF (fun k => nI (j.getD k 0)) x k) (nI k) = fX6_digest_56 n h0 (hS1 (hsF (fun k => nI (j.getD k 0)) x k) (nI (j.getD k 0))) (nI (k + 1))
      unfold fX6_digest_56b
      rw [j1, if_neg (nI_ge hk (by omega)), ck_in (show k < 60 by omega) (by decide), nm_eq, nm_eq, nI_clamp (by omega), j3 k hk, nI_1]
      rfl
    · intro n
      show fX6_digest_56b (fX6_digest_56 n) h0 (hsF (fun k => nI (j.getD k 0)) x j.length) (nI j.length) = _
      unfold fX6_digest_56b
      rw [j1, if_pos (nI_le (Nat.le_refl _) (by omega))]
      exact a1
  have l33 : ∀ (h0 : AH) (x : Int64), Mo K rl d se w g j T fi h0 → ∃ h1, fX6_digest_33 FU h0 x 1 = some (enD K rl w j (dlV K w j (bcS K w 448) (bsD K rl d se w x K)), h1) ∧ Mo K rl d se w g j T fi h1 ∧ Hi h0 h1 := by
    intro h0 x hM0
    obtain ⟨h1, a1, a2, a3⟩ := l56 h0 (bsD K rl d se w x K) hM0
    refine ⟨h1, ?_, a2, a3⟩
    generalize enD K rl w j (dlV K w j (bcS K w 448) (bsD K rl d se w x K)) = Z at a1
    refine lup (fun n (s : Int64 × Int32) => fX6_digest_33 n h0 s.1 s.2) (fun i => (bsD K rl d se w x i, nI (i + 1))) K ?_ ?_ 0 FU (Nat.zero_le _) (FU_lt (by omega))
    · intro n i hi
      show fX6_digest_33b (fX6_digest_33 n) h0 (bsD K rl d se w x i) (nI (i + 1)) = fX6_digest_33 n h0 (bkD K rl d se w (i + 1) (bsD K rl d se w x i)) (nI (i + 1 + 1))
      unfold fX6_digest_33b
      rw [hM0.1.2.2.1, if_neg (nI_nlt (by omega) (by omega)), r_bdig (by omega) (by omega) hI hM0, bR_s, nm_eq, nI_1]
    · intro n
      show fX6_digest_33b (fX6_digest_33 n) h0 (bsD K rl d se w x K) (nI (K + 1)) = _
      unfold fX6_digest_33b
      rw [hM0.1.2.2.1, if_pos (nI_lt (by omega) (by omega))]
      exact a1
  unfold fX6_digest dgV
  refine linv (fun n (s : AH × Int64 × Int32) => fX6_digest_6 n s.1 s.2.1 s.2.2) (fun n s => s.2.1 = hsF (ctV K w g j fi (bcS K w 448)) 17 n ∧ s.2.2 = nI n ∧ Mo K rl d se w g j T fi s.1 ∧ Hi h s.1) 8 (fun o => ∃ h1, o = some (enD K rl w j (dlV K w j (bcS K w 448) (bsD K rl d se w (hsF (ctV K w g j fi (bcS K w 448)) 17 8) K)), h1) ∧ Mo K rl d se w g j T fi h1 ∧ Hi h h1) ?_ ?_ 8 0 FU (h, 17, 0) rfl (FU_lt (by decide)) ⟨rfl, rfl, hM, Hi.rf h⟩
  · intro f n s hn hs
    obtain ⟨s1, s2, s3⟩ := s
    obtain ⟨i1, i2, i3, i4⟩ := hs
    simp only at i1 i2 i3 i4
    subst i1 i2
    obtain ⟨h1, e1, e2, e3⟩ := r_count (n := n) (by omega) hI i3
    refine ⟨(h1, hS1 (hsF (ctV K w g j fi (bcS K w 448)) 17 n) (ctV K w g j fi (bcS K w 448) n), nI (n + 1)), ⟨rfl, rfl, e2, Hi.tr i4 e3⟩, ?_⟩
    show fX6_digest_6b (fX6_digest_6 f) s1 (hsF (ctV K w g j fi (bcS K w 448)) 17 n) (nI n) = _
    unfold fX6_digest_6b
    rw [if_neg (show ¬ (8 : Int32) ≤ nI n from nI_ge (b := 8) hn (by decide)), e1, bW_s, nm_eq, nm_eq, nI_1]
    rfl
  · intro f s hs
    obtain ⟨s1, s2, s3⟩ := s
    obtain ⟨i1, i2, i3, i4⟩ := hs
    simp only at i1 i2 i3 i4
    subst i1 i2
    obtain ⟨h1, e1, e2, e3⟩ := l33 s1 (hsF (ctV K w g j fi (bcS K w 448)) 17 8) i3
    refine ⟨h1, ?_, e2, Hi.tr i4 e3⟩
    show fX6_digest_6b (fX6_digest_6 f) s1 (hsF (ctV K w g j fi (bcS K w 448)) 17 8) (nI 8) = _
    unfold fX6_digest_6b
    rw [if_pos (show (8 : Int32) ≤ nI 8 by decide), e1]
theorem o_digest (B : Bo h) : Oo (fun h => fX5_digest h) (fun h => fX6_digest h) h := by
  obtain ⟨K, rl, d, se, w, g, j, T, fi, hI, hC, hM⟩ := B
  obtain ⟨h1, e1, e2, e3⟩ := c_digest hI hC
  obtain ⟨h2, f1, f2, f3⟩ := r_digest hI (hM.lo e3)
  exact Oo.mk (h1 := h1) (h2 := h2) e1 f1 hI e2 f2 f3
end DG
