/-! PURE: counted words; mend, turn, window, slide -/
def un (w : Nat → Bool) (W : Nat) : Bool := decide (8 ≤ W) && !(snd w W)
def stl (w : Nat → Bool) (W : Nat) : Bool := decide (8 ≤ W) && (sta w W == 1)
section TT
variable {K rl : Nat} {d : Nat → Nat} {se w g w' g' : Nat → Bool} {j j' : List Nat} {T : Sht} {fi : Int32} {h h1 h2 : AH}
theorem cz8 {p : Nat → Bool} (hp : ∀ W, W < 8 → p W = false) : (0 : Int32) = nI (cnt p 8) := by rw [cnt_none hp]; rfl
theorem un8 (W : Nat) (hW : W < 8) : un w W = false := by unfold un; rw [decide_eq_false (by omega)]; rfl
theorem stl8 (W : Nat) (hW : W < 8) : stl w W = false := by unfold stl; rw [decide_eq_false (by omega)]; rfl
theorem c_endOfWords {a0 : Nat} (hS : St a0 K w h) : fX4_endOfWords h a0 = some (nI (8 * (K + 1))) := by
  unfold fX4_endOfWords
  rw [hS.1, nI_1, m8]
theorem c_unsound {a0 : Nat} (hK : K ≤ 6) (hS : St a0 K w h) : fX4_unsoundWords h a0 = some (nI (cnt (un w) (8 * (K + 1)))) := by
  unfold fX4_unsoundWords
  rw [c_endOfWords hS, bR_s, cz8 (p := un w) un8]
  refine lup (fun n (s : Int32 × Int32) => fX4_unsoundWords_10 h a0 n s.1 (nI (8 * (K + 1))) s.2) (fun k => (nI (cnt (un w) (8 + k)), nI (8 + k))) (8 * K) ?_ ?_ 0 FU (by omega) (FU_lt (by omega))
  · intro n k hk
    show fX4_unsoundWords_10b (fX4_unsoundWords_10 h a0 n) h a0 (nI (cnt (un w) (8 + k))) (nI (8 * (K + 1))) (nI (8 + k)) = fX4_unsoundWords_10 h a0 n (nI (cnt (un w) (8 + k) + (if un w (8 + k) then 1 else 0))) (nI (8 * (K + 1))) (nI (8 + k + 1))
    unfold fX4_unsoundWords_10b fX4_unsoundWords_26
    simp only [nm_eq]
    rw [if_neg (nI_ge (by omega) (by omega)), c_isSound hS hK (by omega) (by omega), bR_s]
    have eu : un w (8 + k) = !(snd w (8 + k)) := by unfold un; rw [decide_eq_true (by omega), Bool.true_and]
    rw [eu]
    cases snd w (8 + k)
    · rw [if_pos b2f, nI_1, nI_1]; rfl
    · rw [if_neg b2t, nI_1]; rfl
  · intro n
    show fX4_unsoundWords_10b _ h a0 (nI (cnt (un w) (8 + 8 * K))) (nI (8 * (K + 1))) (nI (8 + 8 * K)) = _
    unfold fX4_unsoundWords_10b
    rw [if_pos (nI_le (by omega) (by omega)), show 8 + 8 * K = 8 * (K + 1) by omega]
theorem c_stalled {a0 : Nat} (hK : K ≤ 6) (hS : St a0 K w h) : fX4_stalledWords h a0 = some (nI (cnt (stl w) (8 * (K + 1)))) := by
  unfold fX4_stalledWords
  rw [c_endOfWords hS, bR_s, cz8 (p := stl w) stl8]
  refine lup (fun n (s : Int32 × Int32) => fX4_stalledWords_10 h a0 n s.1 (nI (8 * (K + 1))) s.2) (fun k => (nI (cnt (stl w) (8 + k)), nI (8 + k))) (8 * K) ?_ ?_ 0 FU (by omega) (FU_lt (by omega))
  · intro n k hk
    show fX4_stalledWords_10b (fX4_stalledWords_10 h a0 n) h a0 (nI (cnt (stl w) (8 + k))) (nI (8 * (K + 1))) (nI (8 + k)) = fX4_stalledWords_10 h a0 n (nI (cnt (stl w) (8 + k) + (if stl w (8 + k) then 1 else 0))) (nI (8 * (K + 1))) (nI (8 + k + 1))
    unfold fX4_stalledWords_10b fX4_stalledWords_26
    simp only [nm_eq]
    rw [if_neg (nI_ge (by omega) (by omega)), c_isStalled hS hK (by omega) (by omega), bR_s]
    have eu : stl w (8 + k) = (sta w (8 + k) == 1) := by unfold stl; rw [decide_eq_true (by omega), Bool.true_and]
    rw [eu]
    cases (sta w (8 + k) == 1)
    · rw [if_pos b2f, nI_1]; rfl
    · rw [if_neg b2t, nI_1, nI_1]; rfl
  · intro n
    show fX4_stalledWords_10b _ h a0 (nI (cnt (stl w) (8 + 8 * K))) (nI (8 * (K + 1))) (nI (8 + 8 * K)) = _
    unfold fX4_stalledWords_10b
    rw [if_pos (nI_le (by omega) (by omega)), show 8 + 8 * K = 8 * (K + 1) by omega]
theorem r_wordsOf_any (hK : K ≤ 6) (hw : Ro 32 w h) (hm : h.1 29 0 = nI K) {p : Nat → Bool} {a : Int32} (hp : ∀ W, W < 8 → p W = false)
    (st : ∀ k4 k15 i r c, 1 ≤ i → i ≤ K → r < 8 → fX6_wordsOf_15b k4 k15 h a (nI c) (nI i) (nI r) = k15 (nI (c + (if p (8 * i + r) then 1 else 0))) (nI i) (nI (r + 1))) : fX6_wordsOf h a = some (nI (cnt p (8 * (K + 1)))) := by
  unfold fX6_wordsOf
  rw [cz8 (p := p) hp, show (1 : Int32) = nI 1 from rfl]
  refine lup (fun n (s : Int32 × Int32) => fX6_wordsOf_4 h a n s.1 s.2) (fun k => (nI (cnt p (8 * (k + 1))), nI (k + 1))) K ?_ ?_ 0 FU (by omega) (FU_lt (by omega))
  · intro n k hk
    show fX6_wordsOf_4b (fX6_wordsOf_4 h a n) h a (nI (cnt p (8 * (k + 1)))) (nI (k + 1)) = fX6_wordsOf_4 h a n (nI (cnt p (8 * (k + 1 + 1)))) (nI (k + 1 + 1))
    unfold fX6_wordsOf_4b
    rw [hm, if_neg (nI_nlt (by omega) (by omega))]
    refine lup (fun m (s : Int32 × Int32) => fX6_wordsOf_15 (fX6_wordsOf_4 h a n) h a m s.1 (nI (k + 1)) s.2) (fun r => (nI (cnt p (8 * (k + 1) + r)), nI r)) 8 ?_ ?_ 0 FU (by omega) (FU_lt (by omega))
    · intro m r hr
      exact st (fX6_wordsOf_4 h a n) (fX6_wordsOf_15 (fX6_wordsOf_4 h a n) h a m) (k + 1) r _ (by omega) (by omega) hr
    · intro m
      show fX6_wordsOf_15b (fX6_wordsOf_4 h a n) (fX6_wordsOf_15 (fX6_wordsOf_4 h a n) h a m) h a (nI (cnt p (8 * (k + 1) + 8))) (nI (k + 1)) (nI 8) = _
      unfold fX6_wordsOf_15b
      rw [if_pos (show (8 : Int32) ≤ nI 8 from by decide), nm_eq, nI_1, show 8 * (k + 1) + 8 = 8 * (k + 1 + 1) by omega]
  · intro n
    show fX6_wordsOf_4b _ h a (nI (cnt p (8 * (K + 1)))) (nI (K + 1)) = _
    unfold fX6_wordsOf_4b
    rw [hm, if_pos (nI_lt (by omega) (by omega))]
theorem r_words0 (hK : K ≤ 6) (hw : Ro 32 w h) (hm : h.1 29 0 = nI K) : fX6_wordsOf h 0 = some (nI (cnt (un w) (8 * (K + 1)))) := by
  refine r_wordsOf_any hK hw hm un8 ?_
  intro k4 k15 i r c hi hiK hr
  unfold fX6_wordsOf_15b fX6_wordsOf_60
  simp only [nm_eq]
  rw [if_neg (show ¬ (8 : Int32) ≤ nI r from nI_ge (b := 8) hr (by decide)), r_stateOf hw hi (by omega) hr, bR_s, if_pos True.intro]
  have eu : un w (8 * i + r) = !(snd w (8 * i + r)) := by unfold un; rw [decide_eq_true (by omega), Bool.true_and]
  have hlt := sta_lt (w := w) (W := 8 * i + r)
  have c0 : nI (sta w (8 * i + r)) ≤ 0 ↔ sta w (8 * i + r) ≤ 0 := nI_leI (b := 0) (by omega) (by decide)
  have a0 := sta_0 (w := w) (W := 8 * i + r)
  rw [eu]
  cases hs : snd w (8 * i + r)
  · rw [if_neg (fun q => by have := a0.mp (by have := c0.mp q; omega); rw [hs] at this; cases this), nI_1, nI_1]; rfl
  · rw [if_pos (c0.mpr (by rw [a0.mpr hs]; exact Nat.le_refl 0)), nI_1]
    congr 1
    exact Int32.add_zero _
theorem r_words1 (hK : K ≤ 6) (hw : Ro 32 w h) (hm : h.1 29 0 = nI K) : fX6_wordsOf h 1 = some (nI (cnt (stl w) (8 * (K + 1)))) := by
  refine r_wordsOf_any hK hw hm stl8 ?_
  intro k4 k15 i r c hi hiK hr
  unfold fX6_wordsOf_15b fX6_wordsOf_60
  simp only [nm_eq]
  rw [if_neg (show ¬ (8 : Int32) ≤ nI r from nI_ge (b := 8) hr (by decide)), r_stateOf hw hi (by omega) hr, bR_s, if_neg (show ¬ (1 : Int32) = 0 by decide)]
  have eu : stl w (8 * i + r) = (sta w (8 * i + r) == 1) := by unfold stl; rw [decide_eq_true (by omega), Bool.true_and]
  have hlt := sta_lt (w := w) (W := 8 * i + r)
  have c0 : nI (sta w (8 * i + r)) = 1 ↔ sta w (8 * i + r) = 1 := nI_eq (b := 1) (by omega) (by decide)
  rw [eu]
  by_cases hs : sta w (8 * i + r) = 1
  · rw [if_pos (c0.mpr hs), nI_1, nI_1, hs]; rfl
  · rw [if_neg (fun q => hs (c0.mp q)), nI_1, if_neg (by simpa using hs)]
    congr 1
    exact Int32.add_zero _
/-! what turns keep -/
def Ok (K : Nat) (s : MS) : Prop := Ot K s.1 ∧ ∀ a, a ∈ s.2.1 → 64 ≤ a ∧ a < 64 * (K + 1)
theorem jadd_mem {a b : Nat} (ha : a ∈ jadd j b) : a ∈ j ∨ a = b := by
  unfold jadd at ha
  rcases List.mem_append.mp ha with q | q
  · left
    by_cases h6 : j.length = 60
    · rw [if_pos h6] at q; exact List.mem_of_mem_drop q
    · rw [if_neg h6] at q; exact q
  · right
    exact List.mem_singleton.mp q
theorem stp_ok {od W : Nat} {s : MS} (h1 : 8 ≤ W) (h2 : W < 8 * (K + 1)) (hs : Ok K s) : Ok K (stp K rl od s W) := by
  unfold stp
  by_cases hc : W / 8 % 2 = od ∧ may K rl s.1 W = true
  · rw [if_pos hc]
    have b1 := bA_ge hc.2
    have b2 := bA_up (K := K) h1 h2 (plc_lt s.1 W)
    refine ⟨Ot_fl hs.1 b1 b2, fun a ha => ?_⟩
    rcases jadd_mem ha with q | q
    · exact hs.2 a q
    · rw [q]; exact ⟨b1, b2⟩
  · rw [if_neg hc]; exact hs
theorem run_ok {od W0 : Nat} {s : MS} (h1 : 8 ≤ W0) (hs : Ok K s) : ∀ n, W0 + n ≤ 8 * (K + 1) → Ok K (run K rl od s W0 n) := by
  intro n
  induction n with
  | zero => intro _; exact hs
  | succ n ih => intro hn; exact stp_ok (by omega) (by omega) (ih (by omega))
theorem tnS_ok {a b c : Nat} (ha : 1 ≤ a) (hab : a ≤ b) (hb : b ≤ K) (hs : Ok K (w, j, c)) : Ok K (tnS K rl a b w j) := by
  unfold tnS
  have h8 : 8 ≤ 8 * a := by omega
  have h9 : 8 * a + 8 * (b + 1 - a) ≤ 8 * (K + 1) := by omega
  exact run_ok h8 (run_ok (s := (w, j, 0)) h8 ⟨hs.1, hs.2⟩ _ h9) _ h9
theorem wnS_ok {a b : Nat} (ha : 1 ≤ a) (hab : a ≤ b) (hb : b ≤ K) : ∀ (n : Nat) (s : MS), Ok K s → Ok K (wnS K rl a b n s) := by
  intro n
  induction n with
  | zero => intro s hs; exact hs
  | succ n ih =>
    intro s hs
    have ht : Ok K (tnS K rl a b s.1 s.2.1) := tnS_ok (c := 0) ha hab hb hs
    unfold wnS
    by_cases hz : (tnS K rl a b s.1 s.2.1).2.2 = 0
    · rw [if_pos hz]; exact ht
    · rw [if_neg hz]; exact ih _ ht
theorem slS_ok {n t : Nat} (hn : 1 ≤ n) (hs : Ok K (w, j, 0)) : ∀ k, k + n ≤ K + 1 → Ok K (slS K rl n t w j k) := by
  intro k
  induction k with
  | zero => intro _; exact hs
  | succ k ih => intro hk; exact wnS_ok (by omega) (by omega) (by omega) _ _ (ih (by omega))
/-! the calls -/
theorem rg_if {x : Int32} {a b : Nat} (ha : a < 2 ^ 31) (hb : b < 2 ^ 31) {α : Type} (p q : α) : (if x < nI a then p else if nI b < x then p else q) = if rg x a b = true then q else p := by
  have e1 : x < nI a ↔ x.toInt < (a : Int) := by rw [Int32.lt_iff_toInt_lt, nI_toInt ha]
  have e2 : nI b < x ↔ (b : Int) < x.toInt := by rw [Int32.lt_iff_toInt_lt, nI_toInt hb]
  unfold rg
  by_cases h1 : x < nI a
  · have := e1.mp h1
    rw [if_pos h1, if_neg (fun q => by have := of_decide_eq_true q; omega)]
  · have h1' : ¬ x.toInt < (a : Int) := fun q => h1 (e1.mpr q)
    rw [if_neg h1]
    by_cases h2 : nI b < x
    · have := e2.mp h2
      rw [if_pos h2, if_neg (fun q => by have := of_decide_eq_true q; omega)]
    · have h2' : ¬ (b : Int) < x.toInt := fun q => h2 (e2.mpr q)
      rw [if_neg h2, if_pos (decide_eq_true (by omega))]
theorem o_mend (B : Bo h) (x y : Int32) : Oo (fun h => fX5_mend h x y) (fun h => fX6_mend h x y) h := by
  have B0 := B
  obtain ⟨K, rl, d, se, w, g, j, T, fi, hI, hC, hM⟩ := B
  have hK := hI.2.1
  have hrl := hI.2.2.1
  have c0 : fX5_isWord h x y = _ := g_isWord hC.1.1 hK x y
  have c1 : ∀ h', h'.1 29 0 = nI K → fX6_isWord h' x y = _ := fun h' hh => m_isWord hh hK x y
  cases hr : (rg x 1 K && rg y 0 7)
  · rw [hr] at c0 c1
    refine Oo.no (v := -2) B0 ?_ ?_
    · show fX5_mend h x y = _
      unfold fX5_mend
      rw [c0, bR_s, if_pos b2f]
    · show fX6_mend h x y = _
      unfold fX6_mend
      rw [c1 h hM.1.2.2.1, bR_s, if_pos b2f]
  · rw [hr] at c0 c1
    simp only [Bool.and_eq_true] at hr
    obtain ⟨hx, hy⟩ := hr
    obtain ⟨i, i1, i2, rfl⟩ := rg_n (by omega) hx
    obtain ⟨r, r1, r2, rfl⟩ := rg_n (by omega) hy
    have hp := plc_lt w (8 * i + r)
    have ea : (8 : Int32) * nI i + nI r = nI (8 * i + r) := by rw [m8, nI_add]
    have cl : ∃ h1, fX5_mend h (nI i) (nI r) = some (mres K rl w (8 * i + r), h1) ∧ Cl K rl d se (if may K rl w (8 * i + r) then fl w (bA (8 * i + r) (plc w (8 * i + r))) else w) g (if may K rl w (8 * i + r) then jadd j (bA (8 * i + r) (plc w (8 * i + r))) else j) T fi h1 ∧ Lo h h1 := by
      unfold fX5_mend
      rw [c0, bR_s, if_neg b2t, nm_eq, ea, c_isStalled hC.1 hK (by omega) (by omega), bR_s, hC.2.2.2.2.2.2.1, c_placeToMend hC.1 hK hrl (by omega) (by omega)]
      have a0 := sta_0 (w := w) (W := 8 * i + r)
      have a2 := sta_2 (w := w) (W := 8 * i + r)
      have hlt := sta_lt (w := w) (W := 8 * i + r)
      unfold mres
      cases ho : odd w (8 * i + r)
      · have hm : may K rl w (8 * i + r) = false := by
          cases hm : may K rl w (8 * i + r)
          · rfl
          · have := may_odd hm; rw [ho] at this; cases this
        rw [hm]
        cases hs : snd w (8 * i + r)
        · have e1 : sta w (8 * i + r) = 1 := by
            have n0 : sta w (8 * i + r) ≠ 0 := fun q => by have := a0.mp q; rw [hs] at this; cases this
            have n2 : sta w (8 * i + r) ≠ 2 := fun q => by have := a2.mp q; rw [ho] at this; cases this
            omega
          rw [e1, if_neg (show ¬ b2i (1 == 1) = 0 by decide)]
          exact ⟨h, by simp, by simpa using hC, Lo.rf h⟩
        · rw [a0.mpr hs, if_pos (show b2i (0 == 1) = 0 by decide), bR_s, if_neg (show ¬ (false = true) by decide), if_neg (show ¬ (false = true) by decide), if_pos (show (-1 : Int32) < 0 by decide)]
          exact ⟨h, by simp, by simpa using hC, Lo.rf h⟩
      · rw [a2.mpr ho, if_pos (show b2i (2 == 1) = 0 by decide), bR_s]
        cases hm : may K rl w (8 * i + r)
        · rw [if_neg (show ¬ (false = true) by decide), if_pos rfl, if_pos (show (-5 : Int32) < 0 by decide)]
          exact ⟨h, by simp, by simpa using hC, Lo.rf h⟩
        · rw [if_pos rfl, if_neg (nI_pos (by omega)), c_bitAt (by omega) (by omega) hp, bR_s]
          have b1 := bA_ge hm
          have b2 := bA_up (K := K) (W := 8 * i + r) (by omega) (by omega) hp
          obtain ⟨h1, e1, e2, e3⟩ := turn_ok hK b1 b2 hC.1
          rw [e1, bR_s]
          obtain ⟨h2, f1, f2, f3⟩ := c_add (a := bA (8 * i + r) (plc w (8 * i + r))) (CJ.fx e3.fx hC.2.2.2.2.1 (by decide) (by decide))
          rw [f1, bR_s]
          have F : Fx [3, 11, 12] [2] h h2 := Fx.tr (Fx.mo e3.fx (by decide) (by decide)) (Fx.mo f3 (by decide) (by decide))
          exact ⟨h2, by simp, by simpa using hC.sj F (St.fx f3 e2 (by decide) (by decide) (by decide)) f2, F.lo (by decide) (by decide)⟩
    obtain ⟨h1, e1, e2, e3⟩ := cl
    have hM1 := hM.lo e3
    obtain ⟨h2, f1, f2, f3⟩ := r_mendOf hM1.1 hK hrl i1 i2 (show r < 8 by omega)
    refine Oo.mk (h1 := h1) (h2 := h2) (v := mres K rl w (8 * i + r)) e1 ?_ ?_ e2 (hM1.ms f3 f2) (f3.1.hi (by decide) (by decide))
    · show fX6_mend h1 (nI i) (nI r) = _
      unfold fX6_mend
      rw [c1 h1 hM1.1.2.2.1, bR_s, if_neg b2t, f1, bW_s]
    · refine hI.wj ?_ ?_
      · cases hm : may K rl w (8 * i + r)
        · exact hI.ot
        · exact Ot_fl hI.ot (bA_ge hm) (bA_up (by omega) (by omega) hp)
      · intro a ha
        cases hm : may K rl w (8 * i + r)
        · rw [hm] at ha; exact hI.2.2.2.2.2.2.1 a ha
        · rw [hm, if_pos rfl] at ha
          rcases jadd_mem ha with q | q
          · exact hI.2.2.2.2.2.2.1 a q
          · rw [q]; exact ⟨bA_ge hm, bA_up (by omega) (by omega) hp⟩
theorem o_turn (B : Bo h) (x y : Int32) : Oo (fun h => fX5_turn h x y) (fun h => fX6_turn h x y) h := by
  have B0 := B
  obtain ⟨K, rl, d, se, w, g, j, T, fi, hI, hC, hM⟩ := B
  have hK := hI.2.1
  have hrl := hI.2.2.1
  have c0 : ∀ x, fX5_isBlock h x = _ := fun x => g_isBlock hC.1.1 hK x
  have c1 : ∀ h', h'.1 29 0 = nI K → ∀ x, fX6_isBlock h' x = _ := fun h' hh x => m_isBlock hh hK x
  have no : (rg x 1 K && rg y 1 K) = false → Oo (fun h => fX5_turn h x y) (fun h => fX6_turn h x y) h := by
    intro hr
    refine Oo.no (v := -2) B0 ?_ ?_
    · show fX5_turn h x y = _
      unfold fX5_turn
      rw [c0, c0, bR_s]
      cases hx : rg x 1 K
      · rw [if_pos b2f]
      · rw [hx] at hr
        rw [if_neg b2t, bR_s, show rg y 1 K = false from hr, if_pos b2f]
    · show fX6_turn h x y = _
      unfold fX6_turn
      rw [c1 h hM.1.2.2.1, c1 h hM.1.2.2.1, bR_s]
      cases hx : rg x 1 K
      · rw [if_pos b2f]
      · rw [hx] at hr
        rw [if_neg b2t, bR_s, show rg y 1 K = false from hr, if_pos b2f]
  cases hr : (rg x 1 K && rg y 1 K)
  · exact no hr
  · simp only [Bool.and_eq_true] at hr
    obtain ⟨hx, hy⟩ := hr
    have cx := fun h' hh => c1 h' hh x
    have cy := fun h' hh => c1 h' hh y
    have dx := c0 x
    have dy := c0 y
    rw [hx] at dx cx
    rw [hy] at dy cy
    obtain ⟨a, a1, a2, rfl⟩ := rg_n (by omega) hx
    obtain ⟨b, b1, b2, rfl⟩ := rg_n (by omega) hy
    have cab : nI a ≤ nI b ↔ a ≤ b := nI_leI (by omega) (by omega)
    have cba : nI b < nI a ↔ b < a := nI_ltI (by omega) (by omega)
    by_cases hab : a ≤ b
    · obtain ⟨h1, e1, e2, e3, e4⟩ := c_turn (a0 := 1) (j := j) (by decide) hC.1 hC.2.2.2.2.1 hK hrl a1 hab b2
      have hM1 := hM.lo (e4.lo (by decide) (by decide))
      obtain ⟨h2, f1, f2, f3⟩ := r_turn hM1.1 hK hrl a1 hab b2
      have ok := tnS_ok (rl := rl) (c := 0) a1 hab b2 (show Ok K (w, j, 0) from ⟨hI.ot, hI.2.2.2.2.2.2.1⟩)
      refine Oo.mk (h1 := h1) (h2 := h2) (v := nI (tnS K rl a b w j).2.2) ?_ ?_ (hI.wj ok.1 ok.2) (hC.sj e4 e2 e3) (hM1.ms f3 f2) (f3.1.hi (by decide) (by decide))
      · show fX5_turn h (nI a) (nI b) = _
        unfold fX5_turn
        rw [dx, dy, bR_s, if_neg b2t, bR_s, if_neg b2t, if_pos (cab.mpr hab), hC.2.2.2.2.2.2.1, e1, bW_s]
      · show fX6_turn h1 (nI a) (nI b) = _
        unfold fX6_turn
        rw [cx h1 hM1.1.2.2.1, cy h1 hM1.1.2.2.1, bR_s, if_neg b2t, bR_s, if_neg b2t, if_neg (fun q => by have := cba.mp q; omega), f1, bW_s]
    · refine Oo.no (v := -2) B0 ?_ ?_
      · show fX5_turn h (nI a) (nI b) = _
        unfold fX5_turn
        rw [dx, dy, bR_s, if_neg b2t, bR_s, if_neg b2t, if_neg (fun q => hab (cab.mp q))]
      · show fX6_turn h (nI a) (nI b) = _
        unfold fX6_turn
        rw [cx h hM.1.2.2.1, cy h hM.1.2.2.1, bR_s, if_neg b2t, bR_s, if_neg b2t, if_pos (cba.mpr (by omega))]
theorem o_window (B : Bo h) (x y z : Int32) : Oo (fun h => fX5_window h x y z) (fun h => fX6_window h x y z) h := by
  have B0 := B
  obtain ⟨K, rl, d, se, w, g, j, T, fi, hI, hC, hM⟩ := B
  have hK := hI.2.1
  have hrl := hI.2.2.1
  have c0 : fX5_isBlock h x = _ := g_isBlock hC.1.1 hK x
  have c1 : ∀ h', h'.1 29 0 = nI K → ∀ x, fX6_isBlock h' x = _ := fun h' hh x => m_isBlock hh hK x
  have t0 : fX5_isTurns h z = _ := g_isTurns z
  have t1 : ∀ h', fX6_in h' z 1 9 = _ := fun h' => r_in h' z (a := 1) (b := 9) (by decide) (by decide)
  have n1 : ∀ h', h'.1 29 0 = nI K → fX6_in h' y 1 (h'.1 29 0) = some (b2i (rg y 1 K)) := fun h' hh => by rw [hh]; exact r_in h' y (a := 1) (b := K) (by decide) (by omega)
  cases hx : rg x 1 K
  · refine Oo.no (v := -2) B0 ?_ ?_
    · show fX5_window h x y z = _
      unfold fX5_window
      rw [c0, bR_s, hx, if_pos b2f]
    · show fX6_window h x y z = _
      unfold fX6_window
      rw [c1 h hM.1.2.2.1, bR_s, hx, if_pos b2f]
  · have cx := fun h' hh => c1 h' hh x
    rw [hx] at c0 cx
    obtain ⟨a, a1, a2, rfl⟩ := rg_n (by omega) hx
    have es : nI K - nI a + 1 = nI (K - a + 1) := by rw [pk_sub a2, nI_1]
    have w0 : fX5_window h (nI a) y z = if rg y 1 (K - a + 1) = true then (bR (fX5_isTurns h z) fun r2 => if r2 = 0 then some ((-2), h) else (bW (fX4_takeWindow h 1 (nI a) ((nI a + y) - 1) z (h.1 0 7)) fun r4 h3 => some (r4, h3))) else some ((-2), h) := by
      unfold fX5_window
      rw [c0, bR_s, if_neg b2t, hC.1.1, es]
      exact rg_if (a := 1) (b := K - a + 1) (by decide) (by omega) _ _
    cases hy : rg y 1 (K - a + 1)
    · refine Oo.no (v := -2) B0 ?_ ?_
      · show fX5_window h (nI a) y z = _
        rw [w0, hy, if_neg (show ¬ (false = true) by decide)]
      · show fX6_window h (nI a) y z = _
        unfold fX6_window
        rw [cx h hM.1.2.2.1, bR_s, if_neg b2t, n1 h hM.1.2.2.1, bR_s]
        cases hy2 : rg y 1 K
        · rw [if_pos b2f]
        · obtain ⟨n, n1', n2', rfl⟩ := rg_n (by omega) hy2
          have hn : ¬ n ≤ K - a + 1 := fun q => by rw [rg_t (by omega) n1' q] at hy; cases hy
          have e3 : nI a + nI n - 1 = nI (a + n - 1) := by rw [nI_add]; exact pk_sub (b := 1) (by omega)
          have e4 : rg (nI (a + n - 1)) 1 K = false := by
            cases hq : rg (nI (a + n - 1)) 1 K
            · rfl
            · obtain ⟨m, m1, m2, m3⟩ := rg_n (by omega) hq
              have := (nI_eq (by omega) (by omega)).mp m3
              omega
          rw [if_neg b2t, e3, c1 h hM.1.2.2.1, bR_s, e4, if_pos b2f]
    · obtain ⟨n, n1', n2', rfl⟩ := rg_n (by omega) hy
      have e3 : nI a + nI n - 1 = nI (a + n - 1) := by rw [nI_add]; exact pk_sub (b := 1) (by omega)
      have w1 : ∀ h', h'.1 29 0 = nI K → fX6_window h' (nI a) (nI n) z = (bR (fX6_in h' z 1 9) fun r4 => if r4 = 0 then some ((-2), h') else (bW (fX6_windowOver h' (nI a) (nI n) z) fun r6 h5 => some (r6, h5))) := by
        intro h' hh
        unfold fX6_window
        rw [cx h' hh, bR_s, if_neg b2t, n1 h' hh, bR_s, rg_t (by omega) n1' (by omega), if_neg b2t, e3, c1 h' hh, bR_s, rg_t (by omega) (by omega) (by omega), if_neg b2t]
      rw [hy, if_pos rfl, t0, bR_s, e3, hC.2.2.2.2.2.2.1] at w0
      cases hz : rg z 1 9
      · rw [hz, if_pos b2f] at w0
        refine Oo.no (v := -2) B0 w0 ?_
        show fX6_window h (nI a) (nI n) z = _
        rw [w1 h hM.1.2.2.1, t1, bR_s, hz, if_pos b2f]
      · rw [hz, if_neg b2t] at w0
        rw [hz] at t1
        obtain ⟨t, u1, u2, rfl⟩ := rg_n (by omega) hz
        obtain ⟨h1, e1, e2, e2', e4⟩ := c_window (a0 := 1) (j := j) (T := t) (a := a) (b := a + n - 1) (by decide) hK hrl a1 (by omega) (by omega) u2 hC.1 hC.2.2.2.2.1
        have hM1 := hM.lo (e4.lo (by decide) (by decide))
        obtain ⟨h2, f1, f2, f3⟩ := r_window (a := a) (n := n) (T := t) hK hrl a1 n1' (by omega) u2 hM1.1
        have ok := wnS_ok (rl := rl) (a := a) (b := a + n - 1) a1 (by omega) (by omega) t (w, j, 0) (show Ok K (w, j, 0) from ⟨hI.ot, hI.2.2.2.2.2.2.1⟩)
        refine Oo.mk (h1 := h1) (h2 := h2) (v := nI (wnS K rl a (a + n - 1) t (w, j, 0)).2.2) ?_ ?_ (hI.wj ok.1 ok.2) (hC.sj e4 e2 e2') (hM1.ms f3 f2) (f3.1.hi (by decide) (by decide))
        · show fX5_window h (nI a) (nI n) (nI t) = _
          rw [w0, e1, bW_s]
        · show fX6_window h1 (nI a) (nI n) (nI t) = _
          rw [w1 h1 hM1.1.2.2.1, t1, bR_s, if_neg b2t, f1, bW_s]
theorem o_slide (B : Bo h) (x z : Int32) : Oo (fun h => fX5_slide h x z) (fun h => fX6_slide h x z) h := by
  have B0 := B
  obtain ⟨K, rl, d, se, w, g, j, T, fi, hI, hC, hM⟩ := B
  have hK := hI.2.1
  have hrl := hI.2.2.1
  have c0 : fX5_isSlideSize h x = _ := g_isSlideSize hC.1.1 hK x
  have c1 : ∀ h', h'.1 29 0 = nI K → fX6_in h' x 2 (h'.1 29 0) = some (b2i (rg x 2 K)) := fun h' hh => by rw [hh]; exact r_in h' x (a := 2) (b := K) (by decide) (by omega)
  have t0 : fX5_isTurns h z = _ := g_isTurns z
  have t1 : ∀ h', fX6_in h' z 1 9 = _ := fun h' => r_in h' z (a := 1) (b := 9) (by decide) (by decide)
  cases hx : rg x 2 K
  · refine Oo.no (v := -2) B0 ?_ ?_
    · show fX5_slide h x z = _
      unfold fX5_slide
      rw [c0, bR_s, hx, if_pos b2f]
    · show fX6_slide h x z = _
      unfold fX6_slide
      rw [c1 h hM.1.2.2.1, bR_s, hx, if_pos b2f]
  · rw [hx] at c0 c1
    cases hz : rg z 1 9
    · refine Oo.no (v := -2) B0 ?_ ?_
      · show fX5_slide h x z = _
        unfold fX5_slide
        rw [c0, bR_s, if_neg b2t, t0, bR_s, hz, if_pos b2f]
      · show fX6_slide h x z = _
        unfold fX6_slide
        rw [c1 h hM.1.2.2.1, bR_s, if_neg b2t, t1, bR_s, hz, if_pos b2f]
    · rw [hz] at t0 t1
      obtain ⟨n, n1', n2', rfl⟩ := rg_n (by omega) hx
      obtain ⟨t, u1, u2, rfl⟩ := rg_n (by omega) hz
      obtain ⟨h1, e1, e2, e2', e4⟩ := c_slide (a0 := 1) (j := j) (T := t) (n := n) (by decide) hK hrl (by omega) n2' u2 hC.1 hC.2.2.2.2.1
      have hM1 := hM.lo (e4.lo (by decide) (by decide))
      obtain ⟨h2, f1, f2, f3⟩ := r_slide (n := n) (T := t) hK hrl (by omega) n2' u2 hM1.1
      have ok := slS_ok (rl := rl) (n := n) (t := t) (by omega) (show Ok K (w, j, 0) from ⟨hI.ot, hI.2.2.2.2.2.2.1⟩) (K + 1 - n) (by omega)
      refine Oo.mk (h1 := h1) (h2 := h2) (v := nI (cnt (un (slS K rl n t w j (K + 1 - n)).1) (8 * (K + 1)))) ?_ ?_ (hI.wj ok.1 ok.2) (hC.sj e4 e2 e2') (hM1.ms f3 f2) (f3.1.hi (by decide) (by decide))
      · show fX5_slide h (nI n) (nI t) = _
        unfold fX5_slide
        rw [c0, bR_s, if_neg b2t, t0, bR_s, if_neg b2t, hC.2.2.2.2.2.2.1, e1, bR_s, c_unsound hK e2, bR_s]
      · show fX6_slide h1 (nI n) (nI t) = _
        unfold fX6_slide
        rw [c1 h1 hM1.1.2.2.1, bR_s, if_neg b2t, t1, bR_s, if_neg b2t, f1, bR_s, r_words0 hK f2.1 f2.2.2.1, bR_s]
end TT
