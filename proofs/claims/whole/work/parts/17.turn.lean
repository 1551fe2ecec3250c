/-! PURE: mends, turns, windows, slides -/
abbrev MS : Type := (Nat → Bool) × List Nat × Nat
/-- one word's turn -/
def stp (K rl od : Nat) (s : MS) (W : Nat) : MS := if W / 8 % 2 = od ∧ may K rl s.1 W = true then (fl s.1 (bA W (plc s.1 W)), jadd s.2.1 (bA W (plc s.1 W)), s.2.2 + 1) else s
def run (K rl od : Nat) (s : MS) (W0 : Nat) : Nat → MS
  | 0 => s
  | n + 1 => stp K rl od (run K rl od s W0 n) (W0 + n)
/-- a turn over blocks a to b -/
def tnS (K rl a b : Nat) (w : Nat → Bool) (j : List Nat) : MS := run K rl 0 (run K rl 1 (w, j, 0) (8 * a) (8 * (b + 1 - a))) (8 * a) (8 * (b + 1 - a))
theorem stp_cnt (K rl od : Nat) (s : MS) (W : Nat) : (stp K rl od s W).2.2 ≤ s.2.2 + 1 := by
  unfold stp
  by_cases h : W / 8 % 2 = od ∧ may K rl s.1 W = true
  · rw [if_pos h]; exact Nat.le_refl _
  · rw [if_neg h]; exact Nat.le_succ _
theorem run_cnt (K rl od : Nat) (s : MS) (W0 : Nat) : ∀ n, (run K rl od s W0 n).2.2 ≤ s.2.2 + n := by
  intro n
  induction n with
  | zero => exact Nat.le_refl _
  | succ n ih => exact Nat.le_trans (stp_cnt K rl od _ _) (by omega)
theorem bA_ge {K rl W : Nat} {w : Nat → Bool} (h : may K rl w W = true) : 64 ≤ bA W (plc w W) := by
  unfold may at h
  by_cases hb : 64 ≤ bA W (plc w W)
  · exact hb
  · rw [decide_eq_false hb] at h
    simp at h
theorem bA_up {K W p : Nat} (h1 : 8 ≤ W) (h2 : W < 8 * (K + 1)) (hp : p < 16) : bA W p < 64 * (K + 1) := by
  have := bA_K (K := K) (i := W / 8) (r := W % 8) (p := p) (by omega) (by omega) (by omega) hp
  rw [show 8 * (W / 8) + W % 8 = W by omega] at this
  exact this
theorem m1 (n : Nat) : nI (n + 1) + (-1) = nI n := pk_m1 n
theorem neg1 : nI 0 + (-1) < 0 := by decide
theorem negs : (-5 : Int32) < 0 ∧ (-1 : Int32) < 0 ∧ (-6 : Int32) < 0 := by decide
theorem FU_3 : FU = 997 + 1 + 1 + 1 := rfl
theorem and1b {n : Nat} (h : n < 2 ^ 31) : (nI n >>> ((3 : Int32) &&& 31)) &&& 1 = nI (n / 8 % 2) := by
  rw [shr3 h, and1 (by omega)]

/-- one word of the class's turn -/
theorem c_step {h : AH} {a0 K rl W x od c : Nat} {w : Nat → Bool} {j : List Nat} {k6 : AH → Int32 → Int32 → Option (Int32 × AH)} {k17 : AH → Int32 → Int32 → Int32 → Option (Int32 × AH)} {a1 a2 : Int32} (ha0 : a0 + 2 < 11) (hS : St a0 K w h) (hJ : CJ j h) (hK : K ≤ 6) (hrl : rl ≤ 1) (hod : od ≤ 1) (h1 : 8 ≤ W) (h2 : W < 8 * (K + 1)) (hc : c < 2 ^ 20) (ha2 : a2 = nI x) (hx : x < 100) (hW : W < 8 * (x + 1)) :
    ∃ h1, fX4_takeTurn_17b k6 k17 a0 a1 a2 (nI rl) h (nI c) (nI od) (nI W) = k17 h1 (nI (stp K rl od (w, j, c) W).2.2) (nI od) (nI (W + 1)) ∧ St a0 K (stp K rl od (w, j, c) W).1 h1 ∧ CJ (stp K rl od (w, j, c) W).2.1 h1 ∧ Fx [a0 + 2, 11, 12] [a0 + 1] h h1 := by
  have m8 : ∀ n : Nat, (8 : Int32) * nI n = nI (8 * n) := fun n => pk_mul 8 n
  have hp := plc_lt w W
  unfold fX4_takeTurn_17b
  rw [ha2, nI_1, m8, if_neg (nI_ge hW (by omega)), and1b (by omega)]
  have ce : nI (W / 8 % 2) = nI od ↔ W / 8 % 2 = od := nI_eq (by omega) (by omega)
  have no : ∀ z : Int32, z < 0 → ¬ (W / 8 % 2 = od ∧ may K rl w W = true) → ∃ h1, fX4_takeTurn_50 k6 k17 a0 a1 (nI x) (nI rl) h (nI c) (nI od) (nI W) z = k17 h1 (nI (stp K rl od (w, j, c) W).2.2) (nI od) (nI (W + 1)) ∧ St a0 K (stp K rl od (w, j, c) W).1 h1 ∧ CJ (stp K rl od (w, j, c) W).2.1 h1 ∧ Fx [a0 + 2, 11, 12] [a0 + 1] h h1 := by
    intro z hz hn
    refine ⟨h, ?_, ?_⟩
    · unfold fX4_takeTurn_50 fX4_takeTurn_87
      rw [if_pos hz, nm_eq, nI_1]
      unfold stp
      rw [if_neg hn]
    · unfold stp
      rw [if_neg hn]
      exact ⟨hS, hJ, Fx.rf _ _ _⟩
  by_cases he : W / 8 % 2 = od
  · rw [if_pos (ce.mpr he), c_placeToMend hS hK hrl h1 h2, bR_s]
    cases hm : may K rl w W
    · rw [if_neg (by decide)]
      cases odd w W
      · exact no _ negs.2.1 (fun q => by rw [hm] at q; cases q.2)
      · exact no _ negs.1 (fun q => by rw [hm] at q; cases q.2)
    · rw [if_pos rfl]
      unfold fX4_takeTurn_50 fX4_takeTurn_87
      rw [if_neg (nI_pos (by omega)), c_bitAt h1 (by omega) hp, bR_s]
      obtain ⟨h2', t1, t2, t3⟩ := turn_ok hK (bA_ge hm) (bA_up h1 h2 hp) hS
      rw [t1, bR_s, nm_eq, nI_1]
      have hJ2 : CJ j h2' := by
        obtain ⟨o, q1, q2, q3, q4, q5⟩ := hJ
        exact ⟨o, q1, by rw [t3.1 11 (by omega)]; exact q2, by rw [t3.1 11 (by omega)]; exact q3, q4, fun k hk => by rw [t3.1 12 (by omega)]; exact q5 k hk⟩
      obtain ⟨h3, u1, u2, u3⟩ := c_add (a := bA W (plc w W)) hJ2
      rw [u1, bR_s, nm_eq, nI_1]
      have hS3 : St a0 K (fl w (bA W (plc w W))) h3 := by
        obtain ⟨q1, q2, q3⟩ := t2
        refine ⟨by rw [u3.1 a0 (by simp; omega)]; exact q1, fun i hi b hb => by rw [u3.2 (a0 + 1) (by simp)]; exact q2 i hi b hb, fun V hV => by rw [u3.1 (a0 + 2) (by simp; omega)]; exact q3 V hV⟩
      refine ⟨h3, ?_, ?_⟩
      · unfold stp
        rw [if_pos ⟨he, hm⟩]
      · unfold stp
        rw [if_pos ⟨he, hm⟩]
        refine ⟨hS3, u2, ?_, ?_⟩
        · intro k hk
          have hk1 : k ≠ a0 + 2 := fun e => hk (by rw [e]; exact List.mem_cons_self)
          rw [u3.1 k (fun q => hk (List.mem_cons_of_mem _ q))]
          exact t3.1 k hk1
        · intro k hk
          rw [u3.2 k (by simp)]
          exact t3.2 k (fun e => hk (by rw [e]; exact List.mem_cons_self))
  · rw [if_neg (fun q => he (ce.mp q))]
    exact no _ negs.2.1 (fun q => he q.1)

/-- the class's pass over words -/
theorem c_pass {h : AH} {a0 K rl a b od c : Nat} {w : Nat → Bool} {j : List Nat} {k6 : AH → Int32 → Int32 → Option (Int32 × AH)} (ha0 : a0 + 2 < 11) (hS : St a0 K w h) (hJ : CJ j h) (hK : K ≤ 6) (hrl : rl ≤ 1) (hod : od ≤ 1) (ha : 1 ≤ a) (hab : a ≤ b) (hb : b ≤ K) (hc : c < 2 ^ 19) :
    ∃ h1, fX4_takeTurn_17 k6 a0 (nI a) (nI b) (nI rl) FU h (nI c) (nI od) (nI (8 * a)) = k6 h1 (nI (run K rl od (w, j, c) (8 * a) (8 * (b + 1 - a))).2.2) (nI od + (-1)) ∧ St a0 K (run K rl od (w, j, c) (8 * a) (8 * (b + 1 - a))).1 h1 ∧ CJ (run K rl od (w, j, c) (8 * a) (8 * (b + 1 - a))).2.1 h1 ∧ Fx [a0 + 2, 11, 12] [a0 + 1] h h1 := by
  have m8 : ∀ n : Nat, (8 : Int32) * nI n = nI (8 * n) := fun n => pk_mul 8 n
  refine linv (fun n (s : AH × Int32 × Int32 × Int32) => fX4_takeTurn_17 k6 a0 (nI a) (nI b) (nI rl) n s.1 s.2.1 s.2.2.1 s.2.2.2) (fun k s => s.2.1 = nI (run K rl od (w, j, c) (8 * a) k).2.2 ∧ s.2.2.1 = nI od ∧ s.2.2.2 = nI (8 * a + k) ∧ St a0 K (run K rl od (w, j, c) (8 * a) k).1 s.1 ∧ CJ (run K rl od (w, j, c) (8 * a) k).2.1 s.1 ∧ Fx [a0 + 2, 11, 12] [a0 + 1] h s.1) (8 * (b + 1 - a)) (fun o => ∃ h1, o = k6 h1 (nI (run K rl od (w, j, c) (8 * a) (8 * (b + 1 - a))).2.2) (nI od + (-1)) ∧ St a0 K (run K rl od (w, j, c) (8 * a) (8 * (b + 1 - a))).1 h1 ∧ CJ (run K rl od (w, j, c) (8 * a) (8 * (b + 1 - a))).2.1 h1 ∧ Fx [a0 + 2, 11, 12] [a0 + 1] h h1) ?_ ?_ (8 * (b + 1 - a)) 0 FU (h, nI c, nI od, nI (8 * a)) (Nat.zero_add _) (FU_lt (by omega)) ⟨rfl, rfl, rfl, hS, hJ, Fx.rf _ _ _⟩
  · intro n k s hk hI
    obtain ⟨s1, s2, s3, s4⟩ := s
    obtain ⟨i1, i2, i3, i4, i5, i6⟩ := hI
    simp only at i1 i2 i3 i4 i5 i6
    subst i1 i2 i3
    have hcn := run_cnt K rl od (w, j, c) (8 * a) k
    have hcn2 : (run K rl od (w, j, c) (8 * a) k).2.2 ≤ c + k := hcn
    obtain ⟨h1, e1, e2, e3, e4⟩ := c_step (k6 := k6) (k17 := fX4_takeTurn_17 k6 a0 (nI a) (nI b) (nI rl) n) (a1 := nI a) (a2 := nI b) (x := b) (W := 8 * a + k) (od := od) (rl := rl) (c := (run K rl od (w, j, c) (8 * a) k).2.2) (j := (run K rl od (w, j, c) (8 * a) k).2.1) ha0 i4 i5 hK hrl hod (by omega) (by omega) (by omega) rfl (by omega) (by omega)
    exact ⟨(h1, nI (stp K rl od (run K rl od (w, j, c) (8 * a) k) (8 * a + k)).2.2, nI od, nI (8 * a + k + 1)), ⟨rfl, rfl, rfl, e2, e3, Fx.tr i6 e4⟩, e1⟩
  · intro n s hI
    obtain ⟨s1, s2, s3, s4⟩ := s
    obtain ⟨i1, i2, i3, i4, i5, i6⟩ := hI
    simp only at i1 i2 i3 i4 i5 i6
    subst i1 i2 i3
    refine ⟨s1, ?_, i4, i5, i6⟩
    show fX4_takeTurn_17b k6 _ a0 (nI a) (nI b) (nI rl) s1 _ _ _ = _
    unfold fX4_takeTurn_17b
    rw [nI_1, m8, if_pos (nI_le (by omega) (by omega)), nm_eq]
theorem c_turn {h : AH} {a0 K rl a b : Nat} {w : Nat → Bool} {j : List Nat} (ha0 : a0 + 2 < 11) (hS : St a0 K w h) (hJ : CJ j h) (hK : K ≤ 6) (hrl : rl ≤ 1) (ha : 1 ≤ a) (hab : a ≤ b) (hb : b ≤ K) :
    ∃ h1, fX4_takeTurn h a0 (nI a) (nI b) (nI rl) = some (nI (tnS K rl a b w j).2.2, h1) ∧ St a0 K (tnS K rl a b w j).1 h1 ∧ CJ (tnS K rl a b w j).2.1 h1 ∧ Fx [a0 + 2, 11, 12] [a0 + 1] h h1 := by
  have m8 : ∀ n : Nat, (8 : Int32) * nI n = nI (8 * n) := fun n => pk_mul 8 n
  unfold fX4_takeTurn
  rw [FU_3]
  show ∃ h1, fX4_takeTurn_6b (fX4_takeTurn_6 a0 (nI a) (nI b) (nI rl) (997 + 1 + 1)) a0 (nI a) (nI b) (nI rl) h (nI 0) (nI 1) = _ ∧ _
  unfold fX4_takeTurn_6b
  rw [if_neg (nI_pos (by decide)), nm_eq, m8]
  obtain ⟨h1, e1, e2, e3, e4⟩ := c_pass (k6 := fX4_takeTurn_6 a0 (nI a) (nI b) (nI rl) (997 + 1 + 1)) (od := 1) (c := 0) (j := j) ha0 hS hJ hK hrl (by decide) ha hab hb (by decide)
  rw [e1, show nI 1 + (-1) = nI 0 from m1 0]
  show ∃ h1', fX4_takeTurn_6b (fX4_takeTurn_6 a0 (nI a) (nI b) (nI rl) (997 + 1)) a0 (nI a) (nI b) (nI rl) h1 _ (nI 0) = _ ∧ _
  unfold fX4_takeTurn_6b
  rw [if_neg (nI_pos (by decide)), nm_eq, m8]
  have hcn := run_cnt K rl 1 (w, j, 0) (8 * a) (8 * (b + 1 - a))
  have hcn2 : (run K rl 1 (w, j, 0) (8 * a) (8 * (b + 1 - a))).2.2 ≤ 0 + 8 * (b + 1 - a) := hcn
  obtain ⟨h2, f1, f2, f3, f4⟩ := c_pass (k6 := fX4_takeTurn_6 a0 (nI a) (nI b) (nI rl) (997 + 1)) (od := 0) (c := (run K rl 1 (w, j, 0) (8 * a) (8 * (b + 1 - a))).2.2) (j := (run K rl 1 (w, j, 0) (8 * a) (8 * (b + 1 - a))).2.1) ha0 e2 e3 hK hrl (by decide) ha hab hb (by omega)
  rw [f1]
  refine ⟨h2, ?_, f2, f3, Fx.tr e4 f4⟩
  show fX4_takeTurn_6b (fX4_takeTurn_6 a0 (nI a) (nI b) (nI rl) 997) a0 (nI a) (nI b) (nI rl) h2 _ _ = _
  unfold fX4_takeTurn_6b
  rw [if_pos neg1]
  rfl

/-- one word of the class's turn_n -/
theorem c_step_n {h : AH} {a0 K rl W x od c : Nat} {w : Nat → Bool} {j : List Nat} {k6 : AH → Int32 → Int32 → Option (Int32 × AH)} {k17 : AH → Int32 → Int32 → Int32 → Option (Int32 × AH)} {a1 a2 : Int32} (ha0 : a0 + 2 < 11) (hS : St a0 K w h) (hK : K ≤ 6) (hrl : rl ≤ 1) (hod : od ≤ 1) (h1 : 8 ≤ W) (h2 : W < 8 * (K + 1)) (hc : c < 2 ^ 20) (ha2 : a2 = nI x) (hx : x < 100) (hW : W < 8 * (x + 1)) :
    ∃ h1, fX4_takeTurn_n_17b k6 k17 a0 a1 a2 (nI rl) h (nI c) (nI od) (nI W) = k17 h1 (nI (stp K rl od (w, j, c) W).2.2) (nI od) (nI (W + 1)) ∧ St a0 K (stp K rl od (w, j, c) W).1 h1 ∧ Fx [a0 + 2] [a0 + 1] h h1 := by
  have m8 : ∀ n : Nat, (8 : Int32) * nI n = nI (8 * n) := fun n => pk_mul 8 n
  have hp := plc_lt w W
  unfold fX4_takeTurn_n_17b
  rw [ha2, nI_1, m8, if_neg (nI_ge hW (by omega)), and1b (by omega)]
  have ce : nI (W / 8 % 2) = nI od ↔ W / 8 % 2 = od := nI_eq (by omega) (by omega)
  have no : ∀ z : Int32, z < 0 → ¬ (W / 8 % 2 = od ∧ may K rl w W = true) → ∃ h1, fX4_takeTurn_n_50 k6 k17 a0 a1 (nI x) (nI rl) h (nI c) (nI od) (nI W) z = k17 h1 (nI (stp K rl od (w, j, c) W).2.2) (nI od) (nI (W + 1)) ∧ St a0 K (stp K rl od (w, j, c) W).1 h1 ∧ Fx [a0 + 2] [a0 + 1] h h1 := by
    intro z hz hn
    refine ⟨h, ?_, ?_⟩
    · unfold fX4_takeTurn_n_50 fX4_takeTurn_n_87
      rw [if_pos hz, nm_eq, nI_1]
      unfold stp
      rw [if_neg hn]
    · unfold stp
      rw [if_neg hn]
      exact ⟨hS, Fx.rf _ _ _⟩
  by_cases he : W / 8 % 2 = od
  · rw [if_pos (ce.mpr he), c_placeToMend hS hK hrl h1 h2, bR_s]
    cases hm : may K rl w W
    · rw [if_neg (by decide)]
      cases odd w W
      · exact no _ negs.2.1 (fun q => by rw [hm] at q; cases q.2)
      · exact no _ negs.1 (fun q => by rw [hm] at q; cases q.2)
    · rw [if_pos rfl]
      unfold fX4_takeTurn_n_50 fX4_takeTurn_n_87
      rw [if_neg (nI_pos (by omega)), c_bitAt h1 (by omega) hp, bR_s]
      obtain ⟨h2', t1, t2, t3⟩ := turn_ok hK (bA_ge hm) (bA_up h1 h2 hp) hS
      rw [t1, bR_s, nm_eq, nI_1]
      refine ⟨h2', ?_, ?_⟩
      · rw [nm_eq, nI_1]
        unfold stp
        rw [if_pos ⟨he, hm⟩]
      · unfold stp
        rw [if_pos ⟨he, hm⟩]
        exact ⟨t2, ⟨fun k hk => t3.1 k (fun e => hk (by rw [e]; exact List.mem_cons_self)), fun k hk => t3.2 k (fun e => hk (by rw [e]; exact List.mem_cons_self))⟩⟩
  · rw [if_neg (fun q => he (ce.mp q))]
    exact no _ negs.2.1 (fun q => he q.1)

/-- the class's pass over words_n -/
theorem c_pass_n {h : AH} {a0 K rl a b od c : Nat} {w : Nat → Bool} {j : List Nat} {k6 : AH → Int32 → Int32 → Option (Int32 × AH)} (ha0 : a0 + 2 < 11) (hS : St a0 K w h) (hK : K ≤ 6) (hrl : rl ≤ 1) (hod : od ≤ 1) (ha : 1 ≤ a) (hab : a ≤ b) (hb : b ≤ K) (hc : c < 2 ^ 19) :
    ∃ h1, fX4_takeTurn_n_17 k6 a0 (nI a) (nI b) (nI rl) FU h (nI c) (nI od) (nI (8 * a)) = k6 h1 (nI (run K rl od (w, j, c) (8 * a) (8 * (b + 1 - a))).2.2) (nI od + (-1)) ∧ St a0 K (run K rl od (w, j, c) (8 * a) (8 * (b + 1 - a))).1 h1 ∧ Fx [a0 + 2] [a0 + 1] h h1 := by
  have m8 : ∀ n : Nat, (8 : Int32) * nI n = nI (8 * n) := fun n => pk_mul 8 n
  refine linv (fun n (s : AH × Int32 × Int32 × Int32) => fX4_takeTurn_n_17 k6 a0 (nI a) (nI b) (nI rl) n s.1 s.2.1 s.2.2.1 s.2.2.2) (fun k s => s.2.1 = nI (run K rl od (w, j, c) (8 * a) k).2.2 ∧ s.2.2.1 = nI od ∧ s.2.2.2 = nI (8 * a + k) ∧ St a0 K (run K rl od (w, j, c) (8 * a) k).1 s.1 ∧ Fx [a0 + 2] [a0 + 1] h s.1) (8 * (b + 1 - a)) (fun o => ∃ h1, o = k6 h1 (nI (run K rl od (w, j, c) (8 * a) (8 * (b + 1 - a))).2.2) (nI od + (-1)) ∧ St a0 K (run K rl od (w, j, c) (8 * a) (8 * (b + 1 - a))).1 h1 ∧ Fx [a0 + 2] [a0 + 1] h h1) ?_ ?_ (8 * (b + 1 - a)) 0 FU (h, nI c, nI od, nI (8 * a)) (Nat.zero_add _) (FU_lt (by omega)) ⟨rfl, rfl, rfl, hS, Fx.rf _ _ _⟩
  · intro n k s hk hI
    obtain ⟨s1, s2, s3, s4⟩ := s
    obtain ⟨i1, i2, i3, i4, i6⟩ := hI
    simp only at i1 i2 i3 i4 i6
    subst i1 i2 i3
    have hcn := run_cnt K rl od (w, j, c) (8 * a) k
    have hcn2 : (run K rl od (w, j, c) (8 * a) k).2.2 ≤ c + k := hcn
    obtain ⟨h1, e1, e2, e4⟩ := c_step_n (k6 := k6) (k17 := fX4_takeTurn_n_17 k6 a0 (nI a) (nI b) (nI rl) n) (a1 := nI a) (a2 := nI b) (x := b) (W := 8 * a + k) (od := od) (rl := rl) (c := (run K rl od (w, j, c) (8 * a) k).2.2) (j := (run K rl od (w, j, c) (8 * a) k).2.1) ha0 i4 hK hrl hod (by omega) (by omega) (by omega) rfl (by omega) (by omega)
    exact ⟨(h1, nI (stp K rl od (run K rl od (w, j, c) (8 * a) k) (8 * a + k)).2.2, nI od, nI (8 * a + k + 1)), ⟨rfl, rfl, rfl, e2, Fx.tr i6 e4⟩, e1⟩
  · intro n s hI
    obtain ⟨s1, s2, s3, s4⟩ := s
    obtain ⟨i1, i2, i3, i4, i6⟩ := hI
    simp only at i1 i2 i3 i4 i6
    subst i1 i2 i3
    refine ⟨s1, ?_, i4, i6⟩
    show fX4_takeTurn_n_17b k6 _ a0 (nI a) (nI b) (nI rl) s1 _ _ _ = _
    unfold fX4_takeTurn_n_17b
    rw [nI_1, m8, if_pos (nI_le (by omega) (by omega)), nm_eq]
theorem c_turn_n {h : AH} {a0 K rl a b : Nat} {w : Nat → Bool} {j : List Nat} (ha0 : a0 + 2 < 11) (hS : St a0 K w h) (hK : K ≤ 6) (hrl : rl ≤ 1) (ha : 1 ≤ a) (hab : a ≤ b) (hb : b ≤ K) :
    ∃ h1, fX4_takeTurn_n h a0 (nI a) (nI b) (nI rl) = some (nI (tnS K rl a b w j).2.2, h1) ∧ St a0 K (tnS K rl a b w j).1 h1 ∧ Fx [a0 + 2] [a0 + 1] h h1 := by
  have m8 : ∀ n : Nat, (8 : Int32) * nI n = nI (8 * n) := fun n => pk_mul 8 n
  unfold fX4_takeTurn_n
  rw [FU_3]
  show ∃ h1, fX4_takeTurn_n_6b (fX4_takeTurn_n_6 a0 (nI a) (nI b) (nI rl) (997 + 1 + 1)) a0 (nI a) (nI b) (nI rl) h (nI 0) (nI 1) = _ ∧ _
  unfold fX4_takeTurn_n_6b
  rw [if_neg (nI_pos (by decide)), nm_eq, m8]
  obtain ⟨h1, e1, e2, e4⟩ := c_pass_n (k6 := fX4_takeTurn_n_6 a0 (nI a) (nI b) (nI rl) (997 + 1 + 1)) (od := 1) (c := 0) (j := j) ha0 hS hK hrl (by decide) ha hab hb (by decide)
  rw [e1, show nI 1 + (-1) = nI 0 from m1 0]
  show ∃ h1', fX4_takeTurn_n_6b (fX4_takeTurn_n_6 a0 (nI a) (nI b) (nI rl) (997 + 1)) a0 (nI a) (nI b) (nI rl) h1 _ (nI 0) = _ ∧ _
  unfold fX4_takeTurn_n_6b
  rw [if_neg (nI_pos (by decide)), nm_eq, m8]
  have hcn := run_cnt K rl 1 (w, j, 0) (8 * a) (8 * (b + 1 - a))
  have hcn2 : (run K rl 1 (w, j, 0) (8 * a) (8 * (b + 1 - a))).2.2 ≤ 0 + 8 * (b + 1 - a) := hcn
  obtain ⟨h2, f1, f2, f4⟩ := c_pass_n (k6 := fX4_takeTurn_n_6 a0 (nI a) (nI b) (nI rl) (997 + 1)) (od := 0) (c := (run K rl 1 (w, j, 0) (8 * a) (8 * (b + 1 - a))).2.2) (j := (run K rl 1 (w, j, 0) (8 * a) (8 * (b + 1 - a))).2.1) ha0 e2 hK hrl (by decide) ha hab hb (by omega)
  rw [f1]
  refine ⟨h2, ?_, f2, Fx.tr e4 f4⟩
  show fX4_takeTurn_n_6b (fX4_takeTurn_n_6 a0 (nI a) (nI b) (nI rl) 997) a0 (nI a) (nI b) (nI rl) h2 _ _ = _
  unfold fX4_takeTurn_n_6b
  rw [if_pos neg1]
  rfl
