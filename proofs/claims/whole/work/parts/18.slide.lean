/-! PURE: windows and slides of the class -/
def wnS (K rl a b : Nat) : Nat → MS → MS
  | 0, s => s
  | T + 1, s => if (tnS K rl a b s.1 s.2.1).2.2 = 0 then ((tnS K rl a b s.1 s.2.1).1, (tnS K rl a b s.1 s.2.1).2.1, s.2.2) else wnS K rl a b T ((tnS K rl a b s.1 s.2.1).1, (tnS K rl a b s.1 s.2.1).2.1, s.2.2 + 1)
def slS (K rl n T : Nat) (w : Nat → Bool) (j : List Nat) : Nat → MS
  | 0 => (w, j, 0)
  | k + 1 => wnS K rl (k + 1) (k + n) T ((slS K rl n T w j k).1, (slS K rl n T w j k).2.1, 0)
theorem tnS_cnt (K rl a b : Nat) (w : Nat → Bool) (j : List Nat) : (tnS K rl a b w j).2.2 ≤ 8 * (b + 1 - a) + 8 * (b + 1 - a) := by
  have h1 := run_cnt K rl 0 (run K rl 1 (w, j, 0) (8 * a) (8 * (b + 1 - a))) (8 * a) (8 * (b + 1 - a))
  have h2 := run_cnt K rl 1 (w, j, 0) (8 * a) (8 * (b + 1 - a))
  have h3 : (run K rl 1 (w, j, 0) (8 * a) (8 * (b + 1 - a))).2.2 ≤ 0 + 8 * (b + 1 - a) := h2
  show (run K rl 0 (run K rl 1 (w, j, 0) (8 * a) (8 * (b + 1 - a))) (8 * a) (8 * (b + 1 - a))).2.2 ≤ _
  omega

theorem c_win {a0 K rl a b Tn : Nat} (ha0 : a0 + 2 < 11) (hK : K ≤ 6) (hrl : rl ≤ 1) (ha : 1 ≤ a) (hab : a ≤ b) (hb : b ≤ K) (hTn : Tn ≤ 9) : ∀ (T u fuel : Nat) (h : AH) (w : Nat → Bool) (j : List Nat), u + T = Tn → T < fuel → St a0 K w h → CJ j h →
    ∃ h1, fX4_takeWindow_3 a0 (nI a) (nI b) (nI Tn) (nI rl) fuel h (nI u) = some (nI (wnS K rl a b T (w, j, u)).2.2, h1) ∧ St a0 K (wnS K rl a b T (w, j, u)).1 h1 ∧ CJ (wnS K rl a b T (w, j, u)).2.1 h1 ∧ Fx [a0 + 2, 11, 12] [a0 + 1] h h1 := by
  intro T
  induction T with
  | zero =>
    intro u fuel h w j hu hf hS hJ
    obtain ⟨m, rfl⟩ : ∃ m, fuel = m + 1 := ⟨fuel - 1, by omega⟩
    have hu2 : u = Tn := by omega
    subst hu2
    refine ⟨h, ?_, hS, hJ, Fx.rf _ _ _⟩
    show fX4_takeWindow_3b _ a0 (nI a) (nI b) (nI u) (nI rl) h (nI u) = _
    unfold fX4_takeWindow_3b
    rw [if_pos (nI_le (Nat.le_refl u) (by omega))]
    rfl
  | succ T ih =>
    intro u fuel h w j hu hf hS hJ
    obtain ⟨m, rfl⟩ : ∃ m, fuel = m + 1 := ⟨fuel - 1, by omega⟩
    show ∃ h1, fX4_takeWindow_3b (fX4_takeWindow_3 a0 (nI a) (nI b) (nI Tn) (nI rl) m) a0 (nI a) (nI b) (nI Tn) (nI rl) h (nI u) = _ ∧ _
    unfold fX4_takeWindow_3b
    obtain ⟨h1, e1, e2, e3, e4⟩ := c_turn (j := j) ha0 hS hJ hK hrl ha hab hb
    have hcn := tnS_cnt K rl a b w j
    have cz : nI (tnS K rl a b w j).2.2 = 0 ↔ (tnS K rl a b w j).2.2 = 0 := nI_eq (b := 0) (by omega) (by decide)
    rw [if_neg (nI_ge (show u < Tn by omega) (by omega)), e1, bW_s]
    by_cases hz : (tnS K rl a b w j).2.2 = 0
    · rw [if_pos (cz.mpr hz)]
      have ew : wnS K rl a b (T + 1) (w, j, u) = ((tnS K rl a b w j).1, (tnS K rl a b w j).2.1, u) := by
        show (if (tnS K rl a b w j).2.2 = 0 then _ else _) = _
        rw [if_pos hz]
      rw [ew]
      exact ⟨h1, rfl, e2, e3, e4⟩
    · rw [if_neg (fun q => hz (cz.mp q)), nm_eq, nI_1]
      have ew : wnS K rl a b (T + 1) (w, j, u) = wnS K rl a b T ((tnS K rl a b w j).1, (tnS K rl a b w j).2.1, u + 1) := by
        show (if (tnS K rl a b w j).2.2 = 0 then _ else _) = _
        rw [if_neg hz]
      rw [ew]
      obtain ⟨h2, g1, g2, g3, g4⟩ := ih (u + 1) m h1 (tnS K rl a b w j).1 (tnS K rl a b w j).2.1 (by omega) (by omega) e2 e3
      exact ⟨h2, g1, g2, g3, Fx.tr e4 g4⟩
theorem c_window {h : AH} {a0 K rl a b T : Nat} {w : Nat → Bool} {j : List Nat} (ha0 : a0 + 2 < 11) (hK : K ≤ 6) (hrl : rl ≤ 1) (ha : 1 ≤ a) (hab : a ≤ b) (hb : b ≤ K) (hT : T ≤ 9) (hS : St a0 K w h) (hJ : CJ j h) :
    ∃ h1, fX4_takeWindow h a0 (nI a) (nI b) (nI T) (nI rl) = some (nI (wnS K rl a b T (w, j, 0)).2.2, h1) ∧ St a0 K (wnS K rl a b T (w, j, 0)).1 h1 ∧ CJ (wnS K rl a b T (w, j, 0)).2.1 h1 ∧ Fx [a0 + 2, 11, 12] [a0 + 1] h h1 := by
  unfold fX4_takeWindow
  exact c_win ha0 hK hrl ha hab hb hT T 0 FU h w j (Nat.zero_add T) (FU_lt (by omega)) hS hJ
theorem c_slide {h : AH} {a0 K rl n T : Nat} {w : Nat → Bool} {j : List Nat} (ha0 : a0 + 2 < 11) (hK : K ≤ 6) (hrl : rl ≤ 1) (hn : 1 ≤ n) (hnK : n ≤ K) (hT : T ≤ 9) (hS : St a0 K w h) (hJ : CJ j h) :
    ∃ h1, fX4_takeSlide h a0 (nI n) (nI T) (nI rl) = some h1 ∧ St a0 K (slS K rl n T w j (K + 1 - n)).1 h1 ∧ CJ (slS K rl n T w j (K + 1 - n)).2.1 h1 ∧ Fx [a0 + 2, 11, 12] [a0 + 1] h h1 := by
  unfold fX4_takeSlide
  have sm : ∀ k : Nat, nI (k + 1) + nI n - 1 = nI (k + n) := by
    intro k
    rw [nI_add]
    have := pk_sub (a := k + 1 + n) (b := 1) (by omega)
    rw [show k + 1 + n - 1 = k + n by omega] at this
    exact this
  refine linv (fun m (s : AH × Int32) => fX4_takeSlide_3 a0 (nI n) (nI T) (nI rl) m s.1 s.2) (fun k s => s.2 = nI (k + 1) ∧ St a0 K (slS K rl n T w j k).1 s.1 ∧ CJ (slS K rl n T w j k).2.1 s.1 ∧ Fx [a0 + 2, 11, 12] [a0 + 1] h s.1) (K + 1 - n) (fun o => ∃ h1, o = some h1 ∧ St a0 K (slS K rl n T w j (K + 1 - n)).1 h1 ∧ CJ (slS K rl n T w j (K + 1 - n)).2.1 h1 ∧ Fx [a0 + 2, 11, 12] [a0 + 1] h h1) ?_ ?_ (K + 1 - n) 0 FU (h, nI 1) (Nat.zero_add _) (FU_lt (by omega)) ⟨rfl, hS, hJ, Fx.rf _ _ _⟩
  · intro m k s hk hI
    obtain ⟨s1, s2⟩ := s
    obtain ⟨i1, i4, i5, i6⟩ := hI
    simp only at i1 i4 i5 i6
    subst i1
    obtain ⟨h1, e1, e2, e3, e4⟩ := c_window (a := k + 1) (b := k + n) (T := T) (j := (slS K rl n T w j k).2.1) ha0 hK hrl (by omega) (by omega) (by omega) hT i4 i5
    refine ⟨(h1, nI (k + 2)), ⟨rfl, e2, e3, Fx.tr i6 e4⟩, ?_⟩
    show fX4_takeSlide_3b (fX4_takeSlide_3 a0 (nI n) (nI T) (nI rl) m) a0 (nI n) (nI T) (nI rl) s1 (nI (k + 1)) = _
    unfold fX4_takeSlide_3b
    rw [i4.1, sm, if_neg (nI_nlt (by omega) (by omega)), e1, bW_s, nm_eq, nI_1]
  · intro m s hI
    obtain ⟨s1, s2⟩ := s
    obtain ⟨i1, i4, i5, i6⟩ := hI
    simp only at i1 i4 i5 i6
    subst i1
    refine ⟨s1, ?_, i4, i5, i6⟩
    show fX4_takeSlide_3b (fX4_takeSlide_3 a0 (nI n) (nI T) (nI rl) m) a0 (nI n) (nI T) (nI rl) s1 (nI (K + 1 - n + 1)) = _
    unfold fX4_takeSlide_3b
    rw [i4.1, sm, if_pos (nI_lt (by omega) (by omega))]

theorem c_win_n {a0 K rl a b Tn : Nat} (ha0 : a0 + 2 < 11) (hK : K ≤ 6) (hrl : rl ≤ 1) (ha : 1 ≤ a) (hab : a ≤ b) (hb : b ≤ K) (hTn : Tn ≤ 9) : ∀ (T u fuel : Nat) (h : AH) (w : Nat → Bool) (j : List Nat), u + T = Tn → T < fuel → St a0 K w h →
    ∃ h1, fX4_takeWindow_n_3 a0 (nI a) (nI b) (nI Tn) (nI rl) fuel h (nI u) = some (nI (wnS K rl a b T (w, j, u)).2.2, h1) ∧ St a0 K (wnS K rl a b T (w, j, u)).1 h1 ∧ Fx [a0 + 2] [a0 + 1] h h1 := by
  intro T
  induction T with
  | zero =>
    intro u fuel h w j hu hf hS
    obtain ⟨m, rfl⟩ : ∃ m, fuel = m + 1 := ⟨fuel - 1, by omega⟩
    have hu2 : u = Tn := by omega
    subst hu2
    refine ⟨h, ?_, hS, Fx.rf _ _ _⟩
    show fX4_takeWindow_n_3b _ a0 (nI a) (nI b) (nI u) (nI rl) h (nI u) = _
    unfold fX4_takeWindow_n_3b
    rw [if_pos (nI_le (Nat.le_refl u) (by omega))]
    rfl
  | succ T ih =>
    intro u fuel h w j hu hf hS
    obtain ⟨m, rfl⟩ : ∃ m, fuel = m + 1 := ⟨fuel - 1, by omega⟩
    show ∃ h1, fX4_takeWindow_n_3b (fX4_takeWindow_n_3 a0 (nI a) (nI b) (nI Tn) (nI rl) m) a0 (nI a) (nI b) (nI Tn) (nI rl) h (nI u) = _ ∧ _
    unfold fX4_takeWindow_n_3b
    obtain ⟨h1, e1, e2, e4⟩ := c_turn_n (j := j) ha0 hS hK hrl ha hab hb
    have hcn := tnS_cnt K rl a b w j
    have cz : nI (tnS K rl a b w j).2.2 = 0 ↔ (tnS K rl a b w j).2.2 = 0 := nI_eq (b := 0) (by omega) (by decide)
    rw [if_neg (nI_ge (show u < Tn by omega) (by omega)), e1, bW_s]
    by_cases hz : (tnS K rl a b w j).2.2 = 0
    · rw [if_pos (cz.mpr hz)]
      have ew : wnS K rl a b (T + 1) (w, j, u) = ((tnS K rl a b w j).1, (tnS K rl a b w j).2.1, u) := by
        show (if (tnS K rl a b w j).2.2 = 0 then _ else _) = _
        rw [if_pos hz]
      rw [ew]
      exact ⟨h1, rfl, e2, e4⟩
    · rw [if_neg (fun q => hz (cz.mp q)), nm_eq, nI_1]
      have ew : wnS K rl a b (T + 1) (w, j, u) = wnS K rl a b T ((tnS K rl a b w j).1, (tnS K rl a b w j).2.1, u + 1) := by
        show (if (tnS K rl a b w j).2.2 = 0 then _ else _) = _
        rw [if_neg hz]
      rw [ew]
      obtain ⟨h2, g1, g2, g4⟩ := ih (u + 1) m h1 (tnS K rl a b w j).1 (tnS K rl a b w j).2.1 (by omega) (by omega) e2
      exact ⟨h2, g1, g2, Fx.tr e4 g4⟩
theorem c_window_n {h : AH} {a0 K rl a b T : Nat} {w : Nat → Bool} {j : List Nat} (ha0 : a0 + 2 < 11) (hK : K ≤ 6) (hrl : rl ≤ 1) (ha : 1 ≤ a) (hab : a ≤ b) (hb : b ≤ K) (hT : T ≤ 9) (hS : St a0 K w h) :
    ∃ h1, fX4_takeWindow_n h a0 (nI a) (nI b) (nI T) (nI rl) = some (nI (wnS K rl a b T (w, j, 0)).2.2, h1) ∧ St a0 K (wnS K rl a b T (w, j, 0)).1 h1 ∧ Fx [a0 + 2] [a0 + 1] h h1 := by
  unfold fX4_takeWindow_n
  exact c_win_n ha0 hK hrl ha hab hb hT T 0 FU h w j (Nat.zero_add T) (FU_lt (by omega)) hS
theorem c_slide_n {h : AH} {a0 K rl n T : Nat} {w : Nat → Bool} {j : List Nat} (ha0 : a0 + 2 < 11) (hK : K ≤ 6) (hrl : rl ≤ 1) (hn : 1 ≤ n) (hnK : n ≤ K) (hT : T ≤ 9) (hS : St a0 K w h) :
    ∃ h1, fX4_takeSlide_n h a0 (nI n) (nI T) (nI rl) = some h1 ∧ St a0 K (slS K rl n T w j (K + 1 - n)).1 h1 ∧ Fx [a0 + 2] [a0 + 1] h h1 := by
  unfold fX4_takeSlide_n
  have sm : ∀ k : Nat, nI (k + 1) + nI n - 1 = nI (k + n) := by
    intro k
    rw [nI_add]
    have := pk_sub (a := k + 1 + n) (b := 1) (by omega)
    rw [show k + 1 + n - 1 = k + n by omega] at this
    exact this
  refine linv (fun m (s : AH × Int32) => fX4_takeSlide_n_3 a0 (nI n) (nI T) (nI rl) m s.1 s.2) (fun k s => s.2 = nI (k + 1) ∧ St a0 K (slS K rl n T w j k).1 s.1 ∧ Fx [a0 + 2] [a0 + 1] h s.1) (K + 1 - n) (fun o => ∃ h1, o = some h1 ∧ St a0 K (slS K rl n T w j (K + 1 - n)).1 h1 ∧ Fx [a0 + 2] [a0 + 1] h h1) ?_ ?_ (K + 1 - n) 0 FU (h, nI 1) (Nat.zero_add _) (FU_lt (by omega)) ⟨rfl, hS, Fx.rf _ _ _⟩
  · intro m k s hk hI
    obtain ⟨s1, s2⟩ := s
    obtain ⟨i1, i4, i6⟩ := hI
    simp only at i1 i4 i6
    subst i1
    obtain ⟨h1, e1, e2, e4⟩ := c_window_n (a := k + 1) (b := k + n) (T := T) (j := (slS K rl n T w j k).2.1) ha0 hK hrl (by omega) (by omega) (by omega) hT i4
    refine ⟨(h1, nI (k + 2)), ⟨rfl, e2, Fx.tr i6 e4⟩, ?_⟩
    show fX4_takeSlide_n_3b (fX4_takeSlide_n_3 a0 (nI n) (nI T) (nI rl) m) a0 (nI n) (nI T) (nI rl) s1 (nI (k + 1)) = _
    unfold fX4_takeSlide_n_3b
    rw [i4.1, sm, if_neg (nI_nlt (by omega) (by omega)), e1, bW_s, nm_eq, nI_1]
  · intro m s hI
    obtain ⟨s1, s2⟩ := s
    obtain ⟨i1, i4, i6⟩ := hI
    simp only at i1 i4 i6
    subst i1
    refine ⟨s1, ?_, i4, i6⟩
    show fX4_takeSlide_n_3b (fX4_takeSlide_n_3 a0 (nI n) (nI T) (nI rl) m) a0 (nI n) (nI T) (nI rl) s1 (nI (K + 1 - n + 1)) = _
    unfold fX4_takeSlide_n_3b
    rw [i4.1, sm, if_pos (nI_lt (by omega) (by omega))]
