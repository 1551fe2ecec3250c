/-! PURE: the reference's mends, turns, windows, slides -/
def MSt (K rl : Nat) (w : Nat → Bool) (j : List Nat) (h : AH) : Prop := Ro 32 w h ∧ MJ j h ∧ h.1 29 0 = nI K ∧ h.1 29 1 = nI rl
def FrM (h h1 : AH) : Prop := Fx [29, 32, 34] [] h h1 ∧ ∀ q, q ≠ 7 → h1.1 29 q = h.1 29 q
theorem FrM.rf (h : AH) : FrM h h := ⟨Fx.rf _ _ _, fun _ _ => rfl⟩
theorem FrM.tr {h h1 h2 : AH} (a : FrM h h1) (b : FrM h1 h2) : FrM h h2 := ⟨Fx.tr a.1 b.1, fun q hq => (b.2 q hq).trans (a.2 q hq)⟩
def mres (K rl : Nat) (w : Nat → Bool) (W : Nat) : Int32 := if odd w W then (if may K rl w W then nI (plc w W) else -5) else if snd w W then -1 else -6
theorem nz1 : vp_nar .boolean 1 = 1 := rfl
theorem nz0 : vp_nar .boolean 0 = 0 := rfl
theorem may_odd {K rl W : Nat} {w : Nat → Bool} (h : may K rl w W = true) : odd w W = true := by
  unfold may at h
  cases ho : odd w W
  · rw [ho] at h; simp at h
  · rfl
theorem Ro_fl {h : AH} {w : Nat → Bool} {c a : Nat} {v : Int32} (hw : Ro c w h) (hv : v = b2i (!(w a))) : Ro c (fl w a) (sI h c a v) := by
  intro b hb
  rw [sI_u]
  unfold upd fl
  by_cases hba : b = a
  · rw [if_pos hba, if_pos hba, hv, hba]
  · rw [if_neg hba, if_neg hba]
    exact hw b hb
theorem r_mendOf {h : AH} {K rl i r : Nat} {w : Nat → Bool} {j : List Nat} (hM : MSt K rl w j h) (hK : K ≤ 6) (hrl : rl ≤ 1) (hi : 1 ≤ i) (hiK : i ≤ K) (hr : r < 8) :
    ∃ h1, fX6_mendOf h (nI i) (nI r) = some (mres K rl w (8 * i + r), h1) ∧ MSt K rl (if may K rl w (8 * i + r) then fl w (bA (8 * i + r) (plc w (8 * i + r))) else w) (if may K rl w (8 * i + r) then jadd j (bA (8 * i + r) (plc w (8 * i + r))) else j) h1 ∧ FrM h h1 := by
  have hM0 := hM
  obtain ⟨m1', m2, m3, m4⟩ := hM
  have hp := plc_lt w (8 * i + r)
  unfold fX6_mendOf mres
  rw [r_stateOf m1' hi (by omega) hr, bR_s]
  have s2 : (2 : Int32) ≤ nI (sta w (8 * i + r)) ↔ 2 ≤ sta w (8 * i + r) := nI_leI (a := 2) (by decide) (by have := sta_lt (w := w) (W := 8 * i + r); omega)
  have s0 : nI (sta w (8 * i + r)) = 0 ↔ sta w (8 * i + r) = 0 := nI_eq (b := 0) (by have := sta_lt (w := w) (W := 8 * i + r); omega) (by decide)
  have hlt := sta_lt (w := w) (W := 8 * i + r)
  have a2 := sta_2 (w := w) (W := 8 * i + r)
  have a0 := sta_0 (w := w) (W := 8 * i + r)
  cases ho : odd w (8 * i + r)
  · have hm : may K rl w (8 * i + r) = false := by
      cases hm : may K rl w (8 * i + r)
      · rfl
      · have := may_odd hm; rw [ho] at this; cases this
    have hn2 : ¬ 2 ≤ sta w (8 * i + r) := fun q => by have := a2.mp (by omega); rw [ho] at this; cases this
    rw [if_neg (fun q => hn2 (s2.mp q)), hm]
    refine ⟨h, ?_, by simpa using hM0, FrM.rf h⟩
    cases hs : snd w (8 * i + r)
    · rw [if_neg (fun q => by have := a0.mp (s0.mp q); rw [hs] at this; cases this)]
      simp
    · rw [if_pos (s0.mpr (a0.mpr hs))]
      simp
  · rw [if_pos (s2.mpr (by rw [a2.mpr ho]; exact Nat.le_refl 2)), r_placeBy m1' m3 m4 hrl hK hi hiK hr, bR_s]
    cases hm : may K rl w (8 * i + r)
    · rw [if_neg (show ¬ (false = true) by decide), if_pos rfl]
      exact ⟨h, by simp, by simpa using hM0, FrM.rf h⟩
    · have hb := bA_ge hm
      have hb2 := bA_K (K := K) hi hiK hr hp
      rw [if_pos rfl, if_neg (show ¬ nI (plc w (8 * i + r)) = -1 from fun q => by
        have h9 := nI_pos (n := plc w (8 * i + r)) (by omega)
        rw [q] at h9
        exact h9 (by decide)), r_bitAt h hi (by omega) hr hp, bR_s, ck_in (show bA (8 * i + r) (plc w (8 * i + r)) < 448 by omega) (by decide), nI_clamp (by omega), m1' _ (by omega)]
      have fin : ∀ v : Int32, vp_nar .boolean v = b2i (!(w (bA (8 * i + r) (plc w (8 * i + r))))) → ∃ h1, fX6_mendOf_70 (nI i) (nI r) h (nI (plc w (8 * i + r))) (nI (bA (8 * i + r) (plc w (8 * i + r)))) (nI (bA (8 * i + r) (plc w (8 * i + r)))) v = some (nI (plc w (8 * i + r)), h1) ∧ MSt K rl (fl w (bA (8 * i + r) (plc w (8 * i + r)))) (jadd j (bA (8 * i + r) (plc w (8 * i + r)))) h1 ∧ FrM h h1 := by
        intro v hv
        unfold fX6_mendOf_70
        rw [ck_in (show bA (8 * i + r) (plc w (8 * i + r)) < 448 by omega) (by decide), nm_eq, nI_clamp (by omega)]
        have hJ2 : MJ j (sI h 32 (bA (8 * i + r) (plc w (8 * i + r))) (vp_nar .boolean v)) := by
          obtain ⟨q1, q2, q3⟩ := m2
          exact ⟨by rw [sI_r (by decide)]; exact q1, q2, fun k hk => by rw [sI_r (by decide)]; exact q3 k hk⟩
        obtain ⟨h2, n1, n2, n3, n4⟩ := r_notes (a := bA (8 * i + r) (plc w (8 * i + r))) hJ2
        rw [n1, bR_s]
        refine ⟨h2, rfl, ⟨?_, n2, ?_, ?_⟩, ?_, ?_⟩
        · intro b hb'
          rw [n3.1 32 (by decide)]
          exact Ro_fl m1' hv b hb'
        · rw [n4 0 (by decide), sI_r (by decide)]; exact m3
        · rw [n4 1 (by decide), sI_r (by decide)]; exact m4
        · exact Fx.tr (Fx.mo Fx.sI (by decide) (by decide)) (Fx.mo n3 (by decide) (by decide))
        · intro q hq
          rw [n4 q hq, sI_r (by decide)]
      cases hwa : w (bA (8 * i + r) (plc w (8 * i + r)))
      · rw [if_pos b2f]
        have := fin 1 (by rw [hwa]; rfl)
        simpa using this
      · rw [if_neg b2t]
        have := fin 0 (by rw [hwa]; rfl)
        simpa using this
theorem run_add (K rl od : Nat) (s : MS) (W0 m : Nat) : ∀ n, run K rl od s W0 (m + n) = run K rl od (run K rl od s W0 m) (W0 + m) n := by
  intro n
  induction n with
  | zero => rfl
  | succ n ih =>
    show stp K rl od (run K rl od s W0 (m + n)) (W0 + (m + n)) = stp K rl od (run K rl od (run K rl od s W0 m) (W0 + m) n) (W0 + m + n)
    rw [ih, Nat.add_assoc]
theorem run_skip {K rl od i : Nat} {s : MS} (h : ¬ i % 2 = od) : ∀ n, n ≤ 8 → run K rl od s (8 * i) n = s := by
  intro n
  induction n with
  | zero => intro _; rfl
  | succ n ih =>
    intro hn
    show stp K rl od (run K rl od s (8 * i) n) (8 * i + n) = s
    rw [ih (by omega)]
    unfold stp
    rw [if_neg (fun q => h (by have := q.1; rw [show (8 * i + n) / 8 = i by omega] at this; exact this))]
theorem mres_neg {K rl W : Nat} {w : Nat → Bool} : mres K rl w W < 0 ↔ may K rl w W = false := by
  unfold mres
  have hp := plc_lt w W
  have hq : ¬ nI (plc w W) < 0 := nI_pos (by omega)
  cases hm : may K rl w W
  · cases odd w W
    · cases snd w W
      · simp [negs]
      · simp [negs]
    · simp [negs]
  · rw [may_odd hm]
    simp [hq]
theorem r_row {h : AH} {K rl i od c : Nat} {w : Nat → Bool} {j : List Nat} {k5 : AH → Int32 → Int32 → Option (Int32 × AH)} {k13 : AH → Int32 → Int32 → Int32 → Option (Int32 × AH)} {a1 a2 : Int32} (hM : MSt K rl w j h) (hK : K ≤ 6) (hrl : rl ≤ 1) (hod : od ≤ 1) (hi : 1 ≤ i) (hiK : i ≤ K) (hc : c < 2 ^ 20) :
    ∃ h1, fX6_turnOver_22 k5 k13 a1 a2 FU h (nI c) (nI od) (nI i) 0 = k13 h1 (nI (run K rl od (w, j, c) (8 * i) 8).2.2) (nI od) (nI (i + 1)) ∧ MSt K rl (run K rl od (w, j, c) (8 * i) 8).1 (run K rl od (w, j, c) (8 * i) 8).2.1 h1 ∧ FrM h h1 := by
  have ce : nI (i % 2) = nI od ↔ i % 2 = od := nI_eq (by omega) (by omega)
  by_cases he : i % 2 = od
  · refine linv (fun n (s : AH × Int32 × Int32 × Int32 × Int32) => fX6_turnOver_22 k5 k13 a1 a2 n s.1 s.2.1 s.2.2.1 s.2.2.2.1 s.2.2.2.2) (fun k s => s.2.1 = nI (run K rl od (w, j, c) (8 * i) k).2.2 ∧ s.2.2.1 = nI od ∧ s.2.2.2.1 = nI i ∧ s.2.2.2.2 = nI k ∧ MSt K rl (run K rl od (w, j, c) (8 * i) k).1 (run K rl od (w, j, c) (8 * i) k).2.1 s.1 ∧ FrM h s.1) 8 (fun o => ∃ h1, o = k13 h1 (nI (run K rl od (w, j, c) (8 * i) 8).2.2) (nI od) (nI (i + 1)) ∧ MSt K rl (run K rl od (w, j, c) (8 * i) 8).1 (run K rl od (w, j, c) (8 * i) 8).2.1 h1 ∧ FrM h h1) ?_ ?_ 8 0 FU (h, nI c, nI od, nI i, 0) (Nat.zero_add _) (FU_lt (by decide)) ⟨rfl, rfl, rfl, rfl, hM, FrM.rf h⟩
    · intro n k s hk hI
      obtain ⟨s1, s2, s3, s4, s5⟩ := s
      obtain ⟨i1, i2, i3, i4, i5, i6⟩ := hI
      simp only at i1 i2 i3 i4 i5 i6
      subst i1 i2 i3 i4
      have hcn := run_cnt K rl od (w, j, c) (8 * i) k
      have hcn2 : (run K rl od (w, j, c) (8 * i) k).2.2 ≤ c + k := hcn
      have es : run K rl od (w, j, c) (8 * i) (k + 1) = stp K rl od (run K rl od (w, j, c) (8 * i) k) (8 * i + k) := rfl
      generalize run K rl od (w, j, c) (8 * i) k = S at i5 i6 hcn2 es ⊢
      rw [es]
      obtain ⟨h1, e1, e2, e3⟩ := r_mendOf i5 hK hrl hi hiK hk
      have hd : (8 * i + k) / 8 % 2 = od := by omega
      refine ⟨(h1, nI (stp K rl od S (8 * i + k)).2.2, nI od, nI i, nI (k + 1)), ⟨rfl, rfl, rfl, rfl, ?_, FrM.tr i6 e3⟩, ?_⟩
      · unfold stp
        cases hm : may K rl S.1 (8 * i + k)
        · rw [hm] at e2
          simpa [hd] using e2
        · rw [hm] at e2
          simpa [hd] using e2
      · show fX6_turnOver_22b k5 k13 (fX6_turnOver_22 k5 k13 a1 a2 n) a1 a2 s1 (nI S.2.2) (nI od) (nI i) (nI k) = _
        unfold fX6_turnOver_22b
        rw [if_neg (show ¬ (8 : Int32) ≤ nI k from nI_ge (b := 8) hk (by decide)), rem2 (by omega), if_pos (ce.mpr he), e1, bW_s]
        unfold fX6_turnOver_55
        simp only [nm_eq]
        rw [nI_1]
        unfold stp
        cases hm : may K rl S.1 (8 * i + k)
        · rw [if_pos (mres_neg.mpr hm), if_neg (fun q => by cases q.2), show nI S.2.2 + 0 = nI S.2.2 from Int32.add_zero _]
        · rw [if_neg (fun q => by have := mres_neg.mp q; rw [hm] at this; cases this), if_pos ⟨hd, rfl⟩, nI_1]
    · intro n s hI
      obtain ⟨s1, s2, s3, s4, s5⟩ := s
      obtain ⟨i1, i2, i3, i4, i5, i6⟩ := hI
      simp only at i1 i2 i3 i4 i5 i6
      subst i1 i2 i3 i4
      refine ⟨s1, ?_, i5, i6⟩
      show fX6_turnOver_22b k5 k13 _ a1 a2 s1 _ (nI od) (nI i) (nI 8) = _
      unfold fX6_turnOver_22b fX6_turnOver_63
      rw [if_pos (show (8 : Int32) ≤ nI 8 from nI_le (a := 8) (Nat.le_refl 8) (by decide)), nm_eq, nI_1]
  · refine ⟨h, ?_, ?_, FrM.rf h⟩
    · rw [run_skip he 8 (Nat.le_refl 8)]
      show fX6_turnOver_22b k5 k13 (fX6_turnOver_22 k5 k13 a1 a2 999) a1 a2 h (nI c) (nI od) (nI i) (nI 0) = _
      unfold fX6_turnOver_22b fX6_turnOver_63
      rw [if_neg (show ¬ (8 : Int32) ≤ nI 0 by decide), rem2 (by omega), if_neg (fun q => he (ce.mp q)), nm_eq, nI_1]
    · rw [run_skip he 8 (Nat.le_refl 8)]
      exact hM
theorem r_pass {h : AH} {K rl a b od c : Nat} {w : Nat → Bool} {j : List Nat} {k5 : AH → Int32 → Int32 → Option (Int32 × AH)} (hM : MSt K rl w j h) (hK : K ≤ 6) (hrl : rl ≤ 1) (hod : od ≤ 1) (ha : 1 ≤ a) (hab : a ≤ b) (hb : b ≤ K) (hc : c < 2 ^ 19) :
    ∃ h1, fX6_turnOver_13 k5 (nI a) (nI b) FU h (nI c) (nI od) (nI a) = k5 h1 (nI (run K rl od (w, j, c) (8 * a) (8 * (b + 1 - a))).2.2) (nI od + (-1)) ∧ MSt K rl (run K rl od (w, j, c) (8 * a) (8 * (b + 1 - a))).1 (run K rl od (w, j, c) (8 * a) (8 * (b + 1 - a))).2.1 h1 ∧ FrM h h1 := by
  refine linv (fun n (s : AH × Int32 × Int32 × Int32) => fX6_turnOver_13 k5 (nI a) (nI b) n s.1 s.2.1 s.2.2.1 s.2.2.2) (fun t s => s.2.1 = nI (run K rl od (w, j, c) (8 * a) (8 * t)).2.2 ∧ s.2.2.1 = nI od ∧ s.2.2.2 = nI (a + t) ∧ MSt K rl (run K rl od (w, j, c) (8 * a) (8 * t)).1 (run K rl od (w, j, c) (8 * a) (8 * t)).2.1 s.1 ∧ FrM h s.1) (b + 1 - a) (fun o => ∃ h1, o = k5 h1 (nI (run K rl od (w, j, c) (8 * a) (8 * (b + 1 - a))).2.2) (nI od + (-1)) ∧ MSt K rl (run K rl od (w, j, c) (8 * a) (8 * (b + 1 - a))).1 (run K rl od (w, j, c) (8 * a) (8 * (b + 1 - a))).2.1 h1 ∧ FrM h h1) ?_ ?_ (b + 1 - a) 0 FU (h, nI c, nI od, nI a) (Nat.zero_add _) (FU_lt (by omega)) ⟨rfl, rfl, rfl, hM, FrM.rf h⟩
  · intro n t s ht hI
    obtain ⟨s1, s2, s3, s4⟩ := s
    obtain ⟨i1, i2, i3, i5, i6⟩ := hI
    simp only at i1 i2 i3 i5 i6
    subst i1 i2 i3
    have hcn := run_cnt K rl od (w, j, c) (8 * a) (8 * t)
    have hcn2 : (run K rl od (w, j, c) (8 * a) (8 * t)).2.2 ≤ c + 8 * t := hcn
    have ea := run_add K rl od (w, j, c) (8 * a) (8 * t) 8
    rw [show 8 * t + 8 = 8 * (t + 1) by omega, show 8 * a + 8 * t = 8 * (a + t) by omega] at ea
    obtain ⟨h1, e1, e2, e3⟩ := r_row (k5 := k5) (k13 := fX6_turnOver_13 k5 (nI a) (nI b) n) (a1 := nI a) (a2 := nI b) (od := od) (i := a + t) (c := (run K rl od (w, j, c) (8 * a) (8 * t)).2.2) (j := (run K rl od (w, j, c) (8 * a) (8 * t)).2.1) i5 hK hrl hod (by omega) (by omega) (by omega)
    have ep : ((run K rl od (w, j, c) (8 * a) (8 * t)).1, (run K rl od (w, j, c) (8 * a) (8 * t)).2.1, (run K rl od (w, j, c) (8 * a) (8 * t)).2.2) = run K rl od (w, j, c) (8 * a) (8 * t) := rfl
    rw [ep, ← ea] at e1 e2
    refine ⟨(h1, nI (run K rl od (w, j, c) (8 * a) (8 * (t + 1))).2.2, nI od, nI (a + t + 1)), ⟨rfl, rfl, rfl, e2, FrM.tr i6 e3⟩, ?_⟩
    show fX6_turnOver_13b k5 (fX6_turnOver_13 k5 (nI a) (nI b) n) (nI a) (nI b) s1 _ (nI od) (nI (a + t)) = _
    unfold fX6_turnOver_13b
    rw [if_neg (nI_nlt (by omega) (by omega))]
    exact e1
  · intro n s hI
    obtain ⟨s1, s2, s3, s4⟩ := s
    obtain ⟨i1, i2, i3, i5, i6⟩ := hI
    simp only at i1 i2 i3 i5 i6
    subst i1 i2 i3
    refine ⟨s1, ?_, i5, i6⟩
    show fX6_turnOver_13b k5 _ (nI a) (nI b) s1 _ (nI od) (nI (a + (b + 1 - a))) = _
    unfold fX6_turnOver_13b
    rw [if_pos (nI_lt (by omega) (by omega)), nm_eq]
theorem r_turn {h : AH} {K rl a b : Nat} {w : Nat → Bool} {j : List Nat} (hM : MSt K rl w j h) (hK : K ≤ 6) (hrl : rl ≤ 1) (ha : 1 ≤ a) (hab : a ≤ b) (hb : b ≤ K) :
    ∃ h1, fX6_turnOver h (nI a) (nI b) = some (nI (tnS K rl a b w j).2.2, h1) ∧ MSt K rl (tnS K rl a b w j).1 (tnS K rl a b w j).2.1 h1 ∧ FrM h h1 := by
  unfold fX6_turnOver
  rw [FU_3]
  show ∃ h1, fX6_turnOver_5b (fX6_turnOver_5 (nI a) (nI b) (997 + 1 + 1)) (nI a) (nI b) h (nI 0) (nI 1) = _ ∧ _
  unfold fX6_turnOver_5b
  rw [if_neg (nI_pos (by decide))]
  obtain ⟨h1, e1, e2, e4⟩ := r_pass (k5 := fX6_turnOver_5 (nI a) (nI b) (997 + 1 + 1)) (od := 1) (c := 0) hM hK hrl (by decide) ha hab hb (by decide)
  rw [e1, show nI 1 + (-1) = nI 0 from m1 0]
  show ∃ h1', fX6_turnOver_5b (fX6_turnOver_5 (nI a) (nI b) (997 + 1)) (nI a) (nI b) h1 _ (nI 0) = _ ∧ _
  unfold fX6_turnOver_5b
  rw [if_neg (nI_pos (by decide))]
  have hcn := run_cnt K rl 1 (w, j, 0) (8 * a) (8 * (b + 1 - a))
  have hcn2 : (run K rl 1 (w, j, 0) (8 * a) (8 * (b + 1 - a))).2.2 ≤ 0 + 8 * (b + 1 - a) := hcn
  obtain ⟨h2, f1, f2, f4⟩ := r_pass (k5 := fX6_turnOver_5 (nI a) (nI b) (997 + 1)) (od := 0) (c := (run K rl 1 (w, j, 0) (8 * a) (8 * (b + 1 - a))).2.2) e2 hK hrl (by decide) ha hab hb (by omega)
  rw [f1]
  refine ⟨h2, ?_, f2, FrM.tr e4 f4⟩
  show fX6_turnOver_5b (fX6_turnOver_5 (nI a) (nI b) 997) (nI a) (nI b) h2 _ _ = _
  unfold fX6_turnOver_5b
  rw [if_pos neg1]
  rfl
theorem r_win {K rl a n Tn : Nat} (hK : K ≤ 6) (hrl : rl ≤ 1) (ha : 1 ≤ a) (hn : 1 ≤ n) (hb : a + n - 1 ≤ K) (hTn : Tn ≤ 9) : ∀ (T u fuel : Nat) (h : AH) (w : Nat → Bool) (j : List Nat), u + T = Tn → T < fuel → MSt K rl w j h →
    ∃ h1, fX6_windowOver_3 (nI a) (nI n) (nI Tn) fuel h (nI u) = some (nI (wnS K rl a (a + n - 1) T (w, j, u)).2.2, h1) ∧ MSt K rl (wnS K rl a (a + n - 1) T (w, j, u)).1 (wnS K rl a (a + n - 1) T (w, j, u)).2.1 h1 ∧ FrM h h1 := by
  have sm : nI a + nI n - 1 = nI (a + n - 1) := by
    rw [nI_add]
    exact pk_sub (b := 1) (by omega)
  intro T
  induction T with
  | zero =>
    intro u fuel h w j hu hf hM
    obtain ⟨m, rfl⟩ : ∃ m, fuel = m + 1 := ⟨fuel - 1, by omega⟩
    have hu2 : u = Tn := by omega
    subst hu2
    refine ⟨h, ?_, hM, FrM.rf _⟩
    show fX6_windowOver_3b _ (nI a) (nI n) (nI u) h (nI u) = _
    unfold fX6_windowOver_3b
    rw [if_pos (nI_le (Nat.le_refl u) (by omega))]
    rfl
  | succ T ih =>
    intro u fuel h w j hu hf hM
    obtain ⟨m, rfl⟩ : ∃ m, fuel = m + 1 := ⟨fuel - 1, by omega⟩
    show ∃ h1, fX6_windowOver_3b (fX6_windowOver_3 (nI a) (nI n) (nI Tn) m) (nI a) (nI n) (nI Tn) h (nI u) = _ ∧ _
    unfold fX6_windowOver_3b
    obtain ⟨h1, e1, e2, e4⟩ := r_turn (a := a) (b := a + n - 1) hM hK hrl ha (by omega) hb
    have hcn := tnS_cnt K rl a (a + n - 1) w j
    have cz : nI (tnS K rl a (a + n - 1) w j).2.2 ≤ 0 ↔ (tnS K rl a (a + n - 1) w j).2.2 ≤ 0 := nI_leI (b := 0) (by omega) (by decide)
    rw [if_neg (nI_ge (show u < Tn by omega) (by omega)), sm, e1, bW_s]
    by_cases hz : (tnS K rl a (a + n - 1) w j).2.2 = 0
    · rw [if_pos (cz.mpr (by omega))]
      have ew : wnS K rl a (a + n - 1) (T + 1) (w, j, u) = ((tnS K rl a (a + n - 1) w j).1, (tnS K rl a (a + n - 1) w j).2.1, u) := by
        show (if (tnS K rl a (a + n - 1) w j).2.2 = 0 then _ else _) = _
        rw [if_pos hz]
      rw [ew]
      exact ⟨h1, rfl, e2, e4⟩
    · rw [if_neg (fun q => hz (by have := cz.mp q; omega)), nm_eq, nI_1]
      have ew : wnS K rl a (a + n - 1) (T + 1) (w, j, u) = wnS K rl a (a + n - 1) T ((tnS K rl a (a + n - 1) w j).1, (tnS K rl a (a + n - 1) w j).2.1, u + 1) := by
        show (if (tnS K rl a (a + n - 1) w j).2.2 = 0 then _ else _) = _
        rw [if_neg hz]
      rw [ew]
      obtain ⟨h2, g1, g2, g4⟩ := ih (u + 1) m h1 (tnS K rl a (a + n - 1) w j).1 (tnS K rl a (a + n - 1) w j).2.1 (by omega) (by omega) e2
      exact ⟨h2, g1, g2, FrM.tr e4 g4⟩
theorem r_window {h : AH} {K rl a n T : Nat} {w : Nat → Bool} {j : List Nat} (hK : K ≤ 6) (hrl : rl ≤ 1) (ha : 1 ≤ a) (hn : 1 ≤ n) (hb : a + n - 1 ≤ K) (hT : T ≤ 9) (hM : MSt K rl w j h) :
    ∃ h1, fX6_windowOver h (nI a) (nI n) (nI T) = some (nI (wnS K rl a (a + n - 1) T (w, j, 0)).2.2, h1) ∧ MSt K rl (wnS K rl a (a + n - 1) T (w, j, 0)).1 (wnS K rl a (a + n - 1) T (w, j, 0)).2.1 h1 ∧ FrM h h1 := by
  unfold fX6_windowOver
  exact r_win hK hrl ha hn hb hT T 0 FU h w j (Nat.zero_add T) (FU_lt (by omega)) hM
theorem r_slide {h : AH} {K rl n T : Nat} {w : Nat → Bool} {j : List Nat} (hK : K ≤ 6) (hrl : rl ≤ 1) (hn : 1 ≤ n) (hnK : n ≤ K) (hT : T ≤ 9) (hM : MSt K rl w j h) :
    ∃ h1, fX6_slides h (nI n) (nI T) = some h1 ∧ MSt K rl (slS K rl n T w j (K + 1 - n)).1 (slS K rl n T w j (K + 1 - n)).2.1 h1 ∧ FrM h h1 := by
  unfold fX6_slides
  have sm : ∀ k : Nat, nI (k + 1) + nI n - 1 = nI (k + n) := by
    intro k
    rw [nI_add]
    have := pk_sub (a := k + 1 + n) (b := 1) (by omega)
    rw [show k + 1 + n - 1 = k + n by omega] at this
    exact this
  refine linv (fun m (s : AH × Int32) => fX6_slides_2 (nI n) (nI T) m s.1 s.2) (fun k s => s.2 = nI (k + 1) ∧ MSt K rl (slS K rl n T w j k).1 (slS K rl n T w j k).2.1 s.1 ∧ FrM h s.1) (K + 1 - n) (fun o => ∃ h1, o = some h1 ∧ MSt K rl (slS K rl n T w j (K + 1 - n)).1 (slS K rl n T w j (K + 1 - n)).2.1 h1 ∧ FrM h h1) ?_ ?_ (K + 1 - n) 0 FU (h, nI 1) (Nat.zero_add _) (FU_lt (by omega)) ⟨rfl, hM, FrM.rf _⟩
  · intro m k s hk hI
    obtain ⟨s1, s2⟩ := s
    obtain ⟨i1, i4, i6⟩ := hI
    simp only at i1 i4 i6
    subst i1
    obtain ⟨h1, e1, e2, e4⟩ := r_window (a := k + 1) (n := n) (T := T) hK hrl (by omega) hn (by omega) hT i4
    rw [show k + 1 + n - 1 = k + n by omega] at e1 e2
    refine ⟨(h1, nI (k + 2)), ⟨rfl, e2, FrM.tr i6 e4⟩, ?_⟩
    show fX6_slides_2b (fX6_slides_2 (nI n) (nI T) m) (nI n) (nI T) s1 (nI (k + 1)) = _
    unfold fX6_slides_2b
    rw [i4.2.2.1, sm, if_neg (nI_nlt (by omega) (by omega)), e1, bW_s, nm_eq, nI_1]
  · intro m s hI
    obtain ⟨s1, s2⟩ := s
    obtain ⟨i1, i4, i6⟩ := hI
    simp only at i1 i4 i6
    subst i1
    refine ⟨s1, ?_, i4, i6⟩
    show fX6_slides_2b (fX6_slides_2 (nI n) (nI T) m) (nI n) (nI T) s1 (nI (K + 1 - n + 1)) = _
    unfold fX6_slides_2b
    rw [i4.2.2.1, sm, if_pos (nI_lt (by omega) (by omega))]
