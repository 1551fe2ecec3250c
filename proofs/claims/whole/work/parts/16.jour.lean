/-! PURE: the journal -/
def Fx (ci cl : List Nat) (h h1 : AH) : Prop := (∀ k, k ∉ ci → h1.1 k = h.1 k) ∧ ∀ k, k ∉ cl → h1.2 k = h.2 k
theorem Fx.rf (ci cl : List Nat) (h : AH) : Fx ci cl h h := ⟨fun _ _ => rfl, fun _ _ => rfl⟩
theorem Fx.tr {ci cl : List Nat} {h h1 h2 : AH} (a : Fx ci cl h h1) (b : Fx ci cl h1 h2) : Fx ci cl h h2 := ⟨fun k hk => (b.1 k hk).trans (a.1 k hk), fun k hk => (b.2 k hk).trans (a.2 k hk)⟩
theorem Fx.mo {ci cl di dl : List Nat} {h h1 : AH} (a : Fx ci cl h h1) (hi : ∀ k ∈ ci, k ∈ di) (hl : ∀ k ∈ cl, k ∈ dl) : Fx di dl h h1 := ⟨fun k hk => a.1 k (fun q => hk (hi k q)), fun k hk => a.2 k (fun q => hk (hl k q))⟩
theorem Fx.sI {k j : Nat} {v : Int32} {h : AH} : Fx [k] [] h (sI h k j v) := ⟨fun q hq => sI_r (fun e => hq (by rw [e]; exact List.mem_cons_self)), fun _ _ => rfl⟩
theorem Fx.sL {k j : Nat} {v : Int64} {h : AH} : Fx [] [k] h (sL h k j v) := ⟨fun _ _ => rfl, fun q hq => sL_r (fun e => hq (by rw [e]; exact List.mem_cons_self))⟩
/-- the class's ring, the reference's row -/
def CJ (j : List Nat) (h : AH) : Prop := ∃ o, o < 60 ∧ h.1 11 1 = nI o ∧ h.1 11 2 = nI j.length ∧ j.length ≤ 60 ∧ ∀ k, k < j.length → h.1 12 ((o + k) % 60) = nI (j.getD k 0)
def MJ (j : List Nat) (h : AH) : Prop := h.1 29 7 = nI j.length ∧ j.length ≤ 60 ∧ ∀ k, k < j.length → h.1 34 k = nI (j.getD k 0)
def jadd (j : List Nat) (a : Nat) : List Nat := (if j.length = 60 then j.drop 1 else j) ++ [a]
theorem getD_app {j : List Nat} {a k : Nat} : (j ++ [a]).getD k 0 = if k < j.length then j.getD k 0 else if k = j.length then a else 0 := by
  rw [List.getD_eq_getElem?_getD]
  by_cases h : k < j.length
  · rw [if_pos h, List.getElem?_append_left h, List.getD_eq_getElem?_getD]
  · rw [if_neg h, List.getElem?_append_right (by omega)]
    by_cases h2 : k = j.length
    · rw [if_pos h2, h2, Nat.sub_self]; rfl
    · rw [if_neg h2, List.getElem?_eq_none (by simp; omega)]; rfl
theorem getD_drop1 {j : List Nat} {k : Nat} : (j.drop 1).getD k 0 = j.getD (k + 1) 0 := by
  rw [List.getD_eq_getElem?_getD, List.getElem?_drop, List.getD_eq_getElem?_getD, Nat.add_comm]
theorem jadd_len {j : List Nat} {a : Nat} (h : j.length ≤ 60) : (jadd j a).length = if j.length = 60 then 60 else j.length + 1 := by
  unfold jadd
  by_cases h6 : j.length = 60
  · rw [if_pos h6, if_pos h6, List.length_append, List.length_drop, h6]; rfl
  · rw [if_neg h6, if_neg h6, List.length_append]; rfl
theorem jadd_get {j : List Nat} {a k : Nat} (h : j.length ≤ 60) (hk : k < (jadd j a).length) : (jadd j a).getD k 0 = if k + 1 = (jadd j a).length then a else if j.length = 60 then j.getD (k + 1) 0 else j.getD k 0 := by
  have hl := jadd_len (a := a) h
  rw [hl] at hk ⊢
  unfold jadd
  by_cases h6 : j.length = 60
  · rw [if_pos h6] at hk
    rw [if_pos h6, if_pos h6, if_pos h6, getD_app, List.length_drop, h6, getD_drop1]
    by_cases hk2 : k + 1 = 60
    · rw [if_pos hk2, if_neg (by omega), if_pos (by omega)]
    · rw [if_neg hk2, if_pos (by omega)]
  · rw [if_neg h6] at hk
    rw [if_neg h6, if_neg h6, if_neg h6, getD_app]
    by_cases hk2 : k + 1 = j.length + 1
    · rw [if_pos hk2, if_neg (by omega), if_pos (by omega)]
    · rw [if_neg hk2, if_pos (by omega)]
theorem rem60 {a : Nat} (h : a < 2 ^ 31) : nI a - nI a / 60 * 60 = nI (a % 60) := pk_rem (d := 60) h (by decide) (by decide)
theorem c_add {h : AH} {j : List Nat} {a : Nat} (hJ : CJ j h) : ∃ h1, fX0_add h (nI a) = some h1 ∧ CJ (jadd j a) h1 ∧ Fx [11, 12] [] h h1 := by
  obtain ⟨o, ho, e1, e2, hl, e3⟩ := hJ
  have hjl := jadd_len (a := a) hl
  unfold fX0_add
  simp only [nm_eq]
  rw [e1, e2, nI_add, rem60 (by omega), ck_in (show (o + j.length) % 60 < 60 by omega) (by decide), nI_clamp (by omega)]
  have r1 : (sI h 12 ((o + j.length) % 60) (nI a)).1 11 2 = nI j.length := by rw [sI_r (by decide)]; exact e2
  have r2 : (sI h 12 ((o + j.length) % 60) (nI a)).1 11 1 = nI o := by rw [sI_r (by decide)]; exact e1
  rw [r1, r2]
  have c6 : (60 : Int32) ≤ nI j.length ↔ 60 ≤ j.length := nI_leI (a := 60) (by decide) (by omega)
  have fr : ∀ (v : Int32) (s : Nat), Fx [11, 12] [] h (sI (sI h 12 ((o + j.length) % 60) (nI a)) 11 s v) := fun v s => Fx.tr (Fx.mo Fx.sI (by decide) (by decide)) (Fx.mo Fx.sI (by decide) (by decide))
  have g12 : ∀ (v : Int32) (s q : Nat), (sI (sI h 12 ((o + j.length) % 60) (nI a)) 11 s v).1 12 q = if q = (o + j.length) % 60 then nI a else h.1 12 q := by
    intro v s q
    rw [sI_r (by decide), sI_u]
    rfl
  have g11 : ∀ (v : Int32) (s q : Nat), (sI (sI h 12 ((o + j.length) % 60) (nI a)) 11 s v).1 11 q = if q = s then v else h.1 11 q := by
    intro v s q
    rw [sI_u]
    unfold upd
    by_cases hq : q = s
    · rw [if_pos hq, if_pos hq]
    · rw [if_neg hq, if_neg hq, sI_r (by decide)]
  by_cases h6 : 60 ≤ j.length
  · have hl6 : j.length = 60 := by omega
    rw [if_pos (c6.mpr h6), nI_1, rem60 (by omega)]
    refine ⟨_, rfl, ⟨(o + 1) % 60, by omega, ?_, ?_, ?_, ?_⟩, fr _ _⟩
    · rw [g11, if_pos rfl]
    · rw [g11, if_neg (by decide), e2, hjl, if_pos hl6, hl6]
    · rw [hjl, if_pos hl6]; omega
    · intro k hk
      rw [jadd_get hl hk, g12]
      rw [hjl, if_pos hl6] at hk ⊢
      by_cases hk2 : k + 1 = 60
      · rw [if_pos (show ((o + 1) % 60 + k) % 60 = (o + j.length) % 60 by omega), if_pos hk2]
      · rw [if_neg (show ¬ ((o + 1) % 60 + k) % 60 = (o + j.length) % 60 by omega), if_neg hk2, if_pos hl6, ← e3 (k + 1) (by omega), show ((o + 1) % 60 + k) % 60 = (o + (k + 1)) % 60 by omega]
  · rw [if_neg (fun q => h6 (c6.mp q)), nI_1]
    refine ⟨_, rfl, ⟨o, ho, ?_, ?_, ?_, ?_⟩, fr _ _⟩
    · rw [g11, if_neg (by decide)]; exact e1
    · rw [g11, if_pos rfl, hjl, if_neg (by omega)]
    · rw [hjl, if_neg (by omega)]; omega
    · intro k hk
      rw [jadd_get hl hk, g12]
      rw [hjl, if_neg (show ¬ j.length = 60 by omega)] at hk ⊢
      by_cases hk2 : k + 1 = j.length + 1
      · rw [if_pos (show (o + k) % 60 = (o + j.length) % 60 by omega), if_pos hk2]
      · rw [if_neg (show ¬ (o + k) % 60 = (o + j.length) % 60 by omega), if_neg hk2, if_neg (show ¬ j.length = 60 by omega), e3 k (by omega)]
theorem r_notes47 {h : AH} {j : List Nat} {a : Nat} (hJ : MJ j h) (hl : j.length < 60) : ∃ h1, fX6_notes_47 (nI a) h = some h1 ∧ MJ (j ++ [a]) h1 ∧ Fx [29, 34] [] h h1 ∧ ∀ q, q ≠ 7 → h1.1 29 q = h.1 29 q := by
  obtain ⟨e2, -, e3⟩ := hJ
  unfold fX6_notes_47
  simp only [nm_eq]
  rw [e2, ck_in hl (by decide), nI_clamp (by omega)]
  have r1 : (sI h 34 j.length (nI a)).1 29 7 = nI j.length := by rw [sI_r (by decide)]; exact e2
  rw [r1, nI_1]
  refine ⟨_, rfl, ⟨?_, ?_, ?_⟩, Fx.tr (Fx.mo Fx.sI (by decide) (by decide)) (Fx.mo Fx.sI (by decide) (by decide)), ?_⟩
  · rw [sI_u, List.length_append]; rfl
  · rw [List.length_append]; exact hl
  · intro k hk
    rw [List.length_append] at hk
    have hk : k < j.length + 1 := hk
    rw [sI_r (by decide), sI_u, getD_app]
    unfold upd
    by_cases hk2 : k = j.length
    · rw [if_pos hk2, if_neg (by omega), if_pos hk2]
    · rw [if_neg hk2, if_pos (by omega), e3 k (by omega)]
  · intro q hq
    rw [sI_u]
    unfold upd
    rw [if_neg hq, sI_r (by decide)]
theorem r_notes {h : AH} {j : List Nat} {a : Nat} (hJ : MJ j h) : ∃ h1, fX6_notes h (nI a) = some h1 ∧ MJ (jadd j a) h1 ∧ Fx [29, 34] [] h h1 ∧ ∀ q, q ≠ 7 → h1.1 29 q = h.1 29 q := by
  have hJ0 := hJ
  obtain ⟨e2, hl, e3⟩ := hJ
  unfold fX6_notes
  rw [e2]
  have c6 : nI j.length = 60 ↔ j.length = 60 := nI_eq (b := 60) (by omega) (by decide)
  by_cases h6 : j.length = 60
  · rw [if_pos (c6.mpr h6)]
    refine linv (fun n (s : AH × Int32) => fX6_notes_11 (nI a) n s.1 s.2) (fun k s => s.2 = nI (k + 1) ∧ (∀ t, t < k → s.1.1 34 t = h.1 34 (t + 1)) ∧ (∀ t, k ≤ t → s.1.1 34 t = h.1 34 t) ∧ Fx [34] [] h s.1) 59 (fun o => ∃ h1, o = some h1 ∧ MJ (jadd j a) h1 ∧ Fx [29, 34] [] h h1 ∧ ∀ q, q ≠ 7 → h1.1 29 q = h.1 29 q) ?_ ?_ 59 0 FU (h, 1) rfl (FU_lt (by decide)) ⟨rfl, fun t ht => absurd ht (Nat.not_lt_zero t), fun t _ => rfl, Fx.rf _ _ _⟩
    · intro n k s hk ⟨i1, i2, i3, i4⟩
      obtain ⟨s1, s2⟩ := s
      simp only at i1 i2 i3 i4
      subst i1
      refine ⟨(sI s1 34 k (s1.1 34 (k + 1)), nI (k + 2)), ⟨rfl, ?_, ?_, ?_⟩, ?_⟩
      · intro t ht
        show (sI s1 34 k (s1.1 34 (k + 1))).1 34 t = _
        rw [sI_u]
        unfold upd
        by_cases htk : t = k
        · rw [if_pos htk, i3 _ (by omega), htk]
        · rw [if_neg htk]; exact i2 t (by omega)
      · intro t ht
        show (sI s1 34 k (s1.1 34 (k + 1))).1 34 t = _
        rw [sI_u]
        unfold upd
        rw [if_neg (by omega)]
        exact i3 t (by omega)
      · exact Fx.tr i4 Fx.sI
      · show fX6_notes_11b (fX6_notes_11 (nI a) n) (nI a) s1 (nI (k + 1)) = _
        unfold fX6_notes_11b
        simp only [nm_eq]
        have sm : nI (k + 1) - 1 = nI k := pk_sub (b := 1) (by omega)
        rw [if_neg (show ¬ (60 : Int32) ≤ nI (k + 1) from nI_ge (b := 60) (by omega) (by decide)), ck_in (show k + 1 < 60 by omega) (by decide), sm, ck_in (show k < 60 by omega) (by decide), nI_clamp (by omega), nI_clamp (by omega), nI_1]
    · intro n s ⟨i1, i2, i3, i4⟩
      obtain ⟨s1, s2⟩ := s
      simp only at i1 i2 i3 i4
      subst i1
      show ∃ h1, fX6_notes_11b (fX6_notes_11 (nI a) n) (nI a) s1 (nI 60) = some h1 ∧ _
      unfold fX6_notes_11b
      simp only [nm_eq]
      have r1 : s1.1 29 7 = nI 60 := by rw [i4.1 29 (by decide), e2, h6]
      have sm : nI 60 - 1 = nI 59 := pk_sub (a := 60) (b := 1) (by decide)
      rw [if_pos (show (60 : Int32) ≤ nI 60 from nI_le (a := 60) (Nat.le_refl 60) (by decide)), r1, sm]
      have hM : MJ (j.drop 1) (sI s1 29 7 (nI 59)) := by
        refine ⟨?_, ?_, ?_⟩
        · rw [sI_u, List.length_drop, h6]; rfl
        · rw [List.length_drop, h6]; decide
        · intro k hk
          rw [List.length_drop, h6] at hk
          rw [sI_r (by decide), getD_drop1, i2 k (by omega), e3 (k + 1) (by omega)]
      obtain ⟨h1, q1, q2, q3, q4⟩ := r_notes47 (a := a) hM (by rw [List.length_drop, h6]; decide)
      refine ⟨h1, q1, ?_, Fx.tr (Fx.mo i4 (by decide) (by decide)) (Fx.tr (Fx.mo Fx.sI (by decide) (by decide)) q3), ?_⟩
      · unfold jadd
        rw [if_pos h6]
        exact q2
      · intro q hq
        rw [q4 q hq, sI_u]
        unfold upd
        rw [if_neg hq, i4.1 29 (by decide)]
  · rw [if_neg (fun q => h6 (c6.mp q))]
    obtain ⟨h1, q1, q2, q3, q4⟩ := r_notes47 (a := a) hJ0 (by omega)
    refine ⟨h1, q1, ?_, q3, q4⟩
    unfold jadd
    rw [if_neg h6]
    exact q2
