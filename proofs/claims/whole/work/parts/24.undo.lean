/-! PURE: mends taken back; the journal's calls -/
section UU
variable {K rl : Nat} {d : Nat → Nat} {se w g w' g' : Nat → Bool} {j j' : List Nat} {T : Sht} {fi : Int32} {h h1 h2 : AH}
theorem ej_get {k i : Nat} : (j.eraseIdx k).getD i 0 = if i < k then j.getD i 0 else j.getD (i + 1) 0 := by
  rw [List.getD_eq_getElem?_getD, List.getElem?_eraseIdx]
  by_cases hi : i < k
  · rw [if_pos hi, if_pos hi, List.getD_eq_getElem?_getD]
  · rw [if_neg hi, if_neg hi, List.getD_eq_getElem?_getD]
theorem ej_len {k : Nat} (hk : k < j.length) : (j.eraseIdx k).length = j.length - 1 := List.length_eraseIdx_of_lt hk
theorem jd_mem {k : Nat} (hk : k < j.length) : j.getD k 0 ∈ j := by
  rw [List.getD_eq_getElem?_getD, List.getElem?_eq_getElem hk]
  exact List.getElem_mem hk
theorem c_bitOfMend {k : Nat} (hJ : CJ j h) (hk : k < j.length) : fX0_bitOfMend h (nI k) = some (nI (j.getD k 0)) := by
  obtain ⟨o, ho, e1, e2, hl, e3⟩ := hJ
  unfold fX0_bitOfMend
  simp only [nm_eq]
  rw [e1, nI_add, rem60 (by omega), ck_in (show (o + k) % 60 < 60 by omega) (by decide), nI_clamp (by omega), e3 k hk]
theorem c_remove {k : Nat} (hJ : CJ j h) (hk : k < j.length) : ∃ h1, fX0_remove h (nI k) = some h1 ∧ CJ (j.eraseIdx k) h1 ∧ Fx [11, 12] [] h h1 := by
  obtain ⟨o, ho, e1, e2, hl, e3⟩ := hJ
  unfold fX0_remove
  rw [nm_eq, nI_1]
  refine linv (fun n (s : AH × Int32) => fX0_remove_4 (nI k) n s.1 s.2) (fun m s => s.2 = nI (k + 1 + m) ∧ (∀ t, t < j.length → s.1.1 12 ((o + t) % 60) = if k ≤ t ∧ t < k + m then h.1 12 ((o + (t + 1)) % 60) else h.1 12 ((o + t) % 60)) ∧ s.1.1 11 = h.1 11 ∧ Fx [12] [] h s.1) (j.length - 1 - k) (fun o' => ∃ h1, o' = some h1 ∧ CJ (j.eraseIdx k) h1 ∧ Fx [11, 12] [] h h1) ?_ ?_ (j.length - 1 - k) 0 FU (h, nI (k + 1)) (Nat.zero_add _) (FU_lt (by omega)) ⟨rfl, fun t ht => by rw [if_neg (by omega)], rfl, Fx.rf _ _ _⟩
  · intro n m s hm hi
    obtain ⟨s1, s2⟩ := s
    obtain ⟨i1, i2, i3, i4⟩ := hi
    simp only at i1 i2 i3 i4
    subst i1
    have sm : nI (o + (k + 1 + m)) - 1 = nI (o + (k + m)) := by
      have := pk_sub (a := o + (k + 1 + m)) (b := 1) (by omega)
      rw [show o + (k + 1 + m) - 1 = o + (k + m) by omega] at this
      exact this
    refine ⟨(sI s1 12 ((o + (k + m)) % 60) (s1.1 12 ((o + (k + 1 + m)) % 60)), nI (k + 1 + (m + 1))), ⟨rfl, ?_, ?_, ?_⟩, ?_⟩
    · intro t ht
      show (sI s1 12 _ _).1 12 ((o + t) % 60) = _
      rw [sI_u]
      unfold upd
      by_cases htk : t = k + m
      · rw [htk, if_pos rfl, if_pos (by omega), i2 (k + 1 + m) (by omega), if_neg (by omega), show k + m + 1 = k + 1 + m by omega]
      · rw [if_neg (show ¬ (o + t) % 60 = (o + (k + m)) % 60 by omega), i2 t ht]
        by_cases hc : k ≤ t ∧ t < k + m
        · rw [if_pos hc, if_pos (by omega)]
        · rw [if_neg hc, if_neg (by omega)]
    · show (sI s1 12 _ _).1 11 = _
      rw [sI_r (by decide)]; exact i3
    · exact Fx.tr i4 Fx.sI
    · show fX0_remove_4b (fX0_remove_4 (nI k) n) (nI k) s1 (nI (k + 1 + m)) = _
      unfold fX0_remove_4b
      simp only [nm_eq]
      rw [i3, e1, e2, if_neg (nI_ge (by omega) (by omega)), nI_add, sm, rem60 (by omega), rem60 (by omega), ck_in (show (o + (k + 1 + m)) % 60 < 60 by omega) (by decide), ck_in (show (o + (k + m)) % 60 < 60 by omega) (by decide), nI_clamp (by omega), nI_clamp (by omega), nI_1]
      rfl
  · intro n s hi
    obtain ⟨s1, s2⟩ := s
    obtain ⟨i1, i2, i3, i4⟩ := hi
    simp only at i1 i2 i3 i4
    subst i1
    show ∃ h1, fX0_remove_4b (fX0_remove_4 (nI k) n) (nI k) s1 (nI (k + 1 + (j.length - 1 - k))) = some h1 ∧ _
    unfold fX0_remove_4b
    rw [i3, e2, if_pos (nI_le (by omega) (by omega)), nm_eq]
    have sm : nI j.length - 1 = nI (j.length - 1) := pk_sub (b := 1) (by omega)
    rw [sm]
    refine ⟨_, rfl, ⟨o, ho, ?_, ?_, ?_, ?_⟩, Fx.tr (Fx.mo i4 (by decide) (by decide)) (Fx.mo Fx.sI (by decide) (by decide))⟩
    · rw [sI_u, pk_un (by decide), i3]; exact e1
    · rw [sI_u, pk_us, ej_len hk]
    · rw [ej_len hk]; omega
    · intro t ht
      rw [ej_len hk] at ht
      rw [sI_r (by decide), i2 t (by omega), ej_get]
      by_cases hc : t < k
      · rw [if_neg (by omega), if_pos hc, e3 t (by omega)]
      · rw [if_pos (by omega), if_neg hc, e3 (t + 1) (by omega)]
theorem c_takeBack {k : Nat} (hK : K ≤ 6) (hS : St 1 K w h) (hJ : CJ j h) (hk : k < j.length) (hj : ∀ a, a ∈ j → 64 ≤ a ∧ a < 64 * (K + 1)) : ∃ h1, fX5_takeBack h (nI k) = some h1 ∧ St 1 K (fl w (j.getD k 0)) h1 ∧ CJ (j.eraseIdx k) h1 ∧ Fx [3, 11, 12] [2] h h1 := by
  obtain ⟨b1, b2⟩ := hj _ (jd_mem hk)
  obtain ⟨h1, e1, e2, e3⟩ := turn_ok hK b1 b2 hS
  obtain ⟨h2, f1, f2, f3⟩ := c_remove (k := k) (CJ.fx e3.fx hJ (by decide) (by decide)) hk
  unfold fX5_takeBack
  rw [c_bitOfMend hJ hk, bR_s, e1, bR_s, f1, bR_s]
  exact ⟨h2, rfl, St.fx f3 e2 (by decide) (by decide) (by decide), f2, Fx.tr (Fx.mo e3.fx (by decide) (by decide)) (Fx.mo f3 (by decide) (by decide))⟩
theorem o_undo (B : Bo h) : Oo (fun h => fX5_undo h) (fun h => fX6_undo h) h := by
  have B0 := B
  obtain ⟨K, rl, d, se, w, g, j, T, fi, hI, hC, hM⟩ := B
  have hK := hI.2.1
  have hJ := hC.2.2.2.2.1
  obtain ⟨o, ho, e1, e2, hl, e3⟩ := hC.2.2.2.2.1
  have cz : nI j.length = 0 ↔ j.length = 0 := nI_eq (b := 0) (by omega) (by decide)
  by_cases hz : j.length = 0
  · refine Oo.no (v := -3) B0 ?_ ?_
    · show fX5_undo h = _
      unfold fX5_undo
      rw [e2, if_pos (cz.mpr hz)]
    · show fX6_undo h = _
      unfold fX6_undo
      rw [hM.1.2.1.1, if_pos (cz.mpr hz)]
  · have hk : j.length - 1 < j.length := by omega
    have sm : nI j.length - 1 = nI (j.length - 1) := pk_sub (b := 1) (by omega)
    obtain ⟨h1, f1, f2, f3, f4⟩ := c_takeBack hK hC.1 hJ hk hI.2.2.2.2.2.2.1
    obtain ⟨b1, b2⟩ := hI.2.2.2.2.2.2.1 _ (jd_mem hk)
    have hM1 := hM.lo (f4.lo (by decide) (by decide))
    obtain ⟨⟨p1, p2, p3, p4⟩, p5, p6, p7, p8, p9⟩ := hM1
    have lh : ∀ o', h1.1 11 2 = nI (j.eraseIdx (j.length - 1)).length ∨ o' := by
      intro o'
      obtain ⟨o2, -, -, g2, -, -⟩ := f3
      exact Or.inl g2
    have l1 : h1.1 11 2 = nI (j.length - 1) := by
      rcases lh False with q | q
      · rw [ej_len hk] at q; exact q
      · exact q.elim
    have md : ∃ h2, fX6_undo h1 = some (nI (j.length - 1), h2) ∧ MSt K rl (fl w (j.getD (j.length - 1) 0)) (j.eraseIdx (j.length - 1)) h2 ∧ FrM h1 h2 := by
      have r29 : (sI h1 29 7 (nI (j.length - 1))).1 29 7 = nI (j.length - 1) := by rw [sI_u, pk_us]
      have r34 : (sI h1 29 7 (nI (j.length - 1))).1 34 (j.length - 1) = nI (j.getD (j.length - 1) 0) := by rw [sI_r (by decide)]; exact p2.2.2 _ hk
      have r32 : Ro 32 w (sI h1 29 7 (nI (j.length - 1))) := fun a ha => by rw [sI_r (by decide)]; exact p1 a ha
      unfold fX6_undo
      simp only [nm_eq]
      rw [p2.1, if_neg (fun q => hz (cz.mp q)), sm, r29, ck_in (show j.length - 1 < 60 by omega) (by decide), ck_in (show j.length - 1 < 60 by omega) (by decide), nI_clamp (by omega), r34, ck_in (show j.getD (j.length - 1) 0 < 448 by omega) (by decide), nI_clamp (by omega), r32 _ (by omega)]
      have fin : ∀ v : Int32, vp_nar .boolean v = b2i (!(w (j.getD (j.length - 1) 0))) → ∃ h2, fX6_undo_55 (sI h1 29 7 (nI (j.length - 1))) (nI (j.getD (j.length - 1) 0)) v = some (nI (j.length - 1), h2) ∧ MSt K rl (fl w (j.getD (j.length - 1) 0)) (j.eraseIdx (j.length - 1)) h2 ∧ FrM h1 h2 := by
        intro v hv
        unfold fX6_undo_55
        rw [ck_in (show j.getD (j.length - 1) 0 < 448 by omega) (by decide), nm_eq, nI_clamp (by omega)]
        have q29 : (sI (sI h1 29 7 (nI (j.length - 1))) 32 (j.getD (j.length - 1) 0) (vp_nar .boolean v)).1 29 = (sI h1 29 7 (nI (j.length - 1))).1 29 := sI_r (by decide)
        have u29 : ∀ q, q ≠ 7 → (sI (sI h1 29 7 (nI (j.length - 1))) 32 (j.getD (j.length - 1) 0) (vp_nar .boolean v)).1 29 q = h1.1 29 q := by
          intro q hq
          rw [q29, sI_u, pk_un hq]
        refine ⟨_, by rw [q29, r29], ⟨Ro_fl r32 hv, ⟨?_, ?_, ?_⟩, ?_, ?_⟩, ⟨Fx.tr (Fx.mo Fx.sI (by decide) (by decide)) (Fx.mo Fx.sI (by decide) (by decide)), u29⟩⟩
        · rw [q29, r29, ej_len hk]
        · rw [ej_len hk]; omega
        · intro t ht
          rw [ej_len hk] at ht
          rw [sI_r (by decide), sI_r (by decide), ej_get, if_pos ht]
          exact p2.2.2 t (by omega)
        · rw [u29 0 (by decide)]; exact p3
        · rw [u29 1 (by decide)]; exact p4
      cases hw : w (j.getD (j.length - 1) 0)
      · rw [if_pos b2f]; exact fin 1 (by rw [hw]; rfl)
      · rw [if_neg b2t]; exact fin 0 (by rw [hw]; rfl)
    obtain ⟨h2, g1, g2, g3⟩ := md
    refine Oo.mk (h1 := h1) (h2 := h2) (v := nI (j.length - 1)) ?_ g1 (hI.wj (Ot_fl hI.ot b1 b2) (fun a ha => hI.2.2.2.2.2.2.1 a (List.mem_of_mem_eraseIdx ha))) (hC.sj f4 f2 f3) ((hM.lo (f4.lo (by decide) (by decide))).ms g3 g2) (g3.1.hi (by decide) (by decide))
    show fX5_undo h = _
    unfold fX5_undo
    rw [e2, if_neg (fun q => hz (cz.mp q)), sm, f1, bR_s, l1]
theorem o_settle (B : Bo h) : Oo (fun h => fX5_settle h) (fun h => fX6_settle h) h := by
  obtain ⟨K, rl, d, se, w, g, j, T, fi, hI, hC, hM⟩ := B
  obtain ⟨q1, q2, q3, q4, ⟨o, ho, e1, e2, hl, e3⟩, q6, q7, q8⟩ := hC
  have F1 : Fx [11] [] h (sI (sI h 11 1 0) 11 2 0) := Fx.tr Fx.sI Fx.sI
  obtain ⟨⟨p1, p2, p3, p4⟩, p5, p6, p7, p8, p9⟩ := hM.lo (F1.lo (by decide) (by decide))
  have F2 : Fx [29] [] (sI (sI h 11 1 0) 11 2 0) (sI (sI (sI h 11 1 0) 11 2 0) 29 7 0) := Fx.sI
  have u29 : ∀ q, q ≠ 7 → (sI (sI (sI h 11 1 0) 11 2 0) 29 7 0).1 29 q = (sI (sI h 11 1 0) 11 2 0).1 29 q := fun q hq => by rw [sI_u, pk_un hq]
  refine Oo.mk (h1 := sI (sI h 11 1 0) 11 2 0) (h2 := sI (sI (sI h 11 1 0) 11 2 0) 29 7 0) (v := nI j.length) (K := K) (rl := rl) (d := d) (se := se) (w := w) (g := g) (j := []) (T := T) (fi := fi) ?_ ?_ (hI.wj hI.ot (fun a ha => by cases ha)) ?_ ?_ (F2.hi (by decide) (by decide))
  · show fX5_settle h = _
    unfold fX5_settle fX0_clear
    simp only [nm_eq]
    rw [bR_s, e2]
  · show fX6_settle _ = _
    unfold fX6_settle
    simp only [nm_eq]
    rw [p2.1]
  · refine ⟨St.fx F1 q1 (by decide) (by decide) (by decide), Da.fx F1 q2 (by decide), Lb.fx F1 q3 (by decide), Lb.fx F1 q4 (by decide), ⟨0, by decide, ?_, ?_, by decide, fun k hk => absurd hk (Nat.not_lt_zero k)⟩, ShC.fx F1 q6 (by decide) (by decide), ?_, ?_⟩
    · rw [sI_u, pk_un (by decide), sI_u, pk_us]; rfl
    · rw [sI_u, pk_us]; rfl
    · rw [F1.1 0 (by decide)]; exact q7
    · rw [F1.1 0 (by decide)]; exact q8
  · refine ⟨⟨Ro.fx F2 p1 (by decide), ⟨?_, by decide, fun k hk => absurd hk (Nat.not_lt_zero k)⟩, ?_, ?_⟩, Da.fx F2 p5 (by decide), Ro.fx F2 p6 (by decide), Ro.fx F2 p7 (by decide), ShM.fx F2 p8 (by decide) (by decide) (by decide), ?_⟩
    · rw [sI_u, pk_us]; rfl
    · rw [u29 0 (by decide)]; exact p3
    · rw [u29 1 (by decide)]; exact p4
    · rw [u29 17 (by decide)]; exact p9
theorem o_journal (B : Bo h) (x : Int32) : Oq (fun h => fX5_journal h x) (fun h => fX6_journal h x) h := by
  obtain ⟨K, rl, d, se, w, g, j, T, fi, hI, hC, hM⟩ := B
  obtain ⟨o, ho, e1, e2, hl, e3⟩ := hC.2.2.2.2.1
  have hJ := hC.2.2.2.2.1
  have mj := hM.1.2.1
  rcases pk_ix x (n := j.length) (by omega) with q | q | ⟨k, hk, rfl⟩
  · refine ⟨-2, ?_, ?_⟩
    · show fX5_journal h x = _
      unfold fX5_journal
      rw [if_pos q]
    · show fX6_journal h x = _
      unfold fX6_journal fX6_in
      rw [if_pos q, bR_s, if_pos rfl]
  · refine ⟨-2, ?_, ?_⟩
    · show fX5_journal h x = _
      unfold fX5_journal
      rw [e2]
      by_cases q0 : x < 0
      · rw [if_pos q0]
      · rw [if_neg q0, if_pos q]
    · show fX6_journal h x = _
      unfold fX6_journal fX6_in
      rw [mj.1]
      have q1 : nI j.length - 1 < x := by
        rw [Int32.lt_iff_toInt_lt, show (1 : Int32) = nI 1 from rfl, pk_sub_toInt (by omega) (by omega)]
        rw [Int32.le_iff_toInt_le, nI_toInt (by omega)] at q
        omega
      by_cases q0 : x < 0
      · rw [if_pos q0, bR_s, if_pos rfl]
      · rw [if_neg q0, if_pos q1, bR_s, if_pos rfl]
  · refine ⟨nI (j.getD k 0), ?_, ?_⟩
    · show fX5_journal h (nI k) = _
      unfold fX5_journal
      rw [e2, if_neg (nI_pos (by omega)), if_neg (nI_ge hk (by omega)), c_bitOfMend hJ hk, bR_s]
    · show fX6_journal h (nI k) = _
      unfold fX6_journal fX6_in
      have sm : nI j.length - 1 = nI (j.length - 1) := pk_sub (b := 1) (by omega)
      rw [mj.1, sm, if_neg (nI_pos (by omega)), if_neg (nI_nlt (by omega) (by omega)), bR_s, if_neg (by decide), ck_in (show k < 60 by omega) (by decide), nI_clamp (by omega), mj.2.2 k hk]
/-! back -/
def dn (m : Nat) : Int32 := nI m + (-1)
theorem dn_s (m : Nat) : dn (m + 1) = nI m := pk_m1 m
theorem dn_0 : dn 0 < 0 := by decide
theorem c_hasSoundWord {a : Nat} (hK : K ≤ 6) (hS : St 1 K w h) (ha : 64 ≤ a) (ha2 : a < 64 * (K + 1)) : fX4_hasSoundWord h 1 (nI a) = some (b2i (hsd K w a 0 0)) := by
  unfold fX4_hasSoundWord hsd
  simp only [nm_eq]
  rw [shr6 (by omega), shr3 (by omega), and7 (by omega), c_isSound hS hK (by omega) (by omega), bR_s, hS.1, nI_1, m8, nI_add]
  rw [decide_eq_true (show a / 64 ≠ 0 by omega), decide_eq_true (show a / 64 + 1 ≠ 0 by omega)]
  simp only [Bool.true_or, Bool.true_and]
  have cK : nI K ≤ nI (a / 64) ↔ K ≤ a / 64 := nI_leI (by omega) (by omega)
  cases snd w (a / 8)
  · rw [if_pos b2f]
    by_cases hl : K ≤ a / 64
    · rw [if_pos (cK.mpr hl), decide_eq_false (by omega)]; rfl
    · rw [if_neg (fun q => hl (cK.mp q)), c_isSound hS hK (by omega) (by omega), bR_s, decide_eq_true (show a / 64 < K by omega)]
      cases snd w (8 * (a / 64 + 1) + a % 8) <;> rfl
  · rw [if_neg b2t]; rfl
def bkS (K : Nat) : Nat → MS → MS
  | 0, s => s
  | k + 1, s => bkS K k (if hsd K s.1 (s.2.1.getD k 0) 0 0 then s else (fl s.1 (s.2.1.getD k 0), s.2.1.eraseIdx k, s.2.2 + 1))
theorem bk_ok {k : Nat} {s : MS} (hs : Ok K s) (hk : k < s.2.1.length) : Ok K (fl s.1 (s.2.1.getD k 0), s.2.1.eraseIdx k, s.2.2 + 1) := by
  obtain ⟨b1, b2⟩ := hs.2 _ (jd_mem hk)
  exact ⟨Ot_fl hs.1 b1 b2, fun a ha => hs.2 a (List.mem_of_mem_eraseIdx ha)⟩
theorem bkS_ok : ∀ (k : Nat) (s : MS), k ≤ s.2.1.length → Ok K s → Ok K (bkS K k s) := by
  intro k
  induction k with
  | zero => intro s _ hs; exact hs
  | succ k ih =>
    intro s hk hs
    unfold bkS
    cases hsd K s.1 (s.2.1.getD k 0) 0 0
    · exact ih _ (by show k ≤ (s.2.1.eraseIdx k).length; rw [ej_len hk]; omega) (bk_ok hs hk)
    · exact ih _ (by show k ≤ s.2.1.length; omega) hs
theorem c_back (hK : K ≤ 6) : ∀ (k fuel : Nat) (s : MS) (h : AH), k ≤ s.2.1.length → k < fuel → s.2.2 + k < 100 → Ok K s → St 1 K s.1 h → CJ s.2.1 h →
    ∃ h1, fX5_back_12 fuel h (nI s.2.2) (dn k) = some (nI (bkS K k s).2.2, h1) ∧ St 1 K (bkS K k s).1 h1 ∧ CJ (bkS K k s).2.1 h1 ∧ Fx [3, 11, 12] [2] h h1 := by
  intro k
  induction k with
  | zero =>
    intro fuel s h _ hf hc hs hS hJ
    obtain ⟨m, rfl⟩ : ∃ m, fuel = m + 1 := ⟨fuel - 1, by omega⟩
    refine ⟨h, ?_, hS, hJ, Fx.rf _ _ _⟩
    show fX5_back_12b _ h _ (dn 0) = _
    unfold fX5_back_12b
    rw [if_pos dn_0]
    rfl
  | succ k ih =>
    intro fuel s h hk hf hc hs hS hJ
    obtain ⟨m, rfl⟩ : ∃ m, fuel = m + 1 := ⟨fuel - 1, by omega⟩
    obtain ⟨b1, b2⟩ := hs.2 _ (jd_mem hk)
    have hl60 : s.2.1.length ≤ 60 := by
      obtain ⟨o, -, -, -, q, -⟩ := hJ
      exact q
    show ∃ h1, fX5_back_12b (fX5_back_12 m) h (nI s.2.2) (dn (k + 1)) = some (nI (bkS K k (if hsd K s.1 (s.2.1.getD k 0) 0 0 then s else (fl s.1 (s.2.1.getD k 0), s.2.1.eraseIdx k, s.2.2 + 1))).2.2, h1) ∧ St 1 K (bkS K k (if hsd K s.1 (s.2.1.getD k 0) 0 0 then s else (fl s.1 (s.2.1.getD k 0), s.2.1.eraseIdx k, s.2.2 + 1))).1 h1 ∧ CJ (bkS K k (if hsd K s.1 (s.2.1.getD k 0) 0 0 then s else (fl s.1 (s.2.1.getD k 0), s.2.1.eraseIdx k, s.2.2 + 1))).2.1 h1 ∧ Fx [3, 11, 12] [2] h h1
    unfold fX5_back_12b fX5_back_42
    rw [dn_s, if_neg (nI_pos (by omega)), c_bitOfMend hJ hk, bR_s, c_hasSoundWord hK hS b1 b2, bR_s]
    simp only [nm_eq]
    cases hq : hsd K s.1 (s.2.1.getD k 0) 0 0
    · rw [if_pos b2f, if_neg (show ¬ (false = true) by decide)]
      obtain ⟨h1, e1, e2, e3, e4⟩ := c_takeBack hK hS hJ hk hs.2
      rw [e1, bR_s, nI_1]
      obtain ⟨h2, f1, f2, f3, f4⟩ := ih m (fl s.1 (s.2.1.getD k 0), s.2.1.eraseIdx k, s.2.2 + 1) h1 (by show k ≤ (s.2.1.eraseIdx k).length; rw [ej_len hk]; omega) (by omega) (by show s.2.2 + 1 + k < 100; omega) (bk_ok hs hk) e2 e3
      exact ⟨h2, f1, f2, f3, Fx.tr e4 f4⟩
    · rw [if_neg b2t, if_pos rfl]
      exact ih m s h (by omega) (by omega) (by omega) hs hS hJ
theorem r_rem {k : Nat} {x1 : Int32} {k9 : AH → Int32 → Int32 → Option (Int32 × AH)} (hM : MSt K rl w j h) (hk : k < j.length) : ∃ h1, fX6_back_55 k9 FU h x1 (nI k) (nI (k + 1)) = k9 h1 (x1 + 1) (dn k) ∧ MSt K rl w (j.eraseIdx k) h1 ∧ FrM h h1 := by
  obtain ⟨p1, ⟨e2, hl, e3⟩, p3, p4⟩ := hM
  refine linv (fun n (s : AH × Int32) => fX6_back_55 k9 n s.1 x1 (nI k) s.2) (fun m s => s.2 = nI (k + 1 + m) ∧ (∀ t, t < j.length → s.1.1 34 t = if k ≤ t ∧ t < k + m then h.1 34 (t + 1) else h.1 34 t) ∧ Fx [34] [] h s.1) (j.length - 1 - k) (fun o' => ∃ h1, o' = k9 h1 (x1 + 1) (dn k) ∧ MSt K rl w (j.eraseIdx k) h1 ∧ FrM h h1) ?_ ?_ (j.length - 1 - k) 0 FU (h, nI (k + 1)) (Nat.zero_add _) (FU_lt (by omega)) ⟨rfl, fun t ht => by rw [if_neg (by omega)], Fx.rf _ _ _⟩
  · intro n m s hm hi
    obtain ⟨s1, s2⟩ := s
    obtain ⟨i1, i2, i4⟩ := hi
    simp only at i1 i2 i4
    subst i1
    have sm : nI (k + 1 + m) - 1 = nI (k + m) := by
      have := pk_sub (a := k + 1 + m) (b := 1) (by omega)
      rw [show k + 1 + m - 1 = k + m by omega] at this
      exact this
    refine ⟨(sI s1 34 (k + m) (s1.1 34 (k + 1 + m)), nI (k + 1 + (m + 1))), ⟨rfl, ?_, Fx.tr i4 Fx.sI⟩, ?_⟩
    · intro t ht
      show (sI s1 34 _ _).1 34 t = _
      rw [sI_u]
      unfold upd
      by_cases htk : t = k + m
      · rw [if_pos htk, if_pos (by omega), i2 (k + 1 + m) (by omega), if_neg (by omega), htk, show k + m + 1 = k + 1 + m by omega]
      · rw [if_neg htk, i2 t ht]
        by_cases hc : k ≤ t ∧ t < k + m
        · rw [if_pos hc, if_pos (by omega)]
        · rw [if_neg hc, if_neg (by omega)]
    · show fX6_back_55b k9 (fX6_back_55 k9 n) s1 x1 (nI k) (nI (k + 1 + m)) = _
      unfold fX6_back_55b
      simp only [nm_eq]
      rw [i4.1 29 (by decide), e2, if_neg (nI_ge (by omega) (by omega)), sm, ck_in (show k + 1 + m < 60 by omega) (by decide), ck_in (show k + m < 60 by omega) (by decide), nI_clamp (by omega), nI_clamp (by omega), nI_1]
      rfl
  · intro n s hi
    obtain ⟨s1, s2⟩ := s
    obtain ⟨i1, i2, i4⟩ := hi
    simp only at i1 i2 i4
    subst i1
    show ∃ h1, fX6_back_55b k9 (fX6_back_55 k9 n) s1 x1 (nI k) (nI (k + 1 + (j.length - 1 - k))) = _ ∧ _
    unfold fX6_back_55b fX6_back_99
    simp only [nm_eq]
    have sm : nI j.length - 1 = nI (j.length - 1) := pk_sub (b := 1) (by omega)
    rw [i4.1 29 (by decide), e2, if_pos (nI_le (by omega) (by omega)), sm]
    have u29 : ∀ q, q ≠ 7 → (sI s1 29 7 (nI (j.length - 1))).1 29 q = h.1 29 q := fun q hq => by rw [sI_u, pk_un hq, i4.1 29 (by decide)]
    refine ⟨_, rfl, ⟨?_, ⟨?_, ?_, ?_⟩, ?_, ?_⟩, ⟨Fx.tr (Fx.mo i4 (by decide) (by decide)) (Fx.mo Fx.sI (by decide) (by decide)), u29⟩⟩
    · intro a ha
      rw [sI_r (by decide), i4.1 32 (by decide)]; exact p1 a ha
    · rw [sI_u, pk_us, ej_len hk]
    · rw [ej_len hk]; omega
    · intro t ht
      rw [ej_len hk] at ht
      rw [sI_r (by decide), i2 t (by omega), ej_get]
      by_cases hc : t < k
      · rw [if_neg (by omega), if_pos hc, e3 t (by omega)]
      · rw [if_pos (by omega), if_neg hc, e3 (t + 1) (by omega)]
    · rw [u29 0 (by decide)]; exact p3
    · rw [u29 1 (by decide)]; exact p4
theorem r_back (hK : K ≤ 6) : ∀ (k fuel : Nat) (s : MS) (h : AH), k ≤ s.2.1.length → k < fuel → s.2.2 + k < 100 → Ok K s → MSt K rl s.1 s.2.1 h →
    ∃ h1, fX6_back_9 fuel h (nI s.2.2) (dn k) = some (nI (bkS K k s).2.2, h1) ∧ MSt K rl (bkS K k s).1 (bkS K k s).2.1 h1 ∧ FrM h h1 := by
  intro k
  induction k with
  | zero =>
    intro fuel s h _ hf hc hs hM
    obtain ⟨m, rfl⟩ : ∃ m, fuel = m + 1 := ⟨fuel - 1, by omega⟩
    refine ⟨h, ?_, hM, FrM.rf _⟩
    show fX6_back_9b _ h _ (dn 0) = _
    unfold fX6_back_9b
    rw [if_pos dn_0]
    rfl
  | succ k ih =>
    intro fuel s h hk hf hc hs hM
    obtain ⟨m, rfl⟩ : ∃ m, fuel = m + 1 := ⟨fuel - 1, by omega⟩
    obtain ⟨b1, b2⟩ := hs.2 _ (jd_mem hk)
    have hl60 : s.2.1.length ≤ 60 := hM.2.1.2.1
    show ∃ h1, fX6_back_9b (fX6_back_9 m) h (nI s.2.2) (dn (k + 1)) = some (nI (bkS K k (if hsd K s.1 (s.2.1.getD k 0) 0 0 then s else (fl s.1 (s.2.1.getD k 0), s.2.1.eraseIdx k, s.2.2 + 1))).2.2, h1) ∧ MSt K rl (bkS K k (if hsd K s.1 (s.2.1.getD k 0) 0 0 then s else (fl s.1 (s.2.1.getD k 0), s.2.1.eraseIdx k, s.2.2 + 1))).1 (bkS K k (if hsd K s.1 (s.2.1.getD k 0) 0 0 then s else (fl s.1 (s.2.1.getD k 0), s.2.1.eraseIdx k, s.2.2 + 1))).2.1 h1 ∧ FrM h h1
    unfold fX6_back_9b
    rw [dn_s, if_neg (nI_pos (by omega)), ck_in (show k < 60 by omega) (by decide), nm_eq, nI_clamp (by omega), hM.2.1.2.2 k hk]
    have ehs := r_hasSound (i := 0) (r := 0) hM.1 hM.2.2.1 hK b1 b2 (by decide) (by decide)
    rw [show fX6_hasSound h (nI (s.2.1.getD k 0)) 0 0 = _ from ehs, bR_s]
    cases hq : hsd K s.1 (s.2.1.getD k 0) 0 0
    · rw [if_pos b2f, if_neg (show ¬ (false = true) by decide), ck_in (show s.2.1.getD k 0 < 448 by omega) (by decide), nI_clamp (by omega), hM.1 _ (by omega)]
      have fin : ∀ v : Int32, vp_nar .boolean v = b2i (!(s.1 (s.2.1.getD k 0))) → ∃ h1, fX6_back_49 (fX6_back_9 m) h (nI s.2.2) (nI k) (nI (s.2.1.getD k 0)) v = some (nI (bkS K k (fl s.1 (s.2.1.getD k 0), s.2.1.eraseIdx k, s.2.2 + 1)).2.2, h1) ∧ MSt K rl (bkS K k (fl s.1 (s.2.1.getD k 0), s.2.1.eraseIdx k, s.2.2 + 1)).1 (bkS K k (fl s.1 (s.2.1.getD k 0), s.2.1.eraseIdx k, s.2.2 + 1)).2.1 h1 ∧ FrM h h1 := by
        intro v hv
        unfold fX6_back_49
        rw [ck_in (show s.2.1.getD k 0 < 448 by omega) (by decide), nm_eq, nm_eq, nI_clamp (by omega), nI_1]
        have F1 : Fx [32] [] h (sI h 32 (s.2.1.getD k 0) (vp_nar .boolean v)) := Fx.sI
        have FM1 : FrM h (sI h 32 (s.2.1.getD k 0) (vp_nar .boolean v)) := ⟨Fx.mo F1 (by decide) (by decide), fun q _ => by rw [F1.1 29 (by decide)]⟩
        have hM1 : MSt K rl (fl s.1 (s.2.1.getD k 0)) s.2.1 (sI h 32 (s.2.1.getD k 0) (vp_nar .boolean v)) := by
          obtain ⟨p1, p2, p3, p4⟩ := hM
          refine ⟨Ro_fl p1 hv, ?_, ?_, ?_⟩
          · unfold MJ at p2 ⊢
            rw [F1.1 29 (by decide), F1.1 34 (by decide)]; exact p2
          · rw [F1.1 29 (by decide)]; exact p3
          · rw [F1.1 29 (by decide)]; exact p4
        obtain ⟨h1, e1, e2, e3⟩ := r_rem (k9 := fX6_back_9 m) (x1 := nI s.2.2) hM1 hk
        rw [e1, nI_1]
        obtain ⟨h2, f1, f2, f3⟩ := ih m (fl s.1 (s.2.1.getD k 0), s.2.1.eraseIdx k, s.2.2 + 1) h1 (by show k ≤ (s.2.1.eraseIdx k).length; rw [ej_len hk]; omega) (by omega) (by show s.2.2 + 1 + k < 100; omega) (bk_ok hs hk) e2
        exact ⟨h2, f1, f2, FrM.tr FM1 (FrM.tr e3 f3)⟩
      cases hw : s.1 (s.2.1.getD k 0)
      · rw [if_pos b2f]; exact fin 1 (by rw [hw]; rfl)
      · rw [if_neg b2t]; exact fin 0 (by rw [hw]; rfl)
    · rw [if_neg b2t, if_pos rfl]
      exact ih m s h (by omega) (by omega) (by omega) hs hM
theorem o_back (B : Bo h) : Oo (fun h => fX5_back h) (fun h => fX6_back h) h := by
  obtain ⟨K, rl, d, se, w, g, j, T, fi, hI, hC, hM⟩ := B
  have hK := hI.2.1
  obtain ⟨o, ho, e1, e2, hl, e3⟩ := hC.2.2.2.2.1
  have ok : Ok K (w, j, 0) := ⟨hI.ot, hI.2.2.2.2.2.2.1⟩
  have sm : nI j.length - 1 = dn j.length := by
    cases hj : j.length with
    | zero => rfl
    | succ n => rw [dn_s]; exact pk_sub (a := n + 1) (b := 1) (by omega)
  obtain ⟨h1, f1, f2, f3, f4⟩ := c_back hK j.length FU (w, j, 0) h (Nat.le_refl _) (FU_lt (by omega)) (by show 0 + j.length < 100; omega) ok hC.1 hC.2.2.2.2.1
  have hM1 := hM.lo (f4.lo (by decide) (by decide))
  obtain ⟨h2, g1, g2, g3⟩ := r_back (rl := rl) hK j.length FU (w, j, 0) h1 (Nat.le_refl _) (FU_lt (by omega)) (by show 0 + j.length < 100; omega) ok hM1.1
  have ok2 := bkS_ok j.length (w, j, 0) (Nat.le_refl _) ok
  refine Oo.mk (h1 := h1) (h2 := h2) (v := nI (bkS K j.length (w, j, 0)).2.2) ?_ ?_ (hI.wj ok2.1 ok2.2) (hC.sj f4 f2 f3) (hM1.ms g3 g2) (g3.1.hi (by decide) (by decide))
  · show fX5_back h = _
    unfold fX5_back
    rw [nm_eq, e2, sm]
    exact f1
  · show fX6_back h1 = _
    unfold fX6_back
    rw [nm_eq, hM1.1.2.1.1, sm]
    exact g1
end UU
