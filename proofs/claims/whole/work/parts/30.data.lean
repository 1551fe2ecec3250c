/-! PURE: data, blocks -/
section DB
variable {K rl : Nat} {d : Nat → Nat} {se w g w' g' : Nat → Bool} {j j' : List Nat} {T T' : Sht} {fi : Int32} {h h1 h2 : AH}
theorem o_data (B : Bo h) (x y z : Int32) : Oo (fun h => fX5_data h x y z) (fun h => fX6_data h x y z) h := by
  have B0 := B
  obtain ⟨K, rl, d, se, w, g, j, T, fi, hI, hC, hM⟩ := B
  have hK := hI.2.1
  have c0 : fX5_isWord h x y = _ := g_isWord hC.1.1 hK x y
  have c1 : ∀ h', h'.1 29 0 = nI K → fX6_isWord h' x y = _ := fun h' hh => m_isWord hh hK x y
  have d0 : fX5_isOctal h z = _ := g_isOctal z
  have d1 : ∀ h', fX6_in h' z 0 7 = _ := fun h' => r_in h' z (a := 0) (b := 7) (by decide) (by decide)
  cases hr : (rg x 1 K && rg y 0 7)
  · rw [hr] at c0 c1
    refine Oo.no (v := -2) B0 ?_ ?_
    · show fX5_data h x y z = _
      unfold fX5_data
      rw [c0, bR_s, if_pos b2f]
    · show fX6_data h x y z = _
      unfold fX6_data
      rw [c1 h hM.1.2.2.1, bR_s, if_pos b2f]
  · rw [hr] at c0 c1
    cases hz : rg z 0 7
    · rw [hz] at d0 d1
      refine Oo.no (v := -2) B0 ?_ ?_
      · show fX5_data h x y z = _
        unfold fX5_data
        rw [c0, bR_s, if_neg b2t, d0, bR_s, if_pos b2f]
      · show fX6_data h x y z = _
        unfold fX6_data
        rw [c1 h hM.1.2.2.1, bR_s, if_neg b2t, d1, bR_s, if_pos b2f]
    · rw [hz] at d0 d1
      simp only [Bool.and_eq_true] at hr
      obtain ⟨hx, hy⟩ := hr
      obtain ⟨i, i1, i2, rfl⟩ := rg_n (by omega) hx
      obtain ⟨r, r1, r2, rfl⟩ := rg_n (by omega) hy
      obtain ⟨v, v1, v2, rfl⟩ := rg_n (by omega) hz
      have ea : (8 : Int32) * nI i + nI r = nI (8 * i + r) := by rw [m8, nI_add]
      obtain ⟨q1, q2, q3, q4, q5, q6, q7, q8⟩ := hC
      have hd8 := hI.2.2.2.1
      have hse : se = seG K d := hI.2.2.2.2.1
      rw [hse] at q3
      obtain ⟨h1, e1, e2, e3, e4⟩ := c_change (W := 8 * i + r) (v := v) hK (by omega) (by omega) (by omega) hd8 q2 q3
      have hM1 := hM.lo (e4.lo (by decide) (by decide))
      obtain ⟨⟨p1, p2, p3, p4⟩, p5, p6, p7, p8, p9⟩ := hM1
      have d8' : ∀ q, (fun q => if q = 8 * i + r then v else d q) q < 8 := by
        intro q
        show (if q = 8 * i + r then v else d q) < 8
        by_cases e : q = 8 * i + r
        · rw [if_pos e]; omega
        · rw [if_neg e]; exact hd8 q
      have F1 : Fx [30] [] h1 (sI h1 30 (8 * i + r) (nI v)) := Fx.sI
      have D1 : Da 30 (fun q => if q = 8 * i + r then v else d q) (sI h1 30 (8 * i + r) (nI v)) := by
        intro q hq
        rw [sI_u]
        unfold upd
        show (if q = 8 * i + r then nI v else h1.1 30 q) = nI (if q = 8 * i + r then v else d q)
        by_cases e : q = 8 * i + r
        · rw [if_pos e, if_pos e]
        · rw [if_neg e, if_neg e]; exact p5 q hq
      obtain ⟨h2, f1, f2, f3⟩ := r_sends (K := K) hK d8' D1 (by rw [F1.1 29 (by decide)]; exact p3)
      have F2 : Fx [30, 31] [] h1 h2 := Fx.tr (Fx.mo F1 (by decide) (by decide)) (Fx.mo f3 (by decide) (by decide))
      refine Oo.mk (h1 := h1) (h2 := h2) (v := nI (d (8 * i + r))) (K := K) (rl := rl) (d := fun q => if q = 8 * i + r then v else d q) (se := seG K (fun q => if q = 8 * i + r then v else d q)) (w := w) (g := g) (j := j) (T := T) (fi := fi) ?_ ?_ ?_ ?_ ?_ (F2.hi (by decide) (by decide))
      · show fX5_data h (nI i) (nI r) (nI v) = _
        unfold fX5_data
        rw [c0, bR_s, if_neg b2t, d0, bR_s, if_neg b2t, nm_eq, ea, ck_in (show 8 * i + r < 56 by omega) (by decide), nm_eq, nI_clamp (by omega), q1.1, e1, bR_s, q2 _ (by omega)]
      · show fX6_data h1 (nI i) (nI r) (nI v) = _
        unfold fX6_data
        rw [c1 h1 p3, bR_s, if_neg b2t, d1, bR_s, if_neg b2t, nm_eq, ea, ck_in (show 8 * i + r < 56 by omega) (by decide), nm_eq, nm_eq, ck_in (show 8 * i + r < 56 by omega) (by decide), nm_eq, nI_clamp (by omega), f1, bR_s, p5 _ (by omega)]
      · exact ⟨hI.1, hI.2.1, hI.2.2.1, d8', rfl, hI.2.2.2.2.2⟩
      · exact ⟨St.fx e4 q1 (by decide) (by decide) (by decide), e2, e3, Lb.fx e4 q4 (by decide), CJ.fx e4 q5 (by decide) (by decide), ShC.fx e4 q6 (by decide) (by decide), by rw [e4.1 0 (by decide)]; exact q7, by rw [e4.1 0 (by decide)]; exact q8⟩
      · refine ⟨⟨Ro.fx F2 p1 (by decide), ?_, ?_, ?_⟩, Da.fx f3 D1 (by decide), f2, Ro.fx F2 p7 (by decide), ShM.fx F2 p8 (by decide) (by decide) (by decide), ?_⟩
        · unfold MJ at p2 ⊢
          rw [F2.1 29 (by decide), F2.1 34 (by decide)]; exact p2
        · rw [F2.1 29 (by decide)]; exact p3
        · rw [F2.1 29 (by decide)]; exact p4
        · rw [F2.1 29 (by decide)]; exact p9
theorem le_rg2 {x : Int32} {a b : Nat} (ha : a < 2 ^ 31) (hb : b < 2 ^ 31) {α : Type} (p q : α) : (if x < nI a then p else if x ≤ nI b then q else p) = if rg x a b = true then q else p := by
  have e1 : x < nI a ↔ x.toInt < (a : Int) := by rw [Int32.lt_iff_toInt_lt, nI_toInt ha]
  have e2 : x ≤ nI b ↔ x.toInt ≤ (b : Int) := by rw [Int32.le_iff_toInt_le, nI_toInt hb]
  unfold rg
  by_cases h1 : x < nI a
  · have := e1.mp h1
    rw [if_pos h1, if_neg (fun q => by have := of_decide_eq_true q; omega)]
  · have h1' : ¬ x.toInt < (a : Int) := fun q => h1 (e1.mpr q)
    rw [if_neg h1]
    by_cases h2 : x ≤ nI b
    · have := e2.mp h2
      rw [if_pos h2, if_pos (decide_eq_true (by omega))]
    · have h2' : ¬ x.toInt ≤ (b : Int) := fun q => h2 (e2.mpr q)
      rw [if_neg h2, if_neg (fun q => by have := of_decide_eq_true q; omega)]
theorem ckF_z (W : Nat) : ∀ n, ckF (fun _ => false) W n = 0 := by
  intro n
  induction n with
  | zero => rfl
  | succ n ih =>
    show ckF (fun _ => false) W n ^^^ (if false = true then _ else 0) = 0
    rw [ih, if_neg (by decide)]
    rfl
theorem c_blocks {k : Nat} (hk : k ≤ 6) (hC : Cl K rl d se w g j T fi h) : ∃ h1, (bR (fX4_clear h 1 (nI k)) fun h2 => bR (fX2_clear h2) fun h3 => bR (fJ7_fill_d0a16 h3 10 0) fun h4 => bR (fX0_clear h4) fun h5 => some (h.1 1 0, h5)) = some (nI K, h1) ∧ Cl k rl (fun _ => 0) (fun _ => false) (fun _ => false) (fun _ => false) [] T fi h1 ∧ Lo h h1 := by
  obtain ⟨q1, q2, q3, q4, q5, q6, q7, q8⟩ := hC
  obtain ⟨a1, e1, e2, e3⟩ := fill_L (h := sI h 1 0 (nI k)) (c := 1 + 1) (N := 7) (v := 0) rfl (by decide)
  obtain ⟨a2, f1, f2, f3⟩ := fill_I (h := a1) (c := 1 + 2) (N := 56) (v := 0) rfl (by decide)
  obtain ⟨a3, g1, g2, g3⟩ := fill_I (h := a2) (c := 8) (N := 56) (v := 0) rfl (by decide)
  obtain ⟨a4, i1, i2, i3⟩ := fill_L (h := a3) (c := 9) (N := 7) (v := 0) rfl (by decide)
  obtain ⟨a5, j1, j2, j3⟩ := fill_L (h := a4) (c := 10) (N := 7) (v := 0) rfl (by decide)
  have zz : ∀ t, (0 : Int64).toBitVec.getLsbD t = false := fun t => by show (0#64).getLsbD t = false; simp
  have F0 : Fx [1] [] h (sI h 1 0 (nI k)) := Fx.sI
  have F6 : Fx [11] [] a5 (sI (sI a5 11 1 0) 11 2 0) := Fx.tr Fx.sI Fx.sI
  have F15 : Fx [3, 8, 9, 10, 11] [2, 9, 10] (sI h 1 0 (nI k)) a5 := Fx.tr (Fx.tr (Fx.tr (Fx.tr (Fx.mo e3 (by decide) (by decide)) (Fx.mo f3 (by decide) (by decide))) (Fx.mo g3 (by decide) (by decide))) (Fx.mo i3 (by decide) (by decide))) (Fx.mo j3 (by decide) (by decide))
  have F : Fx [1, 3, 8, 9, 10, 11] [2, 9, 10] h (sI (sI a5 11 1 0) 11 2 0) := Fx.tr (Fx.tr (Fx.mo F0 (by decide) (by decide)) (Fx.mo F15 (by decide) (by decide))) (Fx.mo F6 (by decide) (by decide))
  refine ⟨sI (sI a5 11 1 0) 11 2 0, ?_, ⟨⟨?_, ?_, ?_⟩, ?_, ?_, ?_, ⟨0, by decide, ?_, ?_, by decide, fun q hq => absurd hq (Nat.not_lt_zero q)⟩, ShC.fx F q6 (by decide) (by decide), ?_, ?_⟩, F.lo (by decide) (by decide)⟩
  · unfold fX4_clear fX2_clear fX0_clear
    rw [nm_eq, e1, bR_s, f1, bR_s, bR_s, g1, bR_s, i1, bR_s, bR_s, j1, bR_s, nm_eq, nm_eq, bR_s, q1.1]
  · rw [F6.1 1 (by decide), F15.1 1 (by decide), sI_u, pk_us]
  · intro i hi t ht
    rw [F6.2 2 (by decide), j3.2 2 (by decide), i3.2 2 (by decide), g3.2 2 (by decide), f3.2 2 (by decide), show a1.2 2 i = 0 from e2 i hi, zz]
  · intro W hW
    rw [F6.1 3 (by decide), j3.1 3 (by decide), i3.1 3 (by decide), g3.1 3 (by decide), show a2.1 3 W = 0 from f2 W hW]
    by_cases q : 8 ≤ W ∧ W < 8 * (k + 1)
    · rw [if_pos q, ckF_z]
    · rw [if_neg q]
  · intro W hW
    rw [F6.1 8 (by decide), j3.1 8 (by decide), i3.1 8 (by decide), g2 W hW]
    rfl
  · intro i hi t ht
    rw [F6.2 9 (by decide), j3.2 9 (by decide), i2 i hi, zz]
  · intro i hi t ht
    rw [F6.2 10 (by decide), j2 i hi, zz]
  · rw [sI_u, pk_un (by decide), sI_u, pk_us]; rfl
  · rw [sI_u, pk_us]; rfl
  · rw [F.1 0 (by decide)]; exact q7
  · rw [F.1 0 (by decide)]; exact q8
theorem r_blocks {k : Nat} (hk : k ≤ 6) (hM : Mo K rl d se w g j T fi h) : ∃ h1, fX6_blocks_25 (nI k) FU (sI h 29 0 (nI k)) (nI K) 0 = some (nI K, h1) ∧ Mo k rl (fun _ => 0) (fun _ => false) (fun _ => false) (fun _ => false) [] T fi h1 ∧ Hi h h1 := by
  obtain ⟨⟨p1, p2, p3, p4⟩, p5, p6, p7, p8, p9⟩ := hM
  have F0 : Fx [29] [] h (sI h 29 0 (nI k)) := Fx.sI
  have fin : ∀ h0 : AH, (∀ a, a < 448 → h0.1 32 a = 0) → (∀ a, a < 448 → h0.1 33 a = 0) → (∀ W, W < 56 → h0.1 30 W = 0) → Fx [30, 32, 33] [] (sI h 29 0 (nI k)) h0 → ∃ h1, (bR (fX6_sends (sI h0 29 7 0)) fun h2 => some (nI K, h2)) = some (nI K, h1) ∧ Mo k rl (fun _ => 0) (fun _ => false) (fun _ => false) (fun _ => false) [] T fi h1 ∧ Hi h h1 := by
    intro h0 z1 z2 z3 F1
    have F2 : Fx [29] [] h0 (sI h0 29 7 0) := Fx.sI
    have b29 : ∀ q, q ≠ 7 → q ≠ 0 → (sI h0 29 7 0).1 29 q = h.1 29 q := fun q hq hq0 => by rw [sI_u, pk_un hq, F1.1 29 (by decide), sI_u, pk_un hq0]
    have b290 : (sI h0 29 7 0).1 29 0 = nI k := by rw [sI_u, pk_un (by decide), F1.1 29 (by decide), sI_u, pk_us]
    obtain ⟨h1, e1, e2, e3⟩ := r_sends (K := k) (d := fun _ => 0) (h := sI h0 29 7 0) hk (fun _ => by decide) (fun W hW => by rw [F2.1 30 (by decide), z3 W hW]; rfl) b290
    rw [seG_z] at e2
    have FA : Fx [29, 30, 31, 32, 33] [] h h1 := Fx.tr (Fx.tr (Fx.tr (Fx.mo F0 (by decide) (by decide)) (Fx.mo F1 (by decide) (by decide))) (Fx.mo F2 (by decide) (by decide))) (Fx.mo e3 (by decide) (by decide))
    refine ⟨h1, by rw [e1, bR_s], ⟨⟨?_, ⟨?_, by decide, fun q hq => absurd hq (Nat.not_lt_zero q)⟩, ?_, ?_⟩, ?_, e2, ?_, ShM.fx FA p8 (by decide) (by decide) (by decide), ?_⟩, FA.hi (by decide) (by decide)⟩
    · intro a ha
      rw [e3.1 32 (by decide), F2.1 32 (by decide), z1 a ha]; rfl
    · rw [e3.1 29 (by decide), sI_u, pk_us]; rfl
    · rw [e3.1 29 (by decide), b290]
    · rw [e3.1 29 (by decide), b29 1 (by decide) (by decide)]; exact p4
    · intro W hW
      rw [e3.1 30 (by decide), F2.1 30 (by decide), z3 W hW]; rfl
    · intro a ha
      rw [e3.1 33 (by decide), F2.1 33 (by decide), z2 a ha]; rfl
    · rw [e3.1 29 (by decide), b29 17 (by decide) (by decide)]; exact p9
  have l54 : ∀ h0 : AH, (∀ a, a < 448 → h0.1 32 a = 0) → (∀ a, a < 448 → h0.1 33 a = 0) → Fx [30, 32, 33] [] (sI h 29 0 (nI k)) h0 → ∃ h1, fX6_blocks_54 (nI k) FU h0 (nI K) 0 = some (nI K, h1) ∧ Mo k rl (fun _ => 0) (fun _ => false) (fun _ => false) (fun _ => false) [] T fi h1 ∧ Hi h h1 := by
    intro h0 z1 z2 F1
    refine linv (fun n (s : AH × Int32) => fX6_blocks_54 (nI k) n s.1 (nI K) s.2) (fun q s => s.2 = nI q ∧ (∀ W, W < q → s.1.1 30 W = 0) ∧ Fx [30] [] h0 s.1) 56 (fun o => ∃ h1, o = some (nI K, h1) ∧ Mo k rl (fun _ => 0) (fun _ => false) (fun _ => false) (fun _ => false) [] T fi h1 ∧ Hi h h1) ?_ ?_ 56 0 FU (h0, 0) rfl (FU_lt (by decide)) ⟨rfl, fun W hW => absurd hW (Nat.not_lt_zero W), Fx.rf _ _ _⟩
    · intro n q s hq hI
      obtain ⟨s1, s2⟩ := s
      obtain ⟨i1, i2, i3⟩ := hI
      simp only at i1 i2 i3
      subst i1
      refine ⟨(sI s1 30 q 0, nI (q + 1)), ⟨rfl, fun W hW => ?_, Fx.tr i3 Fx.sI⟩, ?_⟩
      · show (sI s1 30 q 0).1 30 W = 0
        rw [sI_u]
        unfold upd
        by_cases e : W = q
        · rw [if_pos e]
        · rw [if_neg e]; exact i2 W (by omega)
      · show fX6_blocks_54b (fX6_blocks_54 (nI k) n) (nI k) s1 (nI K) (nI q) = _
        unfold fX6_blocks_54b
        rw [if_neg (show ¬ (56 : Int32) ≤ nI q from nI_ge (b := 56) hq (by decide)), ck_in hq (by decide), nm_eq, nm_eq, nI_clamp (by omega), nI_1]
    · intro n s hI
      obtain ⟨s1, s2⟩ := s
      obtain ⟨i1, i2, i3⟩ := hI
      simp only at i1 i2 i3
      subst i1
      show ∃ h1, fX6_blocks_54b (fX6_blocks_54 (nI k) n) (nI k) s1 (nI K) (nI 56) = _ ∧ _
      unfold fX6_blocks_54b
      rw [if_pos (show (56 : Int32) ≤ nI 56 by decide), nm_eq]
      exact fin s1 (fun a ha => by rw [i3.1 32 (by decide)]; exact z1 a ha) (fun a ha => by rw [i3.1 33 (by decide)]; exact z2 a ha) i2 (Fx.tr F1 (Fx.mo i3 (by decide) (by decide)))
  refine linv (fun n (s : AH × Int32) => fX6_blocks_25 (nI k) n s.1 (nI K) s.2) (fun q s => s.2 = nI q ∧ (∀ a, a < q → s.1.1 32 a = 0) ∧ (∀ a, a < q → s.1.1 33 a = 0) ∧ Fx [32, 33] [] (sI h 29 0 (nI k)) s.1) 448 (fun o => ∃ h1, o = some (nI K, h1) ∧ Mo k rl (fun _ => 0) (fun _ => false) (fun _ => false) (fun _ => false) [] T fi h1 ∧ Hi h h1) ?_ ?_ 448 0 FU (sI h 29 0 (nI k), 0) rfl (FU_lt (by decide)) ⟨rfl, fun a ha => absurd ha (Nat.not_lt_zero a), fun a ha => absurd ha (Nat.not_lt_zero a), Fx.rf _ _ _⟩
  · intro n q s hq hI
    obtain ⟨s1, s2⟩ := s
    obtain ⟨i1, i2, i2', i3⟩ := hI
    simp only at i1 i2 i2' i3
    subst i1
    refine ⟨(sI (sI s1 32 q 0) 33 q 0, nI (q + 1)), ⟨rfl, fun a ha => ?_, fun a ha => ?_, Fx.tr i3 (Fx.tr (Fx.mo Fx.sI (by decide) (by decide)) (Fx.mo Fx.sI (by decide) (by decide)))⟩, ?_⟩
    · show (sI (sI s1 32 q 0) 33 q 0).1 32 a = 0
      rw [sI_r (by decide), sI_u]
      unfold upd
      by_cases e : a = q
      · rw [if_pos e]
      · rw [if_neg e]; exact i2 a (by omega)
    · show (sI (sI s1 32 q 0) 33 q 0).1 33 a = 0
      rw [sI_u]
      unfold upd
      by_cases e : a = q
      · rw [if_pos e]
      · rw [if_neg e, sI_r (by decide)]; exact i2' a (by omega)
    · show fX6_blocks_25b (fX6_blocks_25 (nI k) n) (nI k) s1 (nI K) (nI q) = _
      unfold fX6_blocks_25b
      rw [if_neg (show ¬ (448 : Int32) ≤ nI q from nI_ge (b := 448) hq (by decide)), ck_in hq (by decide), nm_eq, ck_in hq (by decide), nm_eq, nm_eq, nI_clamp (by omega), nI_1, nz0]
  · intro n s hI
    obtain ⟨s1, s2⟩ := s
    obtain ⟨i1, i2, i2', i3⟩ := hI
    simp only at i1 i2 i2' i3
    subst i1
    show ∃ h1, fX6_blocks_25b (fX6_blocks_25 (nI k) n) (nI k) s1 (nI K) (nI 448) = _ ∧ _
    unfold fX6_blocks_25b
    rw [if_pos (show (448 : Int32) ≤ nI 448 by decide)]
    exact l54 s1 i2 i2' (Fx.mo i3 (by decide) (by decide))
theorem o_blocks (B : Bo h) (x : Int32) : Oo (fun h => fX5_blocks h x) (fun h => fX6_blocks h x) h := by
  have B0 := B
  obtain ⟨K, rl, d, se, w, g, j, T, fi, hI, hC, hM⟩ := B
  have c0 : fX5_blocks h x = if rg x 2 6 = true then (nm (h.1 1 0) fun v1 => bR (fX4_clear h 1 x) fun h2 => bR (fX2_clear h2) fun h3 => bR (fJ7_fill_d0a16 h3 10 0) fun h4 => bR (fX0_clear h4) fun h5 => some (v1, h5)) else some ((-2), h) := le_rg2 (a := 2) (b := 6) (by decide) (by decide) _ _
  have c1 : ∀ h', fX6_in h' x 2 6 = _ := fun h' => r_in h' x (a := 2) (b := 6) (by decide) (by decide)
  cases hr : rg x 2 6
  · refine Oo.no (v := -2) B0 ?_ ?_
    · show fX5_blocks h x = _
      rw [c0, hr, if_neg (show ¬ (false = true) by decide)]
    · show fX6_blocks h x = _
      unfold fX6_blocks
      rw [c1, bR_s, hr, if_pos b2f]
  · rw [hr, if_pos rfl] at c0
    rw [hr] at c1
    obtain ⟨k, k1, k2, rfl⟩ := rg_n (by omega) hr
    obtain ⟨h1, e1, e2, e3⟩ := c_blocks k2 hC
    have hM1 := hM.lo e3
    obtain ⟨h2, f1, f2, f3⟩ := r_blocks k2 hM1
    refine Oo.mk (h1 := h1) (h2 := h2) (v := nI K) ?_ ?_ ?_ e2 f2 f3
    · show fX5_blocks h (nI k) = _
      rw [c0, nm_eq]
      exact e1
    · show fX6_blocks h1 (nI k) = _
      unfold fX6_blocks
      rw [c1, bR_s, if_neg b2t, nm_eq, nm_eq, hM1.1.2.2.1]
      exact f1
    · exact ⟨k1, k2, hI.2.2.1, fun _ => (show 0 < 8 by decide), (seG_z k).symm, fun _ _ => rfl, (fun a ha => by cases ha), hI.2.2.2.2.2.2.2⟩
end DB
