/-! PURE: class and reference side by side; flip, rule, lots, read -/
def Bo (h : AH) : Prop := ∃ (K rl : Nat) (d : Nat → Nat) (se w g : Nat → Bool) (j : List Nat) (T : Sht) (fi : Int32), Iv K rl d se w g j T ∧ Cl K rl d se w g j T fi h ∧ Mo K rl d se w g j T fi h
def Oo {α : Type} (fc fm : AH → Option (α × AH)) (h : AH) : Prop := ∃ v h1 h2, fc h = some (v, h1) ∧ fm h1 = some (v, h2) ∧ Bo h2
def Oq {α : Type} (fc fm : AH → Option α) (h : AH) : Prop := ∃ v, fc h = some v ∧ fm h = some v
section OO
variable {K rl : Nat} {d : Nat → Nat} {se w g w' g' : Nat → Bool} {j j' : List Nat} {T : Sht} {fi : Int32} {h h1 h2 : AH}
theorem Oo.mk {α : Type} {fc fm : AH → Option (α × AH)} {v : α} (e1 : fc h = some (v, h1)) (e2 : fm h1 = some (v, h2)) (hI : Iv K rl d se w g j T) (hC : Cl K rl d se w g j T fi h1) (hM : Mo K rl d se w g j T fi h2) (F : Hi h1 h2) : Oo fc fm h :=
  ⟨v, h1, h2, e1, e2, K, rl, d, se, w, g, j, T, fi, hI, hC.hi F, hM⟩
theorem Oo.no {α : Type} {fc fm : AH → Option (α × AH)} {v : α} (B : Bo h) (e1 : fc h = some (v, h)) (e2 : fm h = some (v, h)) : Oo fc fm h := ⟨v, h, h, e1, e2, B⟩
theorem Cl.sg (q : Cl K rl d se w g j T fi h) (F : Fx [3] [2, 10] h h1) (a : St 1 K w' h1) (b : Lb 10 g' h1) : Cl K rl d se w' g' j T fi h1 := by
  obtain ⟨q1, q2, q3, q4, q5, q6, q7, q8⟩ := q
  exact ⟨a, Da.fx F q2 (by decide), Lb.fx F q3 (by decide), b, CJ.fx F q5 (by decide) (by decide), ShC.fx F q6 (by decide) (by decide), by rw [F.1 0 (by decide)]; exact q7, by rw [F.1 0 (by decide)]; exact q8⟩
theorem Cl.sj (q : Cl K rl d se w g j T fi h) (F : Fx [3, 11, 12] [2] h h1) (a : St 1 K w' h1) (b : CJ j' h1) : Cl K rl d se w' g j' T fi h1 := by
  obtain ⟨q1, q2, q3, q4, q5, q6, q7, q8⟩ := q
  exact ⟨a, Da.fx F q2 (by decide), Lb.fx F q3 (by decide), Lb.fx F q4 (by decide), b, ShC.fx F q6 (by decide) (by decide), by rw [F.1 0 (by decide)]; exact q7, by rw [F.1 0 (by decide)]; exact q8⟩
theorem Mo.wg (q : Mo K rl d se w g j T fi h) (F : Fx [32, 33] [] h h1) (a : Ro 32 w' h1) (b : Ro 33 g' h1) : Mo K rl d se w' g' j T fi h1 := by
  obtain ⟨⟨q1, q2, q3, q4⟩, q5, q6, q7, q8, q9⟩ := q
  refine ⟨⟨a, ?_, ?_, ?_⟩, Da.fx F q5 (by decide), Ro.fx F q6 (by decide), b, ShM.fx F q8 (by decide) (by decide) (by decide), ?_⟩
  · unfold MJ at q2 ⊢
    rw [F.1 29 (by decide), F.1 34 (by decide)]; exact q2
  · rw [F.1 29 (by decide)]; exact q3
  · rw [F.1 29 (by decide)]; exact q4
  · rw [F.1 29 (by decide)]; exact q9
theorem Mo.ms (q : Mo K rl d se w g j T fi h) (F : FrM h h1) (a : MSt K rl w' j' h1) : Mo K rl d se w' g j' T fi h1 := by
  obtain ⟨q1, q5, q6, q7, q8, q9⟩ := q
  exact ⟨a, Da.fx F.1 q5 (by decide), Ro.fx F.1 q6 (by decide), Ro.fx F.1 q7 (by decide), ShM.fx F.1 q8 (by decide) (by decide) (by decide), by rw [F.2 17 (by decide)]; exact q9⟩
theorem Iv.ww (q : Iv K rl d se w g j T) (a : Ot K w') : Iv K rl d se w' g' j T := ⟨q.1, q.2.1, q.2.2.1, q.2.2.2.1, q.2.2.2.2.1, a, q.2.2.2.2.2.2.1, q.2.2.2.2.2.2.2⟩
theorem Iv.wj (q : Iv K rl d se w g j T) (a : Ot K w') (b : ∀ a, a ∈ j' → 64 ≤ a ∧ a < 64 * (K + 1)) : Iv K rl d se w' g' j' T := ⟨q.1, q.2.1, q.2.2.1, q.2.2.2.1, q.2.2.2.2.1, a, b, q.2.2.2.2.2.2.2⟩
theorem Iv.ot (q : Iv K rl d se w g j T) : Ot K w := q.2.2.2.2.2.1
theorem m64 (n : Nat) : (64 : Int32) * nI n = nI (64 * n) := pk_mul 64 n
theorem m8 (n : Nat) : (8 : Int32) * nI n = nI (8 * n) := pk_mul 8 n
theorem o_flip (B : Bo h) (x y z : Int32) : Oo (fun h => fX5_flip h x y z) (fun h => fX6_flip h x y z) h := by
  have B0 := B
  obtain ⟨K, rl, d, se, w, g, j, T, fi, hI, hC, hM⟩ := B
  have hK := hI.2.1
  have c0 : fX5_isBit h x y z = _ := g_isBit hC.1.1 hK x y z
  have c1 : ∀ h', h'.1 29 0 = nI K → fX6_isBit h' x y z = _ := fun h' hh => m_isBit hh hK x y z
  cases hr : (rg x 1 K && rg y 0 7 && rg z 0 7)
  · rw [hr] at c0 c1
    refine Oo.no (v := -2) B0 ?_ ?_
    · show fX5_flip h x y z = _
      unfold fX5_flip
      rw [c0, bR_s, if_pos b2f]
    · show fX6_flip h x y z = _
      unfold fX6_flip
      rw [c1 h hM.1.2.2.1, bR_s, if_pos b2f]
  · rw [hr] at c0 c1
    simp only [Bool.and_eq_true] at hr
    obtain ⟨⟨hx, hy⟩, hz⟩ := hr
    obtain ⟨i, i1, i2, rfl⟩ := rg_n (by omega) hx
    obtain ⟨r, r1, r2, rfl⟩ := rg_n (by omega) hy
    obtain ⟨c, cc1, cc2, rfl⟩ := rg_n (by omega) hz
    have ea : (64 : Int32) * nI i + 8 * nI r + nI c = nI (64 * i + 8 * r + c) := by rw [m64, m8, nI_add, nI_add]
    obtain ⟨h1, e1, e2, e3, e4⟩ := c_hit (a := 64 * i + 8 * r + c) hK (by omega) (by omega) hC.1 hC.2.2.2.1
    have hM1 := hM.lo (e4.lo (by decide) (by decide))
    obtain ⟨h2, f1, f2, f3, f4⟩ := r_hits (a := 64 * i + 8 * r + c) (by omega) hM1.1.1 hM1.2.2.2.1
    have hO := Ot_fl (a := 64 * i + 8 * r + c) hI.ot (by omega) (by omega)
    refine Oo.mk (h1 := h1) (h2 := h2) (v := nI (cnt (fl w (64 * i + 8 * r + c)) 448)) ?_ ?_ (hI.ww hO) (hC.sg e4 e2 e3) (hM1.wg f4 f2 f3) (f4.hi (by decide) (by decide))
    · show fX5_flip h (nI i) (nI r) (nI c) = _
      unfold fX5_flip fX5_bitNumber
      rw [c0, bR_s, if_neg b2t, bR_s, ea, e1, bR_s, c_wrongBits hK e2 hO, bR_s]
    · show fX6_flip h1 (nI i) (nI r) (nI c) = _
      unfold fX6_flip
      rw [c1 h1 hM1.1.2.2.1, bR_s, if_neg b2t, ea, f1, bR_s, r_wrongMany f2, bR_s]
theorem o_rule (B : Bo h) (x : Int32) : Oo (fun h => fX5_rule h x) (fun h => fX6_rule h x) h := by
  have B0 := B
  obtain ⟨K, rl, d, se, w, g, j, T, fi, hI, hC, hM⟩ := B
  have c0 : fX5_isRule h x = _ := g_isRule x
  have c1 : ∀ h', fX6_in h' x 0 1 = _ := fun h' => r_in h' x (a := 0) (b := 1) (by decide) (by decide)
  cases hr : rg x 0 1
  · rw [hr] at c0 c1
    refine Oo.no (v := -2) B0 ?_ ?_
    · show fX5_rule h x = _
      unfold fX5_rule
      rw [c0, bR_s, if_pos b2f]
    · show fX6_rule h x = _
      unfold fX6_rule
      rw [c1 h, bR_s, if_pos b2f]
  · rw [hr] at c0 c1
    obtain ⟨v, v1, v2, rfl⟩ := rg_n (by omega) hr
    obtain ⟨q1, q2, q3, q4, q5, q6, q7, q8⟩ := hC
    have F1 : Fx [0] [] h (sI h 0 7 (nI v)) := Fx.sI
    have hM1 := hM.lo (F1.lo (by decide) (by decide))
    obtain ⟨⟨p1, p2, p3, p4⟩, p5, p6, p7, p8, p9⟩ := hM1
    have F2 : Fx [29] [] (sI h 0 7 (nI v)) (sI (sI h 0 7 (nI v)) 29 1 (nI v)) := Fx.sI
    have g29 : ∀ q, q ≠ 1 → (sI (sI h 0 7 (nI v)) 29 1 (nI v)).1 29 q = (sI h 0 7 (nI v)).1 29 q := fun q hq => by rw [sI_u]; exact pk_un hq
    refine Oo.mk (h1 := sI h 0 7 (nI v)) (h2 := sI (sI h 0 7 (nI v)) 29 1 (nI v)) (v := nI rl) (K := K) (rl := v) (d := d) (se := se) (w := w) (g := g) (j := j) (T := T) (fi := fi) ?_ ?_ ?_ ?_ ?_ (F2.hi (by decide) (by decide))
    · show fX5_rule h (nI v) = _
      unfold fX5_rule
      rw [c0, bR_s, if_neg b2t, nm_eq, nm_eq, q7]
    · show fX6_rule _ (nI v) = _
      unfold fX6_rule
      rw [c1, bR_s, if_neg b2t, nm_eq, nm_eq, p4]
    · exact ⟨hI.1, hI.2.1, v2, hI.2.2.2⟩
    · refine ⟨St.fx F1 q1 (by decide) (by decide) (by decide), Da.fx F1 q2 (by decide), Lb.fx F1 q3 (by decide), Lb.fx F1 q4 (by decide), CJ.fx F1 q5 (by decide) (by decide), ShC.fx F1 q6 (by decide) (by decide), ?_, ?_⟩
      · rw [sI_u]; rfl
      · rw [sI_u, pk_un (by decide)]; exact q8
    · refine ⟨⟨Ro.fx F2 p1 (by decide), ?_, ?_, ?_⟩, Da.fx F2 p5 (by decide), Ro.fx F2 p6 (by decide), Ro.fx F2 p7 (by decide), ShM.fx F2 p8 (by decide) (by decide) (by decide), ?_⟩
      · unfold MJ at p2 ⊢
        rw [F2.1 34 (by decide), g29 7 (by decide)]; exact p2
      · rw [g29 0 (by decide)]; exact p3
      · rw [sI_u]; rfl
      · rw [g29 17 (by decide)]; exact p9
/-! lots -/
def lotV (v : Int32) : Int32 := ((v.toUInt32 >>> ((16 : Int32).toUInt32 &&& Int32.toUInt32 31)).toInt32) &&& 255
theorem lot_eq (v : Int32) : ((v.toUInt32 >>> ((16 : Int32).toUInt32 &&& Int32.toUInt32 31)).toInt32) - ((v.toUInt32 >>> ((16 : Int32).toUInt32 &&& Int32.toUInt32 31)).toInt32) / 256 * 256 = lotV v := by
  unfold lotV
  have e := pk_ushr v 16 16 (by decide)
  have hv : v.toBitVec.toNat < 2 ^ 32 := v.toBitVec.isLt
  obtain ⟨m, hm⟩ : ∃ m, m = v.toBitVec.toNat / 2 ^ 16 := ⟨_, rfl⟩
  have hm2 : m < 65536 := by omega
  have ex : (v.toUInt32 >>> ((16 : Int32).toUInt32 &&& Int32.toUInt32 31)).toInt32 = nI m := by
    apply Int32.toBitVec_inj.mp
    apply BitVec.eq_of_toNat_eq
    rw [e, pk_tn (by omega), hm]
  rw [ex, show nI m - nI m / 256 * 256 = nI (m % 256) from pk_rem (d := 256) (by omega) (by decide) (by decide), pk_andN (by omega) (m := 255) 8 (by decide)]
def lotS (n x : Int32) (w g : Nat → Bool) : Nat → Int32 × Int32 × (Nat → Bool) × (Nat → Bool)
  | 0 => (x, 0, w, g)
  | k + 1 => if n ≤ lotV (1103515245 * (lotS n x w g k).1 + 12345) then (1103515245 * (lotS n x w g k).1 + 12345, (lotS n x w g k).2) else (1103515245 * (lotS n x w g k).1 + 12345, (lotS n x w g k).2.1 + 1, fl (lotS n x w g k).2.2.1 (64 + k), fl (lotS n x w g k).2.2.2 (64 + k))
theorem lotS_ot {n x : Int32} {w g : Nat → Bool} (hO : Ot K w) : ∀ k, k ≤ 64 * K → Ot K (lotS n x w g k).2.2.1 := by
  intro k
  induction k with
  | zero => intro _; exact hO
  | succ k ih =>
    intro hk
    unfold lotS
    by_cases hn : n ≤ lotV (1103515245 * (lotS n x w g k).1 + 12345)
    · rw [if_pos hn]; exact ih (by omega)
    · rw [if_neg hn]; exact Ot_fl (ih (by omega)) (by omega) (by omega)
theorem c_lots {n x : Int32} (hK : K ≤ 6) (hC : Cl K rl d se w g j T fi h) : ∃ h1, fX5_lots_43 x n FU h x 0 (nI (64 * K + 64)) (nI 64) = some ((lotS n x w g (64 * K)).2.1, h1) ∧ Cl K rl d se (lotS n x w g (64 * K)).2.2.1 (lotS n x w g (64 * K)).2.2.2 j T fi h1 ∧ Lo h h1 := by
  refine linv (fun m (s : AH × Int32 × Int32 × Int32) => fX5_lots_43 x n m s.1 s.2.1 s.2.2.1 (nI (64 * K + 64)) s.2.2.2) (fun k s => s.2.1 = (lotS n x w g k).1 ∧ s.2.2.1 = (lotS n x w g k).2.1 ∧ s.2.2.2 = nI (64 + k) ∧ Cl K rl d se (lotS n x w g k).2.2.1 (lotS n x w g k).2.2.2 j T fi s.1 ∧ Lo h s.1) (64 * K) (fun o => ∃ h1, o = some ((lotS n x w g (64 * K)).2.1, h1) ∧ Cl K rl d se (lotS n x w g (64 * K)).2.2.1 (lotS n x w g (64 * K)).2.2.2 j T fi h1 ∧ Lo h h1) ?_ ?_ (64 * K) 0 FU (h, x, 0, nI 64) (Nat.zero_add _) (FU_lt (by omega)) ⟨rfl, rfl, rfl, hC, Lo.rf _⟩
  · intro m k s hk hi
    obtain ⟨s1, s2, s3, s4⟩ := s
    obtain ⟨i1, i2, i3, i4, i5⟩ := hi
    simp only at i1 i2 i3 i4 i5
    subst i1 i2 i3
    by_cases hn : n ≤ lotV (1103515245 * (lotS n x w g k).1 + 12345)
    · have ek : lotS n x w g (k + 1) = (1103515245 * (lotS n x w g k).1 + 12345, (lotS n x w g k).2) := by
        show (if _ then _ else _) = _
        rw [if_pos hn]
      refine ⟨(s1, (lotS n x w g (k + 1)).1, (lotS n x w g (k + 1)).2.1, nI (64 + (k + 1))), ⟨rfl, rfl, rfl, by rw [ek]; exact i4, i5⟩, ?_⟩
      show fX5_lots_43b (fX5_lots_43 x n m) x n s1 (lotS n x w g k).1 (lotS n x w g k).2.1 (nI (64 * K + 64)) (nI (64 + k)) = fX5_lots_43 x n m s1 (lotS n x w g (k + 1)).1 (lotS n x w g (k + 1)).2.1 (nI (64 * K + 64)) (nI (64 + (k + 1)))
      unfold fX5_lots_43b fX5_lots_80
      simp only [nm_eq]
      rw [if_neg (nI_ge (by omega) (by omega)), ek]
      unfold lotV at hn
      rw [if_pos hn, nI_1]
      rfl
    · have ek : lotS n x w g (k + 1) = (1103515245 * (lotS n x w g k).1 + 12345, (lotS n x w g k).2.1 + 1, fl (lotS n x w g k).2.2.1 (64 + k), fl (lotS n x w g k).2.2.2 (64 + k)) := by
        show (if _ then _ else _) = _
        rw [if_neg hn]
      obtain ⟨h1, e1, e2, e3, e4⟩ := c_hit (a := 64 + k) hK (by omega) (by omega) i4.1 i4.2.2.2.1
      refine ⟨(h1, (lotS n x w g (k + 1)).1, (lotS n x w g (k + 1)).2.1, nI (64 + (k + 1))), ⟨rfl, rfl, rfl, by rw [ek]; exact i4.sg e4 e2 e3, i5.tr (e4.lo (by decide) (by decide))⟩, ?_⟩
      show fX5_lots_43b (fX5_lots_43 x n m) x n s1 (lotS n x w g k).1 (lotS n x w g k).2.1 (nI (64 * K + 64)) (nI (64 + k)) = fX5_lots_43 x n m h1 (lotS n x w g (k + 1)).1 (lotS n x w g (k + 1)).2.1 (nI (64 * K + 64)) (nI (64 + (k + 1)))
      unfold fX5_lots_43b fX5_lots_80
      simp only [nm_eq]
      rw [if_neg (nI_ge (by omega) (by omega)), ek]
      unfold lotV at hn
      rw [if_neg hn, e1, bR_s, nI_1]
      rfl
  · intro m s hi
    obtain ⟨s1, s2, s3, s4⟩ := s
    obtain ⟨i1, i2, i3, i4, i5⟩ := hi
    simp only at i1 i2 i3 i4 i5
    subst i1 i2 i3
    refine ⟨s1, ?_, i4, i5⟩
    show fX5_lots_43b (fX5_lots_43 x n m) x n s1 _ _ (nI (64 * K + 64)) (nI (64 + 64 * K)) = _
    unfold fX5_lots_43b
    rw [if_pos (nI_le (by omega) (by omega))]
theorem r_lots {n x : Int32} (hK : K ≤ 6) (hM : Mo K rl d se w g j T fi h) : ∃ h1, fX6_lots_23 x n FU h x 0 (nI 64) = some ((lotS n x w g (64 * K)).2.1, h1) ∧ Mo K rl d se (lotS n x w g (64 * K)).2.2.1 (lotS n x w g (64 * K)).2.2.2 j T fi h1 ∧ Hi h h1 := by
  refine linv (fun m (s : AH × Int32 × Int32 × Int32) => fX6_lots_23 x n m s.1 s.2.1 s.2.2.1 s.2.2.2) (fun k s => s.2.1 = (lotS n x w g k).1 ∧ s.2.2.1 = (lotS n x w g k).2.1 ∧ s.2.2.2 = nI (64 + k) ∧ Mo K rl d se (lotS n x w g k).2.2.1 (lotS n x w g k).2.2.2 j T fi s.1 ∧ Hi h s.1) (64 * K) (fun o => ∃ h1, o = some ((lotS n x w g (64 * K)).2.1, h1) ∧ Mo K rl d se (lotS n x w g (64 * K)).2.2.1 (lotS n x w g (64 * K)).2.2.2 j T fi h1 ∧ Hi h h1) ?_ ?_ (64 * K) 0 FU (h, x, 0, nI 64) (Nat.zero_add _) (FU_lt (by omega)) ⟨rfl, rfl, rfl, hM, Hi.rf _⟩
  · intro m k s hk hi
    obtain ⟨s1, s2, s3, s4⟩ := s
    obtain ⟨i1, i2, i3, i4, i5⟩ := hi
    simp only at i1 i2 i3 i4 i5
    subst i1 i2 i3
    by_cases hn : n ≤ lotV (1103515245 * (lotS n x w g k).1 + 12345)
    · have ek : lotS n x w g (k + 1) = (1103515245 * (lotS n x w g k).1 + 12345, (lotS n x w g k).2) := by
        show (if _ then _ else _) = _
        rw [if_pos hn]
      refine ⟨(s1, (lotS n x w g (k + 1)).1, (lotS n x w g (k + 1)).2.1, nI (64 + (k + 1))), ⟨rfl, rfl, rfl, by rw [ek]; exact i4, i5⟩, ?_⟩
      show fX6_lots_23b (fX6_lots_23 x n m) x n s1 (lotS n x w g k).1 (lotS n x w g k).2.1 (nI (64 + k)) = fX6_lots_23 x n m s1 (lotS n x w g (k + 1)).1 (lotS n x w g (k + 1)).2.1 (nI (64 + (k + 1)))
      unfold fX6_lots_23b fX6_lots_68
      simp only [nm_eq]
      rw [i4.1.2.2.1, m64, show nI (64 * K) + 64 = nI (64 * K + 64) from nI_add _ 64, if_neg (nI_ge (by omega) (by omega)), ek, lot_eq, if_pos hn, nI_1]
      rfl
    · have ek : lotS n x w g (k + 1) = (1103515245 * (lotS n x w g k).1 + 12345, (lotS n x w g k).2.1 + 1, fl (lotS n x w g k).2.2.1 (64 + k), fl (lotS n x w g k).2.2.2 (64 + k)) := by
        show (if _ then _ else _) = _
        rw [if_neg hn]
      obtain ⟨h1, e1, e2, e3, e4⟩ := r_hits (a := 64 + k) (by omega) i4.1.1 i4.2.2.2.1
      refine ⟨(h1, (lotS n x w g (k + 1)).1, (lotS n x w g (k + 1)).2.1, nI (64 + (k + 1))), ⟨rfl, rfl, rfl, by rw [ek]; exact i4.wg e4 e2 e3, i5.tr (e4.hi (by decide) (by decide))⟩, ?_⟩
      show fX6_lots_23b (fX6_lots_23 x n m) x n s1 (lotS n x w g k).1 (lotS n x w g k).2.1 (nI (64 + k)) = fX6_lots_23 x n m h1 (lotS n x w g (k + 1)).1 (lotS n x w g (k + 1)).2.1 (nI (64 + (k + 1)))
      unfold fX6_lots_23b fX6_lots_68
      simp only [nm_eq]
      rw [i4.1.2.2.1, m64, show nI (64 * K) + 64 = nI (64 * K + 64) from nI_add _ 64, if_neg (nI_ge (by omega) (by omega)), ek, lot_eq, if_neg hn, e1, bR_s, nI_1]
      rfl
  · intro m s hi
    obtain ⟨s1, s2, s3, s4⟩ := s
    obtain ⟨i1, i2, i3, i4, i5⟩ := hi
    simp only at i1 i2 i3 i4 i5
    subst i1 i2 i3
    refine ⟨s1, ?_, i4, i5⟩
    show fX6_lots_23b (fX6_lots_23 x n m) x n s1 _ _ (nI (64 + 64 * K)) = _
    unfold fX6_lots_23b
    rw [i4.1.2.2.1, m64, show nI (64 * K) + 64 = nI (64 * K + 64) from nI_add _ 64, if_pos (nI_le (by omega) (by omega))]
theorem le_rg {x : Int32} {b : Nat} (hb : b < 2 ^ 31) {α : Type} (p q : α) : (if x < 0 then p else if x ≤ nI b then q else p) = if rg x 0 b = true then q else p := by
  have e1 : x < 0 ↔ x.toInt < 0 := by rw [Int32.lt_iff_toInt_lt]; rfl
  have e2 : x ≤ nI b ↔ x.toInt ≤ (b : Int) := by rw [Int32.le_iff_toInt_le, nI_toInt hb]
  unfold rg
  by_cases h1 : x < 0
  · have := e1.mp h1
    rw [if_pos h1, if_neg (fun q => by have := of_decide_eq_true q; omega)]
  · have h1' : ¬ x.toInt < 0 := fun q => h1 (e1.mpr q)
    rw [if_neg h1]
    by_cases h2 : x ≤ nI b
    · have := e2.mp h2
      rw [if_pos h2, if_pos (decide_eq_true (by omega))]
    · have h2' : ¬ x.toInt ≤ (b : Int) := fun q => h2 (e2.mpr q)
      rw [if_neg h2, if_neg (fun q => by have := of_decide_eq_true q; omega)]
theorem o_lots (B : Bo h) (x n : Int32) : Oo (fun h => fX5_lots h x n) (fun h => fX6_lots h x n) h := by
  have B0 := B
  obtain ⟨K, rl, d, se, w, g, j, T, fi, hI, hC, hM⟩ := B
  have hK := hI.2.1
  have c0 : ∀ h', fX5_lots h' x n = if rg n 0 256 = true then (bR (fX5_bitNumber h' ((h'.1 1 0) + 1) 0 0) fun r1 => bR (fX5_bitNumber h' 1 0 0) fun r2 => fX5_lots_43 x n FU h' x 0 r1 r2) else some ((-2), h') := fun h' => le_rg (b := 256) (by decide) _ _
  have c1 : ∀ h', fX6_in h' n 0 256 = _ := fun h' => r_in h' n (a := 0) (b := 256) (by decide) (by decide)
  cases hr : rg n 0 256
  · rw [hr] at c1
    refine Oo.no (v := -2) B0 ?_ ?_
    · show fX5_lots h x n = _
      rw [c0, hr, if_neg (by decide)]
    · show fX6_lots h x n = _
      unfold fX6_lots
      rw [c1, bR_s, if_pos b2f]
  · rw [hr] at c1
    obtain ⟨h1, e1, e2, e3⟩ := c_lots (n := n) (x := x) hK hC
    have hM1 := hM.lo e3
    obtain ⟨h2, f1, f2, f3⟩ := r_lots (n := n) (x := x) hK hM1
    refine Oo.mk (h1 := h1) (h2 := h2) (v := (lotS n x w g (64 * K)).2.1) ?_ ?_ (hI.ww (lotS_ot hI.ot _ (Nat.le_refl _))) e2 f2 f3
    · show fX5_lots h x n = _
      rw [c0, hr, if_pos rfl]
      unfold fX5_bitNumber
      rw [bR_s, bR_s, hC.1.1, nI_1, m64]
      rw [show nI (64 * (K + 1)) + 8 * 0 + 0 = nI (64 * K + 64) by rw [show 64 * (K + 1) = 64 * K + 64 by omega]; show nI _ + 0 + 0 = _; rw [Int32.add_zero, Int32.add_zero]]
      exact e1
    · show fX6_lots h1 x n = _
      unfold fX6_lots
      rw [c1, bR_s, if_neg b2t]
      exact f1
end OO
