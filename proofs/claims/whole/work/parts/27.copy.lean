/-! PURE: read, copy, write, stall -/
section CP
variable {K rl : Nat} {d : Nat → Nat} {se w g w' g' : Nat → Bool} {j j' : List Nat} {T T' : Sht} {fi : Int32} {h h1 h2 : AH}
def rdS (it : Nat → Int64) (i : Nat) (w g : Nat → Bool) : Nat → Nat × (Nat → Bool) × (Nat → Bool)
  | 0 => (0, w, g)
  | k + 1 => if lg_cmp (it k) 0 = 0 then rdS it i w g k else ((rdS it i w g k).1 + 1, fl (rdS it i w g k).2.1 (64 * i + k), fl (rdS it i w g k).2.2 (64 * i + k))
theorem rdS_ot {it : Nat → Int64} {i : Nat} (hi : 1 ≤ i) (hiK : i ≤ K) (hO : Ot K w) : ∀ k, k ≤ 64 → Ot K (rdS it i w g k).2.1 := by
  intro k
  induction k with
  | zero => intro _; exact hO
  | succ k ih =>
    intro hk
    unfold rdS
    by_cases hn : lg_cmp (it k) 0 = 0
    · rw [if_pos hn]; exact ih (by omega)
    · rw [if_neg hn]; exact Ot_fl (ih (by omega)) (by omega) (by omega)
theorem c_read {i s : Nat} {y : Int32} (hK : K ≤ 6) (hi : 1 ≤ i) (hiK : i ≤ K) (hs : s < 4) (hz : T.2.2.1 s ≤ 64) (hC : Cl K rl d se w g j T fi h) : ∃ h1, fX5_read_45 (nI i) y FU h (21 + s) 0 0 = some (nI (rdS (T.2.2.2 s) i w g (T.2.2.1 s)).1, h1) ∧ Cl K rl d se (rdS (T.2.2.2 s) i w g (T.2.2.1 s)).2.1 (rdS (T.2.2.2 s) i w g (T.2.2.1 s)).2.2 j T fi h1 ∧ Lo h h1 := by
  refine linv (fun m (t : AH × Int32 × Int32) => fX5_read_45 (nI i) y m t.1 (21 + s) t.2.1 t.2.2) (fun k t => t.2.1 = nI (rdS (T.2.2.2 s) i w g k).1 ∧ t.2.2 = nI k ∧ Cl K rl d se (rdS (T.2.2.2 s) i w g k).2.1 (rdS (T.2.2.2 s) i w g k).2.2 j T fi t.1 ∧ Lo h t.1) (T.2.2.1 s) (fun o => ∃ h1, o = some (nI (rdS (T.2.2.2 s) i w g (T.2.2.1 s)).1, h1) ∧ Cl K rl d se (rdS (T.2.2.2 s) i w g (T.2.2.1 s)).2.1 (rdS (T.2.2.2 s) i w g (T.2.2.1 s)).2.2 j T fi h1 ∧ Lo h h1) ?_ ?_ (T.2.2.1 s) 0 FU (h, 0, 0) (Nat.zero_add _) (FU_lt (by omega)) ⟨rfl, rfl, hC, Lo.rf _⟩
  · intro m k t hk hi'
    obtain ⟨t1, t2, t3⟩ := t
    obtain ⟨i1, i2, i4, i5⟩ := hi'
    simp only at i1 i2 i4 i5
    subst i1 i2
    obtain ⟨a0, a1, a2, a3⟩ := i4.2.2.2.2.2.1 s hs
    by_cases hn : lg_cmp (T.2.2.2 s k) 0 = 0
    · have ek : rdS (T.2.2.2 s) i w g (k + 1) = rdS (T.2.2.2 s) i w g k := by
        show (if _ then _ else _) = _
        rw [if_pos hn]
      refine ⟨(t1, nI (rdS (T.2.2.2 s) i w g (k + 1)).1, nI (k + 1)), ⟨rfl, rfl, by rw [ek]; exact i4, i5⟩, ?_⟩
      show fX5_read_45b (fX5_read_45 (nI i) y m) (nI i) y t1 (21 + s) (nI (rdS (T.2.2.2 s) i w g k).1) (nI k) = fX5_read_45 (nI i) y m t1 (21 + s) (nI (rdS (T.2.2.2 s) i w g (k + 1)).1) (nI (k + 1))
      unfold fX5_read_45b fX5_read_80
      simp only [nm_eq]
      rw [a2, if_neg (nI_ge hk (by omega)), ck_in (show k < 64 by omega) (by decide), nI_clamp (by omega), show 21 + s + 4 = 25 + s by omega, a3 k (by omega), if_pos hn, nI_1, ek]
    · have ek : rdS (T.2.2.2 s) i w g (k + 1) = ((rdS (T.2.2.2 s) i w g k).1 + 1, fl (rdS (T.2.2.2 s) i w g k).2.1 (64 * i + k), fl (rdS (T.2.2.2 s) i w g k).2.2 (64 * i + k)) := by
        show (if _ then _ else _) = _
        rw [if_neg hn]
      obtain ⟨h1, e1, e2, e3, e4⟩ := c_hit (a := 64 * i + k) hK (by omega) (by omega) i4.1 i4.2.2.2.1
      refine ⟨(h1, nI (rdS (T.2.2.2 s) i w g (k + 1)).1, nI (k + 1)), ⟨rfl, rfl, by rw [ek]; exact i4.sg e4 e2 e3, i5.tr (e4.lo (by decide) (by decide))⟩, ?_⟩
      show fX5_read_45b (fX5_read_45 (nI i) y m) (nI i) y t1 (21 + s) (nI (rdS (T.2.2.2 s) i w g k).1) (nI k) = fX5_read_45 (nI i) y m h1 (21 + s) (nI (rdS (T.2.2.2 s) i w g (k + 1)).1) (nI (k + 1))
      unfold fX5_read_45b fX5_read_80
      simp only [nm_eq]
      rw [a2, if_neg (nI_ge hk (by omega)), ck_in (show k < 64 by omega) (by decide), nI_clamp (by omega), show 21 + s + 4 = 25 + s by omega, a3 k (by omega), if_neg hn, m64, nI_add, e1, bR_s, nI_1, nI_1, ek]
  · intro m t hi'
    obtain ⟨t1, t2, t3⟩ := t
    obtain ⟨i1, i2, i4, i5⟩ := hi'
    simp only at i1 i2 i4 i5
    subst i1 i2
    obtain ⟨a0, a1, a2, a3⟩ := i4.2.2.2.2.2.1 s hs
    refine ⟨t1, ?_, i4, i5⟩
    show fX5_read_45b _ (nI i) y t1 (21 + s) _ (nI (T.2.2.1 s)) = _
    unfold fX5_read_45b
    rw [a2, if_pos (nI_le (Nat.le_refl _) (by omega))]
theorem r_read {i s : Nat} (hK : K ≤ 6) (hi : 1 ≤ i) (hiK : i ≤ K) (hs : s < 4) (hz : T.2.2.1 s ≤ 64) (hM : Mo K rl d se w g j T fi h) : ∃ h1, fX6_read_39 (nI i) (nI s) FU h 0 0 = some (nI (rdS (T.2.2.2 s) i w g (T.2.2.1 s)).1, h1) ∧ Mo K rl d se (rdS (T.2.2.2 s) i w g (T.2.2.1 s)).2.1 (rdS (T.2.2.2 s) i w g (T.2.2.1 s)).2.2 j T fi h1 ∧ Hi h h1 := by
  refine linv (fun m (t : AH × Int32 × Int32) => fX6_read_39 (nI i) (nI s) m t.1 t.2.1 t.2.2) (fun k t => t.2.1 = nI (rdS (T.2.2.2 s) i w g k).1 ∧ t.2.2 = nI k ∧ Mo K rl d se (rdS (T.2.2.2 s) i w g k).2.1 (rdS (T.2.2.2 s) i w g k).2.2 j T fi t.1 ∧ Hi h t.1) (T.2.2.1 s) (fun o => ∃ h1, o = some (nI (rdS (T.2.2.2 s) i w g (T.2.2.1 s)).1, h1) ∧ Mo K rl d se (rdS (T.2.2.2 s) i w g (T.2.2.1 s)).2.1 (rdS (T.2.2.2 s) i w g (T.2.2.1 s)).2.2 j T fi h1 ∧ Hi h h1) ?_ ?_ (T.2.2.1 s) 0 FU (h, 0, 0) (Nat.zero_add _) (FU_lt (by omega)) ⟨rfl, rfl, hM, Hi.rf _⟩
  · intro m k t hk hi'
    obtain ⟨t1, t2, t3⟩ := t
    obtain ⟨i1, i2, i4, i5⟩ := hi'
    simp only at i1 i2 i4 i5
    subst i1 i2
    obtain ⟨a1, a2, a3⟩ := i4.2.2.2.2.1 s hs
    by_cases hn : lg_cmp (T.2.2.2 s k) 0 = 0
    · have ek : rdS (T.2.2.2 s) i w g (k + 1) = rdS (T.2.2.2 s) i w g k := by
        show (if _ then _ else _) = _
        rw [if_pos hn]
      refine ⟨(t1, nI (rdS (T.2.2.2 s) i w g (k + 1)).1, nI (k + 1)), ⟨rfl, rfl, by rw [ek]; exact i4, i5⟩, ?_⟩
      show fX6_read_39b (fX6_read_39 (nI i) (nI s) m) (nI i) (nI s) t1 (nI (rdS (T.2.2.2 s) i w g k).1) (nI k) = fX6_read_39 (nI i) (nI s) m t1 (nI (rdS (T.2.2.2 s) i w g (k + 1)).1) (nI (k + 1))
      unfold fX6_read_39b fX6_read_81
      simp only [nm_eq]
      rw [ck_in hs (by decide), nI_clamp (show s < 2 ^ 31 by omega), a2, if_neg (nI_ge hk (by omega)), m64, nI_add, ck_in (show 64 * s + k < 256 by omega) (by decide), nI_clamp (by omega), a3 k (by omega), if_pos hn, nI_1, ek]
    · have ek : rdS (T.2.2.2 s) i w g (k + 1) = ((rdS (T.2.2.2 s) i w g k).1 + 1, fl (rdS (T.2.2.2 s) i w g k).2.1 (64 * i + k), fl (rdS (T.2.2.2 s) i w g k).2.2 (64 * i + k)) := by
        show (if _ then _ else _) = _
        rw [if_neg hn]
      obtain ⟨h1, e1, e2, e3, e4⟩ := r_hits (a := 64 * i + k) (by omega) i4.1.1 i4.2.2.2.1
      refine ⟨(h1, nI (rdS (T.2.2.2 s) i w g (k + 1)).1, nI (k + 1)), ⟨rfl, rfl, by rw [ek]; exact i4.wg e4 e2 e3, i5.tr (e4.hi (by decide) (by decide))⟩, ?_⟩
      show fX6_read_39b (fX6_read_39 (nI i) (nI s) m) (nI i) (nI s) t1 (nI (rdS (T.2.2.2 s) i w g k).1) (nI k) = fX6_read_39 (nI i) (nI s) m h1 (nI (rdS (T.2.2.2 s) i w g (k + 1)).1) (nI (k + 1))
      unfold fX6_read_39b fX6_read_81
      simp only [nm_eq]
      rw [ck_in hs (by decide), nI_clamp (show s < 2 ^ 31 by omega), a2, if_neg (nI_ge hk (by omega)), m64, nI_add, ck_in (show 64 * s + k < 256 by omega) (by decide), nI_clamp (by omega), a3 k (by omega), if_neg hn, m64, nI_add, e1, bR_s, nI_1, nI_1, ek]
  · intro m t hi'
    obtain ⟨t1, t2, t3⟩ := t
    obtain ⟨i1, i2, i4, i5⟩ := hi'
    simp only at i1 i2 i4 i5
    subst i1 i2
    obtain ⟨a1, a2, a3⟩ := i4.2.2.2.2.1 s hs
    refine ⟨t1, ?_, i4, i5⟩
    show fX6_read_39b _ (nI i) (nI s) t1 _ (nI (T.2.2.1 s)) = _
    unfold fX6_read_39b
    rw [ck_in hs (by decide), nI_clamp (show s < 2 ^ 31 by omega), a2, if_pos (nI_le (Nat.le_refl _) (by omega))]
theorem o_read (B : Bo h) (x y : Int32) : Oo (fun h => fX5_read h x y) (fun h => fX6_read h x y) h := by
  have B0 := B
  obtain ⟨K, rl, d, se, w, g, j, T, fi, hI, hC, hM⟩ := B
  have hK := hI.2.1
  have b0 : fX5_isBlock h x = _ := g_isBlock hC.1.1 hK x
  have b1 : ∀ h', h'.1 29 0 = nI K → fX6_isBlock h' x = _ := fun h' hh => m_isBlock hh hK x
  have c0 : fX5_isSheet h y = _ := g_isSheet y
  have c1 : ∀ h' : AH, fX6_isSheet h' y = _ := fun h' => m_isSheet y
  cases hx : rg x 1 K
  · rw [hx] at b0 b1
    refine Oo.no (v := -2) B0 ?_ ?_
    · show fX5_read h x y = _
      unfold fX5_read
      rw [b0, bR_s, if_pos b2f]
    · show fX6_read h x y = _
      unfold fX6_read
      rw [b1 h hM.1.2.2.1, bR_s, if_pos b2f]
  · rw [hx] at b0 b1
    cases hy : rg y 0 3
    · rw [hy] at c0 c1
      refine Oo.no (v := -2) B0 ?_ ?_
      · show fX5_read h x y = _
        unfold fX5_read
        rw [b0, bR_s, if_neg b2t, c0, bR_s, if_pos b2f]
      · show fX6_read h x y = _
        unfold fX6_read
        rw [b1 h hM.1.2.2.1, bR_s, if_neg b2t, c1, bR_s, if_pos b2f]
    · rw [hy] at c0 c1
      obtain ⟨i, i1, i2, rfl⟩ := rg_n (by omega) hx
      obtain ⟨s, s1, s2, rfl⟩ := rg_n (by omega) hy
      have hs4 : s < 4 := by omega
      obtain ⟨a0, a1, a2, a3⟩ := hC.2.2.2.2.2.1 s hs4
      obtain ⟨t1, t2⟩ := hI.2.2.2.2.2.2.2 s hs4
      cases hl : T.1 s
      · rw [hl] at a0
        obtain ⟨h1, e1, e2, e3⟩ := c_read (y := nI s) hK i1 i2 hs4 t2 hC
        have hM1 := hM.lo e3
        obtain ⟨h2, f1, f2, f3⟩ := r_read hK i1 i2 hs4 t2 hM1
        obtain ⟨p0, p1, p2⟩ := hM1.2.2.2.2.1 s hs4
        rw [hl, if_neg (show ¬ (false = true) by decide)] at p0
        refine Oo.mk (h1 := h1) (h2 := h2) (v := nI (rdS (T.2.2.2 s) i w g (T.2.2.1 s)).1) ?_ ?_ (hI.ww (rdS_ot i1 i2 hI.ot _ t2)) e2 f2 f3
        · show fX5_read h (nI i) (nI s) = _
          unfold fX5_read
          rw [b0, bR_s, if_neg b2t, c0, bR_s, if_neg b2t, ck_in hs4 (by decide), nm_eq, nI_clamp (show s < 2 ^ 31 by omega), a0, if_pos b2f]
          exact e1
        · show fX6_read h1 (nI i) (nI s) = _
          unfold fX6_read
          rw [b1 h1 hM1.1.2.2.1, bR_s, if_neg b2t, c1, bR_s, if_neg b2t, ck_in hs4 (by decide), nI_clamp (show s < 2 ^ 31 by omega), p0, if_neg (nm1 t1)]
          exact f1
      · rw [hl] at a0
        refine Oo.fd (n := 1) (v := -11) hI hC hM ?_ ?_
        · show fX5_read h (nI i) (nI s) = _
          unfold fX5_read fX5_finding
          simp only [nm_eq]
          rw [b0, bR_s, if_neg b2t, c0, bR_s, if_neg b2t, ck_in hs4 (by decide), nI_clamp (show s < 2 ^ 31 by omega), a0, if_neg b2t, bW_s]
          rfl
        · intro h1 hM1
          obtain ⟨p0, p1, p2⟩ := hM1.2.2.2.2.1 s hs4
          rw [hl, if_pos rfl] at p0
          show fX6_read h1 (nI i) (nI s) = _
          unfold fX6_read fX6_meets
          simp only [nm_eq]
          rw [b1 h1 hM1.1.2.2.1, bR_s, if_neg b2t, c1, bR_s, if_neg b2t, ck_in hs4 (by decide), nI_clamp (show s < 2 ^ 31 by omega), p0, if_pos rfl, bW_s]
          rfl
/-! copy -/
theorem sub_ti {a b : Nat} (ha : a < 2 ^ 30) (hb : b < 2 ^ 31) : (nI a - nI b).toInt = (a : Int) - b := by
  rw [Int32.toInt_sub, nI_toInt (by omega), nI_toInt hb, Int.bmod_def]
  omega
theorem pos_n {x : Int32} (hx : ¬ x < 0) : ∃ n, n < 2 ^ 31 ∧ x = nI n := by
  have h0 : ¬ x.toInt < 0 := fun q => hx (by rw [Int32.lt_iff_toInt_lt]; exact q)
  have h1 := x.toInt_lt
  refine ⟨x.toInt.toNat, by omega, Int32.toInt_inj.mp ?_⟩
  rw [nI_toInt (by omega)]
  omega
theorem c_hasItems {s n : Nat} (hn : n ≤ 64) (e : h.1 (21 + s) 2 = nI n) {a b : Nat} (ha : a < 2 ^ 31) (hb : b < 2 ^ 31) : fX3_hasItems h (21 + s) (nI a) (nI b) = some (b2i (decide (a + b ≤ n))) := by
  unfold fX3_hasItems
  rw [e, if_neg (nI_pos ha), if_neg (nI_pos hb)]
  have c : (nI n - nI b) < nI a ↔ n < a + b := by
    rw [Int32.lt_iff_toInt_lt, sub_ti (by omega) hb, nI_toInt ha]
    omega
  by_cases q : n < a + b
  · rw [if_pos (c.mpr q), decide_eq_false (by omega)]; rfl
  · rw [if_neg (fun z => q (c.mp z)), decide_eq_true (by omega)]; rfl
theorem r_lgc {n a b : Nat} (hn : n ≤ 64) (ha : a < 2 ^ 31) (hb : b < 2 ^ 31) : (0 < lg_cmp ((nI a).toInt64 + (nI b).toInt64) ((nI n).toInt64) ↔ n < a + b) ∧ (lg_cmp ((nI a).toInt64 + (nI b).toInt64) ((nI n).toInt64) ≤ 0 ↔ a + b ≤ n) := by
  rw [nI_l ha, nI_l hb, nI_l (by omega), lN_add]
  unfold lg_cmp
  have c1 : lN (a + b) > lN n ↔ n < a + b := pk_lLT (by omega) (by omega)
  have c2 : lN (a + b) = lN n ↔ a + b = n := pk_lEQ (by omega) (by omega)
  by_cases q : n < a + b
  · rw [if_pos (c1.mpr q)]
    exact ⟨⟨fun _ => q, fun _ => by decide⟩, ⟨fun z => absurd z (by decide), fun z => by omega⟩⟩
  · rw [if_neg (fun z => q (c1.mp z))]
    by_cases q2 : a + b = n
    · rw [if_pos (c2.mpr q2)]
      exact ⟨⟨fun z => absurd z (by decide), fun z => absurd z q⟩, ⟨fun _ => by omega, fun _ => by decide⟩⟩
    · rw [if_neg (fun z => q2 (c2.mp z))]
      exact ⟨⟨fun z => absurd z (by decide), fun z => absurd z q⟩, ⟨fun _ => by omega, fun _ => by decide⟩⟩
theorem r_cp1 {s t a c n : Nat} (hs : s < 4) (ht : t < 4) (ha : a + n ≤ 64) (hc : c + n ≤ 64) : ∃ h1, fX6_copy_122 (nI s) (nI a) (nI t) (nI c) (nI n) FU h 0 = some (1, h1) ∧ (∀ q, q < 256 → h1.2 41 q = if 64 * t + c ≤ q ∧ q < 64 * t + c + n then h.2 41 (64 * s + a + (q - (64 * t + c))) else h.2 41 q) ∧ Fx [] [41, 42] h h1 := by
  have p2 : ∀ h0 : AH, ∃ h1, fX6_copy_159 (nI s) (nI a) (nI t) (nI c) (nI n) FU h0 0 = some (1, h1) ∧ (∀ q, q < 256 → h1.2 41 q = if 64 * t + c ≤ q ∧ q < 64 * t + c + n then h0.2 42 (q - (64 * t + c)) else h0.2 41 q) ∧ Fx [] [41] h0 h1 := by
    intro h0
    refine linv (fun m (u : AH × Int32) => fX6_copy_159 (nI s) (nI a) (nI t) (nI c) (nI n) m u.1 u.2) (fun k u => u.2 = nI k ∧ (∀ q, q < 256 → u.1.2 41 q = if 64 * t + c ≤ q ∧ q < 64 * t + c + k then h0.2 42 (q - (64 * t + c)) else h0.2 41 q) ∧ Fx [] [41] h0 u.1) n (fun o => ∃ h1, o = some (1, h1) ∧ (∀ q, q < 256 → h1.2 41 q = if 64 * t + c ≤ q ∧ q < 64 * t + c + n then h0.2 42 (q - (64 * t + c)) else h0.2 41 q) ∧ Fx [] [41] h0 h1) ?_ ?_ n 0 FU (h0, 0) (Nat.zero_add _) (FU_lt (by omega)) ⟨rfl, fun q hq => by rw [if_neg (by omega)], Fx.rf _ _ _⟩
    · intro m k u hk hi
      obtain ⟨u1, u2⟩ := u
      obtain ⟨i1, i2, i3⟩ := hi
      simp only at i1 i2 i3
      subst i1
      refine ⟨(sL u1 41 (64 * t + c + k) (u1.2 42 k), nI (k + 1)), ⟨rfl, fun q hq => ?_, Fx.tr i3 Fx.sL⟩, ?_⟩
      · show (sL u1 41 (64 * t + c + k) (u1.2 42 k)).2 41 q = _
        rw [sL_u]
        unfold vp_updL
        by_cases e : q = 64 * t + c + k
        · rw [if_pos e, if_pos (by omega), i3.2 42 (by decide), show q - (64 * t + c) = k by omega]
        · rw [if_neg e, i2 q hq]
          by_cases e2 : 64 * t + c ≤ q ∧ q < 64 * t + c + k
          · rw [if_pos e2, if_pos (by omega)]
          · rw [if_neg e2, if_neg (by omega)]
      · show fX6_copy_159b (fX6_copy_159 (nI s) (nI a) (nI t) (nI c) (nI n) m) (nI s) (nI a) (nI t) (nI c) (nI n) u1 (nI k) = _
        unfold fX6_copy_159b
        simp only [nm_eq]
        rw [if_neg (nI_ge hk (by omega)), ck_in (show k < 64 by omega) (by decide), m64, nI_add, nI_add, ck_in (show 64 * t + c + k < 256 by omega) (by decide), nI_clamp (by omega), nI_clamp (by omega), nI_1]
    · intro m u hi
      obtain ⟨u1, u2⟩ := u
      obtain ⟨i1, i2, i3⟩ := hi
      simp only at i1 i2 i3
      subst i1
      refine ⟨u1, ?_, i2, i3⟩
      show fX6_copy_159b _ (nI s) (nI a) (nI t) (nI c) (nI n) u1 (nI n) = _
      unfold fX6_copy_159b
      rw [if_pos (nI_le (Nat.le_refl _) (by omega))]
  refine linv (fun m (u : AH × Int32) => fX6_copy_122 (nI s) (nI a) (nI t) (nI c) (nI n) m u.1 u.2) (fun k u => u.2 = nI k ∧ (∀ q, q < k → u.1.2 42 q = h.2 41 (64 * s + a + q)) ∧ Fx [] [42] h u.1) n (fun o => ∃ h1, o = some (1, h1) ∧ (∀ q, q < 256 → h1.2 41 q = if 64 * t + c ≤ q ∧ q < 64 * t + c + n then h.2 41 (64 * s + a + (q - (64 * t + c))) else h.2 41 q) ∧ Fx [] [41, 42] h h1) ?_ ?_ n 0 FU (h, 0) (Nat.zero_add _) (FU_lt (by omega)) ⟨rfl, fun q hq => absurd hq (Nat.not_lt_zero q), Fx.rf _ _ _⟩
  · intro m k u hk hi
    obtain ⟨u1, u2⟩ := u
    obtain ⟨i1, i2, i3⟩ := hi
    simp only at i1 i2 i3
    subst i1
    refine ⟨(sL u1 42 k (u1.2 41 (64 * s + a + k)), nI (k + 1)), ⟨rfl, fun q hq => ?_, Fx.tr i3 Fx.sL⟩, ?_⟩
    · show (sL u1 42 k (u1.2 41 (64 * s + a + k))).2 42 q = _
      rw [sL_u]
      unfold vp_updL
      by_cases e : q = k
      · rw [if_pos e, i3.2 41 (by decide), e]
      · rw [if_neg e]; exact i2 q (by omega)
    · show fX6_copy_122b (fX6_copy_122 (nI s) (nI a) (nI t) (nI c) (nI n) m) (nI s) (nI a) (nI t) (nI c) (nI n) u1 (nI k) = _
      unfold fX6_copy_122b
      simp only [nm_eq]
      rw [if_neg (nI_ge hk (by omega)), m64, nI_add, nI_add, ck_in (show 64 * s + a + k < 256 by omega) (by decide), ck_in (show k < 64 by omega) (by decide), nI_clamp (show 64 * s + a + k < 2 ^ 31 by omega), nI_clamp (show k < 2 ^ 31 by omega), nI_1]
  · intro m u hi
    obtain ⟨u1, u2⟩ := u
    obtain ⟨i1, i2, i3⟩ := hi
    simp only at i1 i2 i3
    subst i1
    obtain ⟨h1, e1, e2, e3⟩ := p2 u1
    refine ⟨h1, ?_, fun q hq => ?_, Fx.tr (Fx.mo i3 (by decide) (by decide)) (Fx.mo e3 (by decide) (by decide))⟩
    · show fX6_copy_122b _ (nI s) (nI a) (nI t) (nI c) (nI n) u1 (nI n) = _
      unfold fX6_copy_122b
      rw [if_pos (nI_le (Nat.le_refl _) (by omega))]
      exact e1
    · rw [e2 q hq, i3.2 41 (by decide)]
      by_cases e : 64 * t + c ≤ q ∧ q < 64 * t + c + n
      · rw [if_pos e, if_pos e, i2 _ (by omega)]
      · rw [if_neg e, if_neg e]
theorem o_copy (B : Bo h) (x i y k n : Int32) : Oo (fun h => fX5_copy h x i y k n) (fun h => fX6_copy h x i y k n) h := by
  have B0 := B
  obtain ⟨K, rl, d, se, w, g, j, T, fi, hI, hC, hM⟩ := B
  have c0 : fX5_isSheet h x = _ := g_isSheet x
  have c1 : ∀ h' : AH, fX6_isSheet h' x = _ := fun h' => m_isSheet x
  have d0 : fX5_isSheet h y = _ := g_isSheet y
  have d1 : ∀ h' : AH, fX6_isSheet h' y = _ := fun h' => m_isSheet y
  cases hx : rg x 0 3
  · rw [hx] at c0 c1
    refine Oo.no (v := -2) B0 ?_ ?_
    · show fX5_copy h x i y k n = _
      unfold fX5_copy
      rw [c0, bR_s, if_pos b2f]
    · show fX6_copy h x i y k n = _
      unfold fX6_copy
      rw [c1, bR_s, if_pos b2f]
  · rw [hx] at c0 c1
    cases hy : rg y 0 3
    · rw [hy] at d0 d1
      refine Oo.no (v := -2) B0 ?_ ?_
      · show fX5_copy h x i y k n = _
        unfold fX5_copy
        rw [c0, bR_s, if_neg b2t, d0, bR_s, if_pos b2f]
      · show fX6_copy h x i y k n = _
        unfold fX6_copy
        rw [c1, bR_s, if_neg b2t, d1, bR_s, if_pos b2f]
    · rw [hy] at d0 d1
      obtain ⟨s, s1, s2, rfl⟩ := rg_n (by omega) hx
      obtain ⟨t, t1, t2, rfl⟩ := rg_n (by omega) hy
      have hs4 : s < 4 := by omega
      have ht4 : t < 4 := by omega
      obtain ⟨a0, a1, a2, a3⟩ := hC.2.2.2.2.2.1 s hs4
      obtain ⟨e0, e1, e2, e3⟩ := hC.2.2.2.2.2.1 t ht4
      obtain ⟨b1, b2⟩ := hI.2.2.2.2.2.2.2 s hs4
      obtain ⟨v1, v2⟩ := hI.2.2.2.2.2.2.2 t ht4
      have ce : nI (T.2.1 s) = nI (T.2.1 t) ↔ T.2.1 s = T.2.1 t := nI_eq (by omega) (by omega)
      have f5 : fX5_copy h (nI s) i (nI t) k n = if b2i (T.1 s) = 0 then (if b2i (T.1 t) = 0 then (if nI (T.2.1 s) = nI (T.2.1 t) then (bR (fX3_hasItems h (21 + s) i n) fun r5 => if r5 = 0 then fX5_copy_99 (nI s) i (nI t) k n h else bR (fX3_hasItems h (21 + t) k n) fun r6 => if r6 = 0 then fX5_copy_99 (nI s) i (nI t) k n h else ck (cpOk i k n 64 64) <| some (1, cpL h (25 + s) i.toNatClampNeg (25 + t) k.toNatClampNeg n.toNatClampNeg)) else some (-14, sI h 0 8 4)) else some (-11, sI h 0 8 1)) else some (-11, sI h 0 8 1) := by
        unfold fX5_copy fX5_copy_49 fX5_finding
        simp only [nm_eq]
        rw [c0, bR_s, if_neg b2t, d0, bR_s, if_neg b2t, ck_in hs4 (by decide), ck_in ht4 (by decide), nI_clamp (show s < 2 ^ 31 by omega), nI_clamp (show t < 2 ^ 31 by omega), a0, e0, a1, e1, bW_s, bW_s, show 21 + s + 4 = 25 + s by omega, show 21 + t + 4 = 25 + t by omega]
        rfl
      have pm : ∀ h1, Mo K rl d se w g j T fi h1 → fX6_copy h1 (nI s) i (nI t) k n = if T.1 s = true then some (-11, sI h1 29 17 1) else if T.1 t = true then some (-11, sI h1 29 17 1) else if nI (T.2.1 s) = nI (T.2.1 t) then (if i < 0 then some (-12, sI h1 29 17 2) else if k < 0 then some (-12, sI h1 29 17 2) else if n < 0 then some (-12, sI h1 29 17 2) else if 0 < lg_cmp (i.toInt64 + n.toInt64) ((nI (T.2.2.1 s)).toInt64) then some (-12, sI h1 29 17 2) else if lg_cmp (k.toInt64 + n.toInt64) ((nI (T.2.2.1 t)).toInt64) ≤ 0 then fX6_copy_122 (nI s) i (nI t) k n FU h1 0 else some (-12, sI h1 29 17 2)) else some (-14, sI h1 29 17 4) := by
        intro h1 hM1
        obtain ⟨p0, p1, p2⟩ := hM1.2.2.2.2.1 s hs4
        obtain ⟨q0, q1, q2⟩ := hM1.2.2.2.2.1 t ht4
        unfold fX6_copy fX6_copy_37 fX6_copy_113 fX6_meets
        simp only [nm_eq]
        rw [c1, bR_s, if_neg b2t, d1, bR_s, if_neg b2t, ck_in hs4 (by decide), ck_in ht4 (by decide), ck_in hs4 (by decide), ck_in ht4 (by decide), ck_in hs4 (by decide), ck_in ht4 (by decide), nI_clamp (show s < 2 ^ 31 by omega), nI_clamp (show t < 2 ^ 31 by omega), p0, q0, p1, q1, bW_s, bW_s, bW_s]
        cases T.1 s
        · rw [if_neg (show ¬ (false = true) by decide), if_neg (nm1 b1)]
          cases T.1 t
          · rw [if_neg (show ¬ (false = true) by decide), if_neg (nm1 v1)]
            rfl
          · rfl
        · rfl
      cases hl : T.1 s
      · cases hl2 : T.1 t
        · by_cases hf : T.2.1 s = T.2.1 t
          · have bad : fX5_copy h (nI s) i (nI t) k n = some (-12, sI h 0 8 2) → (∀ h1, Mo K rl d se w g j T fi h1 → fX6_copy h1 (nI s) i (nI t) k n = some (-12, sI h1 29 17 2)) → Oo (fun h => fX5_copy h (nI s) i (nI t) k n) (fun h => fX6_copy h (nI s) i (nI t) k n) h := fun z1 z2 => Oo.fd (n := 2) (v := -12) hI hC hM z1 z2
            rw [hl, hl2, if_pos b2f, if_pos b2f, if_pos (ce.mpr hf)] at f5
            simp only [hl, hl2, if_pos (ce.mpr hf), if_neg (show ¬ (false = true) by decide)] at pm
            have c99 : fX5_copy_99 (nI s) i (nI t) k n h = some (-12, sI h 0 8 2) := rfl
            by_cases hi0 : i < 0
            · refine bad ?_ (fun h1 hM1 => by rw [pm h1 hM1, if_pos hi0])
              rw [f5]
              unfold fX3_hasItems
              rw [if_pos hi0, bR_s, if_pos rfl, c99]
            · by_cases hn0 : n < 0
              · refine bad ?_ (fun h1 hM1 => ?_)
                · rw [f5]
                  unfold fX3_hasItems
                  rw [if_neg hi0, if_pos hn0, bR_s, if_pos rfl, c99]
                · rw [pm h1 hM1, if_neg hi0]
                  by_cases hk0 : k < 0
                  · rw [if_pos hk0]
                  · rw [if_neg hk0, if_pos hn0]
              · obtain ⟨ia, ia2, rfl⟩ := pos_n hi0
                obtain ⟨na, na2, rfl⟩ := pos_n hn0
                have cA := r_lgc b2 ia2 na2
                rw [c_hasItems b2 a2 ia2 na2, bR_s] at f5
                by_cases hA : ia + na ≤ T.2.2.1 s
                · rw [decide_eq_true hA, if_neg b2t] at f5
                  by_cases hk0 : k < 0
                  · refine bad ?_ (fun h1 hM1 => by rw [pm h1 hM1, if_neg hi0, if_pos hk0])
                    rw [f5]
                    unfold fX3_hasItems
                    rw [if_pos hk0, bR_s, if_pos rfl, c99]
                  · obtain ⟨ka, ka2, rfl⟩ := pos_n hk0
                    have cB := r_lgc v2 ka2 na2
                    rw [c_hasItems v2 e2 ka2 na2, bR_s] at f5
                    by_cases hB : ka + na ≤ T.2.2.1 t
                    · rw [decide_eq_true hB, if_neg b2t, nI_clamp ia2, nI_clamp ka2, nI_clamp na2] at f5
                      have cok : cpOk (nI ia) (nI ka) (nI na) 64 64 = true := by
                        unfold cpOk
                        rw [nI_toInt ia2, nI_toInt ka2, nI_toInt na2, nI_clamp ia2, nI_clamp ka2, nI_clamp na2]
                        exact decide_eq_true (by omega)
                      rw [cok] at f5
                      have F1 : FxS h (cpL h (25 + s) ia (25 + t) ka na) := ⟨fun _ _ => rfl, fun q hq => cpL_r (by omega)⟩
                      have hM1 := hM.lo F1.lo
                      have pm1 := pm _ hM1
                      obtain ⟨h2, r1, r2, r3⟩ := r_cp1 (h := cpL h (25 + s) ia (25 + t) ka na) (s := s) (t := t) (a := ia) (c := ka) (n := na) hs4 ht4 (by omega) (by omega)
                      have F2 : Fx [39, 40] [41, 42] (cpL h (25 + s) ia (25 + t) ka na) h2 := Fx.mo r3 (by decide) (by decide)
                      obtain ⟨p0, p1, p2⟩ := hM1.2.2.2.2.1 s hs4
                      obtain ⟨q0, q1, q2⟩ := hM1.2.2.2.2.1 t ht4
                      refine Oo.mk (h1 := cpL h (25 + s) ia (25 + t) ka na) (h2 := h2) (v := 1) (K := K) (rl := rl) (d := d) (se := se) (w := w) (g := g) (j := j) (T := Tset T t (T.1 t) (T.2.1 t) (T.2.2.1 t) (fun q => if ka ≤ q ∧ q < ka + na then T.2.2.2 s (ia + (q - ka)) else T.2.2.2 t q)) (fi := fi) f5 ?_ (hI.sh v1 v2) (hC.sh F1 (ShC.set hC.2.2.2.2.2.1 ⟨e0, e1, e2, ?_⟩ (fun u hu => ⟨rfl, cpL_r (by omega)⟩))) (hM1.sh F2 (ShM.set hM1.2.2.2.2.1 ⟨?_, ?_, ?_⟩ (fun u hu hut => ⟨?_, ?_, ?_⟩))) (F2.hi (by decide) (by decide))
                      · show fX6_copy _ (nI s) (nI ia) (nI t) (nI ka) (nI na) = _
                        rw [pm1, if_neg hi0, if_neg hk0, if_neg hn0, if_neg (fun z => by have := cA.1.mp z; omega), if_pos (cB.2.mpr hB)]
                        exact r1
                      · intro q hq
                        rw [cpL_u]
                        by_cases e : ka ≤ q ∧ q < ka + na
                        · rw [if_pos e, pk_cpy_in e.1 e.2, a3 _ (by omega)]
                        · rw [if_neg e, pk_cpy_out (by omega), e3 q hq]
                      · rw [r3.1 39 (by decide)]; exact q0
                      · rw [r3.1 40 (by decide)]; exact q1
                      · intro q hq
                        rw [r2 _ (by omega)]
                        by_cases e : ka ≤ q ∧ q < ka + na
                        · rw [if_pos e, if_pos (by omega), show 64 * s + ia + (64 * t + q - (64 * t + ka)) = 64 * s + (ia + (q - ka)) by omega, p2 _ (by omega)]
                        · rw [if_neg e, if_neg (by omega), q2 q hq]
                      · rw [r3.1 39 (by decide)]
                      · rw [r3.1 40 (by decide)]
                      · intro q hq
                        rw [r2 _ (by omega), if_neg (by omega)]
                    · rw [decide_eq_false hB, if_pos b2f, c99] at f5
                      refine bad f5 (fun h1 hM1 => ?_)
                      rw [pm h1 hM1, if_neg hi0, if_neg hk0, if_neg hn0, if_neg (fun z => by have := cA.1.mp z; omega), if_neg (fun z => hB (cB.2.mp z))]
                · rw [decide_eq_false hA, if_pos b2f, c99] at f5
                  refine bad f5 (fun h1 hM1 => ?_)
                  rw [pm h1 hM1, if_neg hi0]
                  by_cases hk0 : k < 0
                  · rw [if_pos hk0]
                  · rw [if_neg hk0, if_neg hn0, if_pos (cA.1.mpr (by omega))]
          · refine Oo.fd (n := 4) (v := -14) hI hC hM ?_ (fun h1 hM1 => ?_)
            · show fX5_copy h (nI s) i (nI t) k n = _
              rw [f5, hl, hl2, if_pos b2f, if_pos b2f, if_neg (fun z => hf (ce.mp z))]
            · show fX6_copy h1 (nI s) i (nI t) k n = _
              rw [pm h1 hM1, hl, hl2, if_neg (show ¬ (false = true) by decide), if_neg (show ¬ (false = true) by decide), if_neg (fun z => hf (ce.mp z))]
        · refine Oo.fd (n := 1) (v := -11) hI hC hM ?_ (fun h1 hM1 => ?_)
          · show fX5_copy h (nI s) i (nI t) k n = _
            rw [f5, hl, hl2, if_pos b2f, if_neg b2t]
          · show fX6_copy h1 (nI s) i (nI t) k n = _
            rw [pm h1 hM1, hl, hl2, if_neg (show ¬ (false = true) by decide), if_pos rfl]
      · refine Oo.fd (n := 1) (v := -11) hI hC hM ?_ (fun h1 hM1 => ?_)
        · show fX5_copy h (nI s) i (nI t) k n = _
          rw [f5, hl, if_neg b2t]
        · show fX6_copy h1 (nI s) i (nI t) k n = _
          rw [pm h1 hM1, hl, if_pos rfl]
end CP
