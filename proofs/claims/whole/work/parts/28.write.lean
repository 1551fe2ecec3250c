/-! PURE: write, stall -/
section WS
variable {K rl : Nat} {d : Nat → Nat} {se w g w' g' : Nat → Bool} {j j' : List Nat} {T T' : Sht} {fi : Int32} {h h1 h2 : AH}
theorem c_wloop {s n : Nat} {x y : Int32} {v : Int64} (hs : s < 4) (hn : n ≤ 64) (e2 : h.1 (21 + s) 2 = nI n) : ∃ h1, fX5_write_76 x y FU h (21 + s) v 0 = some (nI n, h1) ∧ (∀ q, q < 64 → h1.2 (25 + s) q = if q < n then (b2i (v.toBitVec.getLsbD q)).toInt64 else h.2 (25 + s) q) ∧ h1.1 = h.1 ∧ ∀ k, k ≠ 25 + s → h1.2 k = h.2 k := by
  refine linv (fun m (u : AH × Int32) => fX5_write_76 x y m u.1 (21 + s) v u.2) (fun k u => u.2 = nI k ∧ (∀ q, q < 64 → u.1.2 (25 + s) q = if q < k then (b2i (v.toBitVec.getLsbD q)).toInt64 else h.2 (25 + s) q) ∧ u.1.1 = h.1 ∧ ∀ c, c ≠ 25 + s → u.1.2 c = h.2 c) n (fun o => ∃ h1, o = some (nI n, h1) ∧ (∀ q, q < 64 → h1.2 (25 + s) q = if q < n then (b2i (v.toBitVec.getLsbD q)).toInt64 else h.2 (25 + s) q) ∧ h1.1 = h.1 ∧ ∀ k, k ≠ 25 + s → h1.2 k = h.2 k) ?_ ?_ n 0 FU (h, 0) (Nat.zero_add _) (FU_lt (by omega)) ⟨rfl, fun q _ => rfl, rfl, fun _ _ => rfl⟩
  · intro m k u hk hi
    obtain ⟨u1, u2⟩ := u
    obtain ⟨i1, i2, i3, i4⟩ := hi
    simp only at i1 i2 i3 i4
    subst i1
    refine ⟨(sL u1 (25 + s) k (b2i (v.toBitVec.getLsbD k)).toInt64, nI (k + 1)), ⟨rfl, fun q hq => ?_, i3, fun c hc => ?_⟩, ?_⟩
    · show (sL u1 (25 + s) k _).2 (25 + s) q = _
      rw [sL_u]
      unfold vp_updL
      by_cases e : q = k
      · rw [if_pos e, if_pos (by omega), e]
      · rw [if_neg e, i2 q hq]
        by_cases e2 : q < k
        · rw [if_pos e2, if_pos (by omega)]
        · rw [if_neg e2, if_neg (by omega)]
    · show (sL u1 (25 + s) k _).2 c = _
      rw [sL_r hc]; exact i4 c hc
    · show fX5_write_76b (fX5_write_76 x y m) x y u1 (21 + s) v (nI k) = _
      unfold fX5_write_76b
      simp only [nm_eq]
      rw [i3, e2, if_neg (nI_ge hk (by omega)), g_bitOf u1 v (by omega), bR_s, ck_in (show k < 64 by omega) (by decide), nI_clamp (by omega), nI_1, show 21 + s + 4 = 25 + s by omega]
  · intro m u hi
    obtain ⟨u1, u2⟩ := u
    obtain ⟨i1, i2, i3, i4⟩ := hi
    simp only at i1 i2 i3 i4
    subst i1
    refine ⟨u1, ?_, i2, i3, i4⟩
    show fX5_write_76b _ x y u1 (21 + s) v (nI n) = _
    unfold fX5_write_76b
    rw [i3, e2, if_pos (nI_le (Nat.le_refl _) (by omega))]
theorem r_wloop {i s n : Nat} {f : Nat} (hi6 : i ≤ 6) (hs : s < 4) (hn : n ≤ 64) (hf : f < 3) (hf1 : f = 1 → n ≤ 1) (e39 : h.1 39 s = nI f) (hse : Ro 31 se h) (hw : Ro 32 w h) {v : Int64} (hv : fX6_blockOf h (nI i) = some v) : ∃ h1, fX6_write_64 (nI i) (nI s) h (nI n) = some (nI n, h1) ∧ (∀ q, q < 256 → h1.2 41 q = if 64 * s ≤ q ∧ q < 64 * s + n then (if f = 1 then v else (b2i (nw se w (64 * i + (q - 64 * s)))).toInt64) else h.2 41 q) ∧ h1.1 = h.1 ∧ ∀ k, k ≠ 41 → h1.2 k = h.2 k := by
  have cf : nI f = 1 ↔ f = 1 := nI_eq (b := 1) (by omega) (by decide)
  have bo : ∀ h0 : AH, h0.1 = h.1 → fX6_blockOf h0 (nI i) = some v := by
    intro h0 h01
    have hse0 : Ro 31 se h0 := by intro a ha; rw [h01]; exact hse a ha
    have hw0 : Ro 32 w h0 := by intro a ha; rw [h01]; exact hw a ha
    obtain ⟨x, x1, x2⟩ := r_blockOf hi6 hse0 hw0
    obtain ⟨y, y1, y2⟩ := r_blockOf hi6 hse hw
    rw [hv] at y1
    have y1 := Option.some.inj y1
    rw [x1, L_ext (x := x) (y := v) (fun t ht => by rw [x2 t ht, y1, y2 t ht])]
  unfold fX6_write_64
  refine linv (fun m (u : AH × Int32) => fX6_write_68 (nI i) (nI s) m u.1 (nI n) u.2) (fun k u => u.2 = nI k ∧ (∀ q, q < 256 → u.1.2 41 q = if 64 * s ≤ q ∧ q < 64 * s + k then (if f = 1 then v else (b2i (nw se w (64 * i + (q - 64 * s)))).toInt64) else h.2 41 q) ∧ u.1.1 = h.1 ∧ ∀ c, c ≠ 41 → u.1.2 c = h.2 c) n (fun o => ∃ h1, o = some (nI n, h1) ∧ (∀ q, q < 256 → h1.2 41 q = if 64 * s ≤ q ∧ q < 64 * s + n then (if f = 1 then v else (b2i (nw se w (64 * i + (q - 64 * s)))).toInt64) else h.2 41 q) ∧ h1.1 = h.1 ∧ ∀ k, k ≠ 41 → h1.2 k = h.2 k) ?_ ?_ n 0 FU (h, 0) (Nat.zero_add _) (FU_lt (by omega)) ⟨rfl, fun q hq => by rw [if_neg (by omega)], rfl, fun _ _ => rfl⟩
  · intro m k u hk hi
    obtain ⟨u1, u2⟩ := u
    obtain ⟨i1, i2, i3, i4⟩ := hi
    simp only at i1 i2 i3 i4
    subst i1
    refine ⟨(sL u1 41 (64 * s + k) (if f = 1 then v else (b2i (nw se w (64 * i + k))).toInt64), nI (k + 1)), ⟨rfl, fun q hq => ?_, i3, fun c hc => ?_⟩, ?_⟩
    · show (sL u1 41 (64 * s + k) _).2 41 q = _
      rw [sL_u]
      unfold vp_updL
      by_cases e : q = 64 * s + k
      · rw [if_pos e, if_pos (show 64 * s ≤ q ∧ q < 64 * s + (k + 1) by omega), show q - 64 * s = k by omega]
      · rw [if_neg e, i2 q hq]
        by_cases e2 : 64 * s ≤ q ∧ q < 64 * s + k
        · rw [if_pos e2, if_pos (show 64 * s ≤ q ∧ q < 64 * s + (k + 1) by omega)]
        · rw [if_neg e2, if_neg (show ¬ (64 * s ≤ q ∧ q < 64 * s + (k + 1)) by omega)]
    · show (sL u1 41 (64 * s + k) _).2 c = _
      rw [sL_r hc]; exact i4 c hc
    · show fX6_write_68b (fX6_write_68 (nI i) (nI s) m) (nI i) (nI s) u1 (nI n) (nI k) = _
      unfold fX6_write_68b fX6_write_116
      simp only [nm_eq]
      have hse0 : Ro 31 se u1 := by intro a ha; rw [i3]; exact hse a ha
      have hw0 : Ro 32 w u1 := by intro a ha; rw [i3]; exact hw a ha
      rw [if_neg (nI_ge hk (by omega)), ck_in hs (by decide), nI_clamp (show s < 2 ^ 31 by omega), i3, e39]
      by_cases q : f = 1
      · rw [if_pos (cf.mpr q), bo u1 i3, bR_s, m64, nI_add, ck_in (show 64 * s + k < 256 by omega) (by decide), nI_clamp (by omega), nI_1, if_pos q]
      · rw [if_neg (fun z => q (cf.mp z)), m64, nI_add, r_bitOf0 hse0 hw0 (by omega), bR_s, m64, nI_add, ck_in (show 64 * s + k < 256 by omega) (by decide), nI_clamp (by omega), nI_1, if_neg q]
  · intro m u hi
    obtain ⟨u1, u2⟩ := u
    obtain ⟨i1, i2, i3, i4⟩ := hi
    simp only at i1 i2 i3 i4
    subst i1
    refine ⟨u1, ?_, i2, i3, i4⟩
    show fX6_write_68b _ (nI i) (nI s) u1 (nI n) (nI n) = _
    unfold fX6_write_68b
    rw [if_pos (nI_le (Nat.le_refl _) (by omega))]
theorem o_write (B : Bo h) (x y : Int32) : Oo (fun h => fX5_write h x y) (fun h => fX6_write h x y) h := by
  have B0 := B
  obtain ⟨K, rl, d, se, w, g, j, T, fi, hI, hC, hM⟩ := B
  have hK := hI.2.1
  have b0 : fX5_isBlock h x = _ := g_isBlock hC.1.1 hK x
  have b1 : ∀ h', h'.1 29 0 = nI K → fX6_isBlock h' x = _ := fun h' hh => m_isBlock hh hK x
  have c0 : fX5_isSheet h y = _ := g_isSheet y
  have c1 : ∀ h' : AH, fX6_isSheet h' y = _ := fun h' => m_isSheet y
  cases hx : rg x 1 K
  · rw [hx] at b0 b1
    refine Oo.no (v := -2) B0 ?_ ?_
    · show fX5_write h x y = _
      unfold fX5_write
      rw [b0, bR_s, if_pos b2f]
    · show fX6_write h x y = _
      unfold fX6_write
      rw [b1 h hM.1.2.2.1, bR_s, if_pos b2f]
  · rw [hx] at b0 b1
    cases hy : rg y 0 3
    · rw [hy] at c0 c1
      refine Oo.no (v := -2) B0 ?_ ?_
      · show fX5_write h x y = _
        unfold fX5_write
        rw [b0, bR_s, if_neg b2t, c0, bR_s, if_pos b2f]
      · show fX6_write h x y = _
        unfold fX6_write
        rw [b1 h hM.1.2.2.1, bR_s, if_neg b2t, c1, bR_s, if_pos b2f]
    · rw [hy] at c0 c1
      obtain ⟨i, i1, i2, rfl⟩ := rg_n (by omega) hx
      obtain ⟨s, s1, s2, rfl⟩ := rg_n (by omega) hy
      have hs4 : s < 4 := by omega
      obtain ⟨a0, a1, a2, a3⟩ := hC.2.2.2.2.2.1 s hs4
      obtain ⟨t1, t2⟩ := hI.2.2.2.2.2.2.2 s hs4
      cases hl : T.1 s
      · rw [hl] at a0
        obtain ⟨v, nv1, nv2⟩ := g_now (i := i) (by omega) hC.1 hC.2.2.1
        -- the class, in one form for both kinds
        have cf : nI (T.2.1 s) = 1 ↔ T.2.1 s = 1 := nI_eq (b := 1) (by omega) (by decide)
        have cz : nI (T.2.2.1 s) = 0 ↔ T.2.2.1 s = 0 := nI_eq (b := 0) (by omega) (by decide)
        have cl1 : nI (T.2.2.1 s) ≤ 1 ↔ T.2.2.1 s ≤ 1 := nI_leI (b := 1) (by omega) (by decide)
        obtain ⟨n, hnD⟩ : ∃ n, n = if T.2.1 s = 1 ∧ 1 < T.2.2.1 s then 1 else T.2.2.1 s := ⟨_, rfl⟩
        have hn64 : n ≤ T.2.2.1 s := by
          rw [hnD]
          by_cases q : T.2.1 s = 1 ∧ 1 < T.2.2.1 s
          · rw [if_pos q]; omega
          · rw [if_neg q]; exact Nat.le_refl _
        have hf1 : T.2.1 s = 1 → n ≤ 1 := by
          intro q
          rw [hnD]
          by_cases q2 : T.2.1 s = 1 ∧ 1 < T.2.2.1 s
          · rw [if_pos q2]; exact Nat.le_refl 1
          · rw [if_neg q2]; omega
        have w0 : fX5_write h (nI i) (nI s) = if nI (T.2.1 s) = 1 then (if nI (T.2.2.1 s) = 0 then some (0, h) else some (1, sL h (25 + s) 0 v)) else fX5_write_76 (nI i) (nI s) FU h (21 + s) v 0 := by
          unfold fX5_write
          simp only [nm_eq]
          rw [b0, bR_s, if_neg b2t, c0, bR_s, if_neg b2t, ck_in hs4 (by decide), nI_clamp (show s < 2 ^ 31 by omega), a0, if_pos b2f, nv1, bR_s, a1, a2, show 21 + s + 4 = 25 + s by omega]
          rfl
        have cl : ∃ h1, fX5_write h (nI i) (nI s) = some (nI n, h1) ∧ (∀ q, q < 64 → h1.2 (25 + s) q = if q < n then (if T.2.1 s = 1 then v else (b2i (nw se w (64 * i + q))).toInt64) else h.2 (25 + s) q) ∧ h1.1 = h.1 ∧ ∀ k, k ≠ 25 + s → h1.2 k = h.2 k := by
          rw [w0]
          by_cases q1 : T.2.1 s = 1
          · rw [if_pos (cf.mpr q1)]
            by_cases q2 : T.2.2.1 s = 0
            · rw [if_pos (cz.mpr q2)]
              have n0 : n = 0 := by omega
              exact ⟨h, by rw [n0]; rfl, fun q _ => by rw [n0, if_neg (by omega)], rfl, fun _ _ => rfl⟩
            · rw [if_neg (fun z => q2 (cz.mp z))]
              have n0 : n = 1 := by
                rw [hnD]
                by_cases q3 : T.2.1 s = 1 ∧ 1 < T.2.2.1 s
                · rw [if_pos q3]
                · rw [if_neg q3]; omega
              refine ⟨sL h (25 + s) 0 v, by rw [n0]; rfl, fun q hq => ?_, rfl, fun k hk => sL_r hk⟩
              rw [sL_u]
              unfold vp_updL
              by_cases e : q = 0
              · rw [if_pos e, if_pos (by omega), if_pos q1]
              · rw [if_neg e, if_neg (by omega)]
          · rw [if_neg (fun z => q1 (cf.mp z))]
            have n0 : n = T.2.2.1 s := by
              rw [hnD, if_neg (fun z => q1 z.1)]
            obtain ⟨h1, e1, e2, e3, e4⟩ := c_wloop (x := nI i) (y := nI s) (v := v) hs4 t2 a2
            refine ⟨h1, by rw [n0]; exact e1, fun q hq => ?_, e3, e4⟩
            rw [e2 q hq, n0]
            by_cases e : q < T.2.2.1 s
            · rw [if_pos e, if_pos e, if_neg q1, nv2 q hq]
            · rw [if_neg e, if_neg e]
        obtain ⟨h1, e1, e2, e3, e4⟩ := cl
        have F1 : FxS h h1 := ⟨fun k _ => by rw [e3], fun k hk => e4 k (by omega)⟩
        have hM1 := hM.lo F1.lo
        obtain ⟨p0, p1, p2⟩ := hM1.2.2.2.2.1 s hs4
        rw [hl, if_neg (show ¬ (false = true) by decide)] at p0
        obtain ⟨v', vv1, vv2⟩ := r_blockOf (i := i) (by omega) hM1.2.2.1 hM1.1.1
        have hvv : v' = v := L_ext (fun t ht => by rw [vv2 t ht, nv2 t ht])
        rw [hvv] at vv1
        obtain ⟨h2, g1, g2, g3, g4⟩ := r_wloop (i := i) (s := s) (n := n) (f := T.2.1 s) (by omega) hs4 (by omega) t1 hf1 p0 hM1.2.2.1 hM1.1.1 vv1
        have F2 : Fx [39, 40] [41, 42] h1 h2 := ⟨fun k _ => by rw [g3], fun k hk => g4 k (fun e => hk (by rw [e]; exact List.mem_cons_self))⟩
        refine Oo.mk (h1 := h1) (h2 := h2) (v := nI n) (K := K) (rl := rl) (d := d) (se := se) (w := w) (g := g) (j := j) (T := Tset T s (T.1 s) (T.2.1 s) (T.2.2.1 s) (fun q => if q < n then (if T.2.1 s = 1 then v else (b2i (nw se w (64 * i + q))).toInt64) else T.2.2.2 s q)) (fi := fi) e1 ?_ (hI.sh t1 t2) (hC.sh F1 (ShC.set hC.2.2.2.2.2.1 ⟨?_, ?_, ?_, ?_⟩ (fun u hu => ⟨by rw [e3], e4 _ (by omega)⟩))) (hM1.sh F2 (ShM.set hM1.2.2.2.2.1 ⟨?_, ?_, ?_⟩ (fun u hu hut => ⟨by rw [g3], by rw [g3], ?_⟩))) (F2.hi (by decide) (by decide))
        · show fX6_write h1 (nI i) (nI s) = _
          unfold fX6_write fX6_write_58
          rw [b1 h1 hM1.1.2.2.1, bR_s, if_neg b2t, c1, bR_s, if_neg b2t, ck_in hs4 (by decide), ck_in hs4 (by decide), ck_in hs4 (by decide), ck_in hs4 (by decide), nI_clamp (show s < 2 ^ 31 by omega), p0, if_neg (nm1 t1), p1]
          by_cases q1 : T.2.1 s = 1
          · rw [if_pos (cf.mpr q1)]
            by_cases q2 : T.2.2.1 s ≤ 1
            · rw [if_pos (cl1.mpr q2)]
              have n0 : n = T.2.2.1 s := by rw [hnD, if_neg (fun z => by omega)]
              rw [← n0]; exact g1
            · rw [if_neg (fun z => q2 (cl1.mp z))]
              have n0 : n = 1 := by rw [hnD, if_pos ⟨q1, by omega⟩]
              rw [n0] at g1
              rw [n0]; exact g1
          · rw [if_neg (fun z => q1 (cf.mp z))]
            have n0 : n = T.2.2.1 s := by rw [hnD, if_neg (fun z => q1 z.1)]
            rw [← n0]; exact g1
        · rw [e3, hl]; exact a0
        · rw [e3]; exact a1
        · rw [e3]; exact a2
        · intro q hq
          rw [e2 q hq, a3 q hq]
        · rw [g3, hl]; exact p0
        · rw [g3]; exact p1
        · intro q hq
          rw [g2 _ (by omega)]
          by_cases e : q < n
          · rw [if_pos (by omega), if_pos e, show 64 * s + q - 64 * s = q by omega]
          · rw [if_neg (by omega), if_neg e, p2 q hq]
        · intro q hq
          rw [g2 _ (by omega), if_neg (by omega)]
      · rw [hl] at a0
        refine Oo.fd (n := 1) (v := -11) hI hC hM ?_ ?_
        · show fX5_write h (nI i) (nI s) = _
          unfold fX5_write fX5_finding
          simp only [nm_eq]
          rw [b0, bR_s, if_neg b2t, c0, bR_s, if_neg b2t, ck_in hs4 (by decide), nI_clamp (show s < 2 ^ 31 by omega), a0, if_neg b2t, bW_s]
          rfl
        · intro h1 hM1
          obtain ⟨p0, p1, p2⟩ := hM1.2.2.2.2.1 s hs4
          rw [hl, if_pos rfl] at p0
          show fX6_write h1 (nI i) (nI s) = _
          unfold fX6_write fX6_meets
          simp only [nm_eq]
          rw [b1 h1 hM1.1.2.2.1, bR_s, if_neg b2t, c1, bR_s, if_neg b2t, ck_in hs4 (by decide), nI_clamp (show s < 2 ^ 31 by omega), p0, if_pos rfl, bW_s]
          rfl
/-! stall -/
/-- the m-th of the words W .. W + n - 1 of which p -/
def stF (p : Nat → Bool) : Nat → Nat → Nat → Int32
  | 0, _, _ => -2
  | n + 1, W, m => if p W then (if m = 0 then nI W else stF p n (W + 1) (m - 1)) else stF p n (W + 1) m
theorem stF_s (p : Nat → Bool) (n W m : Nat) : stF p (n + 1) W m = if p W then (if m = 0 then nI W else stF p n (W + 1) (m - 1)) else stF p n (W + 1) m := rfl
theorem c_stall {m : Nat} (hK : K ≤ 6) (hm : m < 2 ^ 31) (hS : St 1 K w h) {x : Int32} : ∀ (n W m fuel : Nat), m < 2 ^ 31 → 8 ≤ W → W + n = 8 * (K + 1) → n < fuel → fX5_stall_21 h x fuel (nI m) (nI (8 * (K + 1))) (nI W) = some (stF (stl w) n W m) := by
  intro n
  induction n with
  | zero =>
    intro W m fuel hm hW hn hf
    obtain ⟨f, rfl⟩ : ∃ f, fuel = f + 1 := ⟨fuel - 1, by omega⟩
    show fX5_stall_21b _ h x (nI m) (nI (8 * (K + 1))) (nI W) = _
    unfold fX5_stall_21b
    rw [if_pos (nI_le (by omega) (by omega))]
    rfl
  | succ n ih =>
    intro W m fuel hm hW hn hf
    obtain ⟨f, rfl⟩ : ∃ f, fuel = f + 1 := ⟨fuel - 1, by omega⟩
    show fX5_stall_21b (fX5_stall_21 h x f) h x (nI m) (nI (8 * (K + 1))) (nI W) = _
    unfold fX5_stall_21b fX5_stall_49 stF
    simp only [nm_eq]
    rw [if_neg (nI_ge (by omega) (by omega)), c_isStalled hS hK hW (by omega), bR_s]
    have eu : stl w W = (sta w W == 1) := by unfold stl; rw [decide_eq_true hW, Bool.true_and]
    rw [eu]
    have cz : nI m = 0 ↔ m = 0 := nI_eq (b := 0) hm (by decide)
    cases (sta w W == 1)
    · rw [if_pos b2f, if_neg (show ¬ (false = true) by decide), nI_1]
      exact ih (W + 1) m f hm (by omega) (by omega) (by omega)
    · rw [if_neg b2t, if_pos rfl]
      by_cases h0 : m = 0
      · rw [if_pos (cz.mpr h0), if_pos h0]
      · obtain ⟨m', rfl⟩ : ∃ m', m = m' + 1 := ⟨m - 1, by omega⟩
        rw [if_neg (fun z => h0 (cz.mp z)), if_neg h0, nI_1, pk_m1, show m' + 1 - 1 = m' by omega]
        exact ih (W + 1) m' f (by omega) (by omega) (by omega) (by omega)
/-- where the reference's loop stands: what it has found, what is left -/
def stI (p : Nat → Bool) (N W m : Nat) (x2 x3 : Int32) : Prop :=
  (∃ m', m' < 2 ^ 31 ∧ x2 = nI m' ∧ x3 = -2 ∧ stF p (N - 8) 8 m = stF p (N - W) W m') ∨ (∃ t, 1 ≤ t ∧ t ≤ W ∧ x2 = nI 0 - nI t ∧ x3 = stF p (N - 8) 8 m)
theorem r_stallOf {m : Nat} (hK : K ≤ 6) (hm : m < 2 ^ 31) (hw : Ro 32 w h) (hM : h.1 29 0 = nI K) : fX6_stallOf h (nI m) = some (stF (stl w) (8 * K) 8 m) := by
  have st : ∀ (k8 : Int32 → Int32 → Int32 → Option Int32) (k20 : Int32 → Int32 → Int32 → Int32 → Option Int32) (i r : Nat) (x2 x3 : Int32), 1 ≤ i → i ≤ K → r < 8 → stI (stl w) (8 * (K + 1)) (8 * i + r) m x2 x3 → ∃ y2 y3, stI (stl w) (8 * (K + 1)) (8 * i + r + 1) m y2 y3 ∧ fX6_stallOf_20b k8 k20 h (nI m) x2 x3 (nI i) (nI r) = k20 y2 y3 (nI i) (nI (r + 1)) := by
    intro k8 k20 i r x2 x3 hi hiK hr hI
    unfold fX6_stallOf_20b fX6_stallOf_44 fX6_stallOf_66 fX6_stallOf_67 fX6_stallOf_79
    simp only [nm_eq]
    rw [if_neg (show ¬ (8 : Int32) ≤ nI r from nI_ge (b := 8) hr (by decide)), r_stateOf hw hi (by omega) hr, bR_s]
    have hlt := sta_lt (w := w) (W := 8 * i + r)
    have c0 : nI (sta w (8 * i + r)) = 1 ↔ sta w (8 * i + r) = 1 := nI_eq (b := 1) (by omega) (by decide)
    have eu : stl w (8 * i + r) = (sta w (8 * i + r) == 1) := by unfold stl; rw [decide_eq_true (by omega), Bool.true_and]
    have eN : 8 * (K + 1) - (8 * i + r) = (8 * (K + 1) - (8 * i + r + 1)) + 1 := by omega
    by_cases hs : sta w (8 * i + r) = 1
    · have es : stl w (8 * i + r) = true := by rw [eu, hs]; rfl
      rw [if_pos (c0.mpr hs), if_neg (show ¬ (1 : Int32) = 0 by decide), nI_1]
      rcases hI with ⟨m', hm', rfl, rfl, e⟩ | ⟨t, t1, t2, rfl, rfl⟩
      · have cz : nI m' = 0 ↔ m' = 0 := nI_eq (b := 0) hm' (by decide)
        rw [eN] at e
        by_cases h0 : m' = 0
        · rw [if_pos (cz.mpr h0), if_neg (show ¬ (1 : Int32) = 0 by decide), m8, nI_add]
          refine ⟨_, _, Or.inr ⟨1, Nat.le_refl 1, by omega, by rw [h0]; rfl, ?_⟩, rfl⟩
          rw [e, stF_s, if_pos es, if_pos h0]
        · rw [if_neg (fun z => h0 (cz.mp z)), if_neg (show ¬ (1 : Int32) = 0 by decide)]
          refine ⟨_, _, Or.inl ⟨m' - 1, by omega, show nI m' - 1 = nI (m' - 1) from pk_sub (b := 1) (by omega), rfl, ?_⟩, rfl⟩
          rw [e, stF_s, if_pos es, if_neg h0]
      · have hne : ¬ nI 0 - nI t = 0 := fun z => by
          have := pk_sneg (a := 0) (b := t) (by omega) (by omega)
          rw [z] at this
          exact absurd this (by decide)
        rw [if_neg hne, if_neg (show ¬ (1 : Int32) = 0 by decide)]
        refine ⟨_, _, Or.inr ⟨t + 1, by omega, by omega, ?_, rfl⟩, rfl⟩
        rw [← nI_add t 1, Int32.sub_sub]
        rfl
    · have es : stl w (8 * i + r) = false := by rw [eu]; simpa using hs
      rw [if_neg (fun z => hs (c0.mp z)), if_pos True.intro, if_pos True.intro, nI_1, Int32.sub_zero]
      refine ⟨x2, x3, ?_, rfl⟩
      rcases hI with ⟨m', hm', e1, e2, e⟩ | ⟨t, t1, t2, e1, e2⟩
      · refine Or.inl ⟨m', hm', e1, e2, ?_⟩
        rw [e, eN]
        show (if stl w (8 * i + r) then _ else _) = _
        rw [es, if_neg (show ¬ (false = true) by decide)]
      · exact Or.inr ⟨t, t1, by omega, e1, e2⟩
  unfold fX6_stallOf
  rw [nm_eq]
  refine linv (fun n (s : Int32 × Int32 × Int32) => fX6_stallOf_8 h (nI m) n s.1 s.2.1 s.2.2) (fun k s => s.2.2 = nI (k + 1) ∧ stI (stl w) (8 * (K + 1)) (8 * (k + 1)) m s.1 s.2.1) K (fun o => o = some (stF (stl w) (8 * K) 8 m)) ?_ ?_ K 0 FU (nI m, -2, 1) (Nat.zero_add K) (FU_lt (by omega)) ⟨rfl, Or.inl ⟨m, hm, rfl, rfl, rfl⟩⟩
  · intro n k s hk hI
    obtain ⟨s1, s2, s3⟩ := s
    obtain ⟨i1, i2⟩ := hI
    simp only at i1 i2
    subst i1
    show ∃ s', _ ∧ fX6_stallOf_8b (fX6_stallOf_8 h (nI m) n) h (nI m) s1 s2 (nI (k + 1)) = _
    unfold fX6_stallOf_8b
    rw [hM, if_neg (nI_nlt (by omega) (by omega))]
    refine linv (fun f (s : Int32 × Int32 × Int32) => fX6_stallOf_20 (fX6_stallOf_8 h (nI m) n) h (nI m) f s.1 s.2.1 (nI (k + 1)) s.2.2) (fun r s => s.2.2 = nI r ∧ stI (stl w) (8 * (K + 1)) (8 * (k + 1) + r) m s.1 s.2.1) 8 (fun o => ∃ s' : Int32 × Int32 × Int32, (s'.2.2 = nI (k + 1 + 1) ∧ stI (stl w) (8 * (K + 1)) (8 * (k + 1 + 1)) m s'.1 s'.2.1) ∧ o = fX6_stallOf_8 h (nI m) n s'.1 s'.2.1 s'.2.2) ?_ ?_ 8 0 FU (s1, s2, 0) rfl (FU_lt (by decide)) ⟨rfl, i2⟩
    · intro f r u hr hJ
      obtain ⟨u1, u2, u3⟩ := u
      obtain ⟨j1, j2⟩ := hJ
      simp only at j1 j2
      subst j1
      obtain ⟨y2, y3, y4, y5⟩ := st (fX6_stallOf_8 h (nI m) n) (fX6_stallOf_20 (fX6_stallOf_8 h (nI m) n) h (nI m) f) (k + 1) r u1 u2 (by omega) (by omega) hr j2
      exact ⟨(y2, y3, nI (r + 1)), ⟨rfl, y4⟩, y5⟩
    · intro f u hJ
      obtain ⟨u1, u2, u3⟩ := u
      obtain ⟨j1, j2⟩ := hJ
      simp only at j1 j2
      subst j1
      refine ⟨(u1, u2, nI (k + 1 + 1)), ⟨rfl, by rw [show 8 * (k + 1 + 1) = 8 * (k + 1) + 8 by omega]; exact j2⟩, ?_⟩
      show fX6_stallOf_20b (fX6_stallOf_8 h (nI m) n) _ h (nI m) u1 u2 (nI (k + 1)) (nI 8) = _
      unfold fX6_stallOf_20b
      rw [if_pos (show (8 : Int32) ≤ nI 8 by decide), nm_eq, nI_1]
  · intro n s hI
    obtain ⟨s1, s2, s3⟩ := s
    obtain ⟨i1, i2⟩ := hI
    simp only at i1 i2
    subst i1
    show fX6_stallOf_8b _ h (nI m) s1 s2 (nI (K + 1)) = _
    unfold fX6_stallOf_8b
    rw [hM, if_pos (nI_lt (by omega) (by omega))]
    rcases i2 with ⟨m', hm', e1, e2, e⟩ | ⟨t, t1, t2, e1, e2⟩
    · rw [e2, show 8 * K = 8 * (K + 1) - 8 by omega, e, Nat.sub_self]
      rfl
    · rw [e2, show 8 * (K + 1) - 8 = 8 * K by omega]
theorem o_stall (B : Bo h) (x : Int32) : Oq (fun h => fX5_stall h x) (fun h => fX6_stall h x) h := by
  obtain ⟨K, rl, d, se, w, g, j, T, fi, hI, hC, hM⟩ := B
  have hK := hI.2.1
  by_cases hx : 0 ≤ x
  · have hx' : ¬ x < 0 := by
      rw [Int32.lt_iff_toInt_lt]
      rw [Int32.le_iff_toInt_le] at hx
      omega
    obtain ⟨m, hm, rfl⟩ := pos_n hx'
    refine ⟨stF (stl w) (8 * K) 8 m, ?_, ?_⟩
    · show fX5_stall h (nI m) = _
      unfold fX5_stall
      rw [if_pos hx, c_endOfWords hC.1, bR_s]
      exact c_stall (m := m) hK hm hC.1 (8 * K) 8 m FU hm (Nat.le_refl 8) (by omega) (FU_lt (by omega))
    · show fX6_stall h (nI m) = _
      unfold fX6_stall
      rw [if_pos hx, r_stallOf hK hm hM.1.1 hM.1.2.2.1, bR_s]
  · refine ⟨-2, ?_, ?_⟩
    · show fX5_stall h x = _
      unfold fX5_stall
      rw [if_neg hx]
    · show fX6_stall h x = _
      unfold fX6_stall
      rw [if_neg hx]
end WS
