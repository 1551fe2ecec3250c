/-! PURE: sheets; read -/
section SH
variable {K rl : Nat} {d : Nat → Nat} {se w g w' g' : Nat → Bool} {j j' : List Nat} {T T' : Sht} {fi : Int32} {h h1 h2 : AH}
theorem Cl.fis (q : Cl K rl d se w g j T fi h) (v : Int32) : Cl K rl d se w g j T v (sI h 0 8 v) := by
  obtain ⟨q1, q2, q3, q4, q5, q6, q7, q8⟩ := q
  have F : Fx [0] [] h (sI h 0 8 v) := Fx.sI
  exact ⟨St.fx F q1 (by decide) (by decide) (by decide), Da.fx F q2 (by decide), Lb.fx F q3 (by decide), Lb.fx F q4 (by decide), CJ.fx F q5 (by decide) (by decide), ShC.fx F q6 (by decide) (by decide), by rw [sI_u, pk_un (by decide)]; exact q7, by rw [sI_u, pk_us]⟩
theorem Mo.fis (q : Mo K rl d se w g j T fi h) (v : Int32) : Mo K rl d se w g j T v (sI h 29 17 v) := by
  obtain ⟨⟨p1, p2, p3, p4⟩, p5, p6, p7, p8, p9⟩ := q
  have F : Fx [29] [] h (sI h 29 17 v) := Fx.sI
  have u29 : ∀ q, q ≠ 17 → (sI h 29 17 v).1 29 q = h.1 29 q := fun q hq => by rw [sI_u, pk_un hq]
  refine ⟨⟨Ro.fx F p1 (by decide), ?_, ?_, ?_⟩, Da.fx F p5 (by decide), Ro.fx F p6 (by decide), Ro.fx F p7 (by decide), ShM.fx F p8 (by decide) (by decide) (by decide), by rw [sI_u, pk_us]⟩
  · unfold MJ at p2 ⊢
    rw [u29 7 (by decide), F.1 34 (by decide)]; exact p2
  · rw [u29 0 (by decide)]; exact p3
  · rw [u29 1 (by decide)]; exact p4
theorem Oo.fd {α : Type} {fc fm : AH → Option (α × AH)} {n : Int32} {v : α} (hI : Iv K rl d se w g j T) (hC : Cl K rl d se w g j T fi h) (hM : Mo K rl d se w g j T fi h) (e1 : fc h = some (v, sI h 0 8 n)) (e2 : ∀ h1, Mo K rl d se w g j T fi h1 → fm h1 = some (v, sI h1 29 17 n)) : Oo fc fm h := by
  have F1 : Fx [0] [] h (sI h 0 8 n) := Fx.sI
  have F2 : Fx [29] [] (sI h 0 8 n) (sI (sI h 0 8 n) 29 17 n) := Fx.sI
  have hM1 := hM.lo (F1.lo (by decide) (by decide))
  exact Oo.mk e1 (e2 _ hM1) hI (hC.fis n) (hM1.fis n) (F2.hi (by decide) (by decide))
def FxS (h h1 : AH) : Prop := (∀ k, (k < 21 ∨ 25 ≤ k) → h1.1 k = h.1 k) ∧ ∀ k, (k < 25 ∨ 29 ≤ k) → h1.2 k = h.2 k
theorem FxS.lo (F : FxS h h1) : Lo h h1 := fun k hk => ⟨F.1 k (Or.inr (by omega)), F.2 k (Or.inr hk)⟩
theorem FxS.tr (a : FxS h h1) (b : FxS h1 h2) : FxS h h2 := ⟨fun k hk => (b.1 k hk).trans (a.1 k hk), fun k hk => (b.2 k hk).trans (a.2 k hk)⟩
theorem FxS.sI {s q : Nat} {v : Int32} (hs : s < 4) : FxS h (sI h (21 + s) q v) := ⟨fun k hk => sI_r (by omega), fun _ _ => rfl⟩
theorem FxS.sL {s q : Nat} {v : Int64} (hs : s < 4) : FxS h (sL h (25 + s) q v) := ⟨fun _ _ => rfl, fun k hk => sL_r (by omega)⟩
theorem Cl.sh (q : Cl K rl d se w g j T fi h) (F : FxS h h1) (a : ShC T' h1) : Cl K rl d se w g j T' fi h1 := by
  obtain ⟨q1, q2, q3, q4, q5, q6, q7, q8⟩ := q
  refine ⟨?_, ?_, ?_, ?_, ?_, a, ?_, ?_⟩
  · unfold St at q1 ⊢
    rw [F.1 1 (by omega), F.1 (1 + 2) (by omega), F.2 (1 + 1) (by omega)]; exact q1
  · unfold Da at q2 ⊢
    rw [F.1 8 (by omega)]; exact q2
  · unfold Lb at q3 ⊢
    rw [F.2 9 (by omega)]; exact q3
  · unfold Lb at q4 ⊢
    rw [F.2 10 (by omega)]; exact q4
  · unfold CJ at q5 ⊢
    rw [F.1 11 (by omega), F.1 12 (by omega)]; exact q5
  · rw [F.1 0 (by omega)]; exact q7
  · rw [F.1 0 (by omega)]; exact q8
theorem Mo.sh (q : Mo K rl d se w g j T fi h) (F : Fx [39, 40] [41, 42] h h1) (a : ShM T' h1) : Mo K rl d se w g j T' fi h1 := by
  obtain ⟨⟨p1, p2, p3, p4⟩, p5, p6, p7, p8, p9⟩ := q
  refine ⟨⟨Ro.fx F p1 (by decide), ?_, ?_, ?_⟩, Da.fx F p5 (by decide), Ro.fx F p6 (by decide), Ro.fx F p7 (by decide), a, ?_⟩
  · unfold MJ at p2 ⊢
    rw [F.1 29 (by decide), F.1 34 (by decide)]; exact p2
  · rw [F.1 29 (by decide)]; exact p3
  · rw [F.1 29 (by decide)]; exact p4
  · rw [F.1 29 (by decide)]; exact p9
def Tset (T : Sht) (s : Nat) (l : Bool) (f z : Nat) (it : Nat → Int64) : Sht := (fun t => if t = s then l else T.1 t, fun t => if t = s then f else T.2.1 t, fun t => if t = s then z else T.2.2.1 t, fun t => if t = s then it else T.2.2.2 t)
theorem Iv.sh {s : Nat} {l : Bool} {f z : Nat} {it : Nat → Int64} (q : Iv K rl d se w g j T) (hf : f < 3) (hz : z ≤ 64) : Iv K rl d se w g j (Tset T s l f z it) := by
  refine ⟨q.1, q.2.1, q.2.2.1, q.2.2.2.1, q.2.2.2.2.1, q.2.2.2.2.2.1, q.2.2.2.2.2.2.1, fun t ht => ?_⟩
  show (if t = s then f else T.2.1 t) < 3 ∧ (if t = s then z else T.2.2.1 t) ≤ 64
  by_cases e : t = s
  · rw [if_pos e, if_pos e]; exact ⟨hf, hz⟩
  · rw [if_neg e, if_neg e]; exact q.2.2.2.2.2.2.2 t ht
theorem ShC.set {s : Nat} {l : Bool} {f z : Nat} {it : Nat → Int64} (q : ShC T h) (a : h1.1 (21 + s) 0 = b2i l ∧ h1.1 (21 + s) 1 = nI f ∧ h1.1 (21 + s) 2 = nI z ∧ ∀ k, k < 64 → h1.2 (25 + s) k = it k) (F : ∀ t, t ≠ s → h1.1 (21 + t) = h.1 (21 + t) ∧ h1.2 (25 + t) = h.2 (25 + t)) : ShC (Tset T s l f z it) h1 := by
  intro t ht
  show h1.1 (21 + t) 0 = b2i (if t = s then l else T.1 t) ∧ h1.1 (21 + t) 1 = nI (if t = s then f else T.2.1 t) ∧ h1.1 (21 + t) 2 = nI (if t = s then z else T.2.2.1 t) ∧ ∀ k, k < 64 → h1.2 (25 + t) k = (if t = s then it else T.2.2.2 t) k
  by_cases e : t = s
  · subst e
    rw [if_pos rfl, if_pos rfl, if_pos rfl, if_pos rfl]; exact a
  · rw [if_neg e, if_neg e, if_neg e, if_neg e, (F t e).1, (F t e).2]; exact q t ht
theorem ShM.set {s : Nat} {l : Bool} {f z : Nat} {it : Nat → Int64} (q : ShM T h) (a : h1.1 39 s = (if l then -1 else nI f) ∧ h1.1 40 s = nI z ∧ ∀ k, k < 64 → h1.2 41 (64 * s + k) = it k) (F : ∀ t, t < 4 → t ≠ s → h1.1 39 t = h.1 39 t ∧ h1.1 40 t = h.1 40 t ∧ ∀ k, k < 64 → h1.2 41 (64 * t + k) = h.2 41 (64 * t + k)) : ShM (Tset T s l f z it) h1 := by
  intro t ht
  show h1.1 39 t = (if (if t = s then l else T.1 t) then -1 else nI (if t = s then f else T.2.1 t)) ∧ h1.1 40 t = nI (if t = s then z else T.2.2.1 t) ∧ ∀ k, k < 64 → h1.2 41 (64 * t + k) = (if t = s then it else T.2.2.2 t) k
  by_cases e : t = s
  · subst e
    simp only [if_pos rfl]; exact a
  · simp only [if_neg e]
    obtain ⟨f1, f2, f3⟩ := F t ht e
    obtain ⟨q1, q2, q3⟩ := q t ht
    exact ⟨f1.trans q1, f2.trans q2, fun k hk => (f3 k hk).trans (q3 k hk)⟩
theorem fill_L {c N : Nat} {v : Int64} (hc : ln c = N) (hN : N < 1000) : ∃ h1, fJ7_fill_d0a16 h c v = some h1 ∧ (∀ k, k < N → h1.2 c k = v) ∧ Fx [] [c] h h1 := by
  unfold fJ7_fill_d0a16
  rw [nm_eq, hc]
  refine linv (fun n (s : AH × Int32) => fJ7_fill_d0a16_6 c v n s.1 s.2 (nI N)) (fun k s => s.2 = nI k ∧ (∀ q, q < k → s.1.2 c q = v) ∧ Fx [] [c] h s.1) N (fun o => ∃ h1, o = some h1 ∧ (∀ k, k < N → h1.2 c k = v) ∧ Fx [] [c] h h1) ?_ ?_ N 0 FU (h, 0) (Nat.zero_add N) (FU_lt hN) ⟨rfl, fun q hq => absurd hq (Nat.not_lt_zero q), Fx.rf _ _ _⟩
  · intro n k s hk hi
    obtain ⟨s1, s2⟩ := s
    obtain ⟨i1, i2, i3⟩ := hi
    simp only at i1 i2 i3
    subst i1
    refine ⟨(sL s1 c k v, nI (k + 1)), ⟨rfl, fun q hq => ?_, Fx.tr i3 Fx.sL⟩, ?_⟩
    · show (sL s1 c k v).2 c q = v
      rw [sL_u]
      unfold vp_updL
      by_cases e : q = k
      · rw [if_pos e]
      · rw [if_neg e]; exact i2 q (by omega)
    · show fJ7_fill_d0a16_6b (fJ7_fill_d0a16_6 c v n) c v s1 (nI k) (nI N) = _
      unfold fJ7_fill_d0a16_6b
      simp only [nm_eq]
      rw [if_neg (nI_ge hk (by omega)), hc, ck_in hk (by omega), nI_clamp (by omega), nI_1]
  · intro n s hi
    obtain ⟨s1, s2⟩ := s
    obtain ⟨i1, i2, i3⟩ := hi
    simp only at i1 i2 i3
    subst i1
    refine ⟨s1, ?_, i2, i3⟩
    show fJ7_fill_d0a16_6b _ c v s1 (nI N) (nI N) = _
    unfold fJ7_fill_d0a16_6b
    rw [if_pos (nI_le (Nat.le_refl N) (by omega))]
theorem fill_I {c N : Nat} {v : Int32} (hc : ln c = N) (hN : N < 1000) : ∃ h1, fJ7_fill_53178 h c v = some h1 ∧ (∀ k, k < N → h1.1 c k = v) ∧ Fx [c] [] h h1 := by
  unfold fJ7_fill_53178
  rw [nm_eq, hc]
  refine linv (fun n (s : AH × Int32) => fJ7_fill_53178_5 c v n s.1 s.2 (nI N)) (fun k s => s.2 = nI k ∧ (∀ q, q < k → s.1.1 c q = v) ∧ Fx [c] [] h s.1) N (fun o => ∃ h1, o = some h1 ∧ (∀ k, k < N → h1.1 c k = v) ∧ Fx [c] [] h h1) ?_ ?_ N 0 FU (h, 0) (Nat.zero_add N) (FU_lt hN) ⟨rfl, fun q hq => absurd hq (Nat.not_lt_zero q), Fx.rf _ _ _⟩
  · intro n k s hk hi
    obtain ⟨s1, s2⟩ := s
    obtain ⟨i1, i2, i3⟩ := hi
    simp only at i1 i2 i3
    subst i1
    refine ⟨(sI s1 c k v, nI (k + 1)), ⟨rfl, fun q hq => ?_, Fx.tr i3 Fx.sI⟩, ?_⟩
    · show (sI s1 c k v).1 c q = v
      rw [sI_u]
      unfold upd
      by_cases e : q = k
      · rw [if_pos e]
      · rw [if_neg e]; exact i2 q (by omega)
    · show fJ7_fill_53178_5b (fJ7_fill_53178_5 c v n) c v s1 (nI k) (nI N) = _
      unfold fJ7_fill_53178_5b
      simp only [nm_eq]
      rw [if_neg (nI_ge hk (by omega)), hc, ck_in hk (by omega), nI_clamp (by omega), nI_1]
  · intro n s hi
    obtain ⟨s1, s2⟩ := s
    obtain ⟨i1, i2, i3⟩ := hi
    simp only at i1 i2 i3
    subst i1
    refine ⟨s1, ?_, i2, i3⟩
    show fJ7_fill_53178_5b _ c v s1 (nI N) (nI N) = _
    unfold fJ7_fill_53178_5b
    rw [if_pos (nI_le (Nat.le_refl N) (by omega))]
theorem Fx.s {c : Nat} (F : Fx [] [c] h h1) (hc : 25 ≤ c) (hc2 : c < 29) : FxS h h1 := ⟨fun k _ => F.1 k (by intro q; cases q), fun k hk => F.2 k (fun q => by have := List.mem_singleton.mp q; omega)⟩
theorem o_sheet (B : Bo h) (x y z : Int32) : Oo (fun h => fX5_sheet h x y z) (fun h => fX6_sheet h x y z) h := by
  have B0 := B
  obtain ⟨K, rl, d, se, w, g, j, T, fi, hI, hC, hM⟩ := B
  have c0 : fX5_isSheet h x = _ := g_isSheet x
  have c1 : ∀ h' : AH, fX6_isSheet h' x = _ := fun h' => m_isSheet x
  have d0 : fX5_isForm h y = _ := g_isForm y
  have d1 : ∀ h' : AH, fX6_in h' y 0 2 = _ := fun h' => r_in h' y (a := 0) (b := 2) (by decide) (by decide)
  cases hx : rg x 0 3
  · rw [hx] at c0 c1
    refine Oo.no (v := -2) B0 ?_ ?_
    · show fX5_sheet h x y z = _
      unfold fX5_sheet
      rw [c0, bR_s, if_pos b2f]
    · show fX6_sheet h x y z = _
      unfold fX6_sheet
      rw [c1, bR_s, if_pos b2f]
  · rw [hx] at c0 c1
    cases hy : rg y 0 2
    · rw [hy] at d0 d1
      refine Oo.no (v := -2) B0 ?_ ?_
      · show fX5_sheet h x y z = _
        unfold fX5_sheet
        rw [c0, bR_s, if_neg b2t, d0, bR_s, if_pos b2f]
      · show fX6_sheet h x y z = _
        unfold fX6_sheet
        rw [c1, bR_s, if_neg b2t, d1, bR_s, if_pos b2f]
    · rw [hy] at d0 d1
      obtain ⟨s, s1, s2, rfl⟩ := rg_n (by omega) hx
      obtain ⟨f, f1, f2, rfl⟩ := rg_n (by omega) hy
      have hs4 : s < 4 := by omega
      by_cases hz : z ≤ 64
      · by_cases hz0 : 0 ≤ z
        · obtain ⟨n, n1, n2, rfl⟩ := rg_n (x := z) (a := 0) (b := 64) (by decide) (by
            unfold rg
            rw [Int32.le_iff_toInt_le] at hz hz0
            exact decide_eq_true ⟨hz0, hz⟩)
          have F1 : FxS h (sI (sI (sI h (21 + s) 0 0) (21 + s) 1 (nI f)) (21 + s) 2 (nI n)) := FxS.tr (FxS.tr (FxS.sI hs4) (FxS.sI hs4)) (FxS.sI hs4)
          obtain ⟨h1, e1, e2, e3⟩ := fill_L (h := sI (sI (sI h (21 + s) 0 0) (21 + s) 1 (nI f)) (21 + s) 2 (nI n)) (c := 25 + s) (N := 64) (v := 0) (by rcases (show s = 0 ∨ s = 1 ∨ s = 2 ∨ s = 3 by omega) with rfl | rfl | rfl | rfl <;> rfl) (by decide)
          have F2 : FxS h h1 := FxS.tr F1 (e3.s (by omega) (by omega))
          have i21 : h1.1 (21 + s) = (sI (sI (sI h (21 + s) 0 0) (21 + s) 1 (nI f)) (21 + s) 2 (nI n)).1 (21 + s) := e3.1 _ (by intro q; cases q)
          have C1 : Cl K rl d se w g j (Tset T s false f n (fun _ => 0)) fi h1 := by
            refine hC.sh F2 (ShC.set hC.2.2.2.2.2.1 ⟨?_, ?_, ?_, e2⟩ (fun t ht => ⟨?_, ?_⟩))
            · rw [i21, sI_u, pk_un (by decide), sI_u, pk_un (by decide), sI_u, pk_us]; rfl
            · rw [i21, sI_u, pk_un (by decide), sI_u, pk_us]
            · rw [i21, sI_u, pk_us]
            · rw [e3.1 _ (by intro q; cases q), sI_r (by omega), sI_r (by omega), sI_r (by omega)]
            · rw [e3.2 _ (fun q => by have := List.mem_singleton.mp q; omega)]; rfl
          have hM1 := hM.lo F2.lo
          have md : ∃ h2, fX6_sheet_55 (nI s) (nI f) (nI n) FU (sI (sI h1 39 s (nI f)) 40 s (nI n)) (nI (64 * s)) = some (nI n, h2) ∧ (∀ k, k < 64 → h2.2 41 (64 * s + k) = 0) ∧ (∀ q, (q < 64 * s ∨ 64 * s + 64 ≤ q) → h2.2 41 q = h1.2 41 q) ∧ Fx [] [41] (sI (sI h1 39 s (nI f)) 40 s (nI n)) h2 := by
            refine linv (fun m (t : AH × Int32) => fX6_sheet_55 (nI s) (nI f) (nI n) m t.1 t.2) (fun k t => t.2 = nI (64 * s + k) ∧ (∀ q, q < k → t.1.2 41 (64 * s + q) = 0) ∧ (∀ q, (q < 64 * s ∨ 64 * s + 64 ≤ q) → t.1.2 41 q = h1.2 41 q) ∧ Fx [] [41] (sI (sI h1 39 s (nI f)) 40 s (nI n)) t.1) 64 (fun o => ∃ h2, o = some (nI n, h2) ∧ (∀ k, k < 64 → h2.2 41 (64 * s + k) = 0) ∧ (∀ q, (q < 64 * s ∨ 64 * s + 64 ≤ q) → h2.2 41 q = h1.2 41 q) ∧ Fx [] [41] (sI (sI h1 39 s (nI f)) 40 s (nI n)) h2) ?_ ?_ 64 0 FU (sI (sI h1 39 s (nI f)) 40 s (nI n), nI (64 * s)) rfl (FU_lt (by decide)) ⟨rfl, fun q hq => absurd hq (Nat.not_lt_zero q), fun q _ => rfl, Fx.rf _ _ _⟩
            · intro m k t hk hi
              obtain ⟨t1, t2⟩ := t
              obtain ⟨i1, i2, i2', i3⟩ := hi
              simp only at i1 i2 i2' i3
              subst i1
              refine ⟨(sL t1 41 (64 * s + k) 0, nI (64 * s + (k + 1))), ⟨rfl, fun q hq => ?_, fun q hq => ?_, Fx.tr i3 Fx.sL⟩, ?_⟩
              · show (sL t1 41 (64 * s + k) 0).2 41 (64 * s + q) = 0
                rw [sL_u]
                unfold vp_updL
                by_cases e : 64 * s + q = 64 * s + k
                · rw [if_pos e]
                · rw [if_neg e]; exact i2 q (by omega)
              · show (sL t1 41 (64 * s + k) 0).2 41 q = _
                rw [sL_u, pk_uLn (by omega)]
                exact i2' q hq
              · show fX6_sheet_55b (fX6_sheet_55 (nI s) (nI f) (nI n) m) (nI s) (nI f) (nI n) t1 (nI (64 * s + k)) = _
                unfold fX6_sheet_55b
                simp only [nm_eq]
                rw [m64, show nI (64 * s) + 64 = nI (64 * s + 64) from nI_add _ 64, if_neg (nI_ge (by omega) (by omega)), ck_in (show 64 * s + k < 256 by omega) (by decide), nI_clamp (by omega), nI_1]
                rfl
            · intro m t hi
              obtain ⟨t1, t2⟩ := t
              obtain ⟨i1, i2, i2', i3⟩ := hi
              simp only at i1 i2 i2' i3
              subst i1
              refine ⟨t1, ?_, i2, i2', i3⟩
              show fX6_sheet_55b _ (nI s) (nI f) (nI n) t1 (nI (64 * s + 64)) = _
              unfold fX6_sheet_55b
              rw [m64, show nI (64 * s) + 64 = nI (64 * s + 64) from nI_add _ 64, if_pos (nI_le (Nat.le_refl _) (by omega))]
          obtain ⟨h2, g1, g2, g2', g3⟩ := md
          have F3 : Fx [39, 40] [41, 42] h1 h2 := Fx.tr (Fx.tr (Fx.mo Fx.sI (by decide) (by decide)) (Fx.mo Fx.sI (by decide) (by decide))) (Fx.mo g3 (by decide) (by decide))
          refine Oo.mk (h1 := h1) (h2 := h2) (v := nI n) ?_ ?_ (hI.sh (s := s) (l := false) (it := fun _ => 0) (show f < 3 by omega) n2) C1 (hM1.sh F3 (ShM.set hM1.2.2.2.2.1 ⟨?_, ?_, g2⟩ (fun t ht hts => ⟨?_, ?_, ?_⟩))) (F3.hi (by decide) (by decide))
          · show fX5_sheet h (nI s) (nI f) (nI n) = _
            unfold fX5_sheet fX3_begin
            simp only [nm_eq]
            rw [c0, bR_s, if_neg b2t, d0, bR_s, if_neg b2t, if_pos hz, if_pos hz0, ck_in hs4 (by decide), nI_clamp (by omega), show 21 + s + 4 = 25 + s by omega, e1, bR_s, bR_s]
          · show fX6_sheet h1 (nI s) (nI f) (nI n) = _
            unfold fX6_sheet
            simp only [nm_eq]
            rw [c1, bR_s, if_neg b2t, d1, bR_s, if_neg b2t, if_pos hz, if_pos hz0, ck_in hs4 (by decide), ck_in hs4 (by decide), nI_clamp (by omega), m64]
            exact g1
          · rw [g3.1 39 (by decide), sI_r (by decide), sI_u, pk_us]; rfl
          · rw [g3.1 40 (by decide), sI_u, pk_us]
          · rw [g3.1 39 (by decide), sI_r (by decide), sI_u, pk_un hts]
          · rw [g3.1 40 (by decide), sI_u, pk_un hts, sI_r (by decide)]
          · intro k hk
            exact g2' _ (by omega)
        · refine Oo.fd (n := 5) (v := -15) hI hC hM ?_ ?_
          · show fX5_sheet h (nI s) (nI f) z = _
            unfold fX5_sheet fX5_finding
            simp only [nm_eq]
            rw [c0, bR_s, if_neg b2t, d0, bR_s, if_neg b2t, if_pos hz, if_neg hz0, bW_s]
            rfl
          · intro h1 _
            show fX6_sheet h1 (nI s) (nI f) z = _
            unfold fX6_sheet fX6_meets
            simp only [nm_eq]
            rw [c1, bR_s, if_neg b2t, d1, bR_s, if_neg b2t, if_pos hz, if_neg hz0, bW_s]
            rfl
      · refine Oo.no (v := -2) B0 ?_ ?_
        · show fX5_sheet h (nI s) (nI f) z = _
          unfold fX5_sheet
          rw [c0, bR_s, if_neg b2t, d0, bR_s, if_neg b2t, if_neg hz]
        · show fX6_sheet h (nI s) (nI f) z = _
          unfold fX6_sheet
          rw [c1, bR_s, if_neg b2t, d1, bR_s, if_neg b2t, if_neg hz]
theorem nm1 {f : Nat} (hf : f < 3) : ¬ nI f = -1 := by
  rcases (show f = 0 ∨ f = 1 ∨ f = 2 by omega) with rfl | rfl | rfl <;> decide
theorem o_lose (B : Bo h) (x : Int32) : Oo (fun h => fX5_lose h x) (fun h => fX6_lose h x) h := by
  have B0 := B
  obtain ⟨K, rl, d, se, w, g, j, T, fi, hI, hC, hM⟩ := B
  have c0 : fX5_isSheet h x = _ := g_isSheet x
  have c1 : ∀ h' : AH, fX6_isSheet h' x = _ := fun h' => m_isSheet x
  cases hx : rg x 0 3
  · rw [hx] at c0 c1
    refine Oo.no (v := -2) B0 ?_ ?_
    · show fX5_lose h x = _
      unfold fX5_lose
      rw [c0, bR_s, if_pos b2f]
    · show fX6_lose h x = _
      unfold fX6_lose
      rw [c1, bR_s, if_pos b2f]
  · rw [hx] at c0 c1
    obtain ⟨s, s1, s2, rfl⟩ := rg_n (by omega) hx
    have hs4 : s < 4 := by omega
    obtain ⟨a0, a1, a2, a3⟩ := hC.2.2.2.2.2.1 s hs4
    obtain ⟨b1, b2⟩ := hI.2.2.2.2.2.2.2 s hs4
    cases hl : T.1 s
    · rw [hl] at a0
      have F1 : FxS h (sI h (21 + s) 0 1) := FxS.sI hs4
      have hM1 := hM.lo F1.lo
      obtain ⟨p0, p1, p2⟩ := hM1.2.2.2.2.1 s hs4
      rw [hl, if_neg (show ¬ (false = true) by decide)] at p0
      have F2 : Fx [39, 40] [41, 42] (sI h (21 + s) 0 1) (sI (sI h (21 + s) 0 1) 39 s (-1)) := Fx.mo Fx.sI (by decide) (by decide)
      refine Oo.mk (h1 := sI h (21 + s) 0 1) (h2 := sI (sI h (21 + s) 0 1) 39 s (-1)) (v := nI (T.2.2.1 s)) (K := K) (rl := rl) (d := d) (se := se) (w := w) (g := g) (j := j) (T := Tset T s true (T.2.1 s) (T.2.2.1 s) (T.2.2.2 s)) (fi := fi) ?_ ?_ (hI.sh b1 b2) (hC.sh F1 (ShC.set hC.2.2.2.2.2.1 ⟨?_, ?_, ?_, a3⟩ (fun t ht => ⟨?_, rfl⟩))) (hM1.sh F2 (ShM.set hM1.2.2.2.2.1 ⟨?_, ?_, p2⟩ (fun t ht hts => ⟨?_, ?_, fun k hk => rfl⟩))) (F2.hi (by decide) (by decide))
      · show fX5_lose h (nI s) = _
        unfold fX5_lose
        simp only [nm_eq]
        rw [c0, bR_s, if_neg b2t, ck_in hs4 (by decide), nI_clamp (by omega), a0, if_pos b2f, sI_u, pk_un (by decide), a2]
      · show fX6_lose _ (nI s) = _
        unfold fX6_lose
        simp only [nm_eq]
        rw [c1, bR_s, if_neg b2t, ck_in hs4 (by decide), nI_clamp (by omega), p0, if_neg (nm1 b1), ck_in hs4 (by decide), ck_in hs4 (by decide), sI_r (by decide), p1]
      · rw [sI_u, pk_us]; rfl
      · rw [sI_u, pk_un (by decide)]; exact a1
      · rw [sI_u, pk_un (by decide)]; exact a2
      · rw [sI_r (by omega)]
      · rw [sI_u, pk_us]; rfl
      · rw [sI_r (by decide)]; exact p1
      · rw [sI_u, pk_un hts]
      · rw [sI_r (by decide)]
    · rw [hl] at a0
      refine Oo.fd (n := 1) (v := -11) hI hC hM ?_ ?_
      · show fX5_lose h (nI s) = _
        unfold fX5_lose fX5_finding
        simp only [nm_eq]
        rw [c0, bR_s, if_neg b2t, ck_in hs4 (by decide), nI_clamp (by omega), a0, if_neg b2t, bW_s]
        rfl
      · intro h1 hM1
        obtain ⟨p0, p1, p2⟩ := hM1.2.2.2.2.1 s hs4
        rw [hl, if_pos rfl] at p0
        show fX6_lose h1 (nI s) = _
        unfold fX6_lose fX6_meets
        simp only [nm_eq]
        rw [c1, bR_s, if_neg b2t, ck_in hs4 (by decide), nI_clamp (by omega), p0, if_pos rfl, bW_s]
        rfl
/-- whether a sheet has an item -/
theorem c_hasItem {s n : Nat} (hn : n ≤ 64) (e : h.1 (21 + s) 2 = nI n) (x : Int32) : fX3_hasItem h (21 + s) x = some (b2i (decide (0 ≤ x.toInt ∧ x.toInt < n))) := by
  unfold fX3_hasItem
  rw [e]
  rcases pk_ix x (n := n) (by omega) with q | q | ⟨k, hk, rfl⟩
  · rw [if_pos q]
    rw [Int32.lt_iff_toInt_lt] at q
    rw [decide_eq_false (fun z => by have : x.toInt < 0 := q; omega)]; rfl
  · have q' := q
    rw [Int32.le_iff_toInt_le, nI_toInt (by omega)] at q'
    rw [decide_eq_false (fun z => by omega)]
    by_cases q0 : x < 0
    · rw [if_pos q0]; rfl
    · rw [if_neg q0, if_pos q]; rfl
  · rw [if_neg (nI_pos (by omega)), if_neg (nI_ge hk (by omega)), decide_eq_true (by rw [nI_toInt (by omega)]; omega)]; rfl
theorem r_hasItem {n : Nat} (hn : n ≤ 64) (x : Int32) : fX6_in h x 0 (nI n - 1) = some (b2i (decide (0 ≤ x.toInt ∧ x.toInt < n))) := by
  unfold fX6_in
  rcases pk_ix x (n := n) (by omega) with q | q | ⟨k, hk, rfl⟩
  · rw [if_pos q]
    rw [Int32.lt_iff_toInt_lt] at q
    rw [decide_eq_false (fun z => by have : x.toInt < 0 := q; omega)]; rfl
  · have q' := q
    rw [Int32.le_iff_toInt_le, nI_toInt (by omega)] at q'
    have q1 : nI n - 1 < x := by
      rw [Int32.lt_iff_toInt_lt, show (1 : Int32) = nI 1 from rfl, pk_sub_toInt (by omega) (by omega)]
      omega
    rw [decide_eq_false (fun z => by omega)]
    by_cases q0 : x < 0
    · rw [if_pos q0]; rfl
    · rw [if_neg q0, if_pos q1]; rfl
  · have sm : nI n - 1 = nI (n - 1) := pk_sub (b := 1) (by omega)
    rw [sm, if_neg (nI_pos (by omega)), if_neg (nI_nlt (by omega) (by omega)), decide_eq_true (by rw [nI_toInt (by omega)]; omega)]; rfl
theorem it_of {n : Nat} {x : Int32} (hn : n ≤ 64) (hq : decide (0 ≤ x.toInt ∧ x.toInt < n) = true) : ∃ k, k < n ∧ x = nI k := by
  have := of_decide_eq_true hq
  refine ⟨x.toInt.toNat, by omega, Int32.toInt_inj.mp ?_⟩
  rw [nI_toInt (by omega)]
  omega
theorem o_put (B : Bo h) (x y z v : Int32) : Oo (fun h => fX5_put h x y z v) (fun h => fX6_put h x y z v) h := by
  have B0 := B
  obtain ⟨K, rl, d, se, w, g, j, T, fi, hI, hC, hM⟩ := B
  have c0 : fX5_isSheet h x = _ := g_isSheet x
  have c1 : ∀ h' : AH, fX6_isSheet h' x = _ := fun h' => m_isSheet x
  have d0 : fX5_isForm h y = _ := g_isForm y
  have d1 : ∀ h' : AH, fX6_in h' y 0 2 = _ := fun h' => r_in h' y (a := 0) (b := 2) (by decide) (by decide)
  cases hx : rg x 0 3
  · rw [hx] at c0 c1
    refine Oo.no (v := -2) B0 ?_ ?_
    · show fX5_put h x y z v = _
      unfold fX5_put
      rw [c0, bR_s, if_pos b2f]
    · show fX6_put h x y z v = _
      unfold fX6_put
      rw [c1, bR_s, if_pos b2f]
  · rw [hx] at c0 c1
    cases hy : rg y 0 2
    · rw [hy] at d0 d1
      refine Oo.no (v := -2) B0 ?_ ?_
      · show fX5_put h x y z v = _
        unfold fX5_put
        rw [c0, bR_s, if_neg b2t, d0, bR_s, if_pos b2f]
      · show fX6_put h x y z v = _
        unfold fX6_put
        rw [c1, bR_s, if_neg b2t, d1, bR_s, if_pos b2f]
    · rw [hy] at d0 d1
      obtain ⟨s, s1, s2, rfl⟩ := rg_n (by omega) hx
      obtain ⟨f, f1, f2, rfl⟩ := rg_n (by omega) hy
      have hs4 : s < 4 := by omega
      obtain ⟨a0, a1, a2, a3⟩ := hC.2.2.2.2.2.1 s hs4
      obtain ⟨b1, b2⟩ := hI.2.2.2.2.2.2.2 s hs4
      have ce : nI (T.2.1 s) = nI f ↔ T.2.1 s = f := nI_eq (by omega) (by omega)
      cases hl : T.1 s
      · rw [hl] at a0
        have pm : ∀ h1, Mo K rl d se w g j T fi h1 → h1.1 39 s = nI (T.2.1 s) ∧ h1.1 40 s = nI (T.2.2.1 s) := by
          intro h1 hM1
          obtain ⟨p0, p1, p2⟩ := hM1.2.2.2.2.1 s hs4
          rw [hl, if_neg (show ¬ (false = true) by decide)] at p0
          exact ⟨p0, p1⟩
        by_cases hf : T.2.1 s = f
        · cases hi : decide (0 ≤ z.toInt ∧ z.toInt < T.2.2.1 s)
          · refine Oo.fd (n := 2) (v := -12) hI hC hM ?_ ?_
            · show fX5_put h (nI s) (nI f) z v = _
              unfold fX5_put fX5_finding
              simp only [nm_eq]
              rw [c0, bR_s, if_neg b2t, d0, bR_s, if_neg b2t, ck_in hs4 (by decide), nI_clamp (by omega), a0, if_pos b2f, a1, if_pos (ce.mpr hf), c_hasItem b2 a2, bR_s, hi, if_pos b2f, bW_s]
              rfl
            · intro h1 hM1
              obtain ⟨p0, p1⟩ := pm h1 hM1
              show fX6_put h1 (nI s) (nI f) z v = _
              unfold fX6_put fX6_put_68 fX6_meets
              simp only [nm_eq]
              rw [c1, bR_s, if_neg b2t, d1, bR_s, if_neg b2t, ck_in hs4 (by decide), nI_clamp (by omega), p0, if_neg (nm1 b1), ck_in hs4 (by decide), if_pos (ce.mpr hf), ck_in hs4 (by decide), p1, r_hasItem b2, bR_s, hi, if_pos b2f, if_neg (by decide), bW_s]
              rfl
          · obtain ⟨k, hk, rfl⟩ := it_of b2 hi
            obtain ⟨u, hu⟩ : ∃ u : Int64, u = (if nI f = 0 then (v &&& 1 : Int32).toInt64 else v.toInt64) := ⟨_, rfl⟩
            have F1 : FxS h (sL h (25 + s) k u) := FxS.sL hs4
            have hM1 := hM.lo F1.lo
            obtain ⟨p0, p1⟩ := pm _ hM1
            obtain ⟨-, -, p2⟩ := hM1.2.2.2.2.1 s hs4
            have F2 : Fx [39, 40] [41, 42] (sL h (25 + s) k u) (sL (sL h (25 + s) k u) 41 (64 * s + k) u) := Fx.mo Fx.sL (by decide) (by decide)
            have l64 : ln (25 + s) = 64 := by rcases (show s = 0 ∨ s = 1 ∨ s = 2 ∨ s = 3 by omega) with rfl | rfl | rfl | rfl <;> rfl
            refine Oo.mk (h1 := sL h (25 + s) k u) (h2 := sL (sL h (25 + s) k u) 41 (64 * s + k) u) (v := 1) (K := K) (rl := rl) (d := d) (se := se) (w := w) (g := g) (j := j) (T := Tset T s (T.1 s) (T.2.1 s) (T.2.2.1 s) (fun q => if q = k then u else T.2.2.2 s q)) (fi := fi) ?_ ?_ (hI.sh b1 b2) (hC.sh F1 (ShC.set hC.2.2.2.2.2.1 ⟨by rw [hl]; exact a0, a1, a2, ?_⟩ (fun t ht => ⟨rfl, ?_⟩))) (hM1.sh F2 (ShM.set hM1.2.2.2.2.1 ⟨?_, p1, ?_⟩ (fun t ht hts => ⟨rfl, rfl, ?_⟩))) (F2.hi (by decide) (by decide))
            · show fX5_put h (nI s) (nI f) (nI k) v = _
              unfold fX5_put fX5_put_93
              simp only [nm_eq]
              rw [c0, bR_s, if_neg b2t, d0, bR_s, if_neg b2t, ck_in hs4 (by decide), nI_clamp (by omega), a0, if_pos b2f, a1, if_pos (ce.mpr hf), c_hasItem b2 a2, bR_s, hi, if_neg b2t, show 21 + s + 4 = 25 + s by omega, l64, ck_in (show k < 64 by omega) (by decide), ck_in (show k < 64 by omega) (by decide), nI_clamp (by omega), hu]
              by_cases q : nI f = 0
              · rw [if_pos q, if_pos q]
              · rw [if_neg q, if_neg q]
            · show fX6_put _ (nI s) (nI f) (nI k) v = _
              unfold fX6_put fX6_put_68 fX6_put_107
              simp only [nm_eq]
              rw [c1, bR_s, if_neg b2t, d1, bR_s, if_neg b2t, ck_in hs4 (by decide), nI_clamp (by omega), p0, if_neg (nm1 b1), ck_in hs4 (by decide), if_pos (ce.mpr hf), ck_in hs4 (by decide), p1, r_hasItem b2, bR_s, hi, if_neg b2t, if_pos (by decide), m64, nI_add, ck_in (show 64 * s + k < 256 by omega) (by decide), ck_in (show 64 * s + k < 256 by omega) (by decide), nI_clamp (by omega), hu]
              by_cases q : nI f = 0
              · rw [if_pos q, if_pos q]
              · rw [if_neg q, if_neg q]
            · intro q hq
              rw [sL_u]
              unfold vp_updL
              by_cases e : q = k
              · rw [if_pos e, if_pos e]
              · rw [if_neg e, if_neg e]; exact a3 q hq
            · rw [sL_r (by omega)]
            · rw [hl]; exact p0
            · intro q hq
              rw [sL_u]
              unfold vp_updL
              by_cases e : q = k
              · rw [if_pos (by omega), if_pos e]
              · rw [if_neg (by omega), if_neg e]; exact p2 q hq
            · intro q hq
              rw [sL_u, pk_uLn (by omega)]
        · refine Oo.fd (n := 3) (v := -13) hI hC hM ?_ ?_
          · show fX5_put h (nI s) (nI f) z v = _
            unfold fX5_put fX5_finding
            simp only [nm_eq]
            rw [c0, bR_s, if_neg b2t, d0, bR_s, if_neg b2t, ck_in hs4 (by decide), nI_clamp (by omega), a0, if_pos b2f, a1, if_neg (fun q => hf (ce.mp q)), bW_s]
            rfl
          · intro h1 hM1
            obtain ⟨p0, p1⟩ := pm h1 hM1
            show fX6_put h1 (nI s) (nI f) z v = _
            unfold fX6_put fX6_put_68 fX6_meets
            simp only [nm_eq]
            rw [c1, bR_s, if_neg b2t, d1, bR_s, if_neg b2t, ck_in hs4 (by decide), nI_clamp (by omega), p0, if_neg (nm1 b1), ck_in hs4 (by decide), if_neg (fun q => hf (ce.mp q)), if_neg (by decide), bW_s]
            rfl
      · rw [hl] at a0
        refine Oo.fd (n := 1) (v := -11) hI hC hM ?_ ?_
        · show fX5_put h (nI s) (nI f) z v = _
          unfold fX5_put fX5_finding
          simp only [nm_eq]
          rw [c0, bR_s, if_neg b2t, d0, bR_s, if_neg b2t, ck_in hs4 (by decide), nI_clamp (by omega), a0, if_neg b2t, bW_s]
          rfl
        · intro h1 hM1
          obtain ⟨p0, p1, p2⟩ := hM1.2.2.2.2.1 s hs4
          rw [hl, if_pos rfl] at p0
          show fX6_put h1 (nI s) (nI f) z v = _
          unfold fX6_put fX6_put_68 fX6_meets
          simp only [nm_eq]
          rw [c1, bR_s, if_neg b2t, d1, bR_s, if_neg b2t, ck_in hs4 (by decide), nI_clamp (by omega), p0, if_pos rfl, if_neg (by decide), bW_s]
          rfl
theorem o_get (B : Bo h) (x z : Int32) : Oo (fun h => fX5_get h x z) (fun h => fX6_get h x z) h := by
  have B0 := B
  obtain ⟨K, rl, d, se, w, g, j, T, fi, hI, hC, hM⟩ := B
  have c0 : fX5_isSheet h x = _ := g_isSheet x
  have c1 : ∀ h' : AH, fX6_isSheet h' x = _ := fun h' => m_isSheet x
  cases hx : rg x 0 3
  · rw [hx] at c0 c1
    refine Oo.no (v := (-9223372036854775808) - ((-2 : Int32).toInt64)) B0 ?_ ?_
    · show fX5_get h x z = _
      unfold fX5_get fX5_longRefusal
      rw [c0, bR_s, if_pos b2f, bR_s]
    · show fX6_get h x z = _
      unfold fX6_get fX6_no
      rw [c1, bR_s, if_pos b2f, bR_s]
  · rw [hx] at c0 c1
    obtain ⟨s, s1, s2, rfl⟩ := rg_n (by omega) hx
    have hs4 : s < 4 := by omega
    obtain ⟨a0, a1, a2, a3⟩ := hC.2.2.2.2.2.1 s hs4
    obtain ⟨b1, b2⟩ := hI.2.2.2.2.2.2.2 s hs4
    cases hl : T.1 s
    · rw [hl] at a0
      have pm : ∀ h1, Mo K rl d se w g j T fi h1 → h1.1 39 s = nI (T.2.1 s) ∧ h1.1 40 s = nI (T.2.2.1 s) := by
        intro h1 hM1
        obtain ⟨p0, p1, p2⟩ := hM1.2.2.2.2.1 s hs4
        rw [hl, if_neg (show ¬ (false = true) by decide)] at p0
        exact ⟨p0, p1⟩
      cases hi : decide (0 ≤ z.toInt ∧ z.toInt < T.2.2.1 s)
      · refine Oo.fd (n := 2) (v := (-9223372036854775808) - ((-12 : Int32).toInt64)) hI hC hM ?_ ?_
        · show fX5_get h (nI s) z = _
          unfold fX5_get fX5_finding fX5_longRefusal
          simp only [nm_eq]
          rw [c0, bR_s, if_neg b2t, ck_in hs4 (by decide), nI_clamp (by omega), a0, if_pos b2f, c_hasItem b2 a2, bR_s, hi, if_pos b2f, bW_s, bR_s]
          rfl
        · intro h1 hM1
          obtain ⟨p0, p1⟩ := pm h1 hM1
          show fX6_get h1 (nI s) z = _
          unfold fX6_get fX6_get_48 fX6_meets fX6_no
          simp only [nm_eq]
          rw [c1, bR_s, if_neg b2t, ck_in hs4 (by decide), nI_clamp (by omega), p0, if_neg (nm1 b1), ck_in hs4 (by decide), p1, r_hasItem b2, bR_s, hi, if_pos b2f, if_neg (by decide), bW_s, bR_s]
          rfl
      · obtain ⟨k, hk, rfl⟩ := it_of b2 hi
        obtain ⟨p0, p1⟩ := pm h hM
        obtain ⟨-, -, p2⟩ := hM.2.2.2.2.1 s hs4
        refine Oo.no (v := T.2.2.2 s k) B0 ?_ ?_
        · show fX5_get h (nI s) (nI k) = _
          unfold fX5_get
          simp only [nm_eq]
          rw [c0, bR_s, if_neg b2t, ck_in hs4 (by decide), nI_clamp (by omega), a0, if_pos b2f, c_hasItem b2 a2, bR_s, hi, if_neg b2t, ck_in (show k < 64 by omega) (by decide), show 21 + s + 4 = 25 + s by omega, nI_clamp (by omega), a3 k (by omega)]
        · show fX6_get h (nI s) (nI k) = _
          unfold fX6_get fX6_get_48
          simp only [nm_eq]
          rw [c1, bR_s, if_neg b2t, ck_in hs4 (by decide), nI_clamp (by omega), p0, if_neg (nm1 b1), ck_in hs4 (by decide), p1, r_hasItem b2, bR_s, hi, if_neg b2t, if_pos (by decide), m64, nI_add, ck_in (show 64 * s + k < 256 by omega) (by decide), nI_clamp (by omega), p2 k (by omega)]
    · rw [hl] at a0
      refine Oo.fd (n := 1) (v := (-9223372036854775808) - ((-11 : Int32).toInt64)) hI hC hM ?_ ?_
      · show fX5_get h (nI s) z = _
        unfold fX5_get fX5_finding fX5_longRefusal
        simp only [nm_eq]
        rw [c0, bR_s, if_neg b2t, ck_in hs4 (by decide), nI_clamp (by omega), a0, if_neg b2t, bW_s, bR_s]
        rfl
      · intro h1 hM1
        obtain ⟨p0, p1, p2⟩ := hM1.2.2.2.2.1 s hs4
        rw [hl, if_pos rfl] at p0
        show fX6_get h1 (nI s) z = _
        unfold fX6_get fX6_get_48 fX6_meets fX6_no
        simp only [nm_eq]
        rw [c1, bR_s, if_neg b2t, ck_in hs4 (by decide), nI_clamp (by omega), p0, if_pos rfl, if_neg (by decide), bW_s, bR_s]
        rfl
end SH
