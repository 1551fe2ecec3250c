/-! PURE: the class finds the pieces -/
section CF
variable {K s : Nat} {w : Nat → Bool} {lab : Nat → Nat} {Q R : List Nat} {h h1 h2 : AH}
theorem gd_l {i : Nat} (hi : i < Q.length) : (Q ++ R).getD i 0 = Q.getD i 0 := by
  rw [List.getD_eq_getElem?_getD, List.getD_eq_getElem?_getD, List.getElem?_append_left hi]
theorem gd_end {V : Nat} : (Q ++ [V]).getD Q.length 0 = V := by
  rw [List.getD_eq_getElem?_getD, List.getElem?_append_right (Nat.le_refl _), Nat.sub_self]
  rfl
theorem gd_of {V : Nat} (hV : V ∈ Q) : ∃ i, i < Q.length ∧ Q.getD i 0 = V := by
  obtain ⟨i, hi, e⟩ := List.getElem_of_mem hV
  refine ⟨i, hi, ?_⟩
  rw [List.getD_eq_getElem?_getD, List.getElem?_eq_getElem hi]
  exact e
def CQ (K : Nat) (w : Nat → Bool) (s : Nat) (lab : Nat → Nat) (Q : List Nat) (h : AH) : Prop :=
  (∀ i, i < Q.length → h.1 19 i = nI (Q.getD i 0)) ∧ h.1 13 7 = nI Q.length ∧ (∀ V, V < 8 * (K + 1) → h.1 18 V = b2i (decide (V ∈ Q) || decide (lab V ≠ 0))) ∧ (∀ V, V ∈ Q → rchW K w s V) ∧ Q.Nodup
/-- what a search changes -/
def FrQ (h h1 : AH) : Prop := Fx [13, 18, 19] [] h h1 ∧ h1.1 13 0 = h.1 13 0
theorem FrQ.rf (h : AH) : FrQ h h := ⟨Fx.rf _ _ _, rfl⟩
theorem FrQ.tr (a : FrQ h h1) (b : FrQ h1 h2) : FrQ h h2 := ⟨Fx.tr a.1 b.1, b.2.trans a.2⟩
theorem c_reach {U : Nat} (hK : K ≤ 6) (hO : Ot K w) (hs : ∃ b, w b = true ∧ inW K b s) (hz : ∀ V, rchW K w s V → lab V = 0) (hQ : CQ K w s lab Q h) (hU : rchW K w s U) : ∃ h1 R, fX1_reach h (nI U) = some h1 ∧ CQ K w s lab (Q ++ R) h1 ∧ U ∈ Q ++ R ∧ FrQ h h1 := by
  obtain ⟨q1, q2, q3, q4, q5⟩ := hQ
  obtain ⟨u1, u2⟩ := rchW_rg hO hU hs
  have hx : ∀ x, x ∈ Q → x < 56 := fun x hx => by have := (rchW_rg hO (q4 x hx) hs).2; omega
  unfold fX1_reach
  rw [ck_in (show U < 56 by omega) (by decide), nI_clamp (by omega), q3 U u2, hz U hU]
  by_cases e : U ∈ Q
  · refine ⟨h, [], ?_, ?_, ?_, FrQ.rf h⟩
    · rw [decide_eq_true e, Bool.true_or, if_neg b2t]
    · rw [List.append_nil]; exact ⟨q1, q2, q3, q4, q5⟩
    · rw [List.append_nil]; exact e
  · have hl : Q.length < 56 := nd_lt q5 e hx (by omega)
    rw [decide_eq_false e, show (decide ((0 : Nat) ≠ 0)) = false from rfl, Bool.false_or, if_pos b2f, ck_in (show U < 56 by omega) (by decide), nm_eq, nm_eq, sI_r (by decide), q2, ck_in hl (by decide), nm_eq, nm_eq, nI_clamp (by omega), sI_r (by decide), sI_r (by decide), q2, nI_1, nz1]
    refine ⟨_, [U], rfl, ⟨fun i hi => ?_, ?_, fun V hV => ?_, fun V hV => ?_, nd_app q5 e⟩, List.mem_append_right _ List.mem_cons_self, ⟨Fx.tr (Fx.tr (Fx.mo Fx.sI (by decide) (by decide)) (Fx.mo Fx.sI (by decide) (by decide))) (Fx.mo Fx.sI (by decide) (by decide)), ?_⟩⟩
    · rw [List.length_append] at hi
      rw [sI_r (by decide), sI_u]
      by_cases f : i = Q.length
      · rw [f, pk_us, gd_end]
      · have hi2 : i < Q.length := by
          have : i < Q.length + 1 := hi
          omega
        rw [pk_un f, sI_r (by decide), q1 i hi2, gd_l hi2]
    · rw [sI_u, pk_us, List.length_append]; rfl
    · rw [sI_r (by decide), sI_r (by decide), sI_u]
      by_cases f : V = U
      · rw [f, pk_us, decide_eq_true (List.mem_append_right _ List.mem_cons_self)]
        rfl
      · rw [pk_un f, q3 V hV]
        congr 2
        apply decide_eq_decide.mpr
        rw [List.mem_append, List.mem_singleton]
        exact ⟨Or.inl, fun r => r.resolve_right f⟩
    · rcases List.mem_append.mp hV with r | r
      · exact q4 V r
      · rw [List.mem_singleton] at r; rw [r]; exact hU
    · rw [sI_u, pk_un (by decide), sI_r (by decide), sI_r (by decide)]
theorem sr8 : ∀ v, v < 256 → ∀ c, c < 8 → (((nI v >>> (nI c &&& 31)) &&& 1) = 0 ↔ v.testBit c = false) := by decide +kernel
theorem ushr_bit (x : Int64) {r p : Nat} (hr : r < 64) : ((x.toUInt64 >>> ((nI r).toInt64.toUInt64 &&& Int64.toUInt64 63)).toInt64).toBitVec.getLsbD p = x.toBitVec.getLsbD (p + r) := by
  rw [← BitVec.testBit_toNat, T_ushr _ _ r (amt r hr), Nat.testBit_div_two_pow, BitVec.testBit_toNat]
/-- the places of a word's neighbours -/
def upW (V k : Nat) : Nat := 8 * (V / 8 + 1) + k
def dnW (V k : Nat) : Nat := 8 * (V / 8 - 1) + k
def upT (K : Nat) (w : Nat → Bool) (V k : Nat) : Bool := decide (V / 8 < K) && w (8 * V + k)
def dnT (w : Nat → Bool) (V k : Nat) : Bool := w (64 * (V / 8 - 1) + (8 * k + V % 8))
theorem up_adj {V k : Nat} (hk : k < 8) (h : upT K w V k = true) : adjW K w V (upW V k) := by
  unfold upT at h
  obtain ⟨h1, h2⟩ := Bool.and_eq_true_iff.mp h
  have h1 := of_decide_eq_true h1
  refine ⟨8 * V + k, h2, Or.inl (by omega), Or.inr ⟨by omega, ?_⟩⟩
  unfold upW
  omega
theorem dn_adj {V k : Nat} (h8 : 8 ≤ V) (hV : V < 8 * (K + 1)) (hk : k < 8) (h : dnT w V k = true) : adjW K w V (dnW V k) := by
  refine ⟨64 * (V / 8 - 1) + (8 * k + V % 8), h, Or.inr ⟨by omega, by omega⟩, Or.inl ?_⟩
  unfold dnW
  omega
theorem adj_all {V U : Nat} (h8 : 8 ≤ V) (hQ : V ∈ Q) (hu : ∀ k, k < 8 → upT K w V k = true → upW V k ∈ Q) (hd : ∀ k, k < 8 → dnT w V k = true → dnW V k ∈ Q) (a : adjW K w V U) : U ∈ Q := by
  obtain ⟨b, hb, i1, i2⟩ := a
  rcases i1 with p | ⟨p1, p2⟩
  · rcases i2 with r | ⟨r1, r2⟩
    · rw [← r, p]; exact hQ
    · have := hu (b % 8) (by omega) (by
        unfold upT
        rw [decide_eq_true (by omega), Bool.true_and, show 8 * V + b % 8 = b by omega]
        exact hb)
      unfold upW at this
      rw [show 8 * (V / 8 + 1) + b % 8 = U by omega] at this
      exact this
  · rcases i2 with r | ⟨r1, r2⟩
    · have := hd (b / 8 % 8) (by omega) (by
        unfold dnT
        rw [show 64 * (V / 8 - 1) + (8 * (b / 8 % 8) + V % 8) = b by omega]
        exact hb)
      unfold dnW at this
      rw [show 8 * (V / 8 - 1) + b / 8 % 8 = U by omega] at this
      exact this
    · rw [r2, ← p2]; exact hQ
theorem c_rn68 {V k : Nat} {x4 : Int32} {x5 : Int64} {k38 : AH → Int32 → Int32 → Int64 → Int32 → Option AH} (hK : K ≤ 6) (hO : Ot K w) (hs : ∃ b, w b = true ∧ inW K b s) (hz : ∀ V, rchW K w s V → lab V = 0) (hQ : CQ K w s lab Q h) (hV : rchW K w s V) (hk : k < 8) (hx5 : ∀ p, p < 8 → x5.toBitVec.getLsbD (8 * p) = dnT w V p) :
    ∃ h1 R, fX1_reachNeighbours_68 k38 1 (nI V) h (nI (V / 8)) x4 x5 (nI k) = k38 h1 (nI (V / 8)) x4 x5 (nI (k + 1)) ∧ CQ K w s lab (Q ++ R) h1 ∧ (dnT w V k = true → dnW V k ∈ Q ++ R) ∧ FrQ h h1 := by
  obtain ⟨u1, u2⟩ := rchW_rg hO hV hs
  unfold fX1_reachNeighbours_68
  rw [m8, g_bitOf h x5 (by omega), hx5 k hk, bR_s]
  cases hd : dnT w V k
  · rw [if_pos b2f]
    refine ⟨h, [], ?_, ?_, (fun q => by cases q), FrQ.rf h⟩
    · unfold fX1_reachNeighbours_94
      rw [nm_eq, nI_1]
    · rw [List.append_nil]; exact hQ
  · rw [if_neg b2t, show nI (V / 8) - 1 = nI (V / 8 - 1) from pk_sub (b := 1) (by omega), m8, nI_add]
    obtain ⟨h1, R, e1, e2, e3, e4⟩ := c_reach hK hO hs hz hQ (hV.st (dn_adj u1 u2 hk hd))
    rw [show fX1_reach h (nI (8 * (V / 8 - 1) + k)) = some h1 from e1, bR_s]
    refine ⟨h1, R, ?_, e2, fun _ => e3, e4⟩
    unfold fX1_reachNeighbours_94
    rw [nm_eq, nI_1]
theorem c_neigh {V : Nat} (hK : K ≤ 6) (hO : Ot K w) (hS : St 1 K w h) (hs : ∃ b, w b = true ∧ inW K b s) (hz : ∀ V, rchW K w s V → lab V = 0) (hQ : CQ K w s lab Q h) (hV : V ∈ Q) :
    ∃ h1 R, fX1_reachNeighbours h 1 (nI V) = some h1 ∧ CQ K w s lab (Q ++ R) h1 ∧ (∀ U, adjW K w V U → U ∈ Q ++ R) ∧ FrQ h h1 := by
  have hVr := hQ.2.2.2.1 V hV
  obtain ⟨u1, u2⟩ := rchW_rg hO hVr hs
  obtain ⟨x, x1, x2⟩ := c_wrongColumn hS u1 (show V < 56 by omega)
  have main : ∀ N, N < 256 → (∀ k, k < 8 → N.testBit k = upT K w V k) → ∃ h1 R, fX1_reachNeighbours_21 1 (nI V) h (nI (V / 8)) (nI N) = some h1 ∧ CQ K w s lab (Q ++ R) h1 ∧ (∀ U, adjW K w V U → U ∈ Q ++ R) ∧ FrQ h h1 := by
    intro N hN hNb
    unfold fX1_reachNeighbours_21
    rw [x1, bR_s, nm_eq, and7 (by omega)]
    have hx5 : ∀ p, p < 8 → (((x.toUInt64 >>> ((nI (V % 8)).toInt64.toUInt64 &&& Int64.toUInt64 63)).toInt64).toBitVec.getLsbD (8 * p)) = dnT w V p := by
      intro p hp
      rw [ushr_bit x (by omega), x2 _ (by omega), decide_eq_true (by omega), Bool.and_true]
      rfl
    generalize hx : (x.toUInt64 >>> ((nI (V % 8)).toInt64.toUInt64 &&& Int64.toUInt64 63)).toInt64 = y at hx5
    refine linv (fun f (st : AH × Int32) => fX1_reachNeighbours_38 1 (nI V) f st.1 (nI (V / 8)) (nI N) y st.2) (fun k st => st.2 = nI k ∧ ∃ R, CQ K w s lab (Q ++ R) st.1 ∧ (∀ p, p < k → (upT K w V p = true → upW V p ∈ Q ++ R) ∧ (dnT w V p = true → dnW V p ∈ Q ++ R)) ∧ FrQ h st.1) 8 (fun o => ∃ h1 R, o = some h1 ∧ CQ K w s lab (Q ++ R) h1 ∧ (∀ U, adjW K w V U → U ∈ Q ++ R) ∧ FrQ h h1) ?_ ?_ 8 0 FU (h, 0) rfl (FU_lt (by decide)) ⟨rfl, [], by rw [List.append_nil]; exact hQ, fun p hp => absurd hp (Nat.not_lt_zero p), FrQ.rf h⟩
    · intro f k st hk hI
      obtain ⟨s1, s2⟩ := st
      obtain ⟨i1, R, i2, i3, i4⟩ := hI
      simp only at i1 i2 i3 i4
      subst i1
      show ∃ s', _ ∧ fX1_reachNeighbours_38b (fX1_reachNeighbours_38 1 (nI V) f) 1 (nI V) s1 (nI (V / 8)) (nI N) y (nI k) = _
      unfold fX1_reachNeighbours_38b
      rw [if_neg (show ¬ (8 : Int32) ≤ nI k from nI_ge (b := 8) hk (by decide))]
      have fin : ∀ (h2 : AH) (R2 : List Nat), CQ K w s lab (Q ++ R ++ R2) h2 → FrQ s1 h2 → (upT K w V k = true → upW V k ∈ Q ++ R ++ R2) → ∃ s' : AH × Int32, (s'.2 = nI (k + 1) ∧ ∃ R, CQ K w s lab (Q ++ R) s'.1 ∧ (∀ p, p < k + 1 → (upT K w V p = true → upW V p ∈ Q ++ R) ∧ (dnT w V p = true → dnW V p ∈ Q ++ R)) ∧ FrQ h s'.1) ∧ fX1_reachNeighbours_68 (fX1_reachNeighbours_38 1 (nI V) f) 1 (nI V) h2 (nI (V / 8)) (nI N) y (nI k) = fX1_reachNeighbours_38 1 (nI V) f s'.1 (nI (V / 8)) (nI N) y s'.2 := by
        intro h2 R2 c1 c2 c3
        obtain ⟨h3, R3, e1, e2, e3, e4⟩ := c_rn68 (k38 := fX1_reachNeighbours_38 1 (nI V) f) (x4 := nI N) hK hO hs hz c1 hVr hk hx5
        refine ⟨(h3, nI (k + 1)), ⟨rfl, R ++ R2 ++ R3, ?_, fun p hp => ?_, FrQ.tr i4 (FrQ.tr c2 e4)⟩, e1⟩
        · rw [← List.append_assoc, ← List.append_assoc]; exact e2
        · rw [← List.append_assoc, ← List.append_assoc]
          by_cases e : p = k
          · subst e
            exact ⟨fun q => List.mem_append_left _ (c3 q), e3⟩
          · obtain ⟨j1, j2⟩ := i3 p (by omega)
            exact ⟨fun q => List.mem_append_left _ (List.mem_append_left _ (j1 q)), fun q => List.mem_append_left _ (List.mem_append_left _ (j2 q))⟩
      cases hu : upT K w V k
      · rw [if_pos ((sr8 N hN k hk).mpr (by rw [hNb k hk]; exact hu))]
        exact fin s1 [] (by rw [List.append_nil]; exact i2) (FrQ.rf s1) (fun q => by rw [hu] at q; cases q)
      · rw [if_neg (fun q => by have := (sr8 N hN k hk).mp q; rw [hNb k hk, hu] at this; cases this), nI_1, m8, nI_add]
        obtain ⟨h2, R2, e1, e2, e3, e4⟩ := c_reach hK hO hs hz i2 (hVr.st (up_adj hk hu))
        rw [show fX1_reach s1 (nI (8 * (V / 8 + 1) + k)) = some h2 from e1, bR_s]
        exact fin h2 R2 e2 e4 (fun _ => e3)
    · intro f st hI
      obtain ⟨s1, s2⟩ := st
      obtain ⟨i1, R, i2, i3, i4⟩ := hI
      simp only at i1 i2 i3 i4
      subst i1
      refine ⟨s1, R, ?_, i2, fun U hU => adj_all u1 (List.mem_append_left _ hV) (fun k hk => (i3 k hk).1) (fun k hk => (i3 k hk).2) hU, i4⟩
      show fX1_reachNeighbours_38b _ 1 (nI V) s1 (nI (V / 8)) (nI N) y (nI 8) = _
      unfold fX1_reachNeighbours_38b
      rw [if_pos (show (8 : Int32) ≤ nI 8 by decide)]
  unfold fX1_reachNeighbours
  rw [nm_eq, shr3 (by omega), hS.1]
  by_cases e : K ≤ V / 8
  · rw [if_pos (nI_le e (by omega))]
    exact main 0 (by decide) (fun k _ => by unfold upT; rw [decide_eq_false (by omega), Bool.false_and]; exact Nat.zero_testBit k)
  · rw [if_neg (nI_ge (by omega) (by omega)), c_wrongRow hS (by omega), bR_s]
    exact main (rwN w V) (rwN_lt w V) (fun k hk => by unfold upT; rw [rwN_bit hk, decide_eq_true (by omega), Bool.true_and])
theorem tz32 : ∀ N, N < 256 → N ≠ 0 → bc32 ((nI N &&& (-(nI N))) - 1) = nI (tzN N) := by decide +kernel
theorem r_tz (h : AH) {N : Nat} (hN : N < 256) (h0 : N ≠ 0) : fJ6_bitCount_0f7a4 h ((nI N &&& (-(nI N))) - 1) = some (nI (tzN N)) := by
  rw [← tz32 N hN h0]
  rfl
theorem pop_row (h : AH) (V : Nat) : fJ6_bitCount_0f7a4 h (nI (rwN w V)) = some (nI (cnt (fun c => w (8 * V + c)) 8)) := by
  rw [pop8 h (rwN_lt w V)]
  congr 2
  exact cnt_cong (fun c hc => rwN_bit hc)
theorem sum_le8 {f : Nat → Nat} (hf : ∀ i, f i ≤ 8) : ∀ n, sumN f n ≤ 8 * n := by
  intro n
  induction n with
  | zero => exact Nat.le_refl 0
  | succ n ih => show sumN f n + f n ≤ 8 * (n + 1); have := hf n; omega
def sqB (w : Nat → Bool) (Q : List Nat) (n : Nat) : Nat := sumN (fun i => cnt (fun c => w (8 * Q.getD i 0 + c)) 8) n
def sqT (w : Nat → Bool) (Q : List Nat) (n : Nat) : Bool := cnt (fun i => decide (onN w (Q.getD i 0) 16 < 2)) n == 0
theorem sqB_app {n : Nat} (hn : n ≤ Q.length) : sqB w (Q ++ R) n = sqB w Q n := sumN_cong (fun t ht => by rw [gd_l (by omega)])
theorem sqT_app {n : Nat} (hn : n ≤ Q.length) : sqT w (Q ++ R) n = sqT w Q n := by
  unfold sqT
  rw [cnt_cong (fun t ht => by rw [gd_l (by omega)])]
theorem sqT_s {n : Nat} : sqT w Q (n + 1) = (sqT w Q n && !(decide (onN w (Q.getD n 0) 16 < 2))) := by
  unfold sqT
  show ((cnt (fun i => decide (onN w (Q.getD i 0) 16 < 2)) n + (if decide (onN w (Q.getD n 0) 16 < 2) then 1 else 0)) == 0) = _
  by_cases e : onN w (Q.getD n 0) 16 < 2
  · rw [decide_eq_true e, if_pos rfl, Bool.not_true, Bool.and_false]
    exact beq_false_of_ne (by omega)
  · rw [decide_eq_false e, if_neg (by decide), Bool.not_false, Bool.and_true]
    rfl
/-- a whole search -/
theorem c_spread18 {a2 : Int32} (hK : K ≤ 6) (hO : Ot K w) (hS : St 1 K w h) (hs : ∃ b, w b = true ∧ inW K b s) (hz : ∀ V, rchW K w s V → lab V = 0) (hQ : CQ K w s lab Q h) (hsQ : s ∈ Q) :
    ∃ h1 Q', fX1_spread_18 1 a2 FU h 0 1 0 = fX1_spread_81 1 a2 h1 (nI (sqB w Q' Q'.length)) (b2i (sqT w Q' Q'.length)) ∧ CQ K w s lab Q' h1 ∧ (∀ V, V ∈ Q' ↔ rchW K w s V) ∧ FrQ h h1 := by
  refine lmea (fun f (st : AH × Int32 × Int32 × Int32) => fX1_spread_18 1 a2 f st.1 st.2.1 st.2.2.1 st.2.2.2) (fun n st => ∃ Q', CQ K w s lab Q' st.1 ∧ s ∈ Q' ∧ n ≤ Q'.length ∧ (∀ i, i < n → ∀ U, adjW K w (Q'.getD i 0) U → U ∈ Q') ∧ st.2.1 = nI (sqB w Q' n) ∧ st.2.2.1 = b2i (sqT w Q' n) ∧ st.2.2.2 = nI n ∧ FrQ h st.1) 56 (fun o => ∃ h1 Q', o = fX1_spread_81 1 a2 h1 (nI (sqB w Q' Q'.length)) (b2i (sqT w Q' Q'.length)) ∧ CQ K w s lab Q' h1 ∧ (∀ V, V ∈ Q' ↔ rchW K w s V) ∧ FrQ h h1) ?_ FU 0 (h, 0, 1, 0) (by decide) (FU_lt (by decide)) ⟨Q, hQ, hsQ, Nat.zero_le _, fun i hi => absurd hi (Nat.not_lt_zero i), rfl, rfl, rfl, FrQ.rf h⟩
  intro f n st hI
  obtain ⟨s1, s2, s3, s4⟩ := st
  obtain ⟨Q', i1, i2, i3, i4, i5, i6, i7, i8⟩ := hI
  simp only at i1 i2 i3 i4 i5 i6 i7 i8
  subst i5 i6 i7
  have hx : ∀ x, x ∈ Q' → x < 56 := fun x hx => by have := (rchW_rg hO (i1.2.2.2.1 x hx) hs).2; omega
  have hl := nd_le i1.2.2.2.2 hx
  by_cases e : n = Q'.length
  · left
    refine ⟨s1, Q', ?_, i1, fun V => ⟨i1.2.2.2.1 V, fun q => ?_⟩, i8⟩
    · show fX1_spread_18b _ 1 a2 s1 _ _ _ = _
      unfold fX1_spread_18b
      rw [i1.2.1, if_pos (nI_le (by omega) (by omega)), e]
    · refine q (fun X => X ∈ Q') i2 (fun V U p r => ?_)
      obtain ⟨i, hi, e2⟩ := gd_of p
      exact i4 i (by omega) U (by rw [e2]; exact r)
  · right
    have hn : n < Q'.length := by omega
    refine ⟨by omega, ?_⟩
    have hV := jd_mem hn
    have hVr := i1.2.2.2.1 _ hV
    obtain ⟨u1, u2⟩ := rchW_rg hO hVr hs
    have hS1 : St 1 K w s1 := St.fx i8.1 hS (by decide) (by decide) (by decide)
    obtain ⟨h2, R, e1, e2, e3, e4⟩ := c_neigh hK hO hS1 hs hz i1 hV
    have ex : fX1_spread_18b (fX1_spread_18 1 a2 f) 1 a2 s1 (nI (sqB w Q' n)) (b2i (sqT w Q' n)) (nI n) = fX1_spread_18 1 a2 f h2 (nI (sqB w (Q' ++ R) (n + 1))) (b2i (sqT w (Q' ++ R) (n + 1))) (nI (n + 1)) := by
      unfold fX1_spread_18b
      rw [i1.2.1, if_neg (nI_ge hn (by omega)), if_neg (show ¬ (56 : Int32) ≤ nI n from nI_ge (b := 56) (by omega) (by decide)), ck_in (show n < 56 by omega) (by decide), nm_eq, nI_clamp (by omega), i1.1 n hn, c_wrongRow hS1 (by omega), bR_s]
      rw [show rowN (fun c => w (8 * Q'.getD n 0 + c)) 8 = rwN w (Q'.getD n 0) from rfl, pop_row, bR_s, nm_eq, nI_add, c_wrongBitsOf hS1 u1 (by omega), bR_s]
      have g1 : sqB w (Q' ++ R) (n + 1) = sqB w Q' n + cnt (fun c => w (8 * Q'.getD n 0 + c)) 8 := by
        rw [sqB_app (by omega)]; rfl
      have g2 : sqT w (Q' ++ R) (n + 1) = (sqT w Q' n && !(decide (onN w (Q'.getD n 0) 16 < 2))) := by
        rw [sqT_app (by omega), sqT_s]
      have ol := onN_le w (Q'.getD n 0)
      rw [g1, g2]
      by_cases t : onN w (Q'.getD n 0) 16 < 2
      · rw [if_neg (show ¬ (2 : Int32) ≤ nI (onN w (Q'.getD n 0) 16) from nI_ge (b := 2) t (by decide)), decide_eq_true t, Bool.not_true, Bool.and_false]
        unfold fX1_spread_68
        rw [e1, bR_s, nm_eq, nI_1]
        rfl
      · rw [if_pos (show (2 : Int32) ≤ nI (onN w (Q'.getD n 0) 16) from nI_le (a := 2) (by omega) (by omega)), decide_eq_false t, Bool.not_false, Bool.and_true]
        unfold fX1_spread_68
        rw [e1, bR_s, nm_eq, nI_1]
    refine ⟨(h2, nI (sqB w (Q' ++ R) (n + 1)), b2i (sqT w (Q' ++ R) (n + 1)), nI (n + 1)), ⟨Q' ++ R, e2, List.mem_append_left _ i2, ?_, fun i hi U hU => ?_, rfl, rfl, rfl, FrQ.tr i8 e4⟩, ex⟩
    · rw [List.length_append]; omega
    · by_cases f2 : i = n
      · subst f2
        rw [gd_l hn] at hU
        exact e3 U hU
      · rw [gd_l (by omega)] at hU
        exact List.mem_append_left _ (i4 i (by omega) U hU)
theorem if_mem {s : Nat} {f : Nat → Nat} {N : Nat} (hQ : ∀ V, V ∈ Q ↔ rchW K w s V) : sumN (fun x => if decide (x ∈ Q) = true then f x else 0) N = sumN (fun x => if rcB K w s x = true then f x else 0) N := by
  refine sumN_cong (fun t _ => ?_)
  by_cases e : t ∈ Q
  · rw [decide_eq_true e, if_pos rfl, if_pos (rcB_iff.mpr ((hQ t).mp e))]
  · rw [decide_eq_false e, if_neg (by decide), if_neg (fun r => e ((hQ t).mpr (rcB_iff.mp r)))]
theorem q_bits {s : Nat} (hn : Q.Nodup) (hx : ∀ x, x ∈ Q → x < 56) (hQ : ∀ V, V ∈ Q ↔ rchW K w s V) : sqB w Q Q.length = cnt (fun b => w b && rcB K w s (b / 8)) 448 := by
  unfold sqB
  rw [nd_sum (f := fun V => cnt (fun c => w (8 * V + c)) 8) Q hn hx, if_mem hQ, show (448 : Nat) = 8 * 56 from rfl, cnt_rows]
  refine sumN_cong (fun V _ => ?_)
  by_cases e : rcB K w s V = true
  · rw [if_pos e]
    exact cnt_cong (fun c hc => by rw [show (8 * V + c) / 8 = V by omega, e, Bool.and_true])
  · rw [if_neg e]
    exact (cnt_none (fun c hc => by rw [show (8 * V + c) / 8 = V by omega, rcB_f.mpr (fun r => e (rcB_iff.mpr r)), Bool.and_false])).symm
theorem q_len {s : Nat} (hn : Q.Nodup) (hx : ∀ x, x ∈ Q → x < 56) (hQ : ∀ V, V ∈ Q ↔ rchW K w s V) : Q.length = cnt (fun V => rcB K w s V) 56 := by
  rw [nd_len hn hx]
  refine cnt_cong (fun t _ => ?_)
  by_cases e : t ∈ Q
  · rw [decide_eq_true e, rcB_iff.mpr ((hQ t).mp e)]
  · rw [decide_eq_false e, rcB_f.mpr (fun r => e ((hQ t).mpr r))]
theorem q_stuck {s : Nat} (hn : Q.Nodup) (hx : ∀ x, x ∈ Q → x < 56) (hQ : ∀ V, V ∈ Q ↔ rchW K w s V) : sqT w Q Q.length = (cnt (fun V => rcB K w s V && decide (onN w V 16 < 2)) 56 == 0) := by
  unfold sqT
  rw [cnt_sum, cnt_sum, nd_sum (f := fun V => if decide (onN w V 16 < 2) = true then 1 else 0) Q hn hx, if_mem hQ]
  congr 1
  refine sumN_cong (fun V _ => ?_)
  cases rcB K w s V
  · rfl
  · rfl
theorem c_spread {n : Nat} (hK : K ≤ 6) (hO : Ot K w) (hS : St 1 K w h) (hs : ∃ b, w b = true ∧ inW K b s) (hz : ∀ V, rchW K w s V → lab V = 0) (hf : ∀ V, V < 8 * (K + 1) → h.1 18 V = b2i (decide (lab V ≠ 0))) (hn : h.1 13 0 = nI n) (hn56 : n < 56) :
    ∃ h1, fX1_spread h 1 (nI s) = some h1 ∧ (∀ V, V < 8 * (K + 1) → h1.1 18 V = b2i (rcB K w s V || decide (lab V ≠ 0))) ∧ h1.1 13 0 = nI n ∧
      h1.1 14 = upd (h.1 14) n (nI (cnt (fun b => w b && rcB K w s (b / 8)) 448)) ∧ h1.1 15 = upd (h.1 15) n (nI (cnt (fun V => rcB K w s V) 56)) ∧ h1.1 16 = upd (h.1 16) n (b2i (cnt (fun V => rcB K w s V && decide (onN w V 16 < 2)) 56 == 0)) ∧ Fx [13, 14, 15, 16, 18, 19] [] h h1 := by
  unfold fX1_spread
  rw [nm_eq]
  have F0 : Fx [13] [] h (sI h 13 7 0) := Fx.sI
  have hQ0 : CQ K w s lab [] (sI h 13 7 0) := by
    refine ⟨fun i hi => absurd hi (Nat.not_lt_zero i), ?_, fun V hV => ?_, fun V hV => (by cases hV), List.nodup_nil⟩
    · rw [sI_u, pk_us]; rfl
    · rw [sI_r (by decide), hf V hV]; rfl
  obtain ⟨h2, R, e1, e2, e3, e4⟩ := c_reach hK hO hs hz hQ0 (rchW.rf s)
  rw [e1, bR_s]
  have hS2 : St 1 K w h2 := St.fx e4.1 (St.fx F0 hS (by decide) (by decide) (by decide)) (by decide) (by decide) (by decide)
  obtain ⟨h3, Q', g1, g2, g3, g4⟩ := c_spread18 (a2 := nI s) hK hO hS2 hs hz e2 e3
  rw [g1]
  have hx : ∀ x, x ∈ Q' → x < 56 := fun x hx => by have := (rchW_rg hO (g2.2.2.2.1 x hx) hs).2; omega
  have h130 : h3.1 13 0 = nI n := by rw [g4.2, e4.2, sI_u, pk_un (by decide)]; exact hn
  have FA : Fx [13, 14, 15, 16, 18, 19] [] h h3 := Fx.tr (Fx.tr (Fx.mo F0 (by decide) (by decide)) (Fx.mo e4.1 (by decide) (by decide))) (Fx.mo g4.1 (by decide) (by decide))
  unfold fX1_spread_81
  simp only [nm_eq]
  rw [sI_r (show (13 : Nat) ≠ 14 by decide), sI_r (show (13 : Nat) ≠ 15 by decide), sI_r (show (13 : Nat) ≠ 14 by decide), h130, ck_in hn56 (by decide), ck_in hn56 (by decide), ck_in hn56 (by decide), nI_clamp (by omega), g2.2.1, q_bits g2.2.2.2.2 hx g3, q_stuck g2.2.2.2.2 hx g3, q_len g2.2.2.2.2 hx g3]
  refine ⟨_, rfl, fun V hV => ?_, ?_, ?_, ?_, ?_, Fx.tr FA (Fx.tr (Fx.tr (Fx.mo Fx.sI (by decide) (by decide)) (Fx.mo Fx.sI (by decide) (by decide))) (Fx.mo Fx.sI (by decide) (by decide)))⟩
  · rw [sI_r (by decide), sI_r (by decide), sI_r (by decide), g2.2.2.1 V hV]
    congr 2
    by_cases e : V ∈ Q'
    · rw [decide_eq_true e, rcB_iff.mpr ((g3 V).mp e)]
    · rw [decide_eq_false e, rcB_f.mpr (fun r => e ((g3 V).mpr r))]
  · rw [sI_r (by decide), sI_r (by decide), sI_r (by decide)]; exact h130
  · rw [sI_r (by decide), sI_r (by decide), sI_u, g4.1.1 14 (by decide), e4.1.1 14 (by decide), F0.1 14 (by decide)]
  · rw [sI_r (by decide), sI_u, sI_r (by decide), g4.1.1 15 (by decide), e4.1.1 15 (by decide), F0.1 15 (by decide)]
  · rw [sI_u, sI_r (by decide), sI_r (by decide), g4.1.1 16 (by decide), e4.1.1 16 (by decide), F0.1 16 (by decide)]
/-- what the class has found -/
def CP (K : Nat) (w : Nat → Bool) (S : PS) (h : AH) : Prop :=
  h.1 13 0 = nI S.1 ∧ ∀ k, k < S.1 → h.1 14 k = pvV K w (S.2.2 k) 0 ∧ h.1 15 k = pvV K w (S.2.2 k) 1 ∧ h.1 16 k = pvV K w (S.2.2 k) 2 ∧ h.1 17 k = pvV K w (S.2.2 k) 3
theorem c_find33 {h0 : AH} (hK : K ≤ 6) (hO : Ot K w) (hS : St 1 K w h0) (hz : h0.1 13 0 = 0) (hf : ∀ V, V < 8 * (K + 1) → h0.1 18 V = 0) : ∃ h1, fX1_find_33 1 FU h0 (nI (8 * (K + 1))) 8 = some h1 ∧ CP K w (bcS K w 448) h1 ∧ Fx [13, 14, 15, 16, 17, 18, 19] [] h0 h1 := by
  refine linv (fun f (st : AH × Int32) => fX1_find_33 1 f st.1 (nI (8 * (K + 1))) st.2) (fun m st => st.2 = nI (8 + m) ∧ CP K w (bcS K w (8 * (8 + m))) st.1 ∧ (∀ V, V < 8 * (K + 1) → st.1.1 18 V = b2i (decide ((bcS K w (8 * (8 + m))).2.1 V ≠ 0))) ∧ Fx [13, 14, 15, 16, 17, 18, 19] [] h0 st.1) (8 * K) (fun o => ∃ h1, o = some h1 ∧ CP K w (bcS K w 448) h1 ∧ Fx [13, 14, 15, 16, 17, 18, 19] [] h0 h1) ?_ ?_ (8 * K) 0 FU (h0, 8) (Nat.zero_add _) (FU_lt (by omega)) ⟨rfl, ?_, ?_, Fx.rf _ _ _⟩
  · intro f m st hm hI
    obtain ⟨s1, s2⟩ := st
    obtain ⟨i1, i2, i3, i4⟩ := hI
    simp only at i1 i2 i3 i4
    subst i1
    have hS1 : St 1 K w s1 := St.fx i4 hS (by decide) (by decide) (by decide)
    show ∃ s', _ ∧ fX1_find_33b (fX1_find_33 1 f) 1 s1 (nI (8 * (K + 1))) (nI (8 + m)) = _
    unfold fX1_find_33b
    rw [if_neg (nI_ge (by omega) (by omega)), c_wrongRow hS1 (by omega), bR_s, show rowN (fun c => w (8 * (8 + m) + c)) 8 = rwN w (8 + m) from rfl]
    have br := bcS_row (K := K) (w := w) (8 + m)
    have skip : bcS K w (8 * (8 + m) + 8) = bcS K w (8 * (8 + m)) → ∃ s' : AH × Int32, (s'.2 = nI (8 + (m + 1)) ∧ CP K w (bcS K w (8 * (8 + (m + 1)))) s'.1 ∧ (∀ V, V < 8 * (K + 1) → s'.1.1 18 V = b2i (decide ((bcS K w (8 * (8 + (m + 1)))).2.1 V ≠ 0))) ∧ Fx [13, 14, 15, 16, 17, 18, 19] [] h0 s'.1) ∧ fX1_find_100 (fX1_find_33 1 f) 1 s1 (nI (8 * (K + 1))) (nI (8 + m)) = fX1_find_33 1 f s'.1 (nI (8 * (K + 1))) s'.2 := by
      intro e
      refine ⟨(s1, nI (8 + m + 1)), ⟨rfl, ?_, ?_, i4⟩, ?_⟩
      · rw [show 8 * (8 + (m + 1)) = 8 * (8 + m) + 8 by omega, e]; exact i2
      · rw [show 8 * (8 + (m + 1)) = 8 * (8 + m) + 8 by omega, e]; exact i3
      · unfold fX1_find_100
        rw [nm_eq, nI_1]
    have hrl := rwN_lt w (8 + m)
    by_cases r0 : rwN w (8 + m) = 0
    · rw [if_pos (by rw [r0]; rfl)]
      exact skip (by rw [br, if_neg (fun q => q.1 r0)])
    · rw [if_neg (show ¬ nI (rwN w (8 + m)) = 0 from fun q => r0 ((nI_eq (b := 0) (by omega) (by decide)).mp q)), ck_in (show 8 + m < 56 by omega) (by decide), nI_clamp (by omega), i3 (8 + m) (by omega)]
      by_cases l0 : (bcS K w (8 * (8 + m))).2.1 (8 + m) = 0
      · rw [decide_eq_false (fun q => q l0), if_pos b2f, r_tz s1 hrl r0, bR_s, nm_eq, i2.1]
        have hcn := bcS_cnt hO m
        obtain ⟨t1, t2, t3⟩ := tzN_ok (rwN w (8 + m)) hrl r0
        rw [rwN_bit t1] at t2
        rw [ck_in (show (bcS K w (8 * (8 + m))).1 < 56 by omega) (by decide), nm_eq, nI_clamp (by omega), m8, nI_add]
        rw [if_pos ⟨r0, l0⟩] at br
        have pin := bcS_inv (K := K) (w := w) (8 * (8 + m))
        have hz2 : ∀ V, rchW K w (8 + m) V → (bcS K w (8 * (8 + m))).2.1 V = 0 := fun V q => (lab_rch pin.2.1 q).symm.trans l0
        have F1 : Fx [17] [] s1 (sI s1 17 (bcS K w (8 * (8 + m))).1 (nI (8 * (8 + m) + tzN (rwN w (8 + m))))) := Fx.sI
        obtain ⟨h2, e1, e2, e3, e4, e5, e6, e7⟩ := c_spread (s := 8 + m) (n := (bcS K w (8 * (8 + m))).1) hK hO (St.fx F1 hS1 (by decide) (by decide) (by decide)) ⟨_, t2, Or.inl (by omega)⟩ hz2 (fun V hV => by rw [sI_r (by decide)]; exact i3 V hV) (by rw [sI_r (by decide)]; exact i2.1) (by omega)
        rw [e1, bR_s, nm_eq, e3, nI_1]
        refine ⟨(sI h2 13 0 (nI ((bcS K w (8 * (8 + m))).1 + 1)), nI (8 + m + 1)), ⟨rfl, ?_, fun V hV => ?_, Fx.tr i4 (Fx.tr (Fx.mo F1 (by decide) (by decide)) (Fx.tr (Fx.mo e7 (by decide) (by decide)) (Fx.mo Fx.sI (by decide) (by decide))))⟩, ?_⟩
        · rw [show 8 * (8 + (m + 1)) = 8 * (8 + m) + 8 by omega, br]
          refine ⟨?_, fun k hk => ?_⟩
          · show (sI h2 13 0 _).1 13 0 = nI ((bcS K w (8 * (8 + m))).1 + 1)
            rw [sI_u, pk_us]
          · show (sI h2 13 0 (nI ((bcS K w (8 * (8 + m))).1 + 1))).1 14 k = _ ∧ (sI h2 13 0 (nI ((bcS K w (8 * (8 + m))).1 + 1))).1 15 k = _ ∧ (sI h2 13 0 (nI ((bcS K w (8 * (8 + m))).1 + 1))).1 16 k = _ ∧ (sI h2 13 0 (nI ((bcS K w (8 * (8 + m))).1 + 1))).1 17 k = _
            rw [sI_r (show (14 : Nat) ≠ 13 by decide), sI_r (show (15 : Nat) ≠ 13 by decide), sI_r (show (16 : Nat) ≠ 13 by decide), sI_r (show (17 : Nat) ≠ 13 by decide), e4, e5, e6, e7.1 17 (by decide), sI_u]
            rw [sI_r (show (14 : Nat) ≠ 17 by decide), sI_r (show (15 : Nat) ≠ 17 by decide), sI_r (show (16 : Nat) ≠ 17 by decide)]
            have hk' : k < (bcS K w (8 * (8 + m))).1 + 1 := hk
            have es : (addP K w (8 * (8 + m) + tzN (rwN w (8 + m))) (bcS K w (8 * (8 + m)))).2.2 k = if k = (bcS K w (8 * (8 + m))).1 then 8 * (8 + m) + tzN (rwN w (8 + m)) else (bcS K w (8 * (8 + m))).2.2 k := rfl
            rw [es]
            by_cases ek : k = (bcS K w (8 * (8 + m))).1
            · rw [if_pos ek, ek, pk_us, pk_us, pk_us, pk_us]
              unfold pvV
              rw [show (8 * (8 + m) + tzN (rwN w (8 + m))) / 8 = 8 + m by omega]
              exact ⟨rfl, rfl, rfl, rfl⟩
            · rw [if_neg ek, pk_un ek, pk_un ek, pk_un ek, pk_un ek]
              exact i2.2 k (by omega)
        · rw [show 8 * (8 + (m + 1)) = 8 * (8 + m) + 8 by omega, br]
          show (sI h2 13 0 _).1 18 V = b2i (decide ((if rcB K w ((8 * (8 + m) + tzN (rwN w (8 + m))) / 8) V then (bcS K w (8 * (8 + m))).1 + 1 else (bcS K w (8 * (8 + m))).2.1 V) ≠ 0))
          rw [sI_r (by decide), e2 V hV, show (8 * (8 + m) + tzN (rwN w (8 + m))) / 8 = 8 + m by omega]
          cases rcB K w (8 + m) V
          · rw [Bool.false_or, if_neg (by decide)]
          · rw [Bool.true_or, if_pos rfl, decide_eq_true (by omega)]
        · unfold fX1_find_100
          rw [nm_eq, nI_1]
      · rw [decide_eq_true l0, if_neg b2t]
        exact skip (by rw [br, if_neg (fun q => l0 q.2)])
  · intro f st hI
    obtain ⟨s1, s2⟩ := st
    obtain ⟨i1, i2, i3, i4⟩ := hI
    simp only at i1 i2 i3 i4
    subst i1
    refine ⟨s1, ?_, ?_, i4⟩
    · show fX1_find_33b _ 1 s1 (nI (8 * (K + 1))) (nI (8 + 8 * K)) = _
      unfold fX1_find_33b
      rw [if_pos (nI_le (by omega) (by omega))]
    · rw [bcS_top hO hK, show 8 * (K + 1) = 8 + 8 * K by omega]; exact i2
  · show CP K w (bcS K w 64) h0
    rw [bcS_64 hO]
    exact ⟨hz, fun k hk => absurd hk (Nat.not_lt_zero k)⟩
  · intro V hV
    show h0.1 18 V = b2i (decide ((bcS K w 64).2.1 V ≠ 0))
    rw [bcS_64 hO, hf V hV]
    rfl
theorem c_find (hK : K ≤ 6) (hO : Ot K w) (hS : St 1 K w h) : ∃ h1, fX1_find h 1 = some h1 ∧ CP K w (bcS K w 448) h1 ∧ Fx [13, 14, 15, 16, 17, 18, 19] [] h h1 := by
  unfold fX1_find
  have F0 : Fx [13] [] h (sI h 13 0 0) := Fx.sI
  have hS0 : St 1 K w (sI h 13 0 0) := St.fx F0 hS (by decide) (by decide) (by decide)
  rw [nm_eq, c_endOfWords hS0, bR_s]
  refine linv (fun f (st : AH × Int32) => fX1_find_12 1 f st.1 (nI (8 * (K + 1))) st.2) (fun m st => st.2 = nI m ∧ (∀ V, V < m → st.1.1 18 V = 0) ∧ Fx [18] [] (sI h 13 0 0) st.1) (8 * (K + 1)) (fun o => ∃ h1, o = some h1 ∧ CP K w (bcS K w 448) h1 ∧ Fx [13, 14, 15, 16, 17, 18, 19] [] h h1) ?_ ?_ (8 * (K + 1)) 0 FU (sI h 13 0 0, 0) (Nat.zero_add _) (FU_lt (by omega)) ⟨rfl, fun V hV => absurd hV (Nat.not_lt_zero V), Fx.rf _ _ _⟩
  · intro f m st hm hI
    obtain ⟨s1, s2⟩ := st
    obtain ⟨i1, i2, i3⟩ := hI
    simp only at i1 i2 i3
    subst i1
    refine ⟨(sI s1 18 m 0, nI (m + 1)), ⟨rfl, fun V hV => ?_, Fx.tr i3 Fx.sI⟩, ?_⟩
    · show (sI s1 18 m 0).1 18 V = 0
      rw [sI_u]
      by_cases e : V = m
      · rw [e, pk_us]
      · rw [pk_un e]; exact i2 V (by omega)
    · show fX1_find_12b (fX1_find_12 1 f) 1 s1 (nI (8 * (K + 1))) (nI m) = _
      unfold fX1_find_12b
      rw [if_neg (nI_ge hm (by omega)), ck_in (show m < 56 by omega) (by decide), nm_eq, nm_eq, nI_clamp (by omega), nI_1, nz0]
  · intro f st hI
    obtain ⟨s1, s2⟩ := st
    obtain ⟨i1, i2, i3⟩ := hI
    simp only at i1 i2 i3
    subst i1
    show ∃ h1, fX1_find_12b _ 1 s1 (nI (8 * (K + 1))) (nI (8 * (K + 1))) = _ ∧ _
    unfold fX1_find_12b
    rw [if_pos (nI_le (Nat.le_refl _) (by omega))]
    obtain ⟨h1, e1, e2, e3⟩ := c_find33 (h0 := s1) hK hO (St.fx i3 hS0 (by decide) (by decide) (by decide)) (by rw [i3.1 13 (by decide), sI_u, pk_us]) i2
    exact ⟨h1, e1, e2, Fx.tr (Fx.mo F0 (by decide) (by decide)) (Fx.tr (Fx.mo i3 (by decide) (by decide)) e3)⟩
end CF
