/-! PURE: would, best -/
section WB
variable {K rl : Nat} {d : Nat → Nat} {se w g w' g' : Nat → Bool} {j j' : List Nat} {T T' : Sht} {fi : Int32} {h h1 h2 : AH}
theorem Cl.fg (q : Cl K rl d se w g j T fi h) (F : Fx [4, 6, 13, 14, 15, 16, 17, 18, 19] [5] h h1) : Cl K rl d se w g j T fi h1 := by
  obtain ⟨q1, q2, q3, q4, q5, q6, q7, q8⟩ := q
  refine ⟨St.fx F q1 (by decide) (by decide) (by decide), Da.fx F q2 (by decide), Lb.fx F q3 (by decide), Lb.fx F q4 (by decide), CJ.fx F q5 (by decide) (by decide), ShC.fx F q6 (by decide) (by decide), ?_, ?_⟩
  · rw [F.1 0 (by decide)]; exact q7
  · rw [F.1 0 (by decide)]; exact q8
theorem c_becomeLike (hS : St 1 K w h) : ∃ h1, fX4_becomeLike h 4 1 = some h1 ∧ St 4 K w h1 ∧ Fx [4, 6] [5] h h1 := by
  obtain ⟨s1, s2, s3⟩ := hS
  unfold fX4_becomeLike
  rw [nm_eq, show cpOk 0 0 (nI 7) 7 7 = true by decide, show cpOk 0 0 (nI 56) 56 56 = true by decide]
  refine ⟨_, rfl, ⟨?_, ?_, ?_⟩, ⟨?_, ?_⟩⟩
  · rw [cpI_r (by decide)]
    show (sI h 4 0 (h.1 1 0)).1 4 0 = _
    rw [sI_u, pk_us]
    exact s1
  · intro i hi t ht
    show ((cpL (sI h 4 0 (h.1 1 0)) (1 + 1) (0 : Int32).toNatClampNeg (4 + 1) (0 : Int32).toNatClampNeg (nI 7 : Int32).toNatClampNeg).2 (4 + 1) i).toBitVec.getLsbD t = _
    rw [cpL_u]
    unfold va_cpy
    rw [show (0 : Int32).toNatClampNeg = 0 from rfl, nI_clamp (by decide), if_pos (by omega), Nat.zero_add, Nat.sub_zero]
    exact s2 i hi t ht
  · intro W hW
    rw [cpI_u]
    unfold va_cpy
    rw [show (0 : Int32).toNatClampNeg = 0 from rfl, nI_clamp (show 56 < 2 ^ 31 by decide), if_pos (by omega), Nat.zero_add, Nat.sub_zero]
    show (sI h 4 0 (h.1 1 0)).1 (1 + 2) W = _
    rw [sI_r (by decide)]
    exact s3 W hW
  · intro k hk
    rw [cpI_r (fun e => hk (by rw [e]; decide))]
    show (sI h 4 0 (h.1 1 0)).1 k = _
    rw [sI_r (fun e => hk (by rw [e]; decide))]
  · intro k hk
    show (cpL (sI h 4 0 (h.1 1 0)) (1 + 1) (0 : Int32).toNatClampNeg (4 + 1) (0 : Int32).toNatClampNeg (nI 7 : Int32).toNatClampNeg).2 k = _
    rw [cpL_r (fun e => hk (by rw [e]; decide))]
    rfl
def wbV (K q n t : Nat) (w : Nat → Bool) (j : List Nat) : Nat := cnt (slS K q n t w j (K + 1 - n)).1 448
theorem wbV_le {q n t : Nat} : wbV K q n t w j ≤ 448 := cnt_le _ _
theorem c_would {q n t : Nat} (hI : Iv K rl d se w g j T) (hq : q ≤ 1) (hn : 2 ≤ n) (hnK : n ≤ K) (ht1 : 1 ≤ t) (ht : t ≤ 9) (hC : Cl K rl d se w g j T fi h) : ∃ h1, fX5_would h (nI n) (nI t) (nI q) = some (nI (wbV K q n t w j), h1) ∧ Cl K rl d se w g j T fi h1 ∧ Lo h h1 := by
  have hK := hI.2.1
  obtain ⟨h1, a1, a2, a3⟩ := c_becomeLike hC.1
  obtain ⟨h2, e1, e2, e3⟩ := c_slide_n (a0 := 4) (j := j) (rl := q) (T := t) (n := n) (by decide) hK hq (by omega) hnK ht a2
  have F : Fx [4, 6, 13, 14, 15, 16, 17, 18, 19] [5] h h2 := Fx.tr (Fx.mo a3 (by decide) (by decide)) (Fx.mo e3 (by decide) (by decide))
  have ok := slS_ok (rl := q) (n := n) (t := t) (by omega) (show Ok K (w, j, 0) from ⟨hI.ot, hI.2.2.2.2.2.2.1⟩) (K + 1 - n) (by omega)
  refine ⟨h2, ?_, hC.fg F, F.lo (by decide) (by decide)⟩
  unfold fX5_would
  rw [g_isSlideSize hC.1.1 hK, bR_s, rg_t (by omega) hn hnK, if_neg b2t, g_isTurns, bR_s, rg_t (by omega) ht1 ht, if_neg b2t, g_isRule, bR_s, rg_t (by omega) (Nat.zero_le q) hq, if_neg b2t, a1, bR_s, e1, bR_s, c_wrongBits hK e2 ok.1, bR_s]
  rfl
def FrW (h h1 : AH) : Prop := Fx [29, 32, 34, 37, 38] [] h h1 ∧ ∀ q, q ≠ 1 → q ≠ 7 → h1.1 29 q = h.1 29 q
theorem FrW.tr (a : FrW h h1) (b : FrW h1 h2) : FrW h h2 := ⟨Fx.tr a.1 b.1, fun q e1 e7 => (b.2 q e1 e7).trans (a.2 q e1 e7)⟩
theorem FrW.of {ci : List Nat} (F : Fx ci [] h h1) (a : ∀ k ∈ ci, k ∈ [32, 34, 37, 38]) : FrW h h1 := ⟨Fx.mo F (fun k hk => List.mem_cons_of_mem _ (a k hk)) (by decide), fun q _ _ => by rw [F.1 29 (fun e => by have := a 29 e; revert this; decide)]⟩
theorem Mo.wb (q : Mo K rl d se w g j T fi h) (F : FrW h h1) (a : MSt K rl w j h1) : Mo K rl d se w g j T fi h1 := by
  obtain ⟨q1, q2, q3, q4, q5, q6⟩ := q
  refine ⟨a, Da.fx F.1 q2 (by decide), Ro.fx F.1 q3 (by decide), Ro.fx F.1 q4 (by decide), ShM.fx F.1 q5 (by decide) (by decide) (by decide), ?_⟩
  rw [F.2 17 (by decide) (by decide)]; exact q6
theorem r_l124 {n t q v : Nat} {m : Nat → Int32} (hrl : rl ≤ 1) (h0 : AH) (hw : Ro 32 w h) (hm : ∀ k, k < 60 → h.1 38 k = m k) (hj : j.length ≤ 60) (hmj : ∀ k, k < j.length → m k = nI (j.getD k 0)) (hK : h.1 29 0 = nI K) (F : FrW h0 h) : ∃ h1, fX6_wouldBe_124 (nI n) (nI t) (nI q) FU h (nI j.length) (nI rl) (nI v) 0 = some (nI v, h1) ∧ MSt K rl w j h1 ∧ FrW h0 h1 := by
  refine linv (fun f (s : AH × Int32) => fX6_wouldBe_124 (nI n) (nI t) (nI q) f s.1 (nI j.length) (nI rl) (nI v) s.2) (fun k s => s.2 = nI k ∧ (∀ a, a < k → s.1.1 34 a = m a) ∧ Fx [34] [] h s.1) 60 (fun o => ∃ h1, o = some (nI v, h1) ∧ MSt K rl w j h1 ∧ FrW h0 h1) ?_ ?_ 60 0 FU (h, 0) rfl (FU_lt (by decide)) ⟨rfl, fun a ha => absurd ha (Nat.not_lt_zero a), Fx.rf _ _ _⟩
  · intro f k s hk hI
    obtain ⟨s1, s2⟩ := s
    obtain ⟨i1, i2, i3⟩ := hI
    simp only at i1 i2 i3
    subst i1
    refine ⟨(sI s1 34 k (m k), nI (k + 1)), ⟨rfl, fun a ha => ?_, Fx.tr i3 Fx.sI⟩, ?_⟩
    · show (sI s1 34 k (m k)).1 34 a = m a
      rw [sI_u]
      by_cases e : a = k
      · rw [e, pk_us]
      · rw [pk_un e]; exact i2 a (by omega)
    · show fX6_wouldBe_124b (fX6_wouldBe_124 (nI n) (nI t) (nI q) f) (nI n) (nI t) (nI q) s1 (nI j.length) (nI rl) (nI v) (nI k) = _
      unfold fX6_wouldBe_124b
      rw [if_neg (show ¬ (60 : Int32) ≤ nI k from nI_ge (b := 60) hk (by decide)), ck_in hk (by decide), ck_in hk (by decide), nm_eq, nm_eq, nI_clamp (by omega), nI_1, i3.1 38 (by decide), hm k hk]
  · intro f s hI
    obtain ⟨s1, s2⟩ := s
    obtain ⟨i1, i2, i3⟩ := hI
    simp only at i1 i2 i3
    subst i1
    refine ⟨sI (sI s1 29 7 (nI j.length)) 29 1 (nI rl), ?_, ⟨?_, ⟨?_, hj, ?_⟩, ?_, ?_⟩, FrW.tr F (FrW.tr (FrW.of i3 (by decide)) ?_)⟩
    · show fX6_wouldBe_124b _ (nI n) (nI t) (nI q) s1 (nI j.length) (nI rl) (nI v) (nI 60) = _
      unfold fX6_wouldBe_124b
      rw [if_pos (show (60 : Int32) ≤ nI 60 by decide)]
      rfl
    · intro a ha
      rw [sI_r (by decide), sI_r (by decide), i3.1 32 (by decide)]
      exact hw a ha
    · rw [sI_u, pk_un (by decide), sI_u, pk_us]
    · intro k hk
      rw [sI_r (by decide), sI_r (by decide), i2 k (by omega), hmj k hk]
    · rw [sI_u, pk_un (by decide), sI_u, pk_un (by decide), i3.1 29 (by decide), hK]
    · rw [sI_u, pk_us]
    · refine ⟨Fx.tr (Fx.mo Fx.sI (by decide) (by decide)) (Fx.mo Fx.sI (by decide) (by decide)), fun p e1 e7 => ?_⟩
      rw [sI_u, pk_un e1, sI_u, pk_un e7]
theorem r_l93 {n t q v : Nat} {m : Nat → Int32} (hrl : rl ≤ 1) (h0 : AH) (hw : Ro 37 w h) (hm : ∀ k, k < 60 → h.1 38 k = m k) (hj : j.length ≤ 60) (hmj : ∀ k, k < j.length → m k = nI (j.getD k 0)) (hK : h.1 29 0 = nI K) (F : FrW h0 h) : ∃ h1, fX6_wouldBe_93 (nI n) (nI t) (nI q) FU h (nI j.length) (nI rl) (nI v) 0 = some (nI v, h1) ∧ MSt K rl w j h1 ∧ FrW h0 h1 := by
  refine linv (fun f (s : AH × Int32) => fX6_wouldBe_93 (nI n) (nI t) (nI q) f s.1 (nI j.length) (nI rl) (nI v) s.2) (fun k s => s.2 = nI k ∧ (∀ a, a < k → s.1.1 32 a = b2i (w a)) ∧ Fx [32] [] h s.1) 448 (fun o => ∃ h1, o = some (nI v, h1) ∧ MSt K rl w j h1 ∧ FrW h0 h1) ?_ ?_ 448 0 FU (h, 0) rfl (FU_lt (by decide)) ⟨rfl, fun a ha => absurd ha (Nat.not_lt_zero a), Fx.rf _ _ _⟩
  · intro f k s hk hI
    obtain ⟨s1, s2⟩ := s
    obtain ⟨i1, i2, i3⟩ := hI
    simp only at i1 i2 i3
    subst i1
    refine ⟨(sI s1 32 k (b2i (w k)), nI (k + 1)), ⟨rfl, fun a ha => ?_, Fx.tr i3 Fx.sI⟩, ?_⟩
    · show (sI s1 32 k (b2i (w k))).1 32 a = b2i (w a)
      rw [sI_u]
      by_cases e : a = k
      · rw [e, pk_us]
      · rw [pk_un e]; exact i2 a (by omega)
    · show fX6_wouldBe_93b (fX6_wouldBe_93 (nI n) (nI t) (nI q) f) (nI n) (nI t) (nI q) s1 (nI j.length) (nI rl) (nI v) (nI k) = _
      unfold fX6_wouldBe_93b
      rw [if_neg (show ¬ (448 : Int32) ≤ nI k from nI_ge (b := 448) hk (by decide)), ck_in hk (by decide), ck_in hk (by decide), nm_eq, nm_eq, nI_clamp (by omega), nI_1, i3.1 37 (by decide), hw k hk, vn_b]
  · intro f s hI
    obtain ⟨s1, s2⟩ := s
    obtain ⟨i1, i2, i3⟩ := hI
    simp only at i1 i2 i3
    subst i1
    show ∃ h1, fX6_wouldBe_93b _ (nI n) (nI t) (nI q) s1 (nI j.length) (nI rl) (nI v) (nI 448) = _ ∧ _
    unfold fX6_wouldBe_93b
    rw [if_pos (show (448 : Int32) ≤ nI 448 by decide)]
    exact r_l124 hrl h0 i2 (fun k hk => by rw [i3.1 38 (by decide)]; exact hm k hk) hj hmj (by rw [i3.1 29 (by decide)]; exact hK) (FrW.tr F (FrW.of i3 (by decide)))
theorem r_l46 {n t q : Nat} (hK6 : K ≤ 6) (hrl : rl ≤ 1) (hq : q ≤ 1) (hn : 2 ≤ n) (hnK : n ≤ K) (ht : t ≤ 9) (h0 : AH) (hw : Ro 37 w h) (hM : MSt K rl w j h) (F : FrW h0 h) : ∃ h1, fX6_wouldBe_46 (nI n) (nI t) (nI q) FU h (nI j.length) (nI rl) 0 = some (nI (wbV K q n t w j), h1) ∧ MSt K rl w j h1 ∧ FrW h0 h1 := by
  refine linv (fun f (s : AH × Int32) => fX6_wouldBe_46 (nI n) (nI t) (nI q) f s.1 (nI j.length) (nI rl) s.2) (fun k s => s.2 = nI k ∧ (∀ a, a < k → s.1.1 38 a = h.1 34 a) ∧ Fx [38] [] h s.1) 60 (fun o => ∃ h1, o = some (nI (wbV K q n t w j), h1) ∧ MSt K rl w j h1 ∧ FrW h0 h1) ?_ ?_ 60 0 FU (h, 0) rfl (FU_lt (by decide)) ⟨rfl, fun a ha => absurd ha (Nat.not_lt_zero a), Fx.rf _ _ _⟩
  · intro f k s hk hI
    obtain ⟨s1, s2⟩ := s
    obtain ⟨i1, i2, i3⟩ := hI
    simp only at i1 i2 i3
    subst i1
    refine ⟨(sI s1 38 k (h.1 34 k), nI (k + 1)), ⟨rfl, fun a ha => ?_, Fx.tr i3 Fx.sI⟩, ?_⟩
    · show (sI s1 38 k (h.1 34 k)).1 38 a = _
      rw [sI_u]
      by_cases e : a = k
      · rw [e, pk_us]
      · rw [pk_un e]; exact i2 a (by omega)
    · show fX6_wouldBe_46b (fX6_wouldBe_46 (nI n) (nI t) (nI q) f) (nI n) (nI t) (nI q) s1 (nI j.length) (nI rl) (nI k) = _
      unfold fX6_wouldBe_46b
      rw [if_neg (show ¬ (60 : Int32) ≤ nI k from nI_ge (b := 60) hk (by decide)), ck_in hk (by decide), ck_in hk (by decide), nm_eq, nm_eq, nI_clamp (by omega), nI_1, i3.1 34 (by decide)]
  · intro f s hI
    obtain ⟨s1, s2⟩ := s
    obtain ⟨i1, i2, i3⟩ := hI
    simp only at i1 i2 i3
    subst i1
    obtain ⟨m1, ⟨m2, m3, m4⟩, m5, m6⟩ := hM
    have hM1 : MSt K q w j (sI s1 29 1 (nI q)) := by
      refine ⟨fun a ha => ?_, ⟨?_, m3, fun k hk => ?_⟩, ?_, ?_⟩
      · rw [sI_r (by decide), i3.1 32 (by decide)]; exact m1 a ha
      · rw [sI_u, pk_un (by decide), i3.1 29 (by decide)]; exact m2
      · rw [sI_r (by decide), i3.1 34 (by decide)]; exact m4 k hk
      · rw [sI_u, pk_un (by decide), i3.1 29 (by decide)]; exact m5
      · rw [sI_u, pk_us]
    obtain ⟨h2, e1, e2, e3⟩ := r_slide (n := n) (T := t) hK6 hq (by omega) hnK ht hM1
    show ∃ h1, fX6_wouldBe_46b _ (nI n) (nI t) (nI q) s1 (nI j.length) (nI rl) (nI 60) = _ ∧ _
    unfold fX6_wouldBe_46b
    rw [if_pos (show (60 : Int32) ≤ nI 60 by decide), nm_eq, e1, bR_s, r_wrongMany e2.1, bR_s]
    have F1 : FrW s1 h2 := by
      refine ⟨Fx.tr (Fx.mo Fx.sI (by decide) (by decide)) (Fx.mo e3.1 (by decide) (by decide)), fun p e1 e7 => ?_⟩
      rw [e3.2 p e7, sI_u, pk_un e1]
    have e29 : h2.1 37 = h.1 37 := by rw [e3.1.1 37 (by decide), sI_r (by decide), i3.1 37 (by decide)]
    have e38 : h2.1 38 = s1.1 38 := by rw [e3.1.1 38 (by decide), sI_r (by decide)]
    exact r_l93 (m := h.1 34) hrl h0 (fun a ha => by rw [e29]; exact hw a ha) (fun k hk => by rw [e38]; exact i2 k hk) m3 m4 (by rw [F1.2 0 (by decide) (by decide), i3.1 29 (by decide)]; exact m5) (FrW.tr F (FrW.tr (FrW.of i3 (by decide)) F1))
theorem r_would {n t q : Nat} (hI : Iv K rl d se w g j T) (hq : q ≤ 1) (hn : 2 ≤ n) (hnK : n ≤ K) (ht : t ≤ 9) (hM : Mo K rl d se w g j T fi h) : ∃ h1, fX6_wouldBe h (nI n) (nI t) (nI q) = some (nI (wbV K q n t w j), h1) ∧ Mo K rl d se w g j T fi h1 ∧ Hi h h1 := by
  have hM1 := hM.1
  obtain ⟨m1, ⟨m2, m3, m4⟩, m5, m6⟩ := hM1
  have key : ∃ h1, fX6_wouldBe h (nI n) (nI t) (nI q) = some (nI (wbV K q n t w j), h1) ∧ MSt K rl w j h1 ∧ FrW h h1 := by
    unfold fX6_wouldBe
    rw [nm_eq, nm_eq, m2, m6]
    refine linv (fun f (s : AH × Int32) => fX6_wouldBe_15 (nI n) (nI t) (nI q) f s.1 (nI j.length) (nI rl) s.2) (fun k s => s.2 = nI k ∧ (∀ a, a < k → s.1.1 37 a = b2i (w a)) ∧ Fx [37] [] h s.1) 448 (fun o => ∃ h1, o = some (nI (wbV K q n t w j), h1) ∧ MSt K rl w j h1 ∧ FrW h h1) ?_ ?_ 448 0 FU (h, 0) rfl (FU_lt (by decide)) ⟨rfl, fun a ha => absurd ha (Nat.not_lt_zero a), Fx.rf _ _ _⟩
    · intro f k s hk hI
      obtain ⟨s1, s2⟩ := s
      obtain ⟨i1, i2, i3⟩ := hI
      simp only at i1 i2 i3
      subst i1
      refine ⟨(sI s1 37 k (b2i (w k)), nI (k + 1)), ⟨rfl, fun a ha => ?_, Fx.tr i3 Fx.sI⟩, ?_⟩
      · show (sI s1 37 k (b2i (w k))).1 37 a = b2i (w a)
        rw [sI_u]
        by_cases e : a = k
        · rw [e, pk_us]
        · rw [pk_un e]; exact i2 a (by omega)
      · show fX6_wouldBe_15b (fX6_wouldBe_15 (nI n) (nI t) (nI q) f) (nI n) (nI t) (nI q) s1 (nI j.length) (nI rl) (nI k) = _
        unfold fX6_wouldBe_15b
        rw [if_neg (show ¬ (448 : Int32) ≤ nI k from nI_ge (b := 448) hk (by decide)), ck_in hk (by decide), ck_in hk (by decide), nm_eq, nm_eq, nI_clamp (by omega), nI_1, i3.1 32 (by decide), m1 k hk, vn_b]
    · intro f s hI2
      obtain ⟨s1, s2⟩ := s
      obtain ⟨i1, i2, i3⟩ := hI2
      simp only at i1 i2 i3
      subst i1
      show ∃ h1, fX6_wouldBe_15b _ (nI n) (nI t) (nI q) s1 (nI j.length) (nI rl) (nI 448) = _ ∧ _
      unfold fX6_wouldBe_15b
      rw [if_pos (show (448 : Int32) ≤ nI 448 by decide)]
      refine r_l46 hI.2.1 hI.2.2.1 hq hn hnK ht h i2 ⟨fun a ha => ?_, ⟨?_, m3, fun k hk => ?_⟩, ?_, ?_⟩ (FrW.of i3 (by decide))
      · rw [i3.1 32 (by decide)]; exact m1 a ha
      · rw [i3.1 29 (by decide)]; exact m2
      · rw [i3.1 34 (by decide)]; exact m4 k hk
      · rw [i3.1 29 (by decide)]; exact m5
      · rw [i3.1 29 (by decide)]; exact m6
  obtain ⟨h1, e1, e2, e3⟩ := key
  exact ⟨h1, e1, hM.wb e3 e2, e3.1.hi (by decide) (by decide)⟩
theorem o_would (B : Bo h) (x y z : Int32) : Oo (fun h => fX5_would h x y z) (fun h => fX6_would h x y z) h := by
  have B0 := B
  obtain ⟨K, rl, d, se, w, g, j, T, fi, hI, hC, hM⟩ := B
  have hK := hI.2.1
  have c0 : fX5_isSlideSize h x = _ := g_isSlideSize hC.1.1 hK x
  have c1 : ∀ h', h'.1 29 0 = nI K → fX6_in h' x 2 (h'.1 29 0) = some (b2i (rg x 2 K)) := fun h' hh => by rw [hh]; exact r_in h' x (a := 2) (b := K) (by decide) (by omega)
  have t0 : fX5_isTurns h y = _ := g_isTurns y
  have t1 : ∀ h', fX6_in h' y 1 9 = _ := fun h' => r_in h' y (a := 1) (b := 9) (by decide) (by decide)
  have u0 : fX5_isRule h z = _ := g_isRule z
  have u1 : ∀ h', fX6_in h' z 0 1 = _ := fun h' => r_in h' z (a := 0) (b := 1) (by decide) (by decide)
  cases hx : rg x 2 K
  · refine Oo.no (v := -2) B0 ?_ ?_
    · show fX5_would h x y z = _
      unfold fX5_would
      rw [c0, bR_s, hx, if_pos b2f]
    · show fX6_would h x y z = _
      unfold fX6_would
      rw [c1 h hM.1.2.2.1, bR_s, hx, if_pos b2f]
  · rw [hx] at c0 c1
    cases hy : rg y 1 9
    · refine Oo.no (v := -2) B0 ?_ ?_
      · show fX5_would h x y z = _
        unfold fX5_would
        rw [c0, bR_s, if_neg b2t, t0, bR_s, hy, if_pos b2f]
      · show fX6_would h x y z = _
        unfold fX6_would
        rw [c1 h hM.1.2.2.1, bR_s, if_neg b2t, t1, bR_s, hy, if_pos b2f]
    · rw [hy] at t0 t1
      cases hz : rg z 0 1
      · refine Oo.no (v := -2) B0 ?_ ?_
        · show fX5_would h x y z = _
          unfold fX5_would
          rw [c0, bR_s, if_neg b2t, t0, bR_s, if_neg b2t, u0, bR_s, hz, if_pos b2f]
        · show fX6_would h x y z = _
          unfold fX6_would
          rw [c1 h hM.1.2.2.1, bR_s, if_neg b2t, t1, bR_s, if_neg b2t, u1, bR_s, hz, if_pos b2f]
      · rw [hz] at u0 u1
        obtain ⟨n, n1', n2', rfl⟩ := rg_n (by omega) hx
        obtain ⟨t, u1', u2, rfl⟩ := rg_n (by omega) hy
        obtain ⟨q, -, q2, rfl⟩ := rg_n (by omega) hz
        obtain ⟨h1, e1, e2, e4⟩ := c_would hI q2 n1' n2' u1' u2 hC
        have hM1 := hM.lo e4
        obtain ⟨h2, f1, f2, f3⟩ := r_would hI q2 n1' n2' u2 hM1
        refine Oo.mk (h1 := h1) (h2 := h2) (v := nI (wbV K q n t w j)) e1 ?_ hI e2 f2 f3
        show fX6_would h1 (nI n) (nI t) (nI q) = _
        unfold fX6_would
        rw [c1 h1 hM1.1.2.2.1, bR_s, if_neg b2t, t1, bR_s, if_neg b2t, u1, bR_s, if_neg b2t, f1, bW_s]
def beS (v : Nat → Nat) : Nat → Nat × Nat
  | 0 => (2, v 2)
  | k + 1 => if v (k + 3) < (beS v k).2 then (k + 3, v (k + 3)) else beS v k
theorem beS_le {v : Nat → Nat} (hv : ∀ n, v n ≤ 448) : ∀ k, (beS v k).2 ≤ 448 ∧ (beS v k).1 ≤ k + 2 := by
  intro k
  induction k with
  | zero => exact ⟨hv 2, Nat.le_refl 2⟩
  | succ k ih =>
    show (if v (k + 3) < (beS v k).2 then (k + 3, v (k + 3)) else beS v k).2 ≤ 448 ∧ (if v (k + 3) < (beS v k).2 then (k + 3, v (k + 3)) else beS v k).1 ≤ k + 1 + 2
    by_cases e : v (k + 3) < (beS v k).2
    · rw [if_pos e]; exact ⟨hv _, by omega⟩
    · rw [if_neg e]; exact ⟨ih.1, by omega⟩
theorem c_best {t : Nat} (hI : Iv K rl d se w g j T) (ht1 : 1 ≤ t) (ht : t ≤ 9) (hC : Cl K rl d se w g j T fi h) : ∃ h1, fX5_best h (nI t) = some (nI (beS (fun n => wbV K rl n t w j) (K - 2)).1, h1) ∧ Cl K rl d se w g j T fi h1 ∧ Lo h h1 := by
  have hK := hI.2.1
  have hK2 := hI.1
  obtain ⟨h1, e1, e2, e3⟩ := c_would (n := 2) (q := rl) (t := t) hI hI.2.2.1 (by omega) hK2 ht1 ht hC
  unfold fX5_best
  rw [g_isTurns, bR_s, rg_t (by omega) ht1 ht, if_neg b2t, hC.2.2.2.2.2.2.1, show (2 : Int32) = nI 2 from rfl, e1, bW_s]
  have hv : ∀ n, wbV K rl n t w j ≤ 448 := fun n => wbV_le
  refine linv (fun f (s : AH × Int32 × Int32 × Int32) => fX5_best_26 (nI t) f s.1 s.2.1 s.2.2.1 s.2.2.2) (fun k s => s.2.1 = nI (beS (fun n => wbV K rl n t w j) k).1 ∧ s.2.2.1 = nI (beS (fun n => wbV K rl n t w j) k).2 ∧ s.2.2.2 = nI (k + 3) ∧ Cl K rl d se w g j T fi s.1 ∧ Lo h s.1) (K - 2) (fun o => ∃ h1, o = some (nI (beS (fun n => wbV K rl n t w j) (K - 2)).1, h1) ∧ Cl K rl d se w g j T fi h1 ∧ Lo h h1) ?_ ?_ (K - 2) 0 FU (h1, nI 2, nI (wbV K rl 2 t w j), 3) (Nat.zero_add _) (FU_lt (by omega)) ⟨rfl, rfl, rfl, e2, e3⟩
  · intro f k s hk hs
    obtain ⟨s1, s2, s3, s4⟩ := s
    obtain ⟨i1, i2, i3, i4, i5⟩ := hs
    simp only at i1 i2 i3 i4 i5
    subst i1 i2 i3
    obtain ⟨h2, g1, g2, g3⟩ := c_would (n := k + 3) (q := rl) (t := t) hI hI.2.2.1 (by omega) (by omega) ht1 ht i4
    have bl := beS_le hv k
    have ex : beS (fun n => wbV K rl n t w j) (k + 1) = if wbV K rl (k + 3) t w j < (beS (fun n => wbV K rl n t w j) k).2 then (k + 3, wbV K rl (k + 3) t w j) else beS (fun n => wbV K rl n t w j) k := rfl
    refine ⟨(h2, nI (beS (fun n => wbV K rl n t w j) (k + 1)).1, nI (beS (fun n => wbV K rl n t w j) (k + 1)).2, nI (k + 1 + 3)), ⟨rfl, rfl, rfl, g2, Lo.tr i5 g3⟩, ?_⟩
    show fX5_best_26b (fX5_best_26 (nI t) f) (nI t) s1 _ _ _ = _
    unfold fX5_best_26b
    rw [i4.1.1, if_neg (nI_nlt (by omega) (by omega)), i4.2.2.2.2.2.2.1, g1, bW_s, ex]
    have hv3 := hv (k + 3)
    by_cases e : wbV K rl (k + 3) t w j < (beS (fun n => wbV K rl n t w j) k).2
    · rw [if_neg (nI_ge e (by omega)), if_pos e]
      unfold fX5_best_63
      rw [nm_eq, nI_1]
    · rw [if_pos (nI_le (by omega) (by omega)), if_neg e]
      unfold fX5_best_63
      rw [nm_eq, nI_1]
  · intro f s hs
    obtain ⟨s1, s2, s3, s4⟩ := s
    obtain ⟨i1, i2, i3, i4, i5⟩ := hs
    simp only at i1 i2 i3 i4 i5
    subst i1 i2 i3
    refine ⟨s1, ?_, i4, i5⟩
    show fX5_best_26b (fX5_best_26 (nI t) f) (nI t) s1 _ _ _ = _
    unfold fX5_best_26b
    rw [i4.1.1, if_pos (nI_lt (by omega) (by omega))]
theorem r_best {t : Nat} (hI : Iv K rl d se w g j T) (ht : t ≤ 9) (hM : Mo K rl d se w g j T fi h) : ∃ h1, fX6_bestOf h (nI t) = some (nI (beS (fun n => wbV K rl n t w j) (K - 2)).1, h1) ∧ Mo K rl d se w g j T fi h1 ∧ Hi h h1 := by
  have hK := hI.2.1
  have hK2 := hI.1
  obtain ⟨h1, e1, e2, e3⟩ := r_would (n := 2) (q := rl) (t := t) hI hI.2.2.1 (by omega) hK2 ht hM
  have hv : ∀ n, wbV K rl n t w j ≤ 448 := fun n => wbV_le
  have hv2 := hv 2
  unfold fX6_bestOf
  rw [nm_eq]
  show ∃ h1, fX6_bestOf_9b (fX6_bestOf_9 (nI t) 999) (nI t) h (-1) 448 2 = _ ∧ _
  unfold fX6_bestOf_9b
  rw [hM.1.2.2.1, show (2 : Int32) = nI 2 from rfl, if_neg (nI_nlt hK2 (by omega)), hM.1.2.2.2, e1, bW_s, if_pos rfl]
  have e0 : fX6_bestOf_42 (fX6_bestOf_9 (nI t) 999) (nI t) h1 448 (nI 2) (nI (wbV K rl 2 t w j)) = fX6_bestOf_9 (nI t) 999 h1 (nI 2) (nI (wbV K rl 2 t w j)) (nI 3) := by
    unfold fX6_bestOf_42 fX6_bestOf_48
    rw [show (448 : Int32) = nI 448 from rfl]
    by_cases e : wbV K rl 2 t w j < 448
    · rw [if_neg (nI_ge e (by omega))]
      rfl
    · rw [if_pos (nI_le (by omega) (by omega)), show wbV K rl 2 t w j = 448 by omega]
      rfl
  rw [e0]
  refine linv (fun f (s : AH × Int32 × Int32 × Int32) => fX6_bestOf_9 (nI t) f s.1 s.2.1 s.2.2.1 s.2.2.2) (fun k s => s.2.1 = nI (beS (fun n => wbV K rl n t w j) k).1 ∧ s.2.2.1 = nI (beS (fun n => wbV K rl n t w j) k).2 ∧ s.2.2.2 = nI (k + 3) ∧ Mo K rl d se w g j T fi s.1 ∧ Hi h s.1) (K - 2) (fun o => ∃ h1, o = some (nI (beS (fun n => wbV K rl n t w j) (K - 2)).1, h1) ∧ Mo K rl d se w g j T fi h1 ∧ Hi h h1) ?_ ?_ (K - 2) 0 999 (h1, nI 2, nI (wbV K rl 2 t w j), nI 3) (Nat.zero_add _) (by omega) ⟨rfl, rfl, rfl, e2, e3⟩
  · intro f k s hk hs
    obtain ⟨s1, s2, s3, s4⟩ := s
    obtain ⟨i1, i2, i3, i4, i5⟩ := hs
    simp only at i1 i2 i3 i4 i5
    subst i1 i2 i3
    obtain ⟨h2, g1, g2, g3⟩ := r_would (n := k + 3) (q := rl) (t := t) hI hI.2.2.1 (by omega) (by omega) ht i4
    have bl := beS_le hv k
    have ex : beS (fun n => wbV K rl n t w j) (k + 1) = if wbV K rl (k + 3) t w j < (beS (fun n => wbV K rl n t w j) k).2 then (k + 3, wbV K rl (k + 3) t w j) else beS (fun n => wbV K rl n t w j) k := rfl
    refine ⟨(h2, nI (beS (fun n => wbV K rl n t w j) (k + 1)).1, nI (beS (fun n => wbV K rl n t w j) (k + 1)).2, nI (k + 1 + 3)), ⟨rfl, rfl, rfl, g2, Hi.tr i5 g3⟩, ?_⟩
    show fX6_bestOf_9b (fX6_bestOf_9 (nI t) f) (nI t) s1 _ _ _ = _
    unfold fX6_bestOf_9b
    have hne : ¬ nI (beS (fun n => wbV K rl n t w j) k).1 = -1 := by
      intro e
      have := congrArg Int32.toInt e
      rw [nI_toInt (by omega), show (-1 : Int32).toInt = -1 from rfl] at this
      omega
    rw [i4.1.2.2.1, if_neg (nI_nlt (by omega) (by omega)), i4.1.2.2.2, g1, bW_s, ex, if_neg hne]
    have hv3 := hv (k + 3)
    by_cases e : wbV K rl (k + 3) t w j < (beS (fun n => wbV K rl n t w j) k).2
    · rw [if_neg (nI_ge e (by omega)), if_pos e]
      unfold fX6_bestOf_42 fX6_bestOf_48
      rw [if_neg (nI_ge e (by omega))]
      unfold fX6_bestOf_61
      rw [nm_eq, nI_1]
    · rw [if_pos (nI_le (by omega) (by omega)), if_neg e]
      unfold fX6_bestOf_48
      rw [if_pos (nI_le (by omega) (by omega))]
      unfold fX6_bestOf_61
      rw [nm_eq, nI_1]
  · intro f s hs
    obtain ⟨s1, s2, s3, s4⟩ := s
    obtain ⟨i1, i2, i3, i4, i5⟩ := hs
    simp only at i1 i2 i3 i4 i5
    subst i1 i2 i3
    refine ⟨s1, ?_, i4, i5⟩
    show fX6_bestOf_9b (fX6_bestOf_9 (nI t) f) (nI t) s1 _ _ _ = _
    unfold fX6_bestOf_9b
    rw [i4.1.2.2.1, if_pos (nI_lt (by omega) (by omega))]
theorem o_best (B : Bo h) (x : Int32) : Oo (fun h => fX5_best h x) (fun h => fX6_best h x) h := by
  have B0 := B
  obtain ⟨K, rl, d, se, w, g, j, T, fi, hI, hC, hM⟩ := B
  have t0 : fX5_isTurns h x = _ := g_isTurns x
  have t1 : ∀ h', fX6_in h' x 1 9 = _ := fun h' => r_in h' x (a := 1) (b := 9) (by decide) (by decide)
  cases hx : rg x 1 9
  · refine Oo.no (v := -2) B0 ?_ ?_
    · show fX5_best h x = _
      unfold fX5_best
      rw [t0, bR_s, hx, if_pos b2f]
    · show fX6_best h x = _
      unfold fX6_best
      rw [t1, bR_s, hx, if_pos b2f]
  · rw [hx] at t1
    obtain ⟨t, u1, u2, rfl⟩ := rg_n (by omega) hx
    obtain ⟨h1, e1, e2, e4⟩ := c_best hI u1 u2 hC
    have hM1 := hM.lo e4
    obtain ⟨h2, f1, f2, f3⟩ := r_best hI u2 hM1
    refine Oo.mk (h1 := h1) (h2 := h2) (v := nI (beS (fun n => wbV K rl n t w j) (K - 2)).1) e1 ?_ hI e2 f2 f3
    show fX6_best h1 (nI t) = _
    unfold fX6_best
    rw [t1, bR_s, if_neg b2t, f1, bW_s]
end WB
