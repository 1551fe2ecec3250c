/-! PURE: the reference finds the pieces -/
section RF
variable {K s n : Nat} {w : Nat → Bool} {lab : Nat → Nat} {P R : List Nat} {h h1 h2 : AH}
theorem nI_ne1 {m : Nat} (hm : m < 2 ^ 31) : ¬ nI m = -1 := by
  intro e
  have := congrArg Int32.toInt e
  rw [nI_toInt hm, show (-1 : Int32).toInt = -1 from rfl] at this
  omega
def lbV (w : Nat → Bool) (lab : Nat → Nat) (b : Nat) : Int32 := if w b = true ∧ lab (b / 8) ≠ 0 then nI (lab (b / 8) - 1) else -1
def BQ (K : Nat) (w : Nat → Bool) (s n : Nat) (lab : Nat → Nat) (P : List Nat) (h : AH) : Prop :=
  (∀ i, i < P.length → h.1 36 i = nI (P.getD i 0)) ∧ (∀ b, b < 448 → h.1 35 b = if b ∈ P then nI n else lbV w lab b) ∧ (∀ b, b ∈ P → w b = true ∧ rchW K w s (b / 8)) ∧ P.Nodup
theorem r_spreads {i r : Nat} (hK : K ≤ 6) (hO : Ot K w) (hw : Ro 32 w h) (hn : h.1 29 10 = nI n) (hn2 : n < 1000) (hz : ∀ V, rchW K w s V → lab V = 0) (hB : BQ K w s n lab P h) (hi : 1 ≤ i) (hiK : i ≤ K) (hr : r < 8) (hV : rchW K w s (8 * i + r)) :
    ∃ h1 R, fX6_spreads h (nI i) (nI r) (nI P.length) = some (nI (P ++ R).length, h1) ∧ BQ K w s n lab (P ++ R) h1 ∧ (∀ b, w b = true → inW K b (8 * i + r) → b ∈ P ++ R) ∧ Fx [35, 36] [] h h1 := by
  unfold fX6_spreads
  refine linv (fun f (st : AH × Int32 × Int32) => fX6_spreads_6 (nI i) (nI r) (nI P.length) f st.1 st.2.1 st.2.2) (fun p st => ∃ R, BQ K w s n lab (P ++ R) st.1 ∧ (∀ q, q < p → w (bA (8 * i + r) q) = true → bA (8 * i + r) q ∈ P ++ R) ∧ st.2.1 = nI (P ++ R).length ∧ st.2.2 = nI p ∧ Fx [35, 36] [] h st.1) 16 (fun o => ∃ h1 R, o = some (nI (P ++ R).length, h1) ∧ BQ K w s n lab (P ++ R) h1 ∧ (∀ b, w b = true → inW K b (8 * i + r) → b ∈ P ++ R) ∧ Fx [35, 36] [] h h1) ?_ ?_ 16 0 FU (h, nI P.length, 0) rfl (FU_lt (by decide)) ⟨[], by rw [List.append_nil]; exact hB, fun q hq => absurd hq (Nat.not_lt_zero q), by rw [List.append_nil], rfl, Fx.rf _ _ _⟩
  · intro f p st hp hI
    obtain ⟨s1, s2, s3⟩ := st
    obtain ⟨R, i1, i2, i3, i4, i5⟩ := hI
    simp only at i1 i2 i3 i4 i5
    subst i3 i4
    have hb := bA_lt (p := p) hi (by omega) hr hp
    have hin := bA_inW (K := K) (V := 8 * i + r) (p := p) (by omega) (by omega) hp
    obtain ⟨q1, q2, q3, q4⟩ := i1
    have hx : ∀ x, x ∈ P ++ R → x < 448 := fun x hx => by have := (hO.b (q3 x hx).1).2; omega
    show ∃ s', _ ∧ fX6_spreads_6b (fX6_spreads_6 (nI i) (nI r) (nI P.length) f) (nI i) (nI r) (nI P.length) s1 (nI (P ++ R).length) (nI p) = _
    unfold fX6_spreads_6b
    rw [if_neg (show ¬ (16 : Int32) ≤ nI p from nI_ge (b := 16) hp (by decide)), r_bitAt s1 hi (by omega) hr hp, bR_s, ck_in hb (by decide), nI_clamp (by omega), i5.1 32 (by decide), hw _ hb]
    have skip : (w (bA (8 * i + r) p) = true → bA (8 * i + r) p ∈ P ++ R) → ∃ s' : AH × Int32 × Int32, (∃ R, BQ K w s n lab (P ++ R) s'.1 ∧ (∀ q, q < p + 1 → w (bA (8 * i + r) q) = true → bA (8 * i + r) q ∈ P ++ R) ∧ s'.2.1 = nI (P ++ R).length ∧ s'.2.2 = nI (p + 1) ∧ Fx [35, 36] [] h s'.1) ∧ fX6_spreads_66 (fX6_spreads_6 (nI i) (nI r) (nI P.length) f) (nI i) (nI r) (nI P.length) s1 (nI (P ++ R).length) (nI p) = fX6_spreads_6 (nI i) (nI r) (nI P.length) f s'.1 s'.2.1 s'.2.2 := by
      intro hm
      refine ⟨(s1, nI (P ++ R).length, nI (p + 1)), ⟨R, ⟨q1, q2, q3, q4⟩, fun q hq hwq => ?_, rfl, rfl, i5⟩, ?_⟩
      · by_cases e : q = p
        · subst e; exact hm hwq
        · exact i2 q (by omega) hwq
      · unfold fX6_spreads_66
        rw [nm_eq, nI_1]
    cases hwb : w (bA (8 * i + r) p)
    · rw [if_pos b2f]
      exact skip (fun q => by rw [hwb] at q; cases q)
    · rw [if_neg b2t, ck_in hb (by decide), q2 _ hb]
      by_cases e : bA (8 * i + r) p ∈ P ++ R
      · rw [if_pos e, if_neg (nI_ne1 (by omega))]
        exact skip (fun _ => e)
      · have hrb : rchW K w s (bA (8 * i + r) p / 8) := hV.st ⟨_, hwb, hin, inW_row _⟩
        have hl := nd_lt q4 e hx hb
        rw [if_neg e, show lbV w lab (bA (8 * i + r) p) = -1 from if_neg (fun q => q.2 (hz _ hrb)), if_pos rfl, ck_in hb (by decide), nm_eq, i5.1 29 (by decide), hn, ck_in hl (by decide), nm_eq, nm_eq, nI_clamp (by omega), nI_1]
        refine ⟨(sI (sI s1 35 (bA (8 * i + r) p) (nI n)) 36 (P ++ R).length (nI (bA (8 * i + r) p)), nI ((P ++ R).length + 1), nI (p + 1)), ⟨R ++ [bA (8 * i + r) p], ⟨fun t ht => ?_, fun b hb2 => ?_, fun b hb2 => ?_, ?_⟩, fun q hq hwq => ?_, ?_, rfl, Fx.tr i5 (Fx.tr (Fx.mo Fx.sI (by decide) (by decide)) (Fx.mo Fx.sI (by decide) (by decide)))⟩, ?_⟩
        · rw [← List.append_assoc] at ht ⊢
          show (sI (sI s1 35 (bA (8 * i + r) p) (nI n)) 36 (P ++ R).length (nI (bA (8 * i + r) p))).1 36 t = _
          rw [sI_u]
          have ht2 : t < (P ++ R).length + 1 := by rw [List.length_append (as := P ++ R)] at ht; exact ht
          by_cases f2 : t = (P ++ R).length
          · rw [f2, pk_us, gd_end]
          · rw [pk_un f2, sI_r (by decide), q1 t (by omega), gd_l (Q := P ++ R) (by omega)]
        · show (sI (sI s1 35 (bA (8 * i + r) p) (nI n)) 36 (P ++ R).length (nI (bA (8 * i + r) p))).1 35 b = _
          rw [sI_r (by decide), sI_u, ← List.append_assoc]
          by_cases f2 : b = bA (8 * i + r) p
          · rw [f2, pk_us, if_pos (List.mem_append_right _ List.mem_cons_self)]
          · rw [pk_un f2, q2 b hb2]
            by_cases f3 : b ∈ P ++ R
            · rw [if_pos f3, if_pos (List.mem_append_left _ f3)]
            · rw [if_neg f3, if_neg (fun q => by
                rcases List.mem_append.mp q with q | q
                · exact f3 q
                · exact f2 (List.mem_singleton.mp q))]
        · rw [← List.append_assoc] at hb2
          rcases List.mem_append.mp hb2 with q | q
          · exact q3 b q
          · rw [List.mem_singleton.mp q]; exact ⟨hwb, hrb⟩
        · rw [← List.append_assoc]; exact nd_app q4 e
        · rw [← List.append_assoc]
          by_cases f2 : q = p
          · subst f2; exact List.mem_append_right _ List.mem_cons_self
          · exact List.mem_append_left _ (i2 q (by omega) hwq)
        · rw [← List.append_assoc, List.length_append (as := P ++ R)]; rfl
        · unfold fX6_spreads_66
          rw [nm_eq, nI_1]
  · intro f st hI
    obtain ⟨s1, s2, s3⟩ := st
    obtain ⟨R, i1, i2, i3, i4, i5⟩ := hI
    simp only at i1 i2 i3 i4 i5
    subst i3 i4
    refine ⟨s1, R, ?_, i1, fun b hb hin => ?_, i5⟩
    · show fX6_spreads_6b _ (nI i) (nI r) (nI P.length) s1 (nI (P ++ R).length) (nI 16) = _
      unfold fX6_spreads_6b
      rw [if_pos (show (16 : Int32) ≤ nI 16 by decide)]
    · obtain ⟨p, hp, e⟩ := inW_bA (by omega) hin
      rw [← e]
      exact i2 p hp (by rw [e]; exact hb)
def FrP (h h1 : AH) : Prop := Fx [29, 35, 36] [] h h1 ∧ ∀ q, q ≠ 10 → h1.1 29 q = h.1 29 q
theorem FrP.rf (h : AH) : FrP h h := ⟨Fx.rf _ _ _, fun _ _ => rfl⟩
theorem FrP.tr (a : FrP h h1) (b : FrP h1 h2) : FrP h h2 := ⟨Fx.tr a.1 b.1, fun q hq => (b.2 q hq).trans (a.2 q hq)⟩
theorem FrP.of {ci : List Nat} (F : Fx ci [] h h1) (a : ∀ k ∈ ci, k ∈ [35, 36]) : FrP h h1 := ⟨Fx.mo F (fun k hk => List.mem_cons_of_mem _ (a k hk)) (by decide), fun q _ => by rw [F.1 29 (fun e => by have := a 29 e; revert this; decide)]⟩
theorem FrP.ro (a : FrP h h1) (hw : Ro 32 w h) : Ro 32 w h1 := Ro.fx a.1 hw (by decide)
theorem r_76 {a : Nat} {k29 : AH → Int32 → Option AH} {S : PS} (hK : K ≤ 6) (hO : Ot K w) (hw : Ro 32 w h) (hm : h.1 29 0 = nI K) (hn : h.1 29 10 = nI S.1) (hn2 : S.1 < 1000) (ha : w a = true) (hz : ∀ V, rchW K w (a / 8) V → S.2.1 V = 0) (hB : BQ K w (a / 8) S.1 S.2.1 [a] h) :
    ∃ h1, fX6_findsPieces_76 k29 FU h (nI a) 1 0 = k29 h1 (nI (a + 1)) ∧ (∀ b, b < 448 → h1.1 35 b = lbV w (addP K w a S).2.1 b) ∧ h1.1 29 10 = nI (S.1 + 1) ∧ FrP h h1 := by
  refine lmea (fun f (st : AH × Int32 × Int32) => fX6_findsPieces_76 k29 f st.1 (nI a) st.2.1 st.2.2) (fun k st => ∃ P, BQ K w (a / 8) S.1 S.2.1 P st.1 ∧ a ∈ P ∧ k ≤ P.length ∧ (∀ i, i < k → ∀ V, inW K (P.getD i 0) V → ∀ b, w b = true → inW K b V → b ∈ P) ∧ st.2.1 = nI P.length ∧ st.2.2 = nI k ∧ Fx [35, 36] [] h st.1) 448 (fun o => ∃ h1, o = k29 h1 (nI (a + 1)) ∧ (∀ b, b < 448 → h1.1 35 b = lbV w (addP K w a S).2.1 b) ∧ h1.1 29 10 = nI (S.1 + 1) ∧ FrP h h1) ?_ FU 0 (h, 1, 0) (by decide) (FU_lt (by decide)) ⟨[a], hB, List.mem_cons_self, Nat.zero_le _, fun i hi => absurd hi (Nat.not_lt_zero i), rfl, rfl, Fx.rf _ _ _⟩
  intro f k st hI
  obtain ⟨s1, s2, s3⟩ := st
  obtain ⟨P, i1, i2, i3, i4, i5, i6, i7⟩ := hI
  simp only at i1 i2 i3 i4 i5 i6 i7
  subst i5 i6
  have hx : ∀ x, x ∈ P → x < 448 := fun x hx => by have := (hO.b (i1.2.2.1 x hx).1).2; omega
  have hl := nd_le i1.2.2.2 hx
  by_cases e : k = P.length
  · left
    refine ⟨sI s1 29 10 (nI (S.1 + 1)), ?_, fun b hb => ?_, ?_, ⟨Fx.tr (Fx.mo i7 (by decide) (by decide)) (Fx.mo Fx.sI (by decide) (by decide)), fun q hq => ?_⟩⟩
    · show fX6_findsPieces_76b k29 _ s1 (nI a) (nI P.length) (nI k) = _
      unfold fX6_findsPieces_76b fX6_findsPieces_170
      rw [if_pos (nI_le (by omega) (by omega)), nm_eq, nm_eq, nI_1, i7.1 29 (by decide), hn, nI_1]
    · have all : ∀ V, rchW K w (a / 8) V → ∀ b, w b = true → inW K b V → b ∈ P := by
        intro V hV
        refine hV (fun X => ∀ b, w b = true → inW K b X → b ∈ P) ?_ ?_
        · intro b hb hin
          obtain ⟨i, hi, e2⟩ := gd_of i2
          exact i4 i (by omega) (a / 8) (by rw [e2]; exact inW_row a) b hb hin
        · intro V U hC hadj b hb hin
          obtain ⟨b', w1, w2, w3⟩ := hadj
          obtain ⟨i, hi, e2⟩ := gd_of (hC b' w1 w2)
          exact i4 i (by omega) U (by rw [e2]; exact w3) b hb hin
      rw [sI_r (by decide), i1.2.1 b hb]
      unfold lbV addP
      simp only
      by_cases f2 : b ∈ P
      · obtain ⟨g1, g2⟩ := i1.2.2.1 b f2
        rw [if_pos f2, if_pos (rcB_iff.mpr g2), if_pos ⟨g1, by omega⟩]
        rfl
      · rw [if_neg f2]
        by_cases f3 : w b = true
        · have f4 : ¬ rcB K w (a / 8) (b / 8) = true := fun q => f2 (all _ (rcB_iff.mp q) b f3 (inW_row b))
          rw [if_neg f4]
        · rw [if_neg (fun q => f3 q.1), if_neg (fun q => f3 q.1)]
    · rw [sI_u, pk_us]
    · rw [sI_u, pk_un hq, i7.1 29 (by decide)]
  · right
    have hk : k < P.length := by omega
    refine ⟨by omega, ?_⟩
    have hbP := jd_mem hk
    obtain ⟨g1, g2⟩ := i1.2.2.1 _ hbP
    obtain ⟨b1, b2⟩ := hO.b g1
    have hw1 : Ro 32 w s1 := Ro.fx i7 hw (by decide)
    have ew : 8 * (P.getD k 0 / 64) + P.getD k 0 / 8 % 8 = P.getD k 0 / 8 := by omega
    obtain ⟨h3, R, e1, e2, e3, e4⟩ := r_spreads (i := P.getD k 0 / 64) (r := P.getD k 0 / 8 % 8) hK hO hw1 (by rw [i7.1 29 (by decide)]; exact hn) hn2 hz i1 (by omega) (by omega) (by omega) (by rw [ew]; exact g2)
    rw [ew] at e3
    show ∃ s', _ ∧ fX6_findsPieces_76b k29 (fX6_findsPieces_76 k29 f) s1 (nI a) (nI P.length) (nI k) = _
    have hkl : k < (P ++ R).length := by rw [List.length_append]; omega
    unfold fX6_findsPieces_76b
    rw [if_neg (nI_ge hk (by omega)), ck_in (show k < 448 by omega) (by decide), ck_in (show k < 448 by omega) (by decide), nm_eq, nI_clamp (by omega), i1.1 k hk, div64 (by omega), div8 (by omega), rem8 (by omega), e1, bW_s, ck_in (show k < 448 by omega) (by decide), e2.1 k hkl, gd_l hk, div64 (by omega), e4.1 29 (by decide), i7.1 29 (by decide), hm]
    have F3 : Fx [35, 36] [] h h3 := Fx.tr i7 e4
    have fin : ∀ (h4 : AH) (R2 : List Nat), BQ K w (a / 8) S.1 S.2.1 (P ++ R ++ R2) h4 → Fx [35, 36] [] h h4 → (∀ V, inW K (P.getD k 0) V → ∀ b, w b = true → inW K b V → b ∈ P ++ R ++ R2) → ∃ s' : AH × Int32 × Int32, (∃ P, BQ K w (a / 8) S.1 S.2.1 P s'.1 ∧ a ∈ P ∧ k + 1 ≤ P.length ∧ (∀ i, i < k + 1 → ∀ V, inW K (P.getD i 0) V → ∀ b, w b = true → inW K b V → b ∈ P) ∧ s'.2.1 = nI P.length ∧ s'.2.2 = nI (k + 1) ∧ Fx [35, 36] [] h s'.1) ∧ fX6_findsPieces_153 k29 (fX6_findsPieces_76 k29 f) h4 (nI a) (nI k) (nI (P ++ R ++ R2).length) = fX6_findsPieces_76 k29 f s'.1 (nI a) s'.2.1 s'.2.2 := by
      intro h4 R2 c1 c2 c3
      refine ⟨(h4, nI (P ++ R ++ R2).length, nI (k + 1)), ⟨P ++ R ++ R2, c1, List.mem_append_left _ (List.mem_append_left _ i2), ?_, fun i hi V hin b hb hbV => ?_, rfl, rfl, c2⟩, ?_⟩
      · rw [List.length_append, List.length_append]; omega
      · rw [gd_l (show i < (P ++ R).length by omega), gd_l (show i < P.length by omega)] at hin
        by_cases f2 : i = k
        · subst f2; exact c3 V hin b hb hbV
        · exact List.mem_append_left _ (List.mem_append_left _ (i4 i (by omega) V hin b hb hbV))
      · unfold fX6_findsPieces_153
        rw [nm_eq, nI_1]
    by_cases f2 : K ≤ P.getD k 0 / 64
    · rw [if_pos (nI_le f2 (by omega))]
      have := fin h3 [] (by rw [List.append_nil]; exact e2) F3 (fun V hin b hb hbV => by
        rw [List.append_nil]
        rcases hin with q | ⟨q1, q2⟩
        · exact e3 b hb (by rw [q]; exact hbV)
        · omega)
      rw [List.append_nil] at this
      exact this
    · rw [if_neg (nI_ge (by omega) (by omega)), ck_in (show k < 448 by omega) (by decide), ck_in (show k < 448 by omega) (by decide), nm_eq, rem8 (by omega), nI_1]
      have hVr : rchW K w (a / 8) (8 * (P.getD k 0 / 64 + 1) + P.getD k 0 % 8) := g2.st ⟨_, g1, inW_row _, Or.inr ⟨by omega, rfl⟩⟩
      obtain ⟨h5, R2, d1, d2, d3, d4⟩ := r_spreads (i := P.getD k 0 / 64 + 1) (r := P.getD k 0 % 8) hK hO (Ro.fx e4 hw1 (by decide)) (by rw [F3.1 29 (by decide)]; exact hn) hn2 hz e2 (by omega) (by omega) (by omega) hVr
      rw [d1, bW_s]
      refine fin h5 R2 d2 (Fx.tr F3 d4) (fun V hin b hb hbV => ?_)
      rcases hin with q | ⟨q1, q2⟩
      · exact List.mem_append_left _ (e3 b hb (by rw [q]; exact hbV))
      · exact d3 b hb (by rw [← q2]; exact hbV)
/-- what the reference has found -/
def MP (w : Nat → Bool) (S : PS) (h : AH) : Prop := h.1 29 10 = nI S.1 ∧ ∀ b, b < 448 → h.1 35 b = lbV w S.2.1 b
theorem r_find29 (hK : K ≤ 6) (hO : Ot K w) (hw : Ro 32 w h) (hm : h.1 29 0 = nI K) (hn : h.1 29 10 = 0) (hf : ∀ b, b < 448 → h.1 35 b = -1) : ∃ h1, fX6_findsPieces_29 FU h 0 = some h1 ∧ MP w (bcS K w 448) h1 ∧ FrP h h1 := by
  refine linv (fun f (st : AH × Int32) => fX6_findsPieces_29 f st.1 st.2) (fun a st => st.2 = nI a ∧ MP w (bcS K w a) st.1 ∧ FrP h st.1) 448 (fun o => ∃ h1, o = some h1 ∧ MP w (bcS K w 448) h1 ∧ FrP h h1) ?_ ?_ 448 0 FU (h, 0) rfl (FU_lt (by decide)) ⟨rfl, ⟨hn, fun b hb => ?_⟩, FrP.rf h⟩
  · intro f a st ha hI
    obtain ⟨s1, s2⟩ := st
    obtain ⟨i1, ⟨i2, i3⟩, i4⟩ := hI
    simp only at i1 i2 i3 i4
    subst i1
    have hw1 := FrP.ro i4 hw
    show ∃ s', _ ∧ fX6_findsPieces_29b (fX6_findsPieces_29 f) s1 (nI a) = _
    have skip : bcS K w (a + 1) = bcS K w a → ∃ s' : AH × Int32, (s'.2 = nI (a + 1) ∧ MP w (bcS K w (a + 1)) s'.1 ∧ FrP h s'.1) ∧ fX6_findsPieces_170 (fX6_findsPieces_29 f) s1 (nI a) = fX6_findsPieces_29 f s'.1 s'.2 := by
      intro e
      refine ⟨(s1, nI (a + 1)), ⟨rfl, ?_, i4⟩, ?_⟩
      · rw [e]; exact ⟨i2, i3⟩
      · unfold fX6_findsPieces_170
        rw [nm_eq, nI_1]
    unfold fX6_findsPieces_29b
    rw [if_neg (show ¬ (448 : Int32) ≤ nI a from nI_ge (b := 448) ha (by decide)), ck_in ha (by decide), nI_clamp (by omega), hw1 a ha]
    have pin := bcS_inv (K := K) (w := w) a
    have cl := bcS_le (K := K) (w := w) a
    cases hwa : w a
    · rw [if_pos b2f]
      exact skip (bcS_neg (fun q => by rw [hwa] at q; cases q.1))
    · rw [if_neg b2t, ck_in ha (by decide), i3 a ha]
      by_cases l0 : (bcS K w a).2.1 (a / 8) = 0
      · have hz2 : ∀ V, rchW K w (a / 8) V → (bcS K w a).2.1 V = 0 := fun V q => (lab_rch pin.2.1 q).symm.trans l0
        have hB : BQ K w (a / 8) (bcS K w a).1 (bcS K w a).2.1 [a] (sI (sI s1 35 a (nI (bcS K w a).1)) 36 0 (nI a)) := by
          refine ⟨fun i hi => ?_, fun b hb => ?_, fun b hb => ?_, List.nodup_cons.mpr ⟨List.not_mem_nil, List.nodup_nil⟩⟩
          · have hi0 : i = 0 := by
              have : i < 1 := hi
              omega
            subst hi0
            rw [sI_u, pk_us]
            rfl
          · rw [sI_r (by decide), sI_u]
            by_cases e : b = a
            · rw [e, pk_us, if_pos List.mem_cons_self]
            · rw [pk_un e, i3 b hb, if_neg (fun q => e (List.mem_singleton.mp q))]
          · rw [List.mem_singleton.mp hb]
            exact ⟨hwa, rchW.rf _⟩
        have F1 : Fx [35, 36] [] s1 (sI (sI s1 35 a (nI (bcS K w a).1)) 36 0 (nI a)) := Fx.tr (Fx.mo Fx.sI (by decide) (by decide)) (Fx.mo Fx.sI (by decide) (by decide))
        obtain ⟨h2, e1, e2, e3, e4⟩ := r_76 (k29 := fX6_findsPieces_29 f) (S := bcS K w a) hK hO (Ro.fx F1 hw1 (by decide)) (by rw [F1.1 29 (by decide), i4.2 0 (by decide)]; exact hm) (by rw [F1.1 29 (by decide)]; exact i2) (by omega) hwa hz2 hB
        rw [show lbV w (bcS K w a).2.1 a = -1 from if_neg (fun q => q.2 l0), if_pos rfl, ck_in ha (by decide), nm_eq, i2, show ck (inb 0 448) = (id : Option AH → Option AH) from rfl, id, nm_eq, show (0 : Int32).toNatClampNeg = 0 from rfl, e1]
        refine ⟨(h2, nI (a + 1)), ⟨rfl, ?_, FrP.tr i4 (FrP.tr (FrP.of F1 (by decide)) e4)⟩, rfl⟩
        rw [bcS_pos hwa l0]
        exact ⟨e3, e2⟩
      · have := pin.1 (a / 8)
        rw [show lbV w (bcS K w a).2.1 a = nI ((bcS K w a).2.1 (a / 8) - 1) from if_pos ⟨hwa, l0⟩, if_neg (nI_ne1 (by omega))]
        exact skip (bcS_neg (fun q => l0 q.2))
  · intro f st hI
    obtain ⟨s1, s2⟩ := st
    obtain ⟨i1, i2, i4⟩ := hI
    simp only at i1 i2 i4
    subst i1
    refine ⟨s1, ?_, i2, i4⟩
    show fX6_findsPieces_29b _ s1 (nI 448) = _
    unfold fX6_findsPieces_29b
    rw [if_pos (show (448 : Int32) ≤ nI 448 by decide)]
  · show h.1 35 b = lbV w (fun _ => 0) b
    rw [hf b hb]
    exact (if_neg (fun q => q.2 rfl)).symm
theorem r_find (hK : K ≤ 6) (hO : Ot K w) (hw : Ro 32 w h) (hm : h.1 29 0 = nI K) : ∃ h1, fX6_findsPieces h = some h1 ∧ MP w (bcS K w 448) h1 ∧ FrP h h1 := by
  unfold fX6_findsPieces
  rw [nm_eq]
  have F0 : FrP h (sI h 29 10 0) := ⟨Fx.mo Fx.sI (by decide) (by decide), fun q hq => by rw [sI_u, pk_un hq]⟩
  refine linv (fun f (st : AH × Int32) => fX6_findsPieces_7 f st.1 st.2) (fun a st => st.2 = nI a ∧ (∀ b, b < a → st.1.1 35 b = -1) ∧ Fx [35] [] (sI h 29 10 0) st.1) 448 (fun o => ∃ h1, o = some h1 ∧ MP w (bcS K w 448) h1 ∧ FrP h h1) ?_ ?_ 448 0 FU (sI h 29 10 0, 0) rfl (FU_lt (by decide)) ⟨rfl, fun b hb => absurd hb (Nat.not_lt_zero b), Fx.rf _ _ _⟩
  · intro f a st ha hI
    obtain ⟨s1, s2⟩ := st
    obtain ⟨i1, i2, i3⟩ := hI
    simp only at i1 i2 i3
    subst i1
    refine ⟨(sI s1 35 a (-1), nI (a + 1)), ⟨rfl, fun b hb => ?_, Fx.tr i3 Fx.sI⟩, ?_⟩
    · show (sI s1 35 a (-1)).1 35 b = -1
      rw [sI_u]
      by_cases e : b = a
      · rw [e, pk_us]
      · rw [pk_un e]; exact i2 b (by omega)
    · show fX6_findsPieces_7b (fX6_findsPieces_7 f) s1 (nI a) = _
      unfold fX6_findsPieces_7b
      rw [if_neg (show ¬ (448 : Int32) ≤ nI a from nI_ge (b := 448) ha (by decide)), ck_in ha (by decide), nm_eq, nm_eq, nI_clamp (by omega), nI_1]
  · intro f st hI
    obtain ⟨s1, s2⟩ := st
    obtain ⟨i1, i2, i3⟩ := hI
    simp only at i1 i2 i3
    subst i1
    show ∃ h1, fX6_findsPieces_7b _ s1 (nI 448) = _ ∧ _
    unfold fX6_findsPieces_7b
    rw [if_pos (show (448 : Int32) ≤ nI 448 by decide)]
    have F1 : FrP h s1 := FrP.tr F0 (FrP.of i3 (by decide))
    obtain ⟨h1, e1, e2, e3⟩ := r_find29 (h := s1) hK hO (FrP.ro F1 hw) (by rw [F1.2 0 (by decide)]; exact hm) (by rw [i3.1 29 (by decide), sI_u, pk_us]) i2
    exact ⟨h1, e1, e2, FrP.tr F1 e3⟩
end RF
