/-! PURE: what is told of pieces -/
section TP
variable {K rl : Nat} {d : Nat → Nat} {se w g w' g' : Nat → Bool} {j j' : List Nat} {T T' : Sht} {fi : Int32} {h h1 h2 : AH}
theorem cnt_ex {p : Nat → Bool} : ∀ {n : Nat}, cnt p n ≠ 0 → ∃ q, q < n ∧ p q = true := by
  intro n
  induction n with
  | zero => intro h; exact absurd rfl h
  | succ n ih =>
    intro h
    by_cases e : p n = true
    · exact ⟨n, by omega, e⟩
    · have h2 : cnt p n + (if p n then 1 else 0) ≠ 0 := h
      rw [if_neg e] at h2
      obtain ⟨q, q1, q2⟩ := ih h2
      exact ⟨q, by omega, q2⟩
theorem cnt_at {p : Nat → Bool} {n q : Nat} (hq : q < n) (hp : p q = true) : cnt p n ≠ 0 := by
  have h1 : cnt p (q + 1) ≤ cnt p n := cnt_mono p (by omega)
  have h2 : cnt p (q + 1) = cnt p q + (if p q then 1 else 0) := rfl
  rw [if_pos hp] at h2
  omega
/-- the bits of the piece whose least bit is a -/
noncomputable def pbB (K : Nat) (w : Nat → Bool) (a b : Nat) : Bool := w b && rcB K w (a / 8) (b / 8)
theorem lb_iff {k b : Nat} {S : PS} {m : Nat} (hI : PInv K w m S) (hm : m < 1000) (hS : S.1 ≤ m) (hk : k < S.1) : lbV w S.2.1 b = nI k ↔ pbB K w (S.2.2 k) b = true := by
  obtain ⟨i1, i2, i3, i4, i5⟩ := hI
  obtain ⟨j1, j2, j3, j4⟩ := i5 k hk
  have hb := i1 (b / 8)
  unfold lbV pbB
  by_cases e : w b = true
  · by_cases l0 : S.2.1 (b / 8) = 0
    · rw [if_neg (fun q => q.2 l0), e, Bool.true_and]
      refine ⟨fun q => absurd q.symm (nI_ne1 (by omega)), fun q => ?_⟩
      have := (j3 (b / 8)).mpr (rcB_iff.mp q)
      omega
    · rw [if_pos ⟨e, l0⟩, e, Bool.true_and, rcB_iff, ← j3 (b / 8), nI_eq (by omega) (by omega)]
      omega
  · rw [if_neg (fun q => e q.1)]
    refine ⟨fun q => absurd q.symm (nI_ne1 (by omega)), fun q => ?_⟩
    rw [Bool.and_eq_true_iff] at q
    exact absurd q.1 e
/-- a word has a bit of a piece -/
theorem has_iff {a V : Nat} (hO : Ot K w) (ha : w a = true) (h8 : 8 ≤ V) (hV : V < 8 * (K + 1)) : (!(cnt (fun q => pbB K w a (bA V q)) 16 == 0)) = rcB K w (a / 8) V := by
  by_cases e : rchW K w (a / 8) V
  · rw [rcB_iff.mpr e]
    obtain ⟨b, b1, b2⟩ := rchW_in e ⟨a, ha, inW_row a⟩
    obtain ⟨p, p1, p2⟩ := inW_bA h8 b2
    have : cnt (fun q => pbB K w a (bA V q)) 16 ≠ 0 := cnt_at p1 (by
      show pbB K w a (bA V p) = true
      rw [p2]
      unfold pbB
      rw [b1, rcB_iff.mpr (e.st ⟨b, b1, b2, inW_row b⟩)]
      rfl)
    rw [beq_false_of_ne this]
    rfl
  · rw [rcB_f.mpr e]
    have : cnt (fun q => pbB K w a (bA V q)) 16 = 0 := by
      refine cnt_none (fun q hq => ?_)
      show pbB K w a (bA V q) = false
      cases hp : pbB K w a (bA V q)
      · rfl
      · unfold pbB at hp
        obtain ⟨h1, h2⟩ := Bool.and_eq_true_iff.mp hp
        exact absurd ((rcB_iff.mp h2).st ⟨_, h1, inW_row _, bA_inW h8 hV hq⟩) e
    rw [this]
    rfl
theorem r_hasPiece {i r k a : Nat} (hK : K ≤ 6) (hO : Ot K w) (ha : w a = true) (hp : ∀ b, b < 448 → (h.1 35 b = nI k ↔ pbB K w a b = true)) (hi : 1 ≤ i) (hiK : i ≤ K) (hr : r < 8) : fX6_hasPiece h (nI i) (nI r) (nI k) = some (b2i (rcB K w (a / 8) (8 * i + r))) := by
  unfold fX6_hasPiece
  refine lup (fun n (s : Int32 × Int32) => fX6_hasPiece_6 h (nI i) (nI r) (nI k) n s.1 s.2) (fun p => (b2i (!(cnt (fun q => pbB K w a (bA (8 * i + r) q)) p == 0)), nI p)) 16 ?_ ?_ 0 FU (Nat.zero_le _) (FU_lt (by omega))
  · intro n p hp16
    have hb := bA_lt (p := p) hi (by omega) hr hp16
    have ex : cnt (fun q => pbB K w a (bA (8 * i + r) q)) (p + 1) = cnt (fun q => pbB K w a (bA (8 * i + r) q)) p + (if pbB K w a (bA (8 * i + r) p) then 1 else 0) := rfl
    show fX6_hasPiece_6b (fX6_hasPiece_6 h (nI i) (nI r) (nI k) n) h (nI i) (nI r) (nI k) (b2i (!(cnt (fun q => pbB K w a (bA (8 * i + r) q)) p == 0))) (nI p) = fX6_hasPiece_6 h (nI i) (nI r) (nI k) n (b2i (!(cnt (fun q => pbB K w a (bA (8 * i + r) q)) (p + 1) == 0))) (nI (p + 1))
    rw [ex]
    unfold fX6_hasPiece_6b fX6_hasPiece_34 fX6_hasPiece_39
    simp only [nm_eq, nI_1]
    rw [if_neg (show ¬ (16 : Int32) ≤ nI p from nI_ge (b := 16) hp16 (by decide))]
    by_cases e0 : cnt (fun q => pbB K w a (bA (8 * i + r) q)) p = 0
    · rw [e0, if_pos (show b2i (!((0 : Nat) == 0)) = 0 from rfl), r_bitAt h hi (by omega) hr hp16, bR_s, ck_in hb (by decide), nI_clamp (by omega)]
      by_cases e1 : pbB K w a (bA (8 * i + r) p) = true
      · rw [if_pos ((hp _ hb).mpr e1), if_pos e1]
        rfl
      · rw [if_neg (fun q => e1 ((hp _ hb).mp q)), if_neg e1]
        rfl
    · rw [beq_false_of_ne e0, Bool.not_false, if_neg b2t, beq_false_of_ne (by omega)]
      rfl
  · intro n
    show fX6_hasPiece_6b _ h (nI i) (nI r) (nI k) (b2i (!(cnt (fun q => pbB K w a (bA (8 * i + r) q)) 16 == 0))) (nI 16) = _
    unfold fX6_hasPiece_6b
    rw [if_pos (show (16 : Int32) ≤ nI 16 by decide), vn_b, has_iff hO ha (by omega) (by omega)]
noncomputable def bdB (K : Nat) (w : Nat → Bool) (a V : Nat) : Bool := rcB K w (a / 8) V && decide (onN w V 16 < 2)
theorem rcB_8 {a V : Nat} (hO : Ot K w) (ha : w a = true) (hV : V < 8 ∨ 8 * (K + 1) ≤ V) : rcB K w (a / 8) V = false := by
  refine rcB_f.mpr (fun q => ?_)
  have := rchW_rg hO q ⟨a, ha, inW_row a⟩
  omega
theorem cnt_up {p : Nat → Bool} (hK : K ≤ 6) (hp : ∀ V, 8 * (K + 1) ≤ V → p V = false) : cnt p (8 * (K + 1)) = cnt p 56 := by
  have e := cnt_add p (8 * (K + 1)) (56 - 8 * (K + 1))
  rw [cnt_none (n := 56 - 8 * (K + 1)) (fun t _ => hp _ (by omega)), show 8 * (K + 1) + (56 - 8 * (K + 1)) = 56 by omega] at e
  exact e.symm
theorem r_pb69 {k a n : Nat} {x3 x4 : Int32} (hK : K ≤ 6) (hO : Ot K w) (hw : Ro 32 w h) (hm : h.1 29 0 = nI K) (ha : w a = true) (hp : ∀ b, b < 448 → (h.1 35 b = nI k ↔ pbB K w a b = true)) :
    fX6_pieceBy_69 h (nI k) (nI n) FU x3 x4 0 1 1 = if nI n = 0 then some x3 else if nI n = 1 then some (nI (cnt (fun V => rcB K w (a / 8) V) 56)) else if nI n = 2 then some (b2i (cnt (bdB K w a) 56 == 0)) else some x4 := by
  have z8 : (0 : Int32) = nI (cnt (fun V => rcB K w (a / 8) V) (8 * (0 + 1))) := cz8 (p := fun V => rcB K w (a / 8) V) (fun W hW => rcB_8 hO ha (Or.inl hW))
  have y8 : (1 : Int32) = b2i (cnt (bdB K w a) (8 * (0 + 1)) == 0) := by
    rw [cnt_none (fun W hW => by unfold bdB; rw [rcB_8 hO ha (Or.inl (by omega)), Bool.false_and])]
    rfl
  refine Eq.trans (b := fX6_pieceBy_69 h (nI k) (nI n) FU x3 x4 (nI (cnt (fun V => rcB K w (a / 8) V) (8 * (0 + 1)))) (b2i (cnt (bdB K w a) (8 * (0 + 1)) == 0)) (nI (0 + 1))) (by rw [← z8, ← y8]; rfl) ?_
  refine lup (fun f (s : Int32 × Int32 × Int32) => fX6_pieceBy_69 h (nI k) (nI n) f x3 x4 s.1 s.2.1 s.2.2) (fun i => (nI (cnt (fun V => rcB K w (a / 8) V) (8 * (i + 1))), b2i (cnt (bdB K w a) (8 * (i + 1)) == 0), nI (i + 1))) K ?_ ?_ 0 FU (Nat.zero_le _) (FU_lt (by omega))
  · intro f i hi
    show fX6_pieceBy_69b (fX6_pieceBy_69 h (nI k) (nI n) f) h (nI k) (nI n) x3 x4 (nI (cnt (fun V => rcB K w (a / 8) V) (8 * (i + 1)))) (b2i (cnt (bdB K w a) (8 * (i + 1)) == 0)) (nI (i + 1)) = fX6_pieceBy_69 h (nI k) (nI n) f x3 x4 (nI (cnt (fun V => rcB K w (a / 8) V) (8 * (i + 1 + 1)))) (b2i (cnt (bdB K w a) (8 * (i + 1 + 1)) == 0)) (nI (i + 1 + 1))
    unfold fX6_pieceBy_69b
    rw [hm, if_neg (nI_nlt (by omega) (by omega))]
    refine lup (fun m (s : Int32 × Int32 × Int32) => fX6_pieceBy_81 (fX6_pieceBy_69 h (nI k) (nI n) f) h (nI k) (nI n) m x3 x4 s.1 s.2.1 (nI (i + 1)) s.2.2) (fun r => (nI (cnt (fun V => rcB K w (a / 8) V) (8 * (i + 1) + r)), b2i (cnt (bdB K w a) (8 * (i + 1) + r) == 0), nI r)) 8 ?_ ?_ 0 FU (Nat.zero_le _) (FU_lt (by omega))
    · intro m r hr
      have e1 : cnt (fun V => rcB K w (a / 8) V) (8 * (i + 1) + (r + 1)) = cnt (fun V => rcB K w (a / 8) V) (8 * (i + 1) + r) + (if rcB K w (a / 8) (8 * (i + 1) + r) then 1 else 0) := rfl
      have e2 : cnt (bdB K w a) (8 * (i + 1) + (r + 1)) = cnt (bdB K w a) (8 * (i + 1) + r) + (if bdB K w a (8 * (i + 1) + r) then 1 else 0) := rfl
      show fX6_pieceBy_81b (fX6_pieceBy_69 h (nI k) (nI n) f) (fX6_pieceBy_81 (fX6_pieceBy_69 h (nI k) (nI n) f) h (nI k) (nI n) m) h (nI k) (nI n) x3 x4 (nI (cnt (fun V => rcB K w (a / 8) V) (8 * (i + 1) + r))) (b2i (cnt (bdB K w a) (8 * (i + 1) + r) == 0)) (nI (i + 1)) (nI r) = fX6_pieceBy_81 (fX6_pieceBy_69 h (nI k) (nI n) f) h (nI k) (nI n) m x3 x4 (nI (cnt (fun V => rcB K w (a / 8) V) (8 * (i + 1) + (r + 1)))) (b2i (cnt (bdB K w a) (8 * (i + 1) + (r + 1)) == 0)) (nI (i + 1)) (nI (r + 1))
      rw [e1, e2]
      have ho := onN_le w (8 * (i + 1) + r)
      have hone : fX6_onesOf h 32 (nI (i + 1)) (nI r) 0 16 = some (nI (onN w (8 * (i + 1) + r) 16)) := r_onesOf rfl hw (by omega) (by omega) hr
      unfold fX6_pieceBy_81b fX6_pieceBy_111 fX6_pieceBy_142 fX6_pieceBy_146 fX6_pieceBy_147 bdB
      simp only [nm_eq, nI_1]
      rw [if_neg (show ¬ (8 : Int32) ≤ nI r from nI_ge (b := 8) hr (by decide)), r_hasPiece hK hO ha hp (by omega) (by omega) hr, bR_s]
      cases hb : rcB K w (a / 8) (8 * (i + 1) + r)
      · simp only [if_pos b2f, Bool.false_and, if_neg (show ¬ (false = true) by decide), Nat.add_zero, Int32.add_zero]
        by_cases e0 : cnt (fun V => rcB K w (a / 8) V && decide (onN w V 16 < 2)) (8 * (i + 1) + r) = 0
        · rw [e0, if_neg (show ¬ b2i ((0 : Nat) == 0) = 0 by decide)]
          rfl
        · rw [beq_false_of_ne e0, if_pos b2f]
          rfl
      · simp only [if_neg b2t, Bool.true_and, if_pos rfl, hone, bR_s]
        have hle : nI (onN w (8 * (i + 1) + r) 16) ≤ 1 ↔ onN w (8 * (i + 1) + r) 16 ≤ 1 := nI_leI (b := 1) (by omega) (by decide)
        by_cases e0 : cnt (fun V => rcB K w (a / 8) V && decide (onN w V 16 < 2)) (8 * (i + 1) + r) = 0
        · rw [e0, if_neg (show ¬ b2i ((0 : Nat) == 0) = 0 by decide)]
          by_cases t : onN w (8 * (i + 1) + r) 16 < 2
          · rw [if_pos (hle.mpr (by omega)), decide_eq_true t]
            rfl
          · rw [if_neg (fun q => t (by have := hle.mp q; omega)), decide_eq_false t]
            rfl
        · rw [beq_false_of_ne e0, if_pos b2f, beq_false_of_ne (by omega)]
          rfl
    · intro m
      show fX6_pieceBy_81b (fX6_pieceBy_69 h (nI k) (nI n) f) (fX6_pieceBy_81 (fX6_pieceBy_69 h (nI k) (nI n) f) h (nI k) (nI n) m) h (nI k) (nI n) x3 x4 (nI (cnt (fun V => rcB K w (a / 8) V) (8 * (i + 1) + 8))) (b2i (cnt (bdB K w a) (8 * (i + 1) + 8) == 0)) (nI (i + 1)) (nI 8) = _
      unfold fX6_pieceBy_81b
      rw [if_pos (show (8 : Int32) ≤ nI 8 from by decide), nm_eq, nI_1, show 8 * (i + 1) + 8 = 8 * (i + 1 + 1) by omega]
  · intro f
    show fX6_pieceBy_69b _ h (nI k) (nI n) x3 x4 (nI (cnt (fun V => rcB K w (a / 8) V) (8 * (K + 1)))) (b2i (cnt (bdB K w a) (8 * (K + 1)) == 0)) (nI (K + 1)) = _
    unfold fX6_pieceBy_69b
    rw [hm, if_pos (nI_lt (by omega) (by omega)), cnt_up (p := fun V => rcB K w (a / 8) V) hK (fun V hV => rcB_8 hO ha (Or.inr hV)), cnt_up (p := bdB K w a) hK (fun V hV => by unfold bdB; rw [rcB_8 hO ha (Or.inr hV), Bool.false_and])]
    by_cases n0 : nI n = 0
    · rw [if_pos n0, if_pos n0]
    · rw [if_neg n0, if_neg n0]
      by_cases n1 : nI n = 1
      · rw [if_pos n1, if_pos n1]
      · rw [if_neg n1, if_neg n1]
        by_cases n2 : nI n = 2
        · rw [if_pos n2, if_pos n2]
          cases (cnt (bdB K w a) 56 == 0)
          · rw [if_pos b2f]; rfl
          · rw [if_neg b2t]; rfl
        · rw [if_neg n2, if_neg n2]
theorem r_pb10 {k a n M : Nat} {Z : Option Int32} (hZ : fX6_pieceBy_69 h (nI k) (nI n) FU (nI M) (nI a) 0 1 1 = Z) (hM : ∀ m, m ≤ 448 → cnt (pbB K w a) m ≤ M) (ha : w a = true) (ha4 : a < 448) (hmin : ∀ b, pbB K w a b = true → a ≤ b) (hp : ∀ b, b < 448 → (h.1 35 b = nI k ↔ pbB K w a b = true)) : ∀ (m fuel : Nat) (x4 : Int32), m ≤ 448 → m < fuel → (m ≤ a → x4 = nI a) → fX6_pieceBy_10 h (nI k) (nI n) fuel (nI (M - cnt (pbB K w a) m)) x4 (dn m) = Z := by
  intro m
  induction m with
  | zero =>
    intro fuel x4 _ hf hx
    obtain ⟨f, rfl⟩ : ∃ f, fuel = f + 1 := ⟨fuel - 1, by omega⟩
    show fX6_pieceBy_10b _ h (nI k) (nI n) (nI (M - cnt (pbB K w a) 0)) x4 (dn 0) = _
    unfold fX6_pieceBy_10b
    rw [if_pos dn_0, hx (Nat.zero_le a), show cnt (pbB K w a) 0 = 0 from rfl, Nat.sub_zero, hZ]
  | succ m ih =>
    intro fuel x4 hm hf hx
    obtain ⟨f, rfl⟩ : ∃ f, fuel = f + 1 := ⟨fuel - 1, by omega⟩
    have ex : cnt (pbB K w a) (m + 1) = cnt (pbB K w a) m + (if pbB K w a m then 1 else 0) := rfl
    have mo : cnt (pbB K w a) (m + 1) ≤ M := hM (m + 1) hm
    show fX6_pieceBy_10b (fX6_pieceBy_10 h (nI k) (nI n) f) h (nI k) (nI n) (nI (M - cnt (pbB K w a) (m + 1))) x4 (dn (m + 1)) = _
    clear hZ
    unfold fX6_pieceBy_10b
    rw [dn_s, if_neg (nI_pos (by omega))]
    unfold fX6_pieceBy_32 fX6_pieceBy_52
    simp only [nm_eq]
    rw [ck_in (show m < 448 by omega) (by decide), ck_in (show m < 448 by omega) (by decide), nI_clamp (by omega)]
    by_cases e : pbB K w a m = true
    · rw [if_pos e] at ex
      rw [if_pos ((hp m (by omega)).mpr e), if_pos ((hp m (by omega)).mpr e), nI_1, show M - cnt (pbB K w a) (m + 1) + 1 = M - cnt (pbB K w a) m by omega]
      exact ih f (nI m) (by omega) (by omega) (fun q => by have := hmin m e; rw [show m = a by omega])
    · rw [if_neg e] at ex
      rw [if_neg (fun q => e ((hp m (by omega)).mp q)), ck_in (show m < 448 by omega) (by decide), if_neg (fun q => e ((hp m (by omega)).mp q)), Int32.add_zero, show cnt (pbB K w a) (m + 1) = cnt (pbB K w a) m by omega]
      refine ih f x4 (by omega) (by omega) (fun q => hx ?_)
      have : m ≠ a := by
        intro e2
        apply e
        rw [e2]
        unfold pbB
        rw [ha, rcB_iff.mpr (rchW.rf _)]
        rfl
      omega
theorem r_pieceBy {k n : Nat} (hK : K ≤ 6) (hO : Ot K w) (hw : Ro 32 w h) (hm : h.1 29 0 = nI K) (hP : MP w (bcS K w 448) h) (hk : k < (bcS K w 448).1) (hn : n < 4) : fX6_pieceBy h (nI k) (nI n) = some (pvV K w ((bcS K w 448).2.2 k) n) := by
  have pin := bcS_inv (K := K) (w := w) 448
  have cl := bcS_le (K := K) (w := w) 448
  obtain ⟨j1, j2, j3, j4⟩ := pin.2.2.2.2 k hk
  have hp : ∀ b, b < 448 → (h.1 35 b = nI k ↔ pbB K w ((bcS K w 448).2.2 k) b = true) := fun b hb => by rw [hP.2 b hb]; exact lb_iff pin (by decide) cl hk
  have hmin : ∀ b, pbB K w ((bcS K w 448).2.2 k) b = true → (bcS K w 448).2.2 k ≤ b := by
    intro b hb
    unfold pbB at hb
    obtain ⟨h1, h2⟩ := Bool.and_eq_true_iff.mp hb
    exact j4 b h1 ((j3 _).mpr (rcB_iff.mp h2))
  unfold fX6_pieceBy
  rw [nm_eq]
  have hpv : pvV K w ((bcS K w 448).2.2 k) n = if n = 0 then nI (cnt (pbB K w ((bcS K w 448).2.2 k)) 448) else if n = 1 then nI (cnt (fun V => rcB K w ((bcS K w 448).2.2 k / 8) V) 56) else if n = 2 then b2i (cnt (bdB K w ((bcS K w 448).2.2 k)) 56 == 0) else nI ((bcS K w 448).2.2 k) := rfl
  rw [hpv]
  generalize (bcS K w 448).2.2 k = a at j1 j2 j3 j4 hp hmin
  generalize hX : cnt (fun V => rcB K w (a / 8) V) 56 = X
  generalize hY : (cnt (bdB K w a) 56 == 0) = Y
  generalize hM : cnt (pbB K w a) 448 = M
  have e := r_pb10 (n := n) (M := M) rfl (fun m hm => by rw [← hM]; exact cnt_mono _ hm) j2 j1 hmin hp 448 FU (-1) (Nat.le_refl _) (FU_lt (by decide)) (fun q => by omega)
  rw [hM, Nat.sub_self, show dn 448 = 447 by decide] at e
  rw [show (0 : Int32) = nI 0 from rfl, e, r_pb69 hK hO hw hm j2 hp, hX, hY]
  rcases (show n = 0 ∨ n = 1 ∨ n = 2 ∨ n = 3 by omega) with rfl | rfl | rfl | rfl <;> rfl
theorem c_tell {k n : Nat} (hk : k < (bcS K w 448).1) (hc : (bcS K w 448).1 ≤ 56) (hP : CP K w (bcS K w 448) h) (hn : n < 4) : fX1_tell h (nI k) (nI n) = some (pvV K w ((bcS K w 448).2.2 k) n) := by
  obtain ⟨p1, p2⟩ := hP
  obtain ⟨q0, q1, q2, q3⟩ := p2 k hk
  unfold fX1_tell
  rw [if_neg (nI_pos (by omega)), p1, if_pos (nI_lt hk (by omega)), ck_in (show k < 56 by omega) (by decide), ck_in (show k < 56 by omega) (by decide), ck_in (show k < 56 by omega) (by decide), ck_in (show k < 56 by omega) (by decide), nI_clamp (by omega), q0, q1, q2, q3]
  rcases (show n = 0 ∨ n = 1 ∨ n = 2 ∨ n = 3 by omega) with rfl | rfl | rfl | rfl <;> rfl
theorem bcS_48 (hO : Ot K w) : (bcS K w 448).1 ≤ 48 := bcS_cnt hO 48
theorem Cl.pf (q : Cl K rl d se w g j T fi h) (F : Fx [13, 14, 15, 16, 17, 18, 19] [] h h1) : Cl K rl d se w g j T fi h1 := q.fg (Fx.mo F (by decide) (by decide))
theorem Mo.pf (q : Mo K rl d se w g j T fi h) (F : FrP h h1) : Mo K rl d se w g j T fi h1 := by
  obtain ⟨⟨a1, ⟨a2, a3, a4⟩, a5, a6⟩, q2, q3, q4, q5, q6⟩ := q
  refine ⟨⟨Ro.fx F.1 a1 (by decide), ⟨?_, a3, fun k hk => ?_⟩, ?_, ?_⟩, Da.fx F.1 q2 (by decide), Ro.fx F.1 q3 (by decide), Ro.fx F.1 q4 (by decide), ShM.fx F.1 q5 (by decide) (by decide) (by decide), ?_⟩
  · rw [F.2 7 (by decide)]; exact a2
  · rw [F.1.1 34 (by decide)]; exact a4 k hk
  · rw [F.2 0 (by decide)]; exact a5
  · rw [F.2 1 (by decide)]; exact a6
  · rw [F.2 17 (by decide)]; exact q6
theorem tell_bad {x y : Int32} {n : Nat} (hn : h.1 13 0 = nI n) (hn2 : n ≤ 56) (hx : decide (0 ≤ x.toInt ∧ x.toInt < n) = false) : fX1_tell h x y = some (-2) := by
  have hx := of_decide_eq_false hx
  unfold fX1_tell
  by_cases e : x < 0
  · rw [if_pos e]
  · rw [if_neg e]
    obtain ⟨m, m1, rfl⟩ := pos_n e
    rw [nI_toInt m1] at hx
    rw [hn, if_neg (nI_nlt (by omega) (by omega))]
theorem o_piece (B : Bo h) (x y : Int32) : Oo (fun h => fX5_piece h x y) (fun h => fX6_piece h x y) h := by
  obtain ⟨K, rl, d, se, w, g, j, T, fi, hI, hC, hM⟩ := B
  have hK := hI.2.1
  have hO := hI.ot
  have c48 := bcS_48 hO
  obtain ⟨h1, e1, e2, e3⟩ := c_find hK hO hC.1
  have hC1 := hC.pf e3
  have hM1 := hM.lo (e3.lo (by decide) (by decide))
  obtain ⟨h2, f1, f2, f3⟩ := r_find hK hO hM1.1.1 hM1.1.2.2.1
  have hM2 := hM1.pf f3
  have key : ∃ v, fX1_tell h1 x y = some v ∧ (bR (fX6_in h2 x 0 ((h2.1 29 10) - 1)) fun r2 => if r2 = 0 then some ((-2), h2) else bR (fX6_in h2 y 0 3) fun r3 => if r3 = 0 then some ((-2), h2) else bR (fX6_pieceBy h2 x y) fun r4 => some (r4, h2)) = some (v, h2) := by
    have ri : fX6_in h2 x 0 ((h2.1 29 10) - 1) = some (b2i (decide (0 ≤ x.toInt ∧ x.toInt < (bcS K w 448).1))) := by
      rw [f2.1]; exact r_hasItem (by omega) x
    rw [ri, bR_s]
    cases hx : decide (0 ≤ x.toInt ∧ x.toInt < (bcS K w 448).1)
    · exact ⟨-2, tell_bad e2.1 (by omega) hx, if_pos b2f⟩
    · obtain ⟨k, k1, rfl⟩ := it_of (by omega) hx
      rw [if_neg b2t, show fX6_in h2 y 0 3 = some (b2i (rg y 0 3)) from r_in h2 y (a := 0) (b := 3) (by decide) (by decide), bR_s]
      cases hy : rg y 0 3
      · rw [if_pos b2f]
        refine ⟨-2, ?_, rfl⟩
        unfold fX1_tell
        have ny : ∀ n, n ≤ 3 → ¬ y = nI n := fun n hn e => by rw [e, rg_t (by omega) (Nat.zero_le n) hn] at hy; cases hy
        rw [if_neg (nI_pos (by omega)), e2.1, if_pos (nI_lt k1 (by omega)), if_neg (show ¬ y = 0 from ny 0 (by decide)), if_neg (show ¬ y = 1 from ny 1 (by decide)), if_neg (show ¬ y = 2 from ny 2 (by decide)), if_neg (show ¬ y = 3 from ny 3 (by decide))]
      · obtain ⟨n, -, n2, rfl⟩ := rg_n (by decide) hy
        rw [if_neg b2t, r_pieceBy hK hO hM2.1.1 hM2.1.2.2.1 f2 k1 (by omega), bR_s]
        exact ⟨_, c_tell k1 (by omega) e2 (by omega), rfl⟩
  obtain ⟨v, v1, v2⟩ := key
  refine Oo.mk (h1 := h1) (h2 := h2) (v := v) ?_ ?_ hI hC1 hM2 (f3.1.hi (by decide) (by decide))
  · show fX5_piece h x y = _
    unfold fX5_piece
    rw [e1, bR_s, v1, bR_s]
  · show fX6_piece h1 x y = _
    unfold fX6_piece
    rw [f1, bR_s]
    exact v2
end TP
