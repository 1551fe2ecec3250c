/-! PURE: bits are hit; how many are wrong -/
theorem lb_fl {h : AH} {c a : Nat} {w : Nat → Bool} (hw : Lb c w h) : Lb c (fl w a) (sL h c (a / 64) ((h.2 c (a / 64)) ^^^ (1 <<< ((nI (a % 64)).toInt64 &&& 63)))) := by
  intro i hi k hk
  rw [sL_u]
  unfold vp_updL fl
  by_cases hia : i = a / 64
  · rw [if_pos hia, L_xor, oneBit (by omega) hk, ← hia, hw i hi k hk]
    by_cases hja : k = a % 64
    · rw [decide_eq_true hja, if_pos (by omega), Bool.xor_true]
    · rw [decide_eq_false hja, if_neg (by omega), Bool.xor_false]
  · rw [if_neg hia, if_neg (by omega)]
    exact hw i hi k hk
theorem c_hit {h : AH} {K a : Nat} {w g : Nat → Bool} (hK : K ≤ 6) (ha : 64 ≤ a) (ha2 : a < 64 * (K + 1)) (hS : St 1 K w h) (hg : Lb 10 g h) : ∃ h1, fX5_hitBit h (nI a) = some h1 ∧ St 1 K (fl w a) h1 ∧ Lb 10 (fl g a) h1 ∧ Fx [3] [2, 10] h h1 := by
  obtain ⟨h1, e1, e2, e3⟩ := turn_ok hK ha ha2 hS
  unfold fX5_hitBit
  rw [e1, bR_s]
  simp only [nm_eq]
  rw [shr6 (by omega), and63 (by omega), ck_in (show a / 64 < 7 by omega) (by decide), ck_in (show a / 64 < 7 by omega) (by decide), nI_clamp (by omega)]
  have F1 : Fx [3] [2, 10] h h1 := Fx.mo e3.fx (by decide) (by decide)
  have F2 : Fx [] [10] h1 (sL h1 10 (a / 64) ((h1.2 10 (a / 64)) ^^^ (1 <<< ((nI (a % 64)).toInt64 &&& 63)))) := Fx.sL
  have g1 : Lb 10 g h1 := Lb.fx e3.fx hg (by decide)
  exact ⟨_, rfl, St.fx F2 e2 (by decide) (by decide) (by decide), lb_fl g1, Fx.tr F1 (Fx.mo F2 (by decide) (by decide))⟩
theorem r_hits {h : AH} {a : Nat} {w g : Nat → Bool} (ha : a < 448) (hw : Ro 32 w h) (hg : Ro 33 g h) : ∃ h1, fX6_hits h (nI a) = some h1 ∧ Ro 32 (fl w a) h1 ∧ Ro 33 (fl g a) h1 ∧ Fx [32, 33] [] h h1 := by
  have s39 : ∀ (h0 : AH) (v : Int32), vp_nar .boolean v = b2i (!(g a)) → Ro 33 g h0 → ∃ h1, fX6_hits_39 (nI a) h0 (nI a) v = some h1 ∧ Ro 33 (fl g a) h1 ∧ Fx [33] [] h0 h1 := by
    intro h0 v hv hg0
    unfold fX6_hits_39
    rw [ck_in ha (by decide), nm_eq, nI_clamp (by omega)]
    exact ⟨_, rfl, Ro_fl hg0 hv, Fx.sI⟩
  have s19 : ∀ v : Int32, vp_nar .boolean v = b2i (!(w a)) → ∃ h1, fX6_hits_19 (nI a) h (nI a) v = some h1 ∧ Ro 32 (fl w a) h1 ∧ Ro 33 (fl g a) h1 ∧ Fx [32, 33] [] h h1 := by
    intro v hv
    have F1 : Fx [32] [] h (sI h 32 a (vp_nar .boolean v)) := Fx.sI
    have g1 : Ro 33 g (sI h 32 a (vp_nar .boolean v)) := Ro.fx F1 hg (by decide)
    unfold fX6_hits_19
    rw [ck_in ha (by decide), nm_eq, nI_clamp (by omega), ck_in ha (by decide), g1 a ha]
    have fin : ∀ v2 : Int32, vp_nar .boolean v2 = b2i (!(g a)) → ∃ h1, fX6_hits_39 (nI a) (sI h 32 a (vp_nar .boolean v)) (nI a) v2 = some h1 ∧ Ro 32 (fl w a) h1 ∧ Ro 33 (fl g a) h1 ∧ Fx [32, 33] [] h h1 := by
      intro v2 hv2
      obtain ⟨h1, e1, e2, e3⟩ := s39 _ v2 hv2 g1
      exact ⟨h1, e1, Ro.fx e3 (Ro_fl hw hv) (by decide), e2, Fx.tr (Fx.mo F1 (by decide) (by decide)) (Fx.mo e3 (by decide) (by decide))⟩
    cases hga : g a
    · rw [if_pos b2f]; exact fin 1 (by rw [hga]; rfl)
    · rw [if_neg b2t]; exact fin 0 (by rw [hga]; rfl)
  unfold fX6_hits
  rw [ck_in ha (by decide), nI_clamp (by omega), hw a ha]
  cases hwa : w a
  · rw [if_pos b2f]; exact s19 1 (by rw [hwa]; rfl)
  · rw [if_neg b2t]; exact s19 0 (by rw [hwa]; rfl)
/-- bits outside the blocks are not wrong -/
def Ot (K : Nat) (w : Nat → Bool) : Prop := ∀ a, (a < 64 ∨ 64 * (K + 1) ≤ a) → w a = false
theorem Ot_fl {K a : Nat} {w : Nat → Bool} (h : Ot K w) (ha : 64 ≤ a) (ha2 : a < 64 * (K + 1)) : Ot K (fl w a) := by
  intro b hb
  unfold fl
  rw [if_neg (by omega)]
  exact h b hb
theorem cnt_448 {K : Nat} {w : Nat → Bool} (hK : K ≤ 6) (h : Ot K w) : cnt w 448 = cnt w (64 * (K + 1)) := by
  rw [show 448 = 64 * (K + 1) + (448 - 64 * (K + 1)) by omega, cnt_add]
  rw [cnt_none (p := fun j => w (64 * (K + 1) + j)) (fun j _ => h _ (Or.inr (by omega)))]
  omega
theorem cnt_bd (w : Nat → Bool) {n : Nat} (h : n ≤ 448) : cnt w n < 1000 := Nat.lt_of_le_of_lt (cnt_le w n) (by omega)
theorem c_wrongBits {h : AH} {a0 K : Nat} {w : Nat → Bool} (hK : K ≤ 6) (hS : St a0 K w h) (hO : Ot K w) : fX4_wrongBits h a0 = some (nI (cnt w 448)) := by
  unfold fX4_wrongBits
  rw [cnt_448 hK hO]
  have z0 : (0 : Int32) = nI (cnt w (64 * 1)) := by
    rw [cnt_none (p := w) (fun j hj => hO j (Or.inl (by omega)))]; rfl
  rw [z0, show (1 : Int32) = nI 1 from rfl]
  refine lup (fun n (s : Int32 × Int32) => fX4_wrongBits_4 h a0 n s.1 s.2) (fun k => (nI (cnt w (64 * k)), nI k)) (K + 1) ?_ ?_ 1 FU (by omega) (FU_lt (by omega))
  · intro n k hk
    show fX4_wrongBits_4b (fX4_wrongBits_4 h a0 n) h a0 (nI (cnt w (64 * k))) (nI k) = fX4_wrongBits_4 h a0 n (nI (cnt w (64 * (k + 1)))) (nI (k + 1))
    unfold fX4_wrongBits_4b
    simp only [nm_eq]
    rw [hS.1, if_neg (nI_nlt (by omega) (by omega)), ck_in (show k < 7 by omega) (by decide), nI_clamp (by omega), pop64, bR_s, nI_add, nI_1]
    rw [show 64 * (k + 1) = 64 * k + 64 by omega, cnt_add, cnt_cong (fun i hi => hS.2.1 k (by omega) i hi)]
  · intro n
    show fX4_wrongBits_4b _ h a0 (nI (cnt w (64 * (K + 1)))) (nI (K + 1)) = _
    unfold fX4_wrongBits_4b
    rw [hS.1, if_pos (nI_lt (by omega) (by omega))]
theorem r_wrongMany {h : AH} {w : Nat → Bool} (hw : Ro 32 w h) : fX6_wrongMany h = some (nI (cnt w 448)) := by
  unfold fX6_wrongMany
  refine lup (fun n (s : Int32 × Int32) => fX6_wrongMany_4 h n s.1 s.2) (fun k => (nI (cnt w k), nI k)) 448 ?_ ?_ 0 FU (by omega) (FU_lt (by omega))
  · intro n k hk
    show fX6_wrongMany_4b (fX6_wrongMany_4 h n) h (nI (cnt w k)) (nI k) = fX6_wrongMany_4 h n (nI (cnt w k + (if w k then 1 else 0))) (nI (k + 1))
    unfold fX6_wrongMany_4b fX6_wrongMany_26
    simp only [nm_eq]
    rw [if_neg (show ¬ (448 : Int32) ≤ nI k from nI_ge (b := 448) hk (by decide)), ck_in hk (by decide), nI_clamp (by omega), hw k hk]
    cases w k
    · rw [if_pos b2f, nI_1, if_neg (by decide)]
      congr 1
      exact Int32.add_zero _
    · rw [if_neg b2t, nI_1, nI_1, if_pos rfl]
  · intro n
    show fX6_wrongMany_4b _ h (nI (cnt w 448)) (nI 448) = _
    unfold fX6_wrongMany_4b
    rw [if_pos (show (448 : Int32) ≤ nI 448 from nI_le (a := 448) (Nat.le_refl 448) (by decide))]
/-- not hit, though wrong -/
theorem c_falseBits {h : AH} {K : Nat} {w g : Nat → Bool} (hK : K ≤ 6) (hS : St 1 K w h) (hg : Lb 10 g h) (hO : Ot K w) : fX5_falseBits h = some (nI (cnt (fun a => w a && !(g a)) 448)) := by
  unfold fX5_falseBits
  have hO2 : Ot K (fun a => w a && !(g a)) := fun a ha => by show (w a && !(g a)) = false; rw [hO a ha]; rfl
  rw [cnt_448 hK hO2]
  have z0 : (0 : Int32) = nI (cnt (fun a => w a && !(g a)) (64 * 1)) := by
    rw [cnt_none (fun j hj => hO2 j (Or.inl (by omega)))]; rfl
  rw [z0, show (1 : Int32) = nI 1 from rfl]
  refine lup (fun n (s : Int32 × Int32) => fX5_falseBits_4 h n s.1 s.2) (fun k => (nI (cnt (fun a => w a && !(g a)) (64 * k)), nI k)) (K + 1) ?_ ?_ 1 FU (by omega) (FU_lt (by omega))
  · intro n k hk
    show fX5_falseBits_4b (fX5_falseBits_4 h n) h (nI (cnt (fun a => w a && !(g a)) (64 * k))) (nI k) = fX5_falseBits_4 h n (nI (cnt (fun a => w a && !(g a)) (64 * (k + 1)))) (nI (k + 1))
    unfold fX5_falseBits_4b
    simp only [nm_eq]
    rw [hS.1, if_neg (nI_nlt (by omega) (by omega)), ck_in (show k < 7 by omega) (by decide), ck_in (show k < 7 by omega) (by decide), nI_clamp (by omega), pop64, bR_s, nI_add, nI_1]
    rw [show 64 * (k + 1) = 64 * k + 64 by omega, cnt_add]
    congr 3
    refine cnt_cong (fun i hi => ?_)
    show (((h.2 2 k).toBitVec &&& ((h.2 10 k).toBitVec ^^^ (-1 : Int64).toBitVec)).getLsbD i) = _
    rw [BitVec.getLsbD_and, BitVec.getLsbD_xor, hg k (by omega) i hi, show (h.2 2 k).toBitVec.getLsbD i = w (64 * k + i) from hS.2.1 k (by omega) i hi]
    rw [show (-1 : Int64).toBitVec = BitVec.allOnes 64 from rfl, BitVec.getLsbD_allOnes, decide_eq_true hi, Bool.xor_true]
  · intro n
    show fX5_falseBits_4b _ h (nI (cnt _ (64 * (K + 1)))) (nI (K + 1)) = _
    unfold fX5_falseBits_4b
    rw [hS.1, if_pos (nI_lt (by omega) (by omega))]
theorem r_falseNow {h : AH} {w g : Nat → Bool} (hw : Ro 32 w h) (hg : Ro 33 g h) : fX6_falseNow h = some (nI (cnt (fun a => w a && !(g a)) 448)) := by
  unfold fX6_falseNow
  refine lup (fun n (s : Int32 × Int32) => fX6_falseNow_4 h n s.1 s.2) (fun k => (nI (cnt (fun a => w a && !(g a)) k), nI k)) 448 ?_ ?_ 0 FU (by omega) (FU_lt (by omega))
  · intro n k hk
    show fX6_falseNow_4b (fX6_falseNow_4 h n) h (nI (cnt (fun a => w a && !(g a)) k)) (nI k) = fX6_falseNow_4 h n (nI (cnt (fun a => w a && !(g a)) k + (if (w k && !(g k)) then 1 else 0))) (nI (k + 1))
    unfold fX6_falseNow_4b fX6_falseNow_34 fX6_falseNow_35
    simp only [nm_eq]
    rw [if_neg (show ¬ (448 : Int32) ≤ nI k from nI_ge (b := 448) hk (by decide)), ck_in hk (by decide), ck_in hk (by decide), nI_clamp (by omega), hw k hk, hg k hk]
    cases w k
    · rw [if_pos b2f, nI_1]
      congr 1
      exact Int32.add_zero _
    · rw [if_neg b2t]
      cases g k
      · rw [if_pos b2f, nI_1, nI_1]; rfl
      · rw [if_neg b2t, nI_1]
        congr 1
        exact Int32.add_zero _
  · intro n
    show fX6_falseNow_4b _ h (nI (cnt _ 448)) (nI 448) = _
    unfold fX6_falseNow_4b
    rw [if_pos (show (448 : Int32) ≤ nI 448 from nI_le (a := 448) (Nat.le_refl 448) (by decide))]
