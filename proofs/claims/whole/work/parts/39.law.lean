/-! PURE: the law -/
section LW
variable {h : AH} {L i : Nat} {xs : Nat → Int32}
theorem rdx {α : Type} {k : Int32} (c : Nat) (hk : k = nI c) (hi : i + c < L) (hL : L ≤ 3072) (F : Int32 → Option α) : (nm (nI i + k) fun v1 => ck (inb v1 L) (nm (xs v1.toNatClampNeg) F)) = F (xs (i + c)) := by
  rw [nm_eq, hk, nI_add, ck_in hi (by omega), nm_eq, nI_clamp (by omega)]
theorem rdx1 {α : Type} (hi : i + 1 < L) (hL : L ≤ 3072) (F : Int32 → Option α) : (nm (nI i + 1) fun v1 => ck (inb v1 L) (nm (xs v1.toNatClampNeg) F)) = F (xs (i + 1)) := rdx 1 rfl hi hL F
theorem rdx2 {α : Type} (hi : i + 2 < L) (hL : L ≤ 3072) (F : Int32 → Option α) : (nm (nI i + 2) fun v1 => ck (inb v1 L) (nm (xs v1.toNatClampNeg) F)) = F (xs (i + 2)) := rdx 2 rfl hi hL F
theorem rdx3 {α : Type} (hi : i + 3 < L) (hL : L ≤ 3072) (F : Int32 → Option α) : (nm (nI i + 3) fun v1 => ck (inb v1 L) (nm (xs v1.toNatClampNeg) F)) = F (xs (i + 3)) := rdx 3 rfl hi hL F
theorem rdx4 {α : Type} (hi : i + 4 < L) (hL : L ≤ 3072) (F : Int32 → Option α) : (nm (nI i + 4) fun v1 => ck (inb v1 L) (nm (xs v1.toNatClampNeg) F)) = F (xs (i + 4)) := rdx 4 rfl hi hL F
theorem rdx5 {α : Type} (hi : i + 5 < L) (hL : L ≤ 3072) (F : Int32 → Option α) : (nm (nI i + 5) fun v1 => ck (inb v1 L) (nm (xs v1.toNatClampNeg) F)) = F (xs (i + 5)) := rdx 5 rfl hi hL F
theorem lgx (v : Int64) : lg_cmp v v = 0 := by
  unfold lg_cmp
  rw [if_neg (fun q => by have q : v < v := q; rw [Int64.lt_iff_toInt_lt] at q; omega), if_pos rfl]
theorem l_next {k18 : AH → Int32 → Option AH} : fL_1188 L xs k18 h (nI i) = k18 h (nI (i + 6)) := by
  unfold fL_1188
  rw [nm_eq]
  exact congrArg _ (nI_add i 6)
theorem t_blocks {k18 : AH → Int32 → Option AH} (B : Bo h) (hi : i + 6 ≤ L) (hL : L ≤ 3072) : ∃ h1, fL_172 L xs k18 h (nI i) = k18 h1 (nI (i + 6)) ∧ Bo h1 := by
  obtain ⟨v, h1, h2, e1, e2, B2⟩ := o_blocks B (xs (i + 1))
  have e1 : fX5_blocks h (xs (i + 1)) = some (v, h1) := e1
  have e2 : fX6_blocks h1 (xs (i + 1)) = some (v, h2) := e2
  refine ⟨h2, ?_, B2⟩
  unfold fL_172
  rw [rdx1 (by omega) hL, e1, bW_s, rdx1 (by omega) hL, e2, bW_s, if_pos rfl, l_next]
theorem t_data {k18 : AH → Int32 → Option AH} (B : Bo h) (hi : i + 6 ≤ L) (hL : L ≤ 3072) : ∃ h1, fL_195 L xs k18 h (nI i) = k18 h1 (nI (i + 6)) ∧ Bo h1 := by
  obtain ⟨v, h1, h2, e1, e2, B2⟩ := o_data B (xs (i + 1)) (xs (i + 2)) (xs (i + 3))
  have e1 : fX5_data h (xs (i + 1)) (xs (i + 2)) (xs (i + 3)) = some (v, h1) := e1
  have e2 : fX6_data h1 (xs (i + 1)) (xs (i + 2)) (xs (i + 3)) = some (v, h2) := e2
  refine ⟨h2, ?_, B2⟩
  unfold fL_195
  rw [rdx1 (by omega) hL, rdx2 (by omega) hL, rdx3 (by omega) hL, e1, bW_s, rdx1 (by omega) hL, rdx2 (by omega) hL, rdx3 (by omega) hL, e2, bW_s, if_pos rfl, l_next]
theorem t_flip {k18 : AH → Int32 → Option AH} (B : Bo h) (hi : i + 6 ≤ L) (hL : L ≤ 3072) : ∃ h1, fL_238 L xs k18 h (nI i) = k18 h1 (nI (i + 6)) ∧ Bo h1 := by
  obtain ⟨v, h1, h2, e1, e2, B2⟩ := o_flip B (xs (i + 1)) (xs (i + 2)) (xs (i + 3))
  have e1 : fX5_flip h (xs (i + 1)) (xs (i + 2)) (xs (i + 3)) = some (v, h1) := e1
  have e2 : fX6_flip h1 (xs (i + 1)) (xs (i + 2)) (xs (i + 3)) = some (v, h2) := e2
  refine ⟨h2, ?_, B2⟩
  unfold fL_238
  rw [rdx1 (by omega) hL, rdx2 (by omega) hL, rdx3 (by omega) hL, e1, bW_s, rdx1 (by omega) hL, rdx2 (by omega) hL, rdx3 (by omega) hL, e2, bW_s, if_pos rfl, l_next]
theorem t_lots {k18 : AH → Int32 → Option AH} (B : Bo h) (hi : i + 6 ≤ L) (hL : L ≤ 3072) : ∃ h1, fL_281 L xs k18 h (nI i) = k18 h1 (nI (i + 6)) ∧ Bo h1 := by
  obtain ⟨v, h1, h2, e1, e2, B2⟩ := o_lots B (xs (i + 1)) (xs (i + 2))
  have e1 : fX5_lots h (xs (i + 1)) (xs (i + 2)) = some (v, h1) := e1
  have e2 : fX6_lots h1 (xs (i + 1)) (xs (i + 2)) = some (v, h2) := e2
  refine ⟨h2, ?_, B2⟩
  unfold fL_281
  rw [rdx1 (by omega) hL, rdx2 (by omega) hL, e1, bW_s, rdx1 (by omega) hL, rdx2 (by omega) hL, e2, bW_s, if_pos rfl, l_next]
theorem t_read {k18 : AH → Int32 → Option AH} (B : Bo h) (hi : i + 6 ≤ L) (hL : L ≤ 3072) : ∃ h1, fL_314 L xs k18 h (nI i) = k18 h1 (nI (i + 6)) ∧ Bo h1 := by
  obtain ⟨v, h1, h2, e1, e2, B2⟩ := o_read B (xs (i + 1)) (xs (i + 2))
  have e1 : fX5_read h (xs (i + 1)) (xs (i + 2)) = some (v, h1) := e1
  have e2 : fX6_read h1 (xs (i + 1)) (xs (i + 2)) = some (v, h2) := e2
  refine ⟨h2, ?_, B2⟩
  unfold fL_314
  rw [rdx1 (by omega) hL, rdx2 (by omega) hL, e1, bW_s, rdx1 (by omega) hL, rdx2 (by omega) hL, e2, bW_s, if_pos rfl, l_next]
theorem t_rule {k18 : AH → Int32 → Option AH} (B : Bo h) (hi : i + 6 ≤ L) (hL : L ≤ 3072) : ∃ h1, fL_347 L xs k18 h (nI i) = k18 h1 (nI (i + 6)) ∧ Bo h1 := by
  obtain ⟨v, h1, h2, e1, e2, B2⟩ := o_rule B (xs (i + 1))
  have e1 : fX5_rule h (xs (i + 1)) = some (v, h1) := e1
  have e2 : fX6_rule h1 (xs (i + 1)) = some (v, h2) := e2
  refine ⟨h2, ?_, B2⟩
  unfold fL_347
  rw [rdx1 (by omega) hL, e1, bW_s, rdx1 (by omega) hL, e2, bW_s, if_pos rfl, l_next]
theorem t_bit {k18 : AH → Int32 → Option AH} (B : Bo h) (hi : i + 6 ≤ L) (hL : L ≤ 3072) : ∃ h1, fL_370 L xs k18 h (nI i) = k18 h1 (nI (i + 6)) ∧ Bo h1 := by
  obtain ⟨v, e1, e2⟩ := o_bit B (xs (i + 1)) (xs (i + 2)) (xs (i + 3)) (xs (i + 4))
  have e1 : fX5_bit h (xs (i + 1)) (xs (i + 2)) (xs (i + 3)) (xs (i + 4)) = some v := e1
  have e2 : fX6_bit h (xs (i + 1)) (xs (i + 2)) (xs (i + 3)) (xs (i + 4)) = some v := e2
  refine ⟨h, ?_, B⟩
  unfold fL_370
  rw [rdx1 (by omega) hL, rdx2 (by omega) hL, rdx3 (by omega) hL, rdx4 (by omega) hL, e1, bR_s, rdx1 (by omega) hL, rdx2 (by omega) hL, rdx3 (by omega) hL, rdx4 (by omega) hL, e2, bR_s, if_pos rfl, l_next]
theorem t_row {k18 : AH → Int32 → Option AH} (B : Bo h) (hi : i + 6 ≤ L) (hL : L ≤ 3072) : ∃ h1, fL_423 L xs k18 h (nI i) = k18 h1 (nI (i + 6)) ∧ Bo h1 := by
  obtain ⟨v, e1, e2⟩ := o_row B (xs (i + 1)) (xs (i + 2)) (xs (i + 3))
  have e1 : fX5_row h (xs (i + 1)) (xs (i + 2)) (xs (i + 3)) = some v := e1
  have e2 : fX6_row h (xs (i + 1)) (xs (i + 2)) (xs (i + 3)) = some v := e2
  refine ⟨h, ?_, B⟩
  unfold fL_423
  rw [rdx1 (by omega) hL, rdx2 (by omega) hL, rdx3 (by omega) hL, e1, bR_s, rdx1 (by omega) hL, rdx2 (by omega) hL, rdx3 (by omega) hL, e2, bR_s, if_pos rfl, l_next]
theorem t_block {k18 : AH → Int32 → Option AH} (B : Bo h) (hi : i + 6 ≤ L) (hL : L ≤ 3072) : ∃ h1, fL_466 L xs k18 h (nI i) = k18 h1 (nI (i + 6)) ∧ Bo h1 := by
  obtain ⟨v, e1, e2⟩ := o_block B (xs (i + 1))
  have e1 : fX5_block h (xs (i + 1)) = some v := e1
  have e2 : fX6_block h (xs (i + 1)) = some v := e2
  refine ⟨h, ?_, B⟩
  unfold fL_466
  rw [rdx1 (by omega) hL, e1, bR_s, rdx1 (by omega) hL, e2, bR_s, if_pos (lgx _), l_next]
theorem t_word {k18 : AH → Int32 → Option AH} (B : Bo h) (hi : i + 6 ≤ L) (hL : L ≤ 3072) : ∃ h1, fL_490 L xs k18 h (nI i) = k18 h1 (nI (i + 6)) ∧ Bo h1 := by
  obtain ⟨v, e1, e2⟩ := o_word B (xs (i + 1)) (xs (i + 2)) (xs (i + 3))
  have e1 : fX5_word h (xs (i + 1)) (xs (i + 2)) (xs (i + 3)) = some v := e1
  have e2 : fX6_word h (xs (i + 1)) (xs (i + 2)) (xs (i + 3)) = some v := e2
  refine ⟨h, ?_, B⟩
  unfold fL_490
  rw [rdx1 (by omega) hL, rdx2 (by omega) hL, rdx3 (by omega) hL, e1, bR_s, rdx1 (by omega) hL, rdx2 (by omega) hL, rdx3 (by omega) hL, e2, bR_s, if_pos rfl, l_next]
theorem t_mend {k18 : AH → Int32 → Option AH} (B : Bo h) (hi : i + 6 ≤ L) (hL : L ≤ 3072) : ∃ h1, fL_533 L xs k18 h (nI i) = k18 h1 (nI (i + 6)) ∧ Bo h1 := by
  obtain ⟨v, h1, h2, e1, e2, B2⟩ := o_mend B (xs (i + 1)) (xs (i + 2))
  have e1 : fX5_mend h (xs (i + 1)) (xs (i + 2)) = some (v, h1) := e1
  have e2 : fX6_mend h1 (xs (i + 1)) (xs (i + 2)) = some (v, h2) := e2
  refine ⟨h2, ?_, B2⟩
  unfold fL_533
  rw [rdx1 (by omega) hL, rdx2 (by omega) hL, e1, bW_s, rdx1 (by omega) hL, rdx2 (by omega) hL, e2, bW_s, if_pos rfl, l_next]
theorem t_turn {k18 : AH → Int32 → Option AH} (B : Bo h) (hi : i + 6 ≤ L) (hL : L ≤ 3072) : ∃ h1, fL_566 L xs k18 h (nI i) = k18 h1 (nI (i + 6)) ∧ Bo h1 := by
  obtain ⟨v, h1, h2, e1, e2, B2⟩ := o_turn B (xs (i + 1)) (xs (i + 2))
  have e1 : fX5_turn h (xs (i + 1)) (xs (i + 2)) = some (v, h1) := e1
  have e2 : fX6_turn h1 (xs (i + 1)) (xs (i + 2)) = some (v, h2) := e2
  refine ⟨h2, ?_, B2⟩
  unfold fL_566
  rw [rdx1 (by omega) hL, rdx2 (by omega) hL, e1, bW_s, rdx1 (by omega) hL, rdx2 (by omega) hL, e2, bW_s, if_pos rfl, l_next]
theorem t_window {k18 : AH → Int32 → Option AH} (B : Bo h) (hi : i + 6 ≤ L) (hL : L ≤ 3072) : ∃ h1, fL_599 L xs k18 h (nI i) = k18 h1 (nI (i + 6)) ∧ Bo h1 := by
  obtain ⟨v, h1, h2, e1, e2, B2⟩ := o_window B (xs (i + 1)) (xs (i + 2)) (xs (i + 3))
  have e1 : fX5_window h (xs (i + 1)) (xs (i + 2)) (xs (i + 3)) = some (v, h1) := e1
  have e2 : fX6_window h1 (xs (i + 1)) (xs (i + 2)) (xs (i + 3)) = some (v, h2) := e2
  refine ⟨h2, ?_, B2⟩
  unfold fL_599
  rw [rdx1 (by omega) hL, rdx2 (by omega) hL, rdx3 (by omega) hL, e1, bW_s, rdx1 (by omega) hL, rdx2 (by omega) hL, rdx3 (by omega) hL, e2, bW_s, if_pos rfl, l_next]
theorem t_slide {k18 : AH → Int32 → Option AH} (B : Bo h) (hi : i + 6 ≤ L) (hL : L ≤ 3072) : ∃ h1, fL_642 L xs k18 h (nI i) = k18 h1 (nI (i + 6)) ∧ Bo h1 := by
  obtain ⟨v, h1, h2, e1, e2, B2⟩ := o_slide B (xs (i + 1)) (xs (i + 2))
  have e1 : fX5_slide h (xs (i + 1)) (xs (i + 2)) = some (v, h1) := e1
  have e2 : fX6_slide h1 (xs (i + 1)) (xs (i + 2)) = some (v, h2) := e2
  refine ⟨h2, ?_, B2⟩
  unfold fL_642
  rw [rdx1 (by omega) hL, rdx2 (by omega) hL, e1, bW_s, rdx1 (by omega) hL, rdx2 (by omega) hL, e2, bW_s, if_pos rfl, l_next]
theorem t_undo {k18 : AH → Int32 → Option AH} (B : Bo h) (hi : i + 6 ≤ L) (hL : L ≤ 3072) : ∃ h1, fL_675 L xs k18 h (nI i) = k18 h1 (nI (i + 6)) ∧ Bo h1 := by
  obtain ⟨v, h1, h2, e1, e2, B2⟩ := o_undo B 
  have e1 : fX5_undo h  = some (v, h1) := e1
  have e2 : fX6_undo h1  = some (v, h2) := e2
  refine ⟨h2, ?_, B2⟩
  unfold fL_675
  rw [e1, bW_s, e2, bW_s, if_pos rfl, l_next]
theorem t_back {k18 : AH → Int32 → Option AH} (B : Bo h) (hi : i + 6 ≤ L) (hL : L ≤ 3072) : ∃ h1, fL_688 L xs k18 h (nI i) = k18 h1 (nI (i + 6)) ∧ Bo h1 := by
  obtain ⟨v, h1, h2, e1, e2, B2⟩ := o_back B 
  have e1 : fX5_back h  = some (v, h1) := e1
  have e2 : fX6_back h1  = some (v, h2) := e2
  refine ⟨h2, ?_, B2⟩
  unfold fL_688
  rw [e1, bW_s, e2, bW_s, if_pos rfl, l_next]
theorem t_settle {k18 : AH → Int32 → Option AH} (B : Bo h) (hi : i + 6 ≤ L) (hL : L ≤ 3072) : ∃ h1, fL_701 L xs k18 h (nI i) = k18 h1 (nI (i + 6)) ∧ Bo h1 := by
  obtain ⟨v, h1, h2, e1, e2, B2⟩ := o_settle B 
  have e1 : fX5_settle h  = some (v, h1) := e1
  have e2 : fX6_settle h1  = some (v, h2) := e2
  refine ⟨h2, ?_, B2⟩
  unfold fL_701
  rw [e1, bW_s, e2, bW_s, if_pos rfl, l_next]
theorem t_journal {k18 : AH → Int32 → Option AH} (B : Bo h) (hi : i + 6 ≤ L) (hL : L ≤ 3072) : ∃ h1, fL_714 L xs k18 h (nI i) = k18 h1 (nI (i + 6)) ∧ Bo h1 := by
  obtain ⟨v, e1, e2⟩ := o_journal B (xs (i + 1))
  have e1 : fX5_journal h (xs (i + 1)) = some v := e1
  have e2 : fX6_journal h (xs (i + 1)) = some v := e2
  refine ⟨h, ?_, B⟩
  unfold fL_714
  rw [rdx1 (by omega) hL, e1, bR_s, rdx1 (by omega) hL, e2, bR_s, if_pos rfl, l_next]
theorem t_stall {k18 : AH → Int32 → Option AH} (B : Bo h) (hi : i + 6 ≤ L) (hL : L ≤ 3072) : ∃ h1, fL_737 L xs k18 h (nI i) = k18 h1 (nI (i + 6)) ∧ Bo h1 := by
  obtain ⟨v, e1, e2⟩ := o_stall B (xs (i + 1))
  have e1 : fX5_stall h (xs (i + 1)) = some v := e1
  have e2 : fX6_stall h (xs (i + 1)) = some v := e2
  refine ⟨h, ?_, B⟩
  unfold fL_737
  rw [rdx1 (by omega) hL, e1, bR_s, rdx1 (by omega) hL, e2, bR_s, if_pos rfl, l_next]
theorem t_piece {k18 : AH → Int32 → Option AH} (B : Bo h) (hi : i + 6 ≤ L) (hL : L ≤ 3072) : ∃ h1, fL_760 L xs k18 h (nI i) = k18 h1 (nI (i + 6)) ∧ Bo h1 := by
  obtain ⟨v, h1, h2, e1, e2, B2⟩ := o_piece B (xs (i + 1)) (xs (i + 2))
  have e1 : fX5_piece h (xs (i + 1)) (xs (i + 2)) = some (v, h1) := e1
  have e2 : fX6_piece h1 (xs (i + 1)) (xs (i + 2)) = some (v, h2) := e2
  refine ⟨h2, ?_, B2⟩
  unfold fL_760
  rw [rdx1 (by omega) hL, rdx2 (by omega) hL, e1, bW_s, rdx1 (by omega) hL, rdx2 (by omega) hL, e2, bW_s, if_pos rfl, l_next]
theorem t_around {k18 : AH → Int32 → Option AH} (B : Bo h) (hi : i + 6 ≤ L) (hL : L ≤ 3072) : ∃ h1, fL_793 L xs k18 h (nI i) = k18 h1 (nI (i + 6)) ∧ Bo h1 := by
  obtain ⟨v, e1, e2⟩ := o_around B (xs (i + 1)) (xs (i + 2)) (xs (i + 3))
  have e1 : fX5_around h (xs (i + 1)) (xs (i + 2)) (xs (i + 3)) = some v := e1
  have e2 : fX6_around h (xs (i + 1)) (xs (i + 2)) (xs (i + 3)) = some v := e2
  refine ⟨h, ?_, B⟩
  unfold fL_793
  rw [rdx1 (by omega) hL, rdx2 (by omega) hL, rdx3 (by omega) hL, e1, bR_s, rdx1 (by omega) hL, rdx2 (by omega) hL, rdx3 (by omega) hL, e2, bR_s, if_pos rfl, l_next]
theorem t_would {k18 : AH → Int32 → Option AH} (B : Bo h) (hi : i + 6 ≤ L) (hL : L ≤ 3072) : ∃ h1, fL_836 L xs k18 h (nI i) = k18 h1 (nI (i + 6)) ∧ Bo h1 := by
  obtain ⟨v, h1, h2, e1, e2, B2⟩ := o_would B (xs (i + 1)) (xs (i + 2)) (xs (i + 3))
  have e1 : fX5_would h (xs (i + 1)) (xs (i + 2)) (xs (i + 3)) = some (v, h1) := e1
  have e2 : fX6_would h1 (xs (i + 1)) (xs (i + 2)) (xs (i + 3)) = some (v, h2) := e2
  refine ⟨h2, ?_, B2⟩
  unfold fL_836
  rw [rdx1 (by omega) hL, rdx2 (by omega) hL, rdx3 (by omega) hL, e1, bW_s, rdx1 (by omega) hL, rdx2 (by omega) hL, rdx3 (by omega) hL, e2, bW_s, if_pos rfl, l_next]
theorem t_best {k18 : AH → Int32 → Option AH} (B : Bo h) (hi : i + 6 ≤ L) (hL : L ≤ 3072) : ∃ h1, fL_879 L xs k18 h (nI i) = k18 h1 (nI (i + 6)) ∧ Bo h1 := by
  obtain ⟨v, h1, h2, e1, e2, B2⟩ := o_best B (xs (i + 1))
  have e1 : fX5_best h (xs (i + 1)) = some (v, h1) := e1
  have e2 : fX6_best h1 (xs (i + 1)) = some (v, h2) := e2
  refine ⟨h2, ?_, B2⟩
  unfold fL_879
  rw [rdx1 (by omega) hL, e1, bW_s, rdx1 (by omega) hL, e2, bW_s, if_pos rfl, l_next]
theorem t_sheet {k18 : AH → Int32 → Option AH} (B : Bo h) (hi : i + 6 ≤ L) (hL : L ≤ 3072) : ∃ h1, fL_902 L xs k18 h (nI i) = k18 h1 (nI (i + 6)) ∧ Bo h1 := by
  obtain ⟨v, h1, h2, e1, e2, B2⟩ := o_sheet B (xs (i + 1)) (xs (i + 2)) (xs (i + 3))
  have e1 : fX5_sheet h (xs (i + 1)) (xs (i + 2)) (xs (i + 3)) = some (v, h1) := e1
  have e2 : fX6_sheet h1 (xs (i + 1)) (xs (i + 2)) (xs (i + 3)) = some (v, h2) := e2
  refine ⟨h2, ?_, B2⟩
  unfold fL_902
  rw [rdx1 (by omega) hL, rdx2 (by omega) hL, rdx3 (by omega) hL, e1, bW_s, rdx1 (by omega) hL, rdx2 (by omega) hL, rdx3 (by omega) hL, e2, bW_s, if_pos rfl, l_next]
theorem t_lose {k18 : AH → Int32 → Option AH} (B : Bo h) (hi : i + 6 ≤ L) (hL : L ≤ 3072) : ∃ h1, fL_945 L xs k18 h (nI i) = k18 h1 (nI (i + 6)) ∧ Bo h1 := by
  obtain ⟨v, h1, h2, e1, e2, B2⟩ := o_lose B (xs (i + 1))
  have e1 : fX5_lose h (xs (i + 1)) = some (v, h1) := e1
  have e2 : fX6_lose h1 (xs (i + 1)) = some (v, h2) := e2
  refine ⟨h2, ?_, B2⟩
  unfold fL_945
  rw [rdx1 (by omega) hL, e1, bW_s, rdx1 (by omega) hL, e2, bW_s, if_pos rfl, l_next]
theorem t_put {k18 : AH → Int32 → Option AH} (B : Bo h) (hi : i + 6 ≤ L) (hL : L ≤ 3072) : ∃ h1, fL_968 L xs k18 h (nI i) = k18 h1 (nI (i + 6)) ∧ Bo h1 := by
  obtain ⟨v, h1, h2, e1, e2, B2⟩ := o_put B (xs (i + 1)) (xs (i + 2)) (xs (i + 3)) (xs (i + 4))
  have e1 : fX5_put h (xs (i + 1)) (xs (i + 2)) (xs (i + 3)) (xs (i + 4)) = some (v, h1) := e1
  have e2 : fX6_put h1 (xs (i + 1)) (xs (i + 2)) (xs (i + 3)) (xs (i + 4)) = some (v, h2) := e2
  refine ⟨h2, ?_, B2⟩
  unfold fL_968
  rw [rdx1 (by omega) hL, rdx2 (by omega) hL, rdx3 (by omega) hL, rdx4 (by omega) hL, e1, bW_s, rdx1 (by omega) hL, rdx2 (by omega) hL, rdx3 (by omega) hL, rdx4 (by omega) hL, e2, bW_s, if_pos rfl, l_next]
theorem t_get {k18 : AH → Int32 → Option AH} (B : Bo h) (hi : i + 6 ≤ L) (hL : L ≤ 3072) : ∃ h1, fL_1021 L xs k18 h (nI i) = k18 h1 (nI (i + 6)) ∧ Bo h1 := by
  obtain ⟨v, h1, h2, e1, e2, B2⟩ := o_get B (xs (i + 1)) (xs (i + 2))
  have e1 : fX5_get h (xs (i + 1)) (xs (i + 2)) = some (v, h1) := e1
  have e2 : fX6_get h1 (xs (i + 1)) (xs (i + 2)) = some (v, h2) := e2
  refine ⟨h2, ?_, B2⟩
  unfold fL_1021
  rw [rdx1 (by omega) hL, rdx2 (by omega) hL, e1, bW_s, rdx1 (by omega) hL, rdx2 (by omega) hL, e2, bW_s, if_pos (lgx _), l_next]
theorem t_copy {k18 : AH → Int32 → Option AH} (B : Bo h) (hi : i + 6 ≤ L) (hL : L ≤ 3072) : ∃ h1, fL_1055 L xs k18 h (nI i) = k18 h1 (nI (i + 6)) ∧ Bo h1 := by
  obtain ⟨v, h1, h2, e1, e2, B2⟩ := o_copy B (xs (i + 1)) (xs (i + 2)) (xs (i + 3)) (xs (i + 4)) (xs (i + 5))
  have e1 : fX5_copy h (xs (i + 1)) (xs (i + 2)) (xs (i + 3)) (xs (i + 4)) (xs (i + 5)) = some (v, h1) := e1
  have e2 : fX6_copy h1 (xs (i + 1)) (xs (i + 2)) (xs (i + 3)) (xs (i + 4)) (xs (i + 5)) = some (v, h2) := e2
  refine ⟨h2, ?_, B2⟩
  unfold fL_1055
  rw [rdx1 (by omega) hL, rdx2 (by omega) hL, rdx3 (by omega) hL, rdx4 (by omega) hL, rdx5 (by omega) hL, e1, bW_s, rdx1 (by omega) hL, rdx2 (by omega) hL, rdx3 (by omega) hL, rdx4 (by omega) hL, rdx5 (by omega) hL, e2, bW_s, if_pos rfl, l_next]
theorem t_write {k18 : AH → Int32 → Option AH} (B : Bo h) (hi : i + 6 ≤ L) (hL : L ≤ 3072) : ∃ h1, fL_1118 L xs k18 h (nI i) = k18 h1 (nI (i + 6)) ∧ Bo h1 := by
  obtain ⟨v, h1, h2, e1, e2, B2⟩ := o_write B (xs (i + 1)) (xs (i + 2))
  have e1 : fX5_write h (xs (i + 1)) (xs (i + 2)) = some (v, h1) := e1
  have e2 : fX6_write h1 (xs (i + 1)) (xs (i + 2)) = some (v, h2) := e2
  refine ⟨h2, ?_, B2⟩
  unfold fL_1118
  rw [rdx1 (by omega) hL, rdx2 (by omega) hL, e1, bW_s, rdx1 (by omega) hL, rdx2 (by omega) hL, e2, bW_s, if_pos rfl, l_next]
theorem t_count {k18 : AH → Int32 → Option AH} (B : Bo h) (hi : i + 6 ≤ L) (hL : L ≤ 3072) : ∃ h1, fL_1151 L xs k18 h (nI i) = k18 h1 (nI (i + 6)) ∧ Bo h1 := by
  obtain ⟨v, h1, h2, e1, e2, B2⟩ := o_count B (xs (i + 1))
  have e1 : fX5_count h (xs (i + 1)) = some (v, h1) := e1
  have e2 : fX6_count h1 (xs (i + 1)) = some (v, h2) := e2
  refine ⟨h2, ?_, B2⟩
  unfold fL_1151
  rw [rdx1 (by omega) hL, e1, bW_s, rdx1 (by omega) hL, e2, bW_s, if_pos rfl, l_next]
theorem t_digest {k18 : AH → Int32 → Option AH} (B : Bo h) (hi : i + 6 ≤ L) (hL : L ≤ 3072) : ∃ h1, fL_1174 L xs k18 h (nI i) = k18 h1 (nI (i + 6)) ∧ Bo h1 := by
  obtain ⟨v, h1, h2, e1, e2, B2⟩ := o_digest B 
  have e1 : fX5_digest h  = some (v, h1) := e1
  have e2 : fX6_digest h1  = some (v, h2) := e2
  refine ⟨h2, ?_, B2⟩
  unfold fL_1174
  rw [e1, bW_s, e2, bW_s, if_pos (lgx _), l_next]
theorem l_step {k18 : AH → Int32 → Option AH} (B : Bo h) (hi : i + 6 ≤ L) (hL : L ≤ 3072) : ∃ h1, fL_18b L xs k18 h (nI i) = k18 h1 (nI (i + 6)) ∧ Bo h1 := by
  unfold fL_18b
  have hx : ¬ (nI L - 6) < nI i := by
    rw [Int32.lt_iff_toInt_lt, show (6 : Int32) = nI 6 from rfl, sub_ti (by omega) (by decide), nI_toInt (by omega)]
    omega
  rw [if_neg hx, ck_in (show i < L by omega) (by omega), nm_eq, nm_eq]
  generalize xs (nI i).toNatClampNeg &&& 31 = v
  by_cases q0 : v = 0
  · rw [if_pos q0]; exact t_blocks B hi hL
  rw [if_neg q0]
  by_cases q1 : v = 1
  · rw [if_pos q1]; exact t_data B hi hL
  rw [if_neg q1]
  by_cases q2 : v = 2
  · rw [if_pos q2]; exact t_flip B hi hL
  rw [if_neg q2]
  by_cases q3 : v = 3
  · rw [if_pos q3]; exact t_lots B hi hL
  rw [if_neg q3]
  by_cases q4 : v = 4
  · rw [if_pos q4]; exact t_read B hi hL
  rw [if_neg q4]
  by_cases q5 : v = 5
  · rw [if_pos q5]; exact t_rule B hi hL
  rw [if_neg q5]
  by_cases q6 : v = 6
  · rw [if_pos q6]; exact t_bit B hi hL
  rw [if_neg q6]
  by_cases q7 : v = 7
  · rw [if_pos q7]; exact t_row B hi hL
  rw [if_neg q7]
  by_cases q8 : v = 8
  · rw [if_pos q8]; exact t_block B hi hL
  rw [if_neg q8]
  by_cases q9 : v = 9
  · rw [if_pos q9]; exact t_word B hi hL
  rw [if_neg q9]
  by_cases q10 : v = 10
  · rw [if_pos q10]; exact t_mend B hi hL
  rw [if_neg q10]
  by_cases q11 : v = 11
  · rw [if_pos q11]; exact t_turn B hi hL
  rw [if_neg q11]
  by_cases q12 : v = 12
  · rw [if_pos q12]; exact t_window B hi hL
  rw [if_neg q12]
  by_cases q13 : v = 13
  · rw [if_pos q13]; exact t_slide B hi hL
  rw [if_neg q13]
  by_cases q14 : v = 14
  · rw [if_pos q14]; exact t_undo B hi hL
  rw [if_neg q14]
  by_cases q15 : v = 15
  · rw [if_pos q15]; exact t_back B hi hL
  rw [if_neg q15]
  by_cases q16 : v = 16
  · rw [if_pos q16]; exact t_settle B hi hL
  rw [if_neg q16]
  by_cases q17 : v = 17
  · rw [if_pos q17]; exact t_journal B hi hL
  rw [if_neg q17]
  by_cases q18 : v = 18
  · rw [if_pos q18]; exact t_stall B hi hL
  rw [if_neg q18]
  by_cases q19 : v = 19
  · rw [if_pos q19]; exact t_piece B hi hL
  rw [if_neg q19]
  by_cases q20 : v = 20
  · rw [if_pos q20]; exact t_around B hi hL
  rw [if_neg q20]
  by_cases q21 : v = 21
  · rw [if_pos q21]; exact t_would B hi hL
  rw [if_neg q21]
  by_cases q22 : v = 22
  · rw [if_pos q22]; exact t_best B hi hL
  rw [if_neg q22]
  by_cases q23 : v = 23
  · rw [if_pos q23]; exact t_sheet B hi hL
  rw [if_neg q23]
  by_cases q24 : v = 24
  · rw [if_pos q24]; exact t_lose B hi hL
  rw [if_neg q24]
  by_cases q25 : v = 25
  · rw [if_pos q25]; exact t_put B hi hL
  rw [if_neg q25]
  by_cases q26 : v = 26
  · rw [if_pos q26]; exact t_get B hi hL
  rw [if_neg q26]
  by_cases q27 : v = 27
  · rw [if_pos q27]; exact t_copy B hi hL
  rw [if_neg q27]
  by_cases q28 : v = 28
  · rw [if_pos q28]; exact t_write B hi hL
  rw [if_neg q28]
  by_cases q29 : v = 29
  · rw [if_pos q29]; exact t_count B hi hL
  rw [if_neg q29]
  by_cases q30 : v = 30
  · rw [if_pos q30]; exact t_digest B hi hL
  rw [if_neg q30]
  exact ⟨h, l_next, B⟩
theorem Bo_0 : Bo hI := by
  have zz : ∀ t, (0 : Int64).toBitVec.getLsbD t = false := fun t => by show (0#64).getLsbD t = false; simp
  refine ⟨4, 0, fun _ => 0, fun _ => false, fun _ => false, fun _ => false, [], (fun _ => true, fun _ => 0, fun _ => 0, fun _ _ => 0), 0, ⟨by decide, by decide, by decide, fun _ => (show 0 < 8 by decide), (seG_z 4).symm, fun _ _ => rfl, (fun a ha => by cases ha), fun _ _ => ⟨(show 0 < 3 by decide), (show 0 ≤ 64 by decide)⟩⟩, ⟨⟨rfl, fun i hi t ht => zz t, fun W hW => ?_⟩, fun W hW => rfl, fun i hi t ht => zz t, fun i hi t ht => zz t, ⟨0, by decide, rfl, rfl, by decide, fun q hq => absurd hq (Nat.not_lt_zero q)⟩, fun s hs => ?_, rfl, rfl⟩, ⟨⟨fun a ha => rfl, ⟨rfl, by decide, fun q hq => absurd hq (Nat.not_lt_zero q)⟩, rfl, rfl⟩, fun W hW => rfl, fun a ha => rfl, fun a ha => rfl, fun s hs => ?_, rfl⟩⟩
  · show (0 : Int32) = _
    by_cases q : 8 ≤ W ∧ W < 8 * (4 + 1)
    · rw [if_pos q, ckF_z]
    · rw [if_neg q]
  · rcases (show s = 0 ∨ s = 1 ∨ s = 2 ∨ s = 3 by omega) with rfl | rfl | rfl | rfl <;> exact ⟨rfl, rfl, rfl, fun _ _ => rfl⟩
  · rcases (show s = 0 ∨ s = 1 ∨ s = 2 ∨ s = 3 by omega) with rfl | rfl | rfl | rfl <;> exact ⟨rfl, rfl, fun _ _ => rfl⟩
theorem l_whole (hL : L ≤ 3072) : ∃ h1, fL_18 L xs FU hI 0 = some h1 := by
  refine lmea (fun f (s : AH × Int32) => fL_18 L xs f s.1 s.2) (fun t s => t ≤ 512 ∧ s.2 = nI (6 * t) ∧ Bo s.1) 512 (fun o => ∃ h1, o = some h1) ?_ FU 0 (hI, 0) (by decide) (FU_lt (by decide)) ⟨by decide, rfl, Bo_0⟩
  intro f t s hs
  obtain ⟨s1, s2⟩ := s
  obtain ⟨i0, i1, i2⟩ := hs
  simp only at i1 i2
  subst i1
  by_cases e : 6 * t + 6 ≤ L
  · right
    obtain ⟨h1, e1, e2⟩ := l_step (k18 := fL_18 L xs f) (xs := xs) i2 e hL
    exact ⟨by omega, (h1, nI (6 * t + 6)), ⟨by omega, rfl, e2⟩, e1⟩
  · left
    refine ⟨s1, ?_⟩
    show fL_18b L xs _ s1 (nI (6 * t)) = _
    unfold fL_18b
    rw [if_pos (by
      rw [Int32.lt_iff_toInt_lt, show (6 : Int32) = nI 6 from rfl, sub_ti (by omega) (by decide), nI_toInt (by omega)]
      omega)]
end LW
