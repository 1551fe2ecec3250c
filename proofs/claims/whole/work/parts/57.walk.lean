variable {p : Program} {l : Launch} {e : Env} {s : State} {m : MethodId} {args : Array Value} {below : List Frame} {meth : Method} {c : Code} {D : va_G} {ad : Nat → Nat} {cy : Nat → ClassId} {tb : Nat → Nat}
set_option maxRecDepth 20000 in
theorem ggX6_bit_X6_isBit : GoodIn wsX6_bit wsX6_isBit := goodIn_r _ [5, 6, 7, 8, 4, 9, 10, 11, 12, 13, 14, 15, 16, 17, 31, 32, 33, 34, 35, 36, 37, 38, 39, 40, 41, 42, 43, 44, 45, 46, 47, 48] (by decide +kernel) (by decide +kernel)
set_option maxRecDepth 20000 in
theorem gX6_bit_X6_isBit : GoodIn wsX6_bit (wsV RX6 91 RX6 yX6_isBit wsX6_isBit) := goodIn_app (goodIn_of _ (by decide +kernel)) ggX6_bit_X6_isBit
set_option maxRecDepth 20000 in
theorem ggX6_bit_X6_in : GoodIn wsX6_bit wsX6_in := goodIn_r _ [17] (by decide +kernel) (by decide +kernel)
set_option maxRecDepth 20000 in
theorem gX6_bit_X6_in : GoodIn wsX6_bit (va_wsS RX6 73 yX6_in wsX6_in) := goodIn_app (goodIn_of _ (by decide +kernel)) ggX6_bit_X6_in
set_option maxRecDepth 20000 in
theorem ggX6_bit_X6_bitOf : GoodIn wsX6_bit wsX6_bitOf := goodIn_r _ [21, 22, 23, 24, 25, 26, 27, 4, 28, 29, 30, 31, 32, 33, 34, 35, 36, 37, 38, 39, 40, 41, 42, 43, 44, 45, 46, 47, 48] (by decide +kernel) (by decide +kernel)
set_option maxRecDepth 20000 in
theorem gX6_bit_X6_bitOf : GoodIn wsX6_bit (wsV RX6 115 RX6 yX6_bitOf wsX6_bitOf) := goodIn_app (goodIn_of _ (by decide +kernel)) ggX6_bit_X6_bitOf
theorem dX6_bit_0 : decode cX6_bit 0 = .ok (.aload_n 0, 1) := by decide +kernel
theorem dX6_bit_1 : decode cX6_bit 1 = .ok (.iload_n 1, 1) := by decide +kernel
theorem dX6_bit_2 : decode cX6_bit 2 = .ok (.iload_n 2, 1) := by decide +kernel
theorem dX6_bit_3 : decode cX6_bit 3 = .ok (.iload_n 3, 1) := by decide +kernel
theorem dX6_bit_4 : decode cX6_bit 4 = .ok (.invokevirtual 91, 3) := by decide +kernel
theorem dX6_bit_7 : decode cX6_bit 7 = .ok (.ifCond .eq 33, 3) := by decide +kernel
theorem dX6_bit_10 : decode cX6_bit 10 = .ok (.iload 4, 2) := by decide +kernel
theorem dX6_bit_12 : decode cX6_bit 12 = .ok (.iconst 0, 1) := by decide +kernel
theorem dX6_bit_13 : decode cX6_bit 13 = .ok (.iconst 4, 1) := by decide +kernel
theorem dX6_bit_14 : decode cX6_bit 14 = .ok (.invokestatic 73, 3) := by decide +kernel
theorem dX6_bit_17 : decode cX6_bit 17 = .ok (.ifCond .eq 23, 3) := by decide +kernel
theorem dX6_bit_20 : decode cX6_bit 20 = .ok (.aload_n 0, 1) := by decide +kernel
theorem dX6_bit_21 : decode cX6_bit 21 = .ok (.bipush 64, 2) := by decide +kernel
theorem dX6_bit_23 : decode cX6_bit 23 = .ok (.iload_n 1, 1) := by decide +kernel
theorem dX6_bit_24 : decode cX6_bit 24 = .ok (.imul, 1) := by decide +kernel
theorem dX6_bit_25 : decode cX6_bit 25 = .ok (.bipush 8, 2) := by decide +kernel
theorem dX6_bit_27 : decode cX6_bit 27 = .ok (.iload_n 2, 1) := by decide +kernel
theorem dX6_bit_28 : decode cX6_bit 28 = .ok (.imul, 1) := by decide +kernel
theorem dX6_bit_29 : decode cX6_bit 29 = .ok (.iadd, 1) := by decide +kernel
theorem dX6_bit_30 : decode cX6_bit 30 = .ok (.iload_n 3, 1) := by decide +kernel
theorem dX6_bit_31 : decode cX6_bit 31 = .ok (.iadd, 1) := by decide +kernel
theorem dX6_bit_32 : decode cX6_bit 32 = .ok (.iload 4, 2) := by decide +kernel
theorem dX6_bit_34 : decode cX6_bit 34 = .ok (.invokevirtual 115, 3) := by decide +kernel
theorem dX6_bit_37 : decode cX6_bit 37 = .ok (.goto 5, 3) := by decide +kernel
theorem dX6_bit_40 : decode cX6_bit 40 = .ok (.bipush (-2), 2) := by decide +kernel
theorem dX6_bit_42 : decode cX6_bit 42 = .ok (.ireturn, 1) := by decide +kernel
abbrev rmX6_bit : Room := { frames := 4, cells := 0, slots := 0, locals := 88 }
set_option maxHeartbeats 4000000 in
set_option maxRecDepth 100000 in
theorem tX6_bit_0 {h : AH} {a1 : Int32} {a2 : Int32} {a3 : Int32} {a4 : Int32} {r0 : Int32} (C : Cx p rmX6_bit s m args meth c RX6 cX6_bit 5 (some .int) wsX6_bit D ad cy tb 0 0) (hf : fX6_bit h a1 a2 a3 a4 = some r0) : AW p l e rmX6_bit s m args below meth c 5 D ad cy 0 0 (Qi D ad cy below args s r0 h) 0 [(0, .ref (ad 29)), (1, .int a1), (2, .int a2), (3, .int a3), (4, .int a4)] [] h := by
  unfold fX6_bit at hf
  refine aw_aload_n C dX6_bit_0 rfl 0 rfl ?_
  refine aw_iload_n C dX6_bit_1 rfl 1 rfl ?_
  refine aw_iload_n C dX6_bit_2 rfl 2 rfl ?_
  refine aw_iload_n C dX6_bit_3 rfl 3 rfl ?_
  obtain ⟨r1, hc, hf⟩ := bR_some hf
  refine aw_callVi (As := [.int a1, .int a2, .int a3]) (rest := []) C rfl (by decide) rfl (kX6_isBit (l := l) (D := D) (ad := ad) (cy := cy) (tb := tb) C.2.2.2.2.2.2.2.2.1 hc) (fun ht _ => cwV 3 ht gX6_bit_X6_isBit rfl rfl rfl (by decide +kernel) ⟨Nat.le_of_ble_eq_true rfl, Nat.le_of_ble_eq_true rfl⟩) rfl rfl (Nat.le_of_ble_eq_true rfl) dX6_bit_4 ?_
  refine aw_if_eq (tgt := 40) C dX6_bit_7 (by decide) hf (fun hf => ?_) (fun hf => ?_)
  · refine aw_bipush (v := (-2)) C dX6_bit_40 (by decide) ?_
    exact aw_iretR C dX6_bit_42 hf
  refine aw_iload C dX6_bit_10 4 rfl ?_
  refine aw_iconst (v := 0) C dX6_bit_12 (by decide) ?_
  refine aw_iconst (v := 4) C dX6_bit_13 (by decide) ?_
  obtain ⟨r2, hc, hf⟩ := bR_some hf
  refine aw_callSi (As := [.int a4, .int 0, .int 4]) (rest := []) C (kX6_in (l := l) (D := D) (ad := ad) (cy := cy) (tb := tb) C.2.2.2.2.2.2.2.2.1 hc) (fun ht _ => va_cwS 3 ht gX6_bit_X6_in rfl rfl rfl (by decide +kernel) ⟨Nat.le_of_ble_eq_true rfl, Nat.le_of_ble_eq_true rfl⟩) rfl rfl (Nat.le_of_ble_eq_true rfl) dX6_bit_14 ?_
  refine aw_if_eq (tgt := 40) C dX6_bit_17 (by decide) hf (fun hf => ?_) (fun hf => ?_)
  · refine aw_bipush (v := (-2)) C dX6_bit_40 (by decide) ?_
    exact aw_iretR C dX6_bit_42 hf
  refine aw_aload_n C dX6_bit_20 rfl 0 rfl ?_
  refine aw_bipush (v := 64) C dX6_bit_21 (by decide) ?_
  refine aw_iload_n C dX6_bit_23 rfl 1 rfl ?_
  refine aw_imul C dX6_bit_24 ?_
  refine aw_bipush (v := 8) C dX6_bit_25 (by decide) ?_
  refine aw_iload_n C dX6_bit_27 rfl 2 rfl ?_
  refine aw_imul C dX6_bit_28 ?_
  refine aw_iadd C dX6_bit_29 ?_
  refine aw_iload_n C dX6_bit_30 rfl 3 rfl ?_
  refine aw_iadd C dX6_bit_31 ?_
  refine aw_iload C dX6_bit_32 4 rfl ?_
  obtain ⟨r3, hc, hf⟩ := bR_some hf
  refine aw_callVi (As := [.int (((64 * a1) + (8 * a2)) + a3), .int a4]) (rest := []) C rfl (by decide) rfl (kX6_bitOf (l := l) (D := D) (ad := ad) (cy := cy) (tb := tb) C.2.2.2.2.2.2.2.2.1 hc) (fun ht _ => cwV 2 ht gX6_bit_X6_bitOf rfl rfl rfl (by decide +kernel) ⟨Nat.le_of_ble_eq_true rfl, Nat.le_of_ble_eq_true rfl⟩) rfl rfl (Nat.le_of_ble_eq_true rfl) dX6_bit_34 ?_
  refine aw_goto (tgt := 42) C dX6_bit_37 (by decide) ?_
  exact aw_iretR C dX6_bit_42 hf
theorem kX6_bit {h : AH} {a1 : Int32} {a2 : Int32} {a3 : Int32} {a4 : Int32} {r0 : Int32} (hi : Inj ad) (hf : fX6_bit h a1 a2 a3 a4 = some r0) : Ki l yX6_bit wsX6_bit rmX6_bit D ad cy tb [.ref (ad 29), .int a1, .int a2, .int a3, .int a4] h r0 h := met_i (lv := [(0, .ref (ad 29)), (1, .int a1), (2, .int a2), (3, .int a3), (4, .int a4)]) hi (by decide) rfl (Nat.le_of_ble_eq_true rfl) rfl rfl (fun _ _ _ _ _ _ _ _ C => tX6_bit_0 C  hf)
theorem dX5_rowOf_0 : decode cX5_rowOf 0 = .ok (.lload_n 0, 1) := by decide +kernel
theorem dX5_rowOf_1 : decode cX5_rowOf 1 = .ok (.bipush 8, 2) := by decide +kernel
theorem dX5_rowOf_3 : decode cX5_rowOf 3 = .ok (.iload_n 2, 1) := by decide +kernel
theorem dX5_rowOf_4 : decode cX5_rowOf 4 = .ok (.imul, 1) := by decide +kernel
theorem dX5_rowOf_5 : decode cX5_rowOf 5 = .ok (.lushr, 1) := by decide +kernel
theorem dX5_rowOf_6 : decode cX5_rowOf 6 = .ok (.l2i, 1) := by decide +kernel
theorem dX5_rowOf_7 : decode cX5_rowOf 7 = .ok (.sipush 255, 3) := by decide +kernel
theorem dX5_rowOf_10 : decode cX5_rowOf 10 = .ok (.iand, 1) := by decide +kernel
theorem dX5_rowOf_11 : decode cX5_rowOf 11 = .ok (.ireturn, 1) := by decide +kernel
abbrev rmX5_rowOf : Room := { frames := 0, cells := 0, slots := 0, locals := 0 }
set_option maxHeartbeats 4000000 in
set_option maxRecDepth 100000 in
theorem tX5_rowOf_0 {h : AH} {a0 : Int64} {a2 : Int32} {r0 : Int32} (C : Cx p rmX5_rowOf s m args meth c RX5 cX5_rowOf 3 (some .int) wsX5_rowOf D ad cy tb 0 0) (hf : fX5_rowOf h a0 a2 = some r0) : AW p l e rmX5_rowOf s m args below meth c 3 D ad cy 0 0 (Qi D ad cy below args s r0 h) 0 [(0, .long a0), (2, .int a2)] [] h := by
  unfold fX5_rowOf at hf
  refine aw_lload_n C dX5_rowOf_0 rfl 0 rfl ?_
  refine aw_bipush (v := 8) C dX5_rowOf_1 (by decide) ?_
  refine aw_iload_n C dX5_rowOf_3 rfl 1 rfl ?_
  refine aw_imul C dX5_rowOf_4 ?_
  refine aw_lushr C dX5_rowOf_5 ?_
  refine aw_l2i C dX5_rowOf_6 ?_
  refine aw_sipush (v := 255) C dX5_rowOf_7 (by decide) ?_
  refine aw_iand C dX5_rowOf_10 ?_
  exact aw_iretR C dX5_rowOf_11 hf
theorem kX5_rowOf {h : AH} {a0 : Int64} {a2 : Int32} {r0 : Int32} (hi : Inj ad) (hf : fX5_rowOf h a0 a2 = some r0) : Ki l yX5_rowOf wsX5_rowOf rmX5_rowOf D ad cy tb [.long a0, .int a2] h r0 h := met_i (lv := [(0, .long a0), (2, .int a2)]) hi (by decide) rfl (Nat.le_of_ble_eq_true rfl) rfl rfl (fun _ _ _ _ _ _ _ _ C => tX5_rowOf_0 C  hf)
set_option maxRecDepth 20000 in
theorem ggX5_row_X5_isWord : GoodIn wsX5_row wsX5_isWord := goodIn_r _ [6, 7, 8, 9, 5, 10, 11, 12, 13, 14, 22, 23, 24, 25, 26, 27, 28, 29, 30, 33, 34, 35] (by decide +kernel) (by decide +kernel)
set_option maxRecDepth 20000 in
theorem gX5_row_X5_isWord : GoodIn wsX5_row (wsV RX5 74 RX5 yX5_isWord wsX5_isWord) := goodIn_app (goodIn_of _ (by decide +kernel)) ggX5_row_X5_isWord
set_option maxRecDepth 20000 in
theorem ggX5_row_X5_now : GoodIn wsX5_row wsX5_now := goodIn_r _ [18, 1, 11, 22, 23, 24, 25, 26, 27, 28, 29, 30, 31, 32, 33, 34, 35] (by decide +kernel) (by decide +kernel)
set_option maxRecDepth 20000 in
theorem gX5_row_X5_now : GoodIn wsX5_row (wsV RX5 129 RX5 yX5_now wsX5_now) := goodIn_app (goodIn_of _ (by decide +kernel)) ggX5_row_X5_now
set_option maxRecDepth 20000 in
theorem ggX5_row_X5_rowOf : GoodIn wsX5_row wsX5_rowOf := goodIn_r _ [21] (by decide +kernel) (by decide +kernel)
set_option maxRecDepth 20000 in
theorem gX5_row_X5_rowOf : GoodIn wsX5_row (va_wsS RX5 146 yX5_rowOf wsX5_rowOf) := goodIn_app (goodIn_of _ (by decide +kernel)) ggX5_row_X5_rowOf
theorem dX5_row_0 : decode cX5_row 0 = .ok (.aload_n 0, 1) := by decide +kernel
theorem dX5_row_1 : decode cX5_row 1 = .ok (.iload_n 1, 1) := by decide +kernel
theorem dX5_row_2 : decode cX5_row 2 = .ok (.iload_n 2, 1) := by decide +kernel
theorem dX5_row_3 : decode cX5_row 3 = .ok (.invokevirtual 74, 3) := by decide +kernel
theorem dX5_row_6 : decode cX5_row 6 = .ok (.ifCond .ne 6, 3) := by decide +kernel
theorem dX5_row_9 : decode cX5_row 9 = .ok (.bipush (-2), 2) := by decide +kernel
theorem dX5_row_11 : decode cX5_row 11 = .ok (.ireturn, 1) := by decide +kernel
theorem dX5_row_12 : decode cX5_row 12 = .ok (.iload_n 3, 1) := by decide +kernel
theorem dX5_row_13 : decode cX5_row 13 = .ok (.tableswitch 83 0 3 #[31, 41, 55, 68], 31) := by decide +kernel
theorem dX5_row_44 : decode cX5_row 44 = .ok (.aload_n 0, 1) := by decide +kernel
theorem dX5_row_45 : decode cX5_row 45 = .ok (.iload_n 1, 1) := by decide +kernel
theorem dX5_row_46 : decode cX5_row 46 = .ok (.invokevirtual 129, 3) := by decide +kernel
theorem dX5_row_49 : decode cX5_row 49 = .ok (.iload_n 2, 1) := by decide +kernel
theorem dX5_row_50 : decode cX5_row 50 = .ok (.invokestatic 146, 3) := by decide +kernel
theorem dX5_row_53 : decode cX5_row 53 = .ok (.ireturn, 1) := by decide +kernel
theorem dX5_row_54 : decode cX5_row 54 = .ok (.aload_n 0, 1) := by decide +kernel
theorem dX5_row_55 : decode cX5_row 55 = .ok (.getfield 22, 3) := by decide +kernel
theorem dX5_row_58 : decode cX5_row 58 = .ok (.getfield 137, 3) := by decide +kernel
theorem dX5_row_61 : decode cX5_row 61 = .ok (.iload_n 1, 1) := by decide +kernel
theorem dX5_row_62 : decode cX5_row 62 = .ok (.laload, 1) := by decide +kernel
theorem dX5_row_63 : decode cX5_row 63 = .ok (.iload_n 2, 1) := by decide +kernel
theorem dX5_row_64 : decode cX5_row 64 = .ok (.invokestatic 146, 3) := by decide +kernel
theorem dX5_row_67 : decode cX5_row 67 = .ok (.ireturn, 1) := by decide +kernel
theorem dX5_row_68 : decode cX5_row 68 = .ok (.aload_n 0, 1) := by decide +kernel
theorem dX5_row_69 : decode cX5_row 69 = .ok (.iload_n 1, 1) := by decide +kernel
theorem dX5_row_70 : decode cX5_row 70 = .ok (.invokevirtual 129, 3) := by decide +kernel
theorem dX5_row_73 : decode cX5_row 73 = .ok (.iload_n 2, 1) := by decide +kernel
theorem dX5_row_74 : decode cX5_row 74 = .ok (.invokestatic 146, 3) := by decide +kernel
theorem dX5_row_77 : decode cX5_row 77 = .ok (.bipush 7, 2) := by decide +kernel
theorem dX5_row_79 : decode cX5_row 79 = .ok (.iand, 1) := by decide +kernel
theorem dX5_row_80 : decode cX5_row 80 = .ok (.ireturn, 1) := by decide +kernel
theorem dX5_row_81 : decode cX5_row 81 = .ok (.aload_n 0, 1) := by decide +kernel
theorem dX5_row_82 : decode cX5_row 82 = .ok (.getfield 22, 3) := by decide +kernel
theorem dX5_row_85 : decode cX5_row 85 = .ok (.getfield 82, 3) := by decide +kernel
theorem dX5_row_88 : decode cX5_row 88 = .ok (.bipush 8, 2) := by decide +kernel
theorem dX5_row_90 : decode cX5_row 90 = .ok (.iload_n 1, 1) := by decide +kernel
theorem dX5_row_91 : decode cX5_row 91 = .ok (.imul, 1) := by decide +kernel
theorem dX5_row_92 : decode cX5_row 92 = .ok (.iload_n 2, 1) := by decide +kernel
theorem dX5_row_93 : decode cX5_row 93 = .ok (.iadd, 1) := by decide +kernel
theorem dX5_row_94 : decode cX5_row 94 = .ok (.iaload, 1) := by decide +kernel
theorem dX5_row_95 : decode cX5_row 95 = .ok (.ireturn, 1) := by decide +kernel
theorem dX5_row_96 : decode cX5_row 96 = .ok (.bipush (-2), 2) := by decide +kernel
theorem dX5_row_98 : decode cX5_row 98 = .ok (.ireturn, 1) := by decide +kernel
abbrev rmX5_row : Room := { frames := 2, cells := 0, slots := 0, locals := 43 }
set_option maxRecDepth 100000 in
theorem hinX5_row_5 : ∀ w ∈ wsX50, w ∈ wsX5_row := by decide +kernel
set_option maxRecDepth 100000 in
theorem hinX5_row_2 : ∀ w ∈ wsX20, w ∈ wsX5_row := by decide +kernel
set_option maxHeartbeats 4000000 in
set_option maxRecDepth 100000 in
theorem tX5_row_0 {h : AH} {a1 : Int32} {a2 : Int32} {a3 : Int32} {r0 : Int32} (C : Cx p rmX5_row s m args meth c RX5 cX5_row 4 (some .int) wsX5_row D ad cy tb 0 0) (hf : fX5_row h a1 a2 a3 = some r0) : AW p l e rmX5_row s m args below meth c 4 D ad cy 0 0 (Qi D ad cy below args s r0 h) 0 [(0, .ref (ad 0)), (1, .int a1), (2, .int a2), (3, .int a3)] [] h := by
  unfold fX5_row at hf
  refine aw_aload_n C dX5_row_0 rfl 0 rfl ?_
  refine aw_iload_n C dX5_row_1 rfl 1 rfl ?_
  refine aw_iload_n C dX5_row_2 rfl 2 rfl ?_
  obtain ⟨r1, hc, hf⟩ := bR_some hf
  refine aw_callVi (As := [.int a1, .int a2]) (rest := []) C rfl (by decide) rfl (kX5_isWord (l := l) (D := D) (ad := ad) (cy := cy) (tb := tb) C.2.2.2.2.2.2.2.2.1 hc) (fun ht _ => cwV 2 ht gX5_row_X5_isWord rfl rfl rfl (by decide +kernel) ⟨Nat.le_of_ble_eq_true rfl, Nat.le_of_ble_eq_true rfl⟩) rfl rfl (Nat.le_of_ble_eq_true rfl) dX5_row_3 ?_
  refine aw_if_ne (tgt := 12) C dX5_row_6 (by decide) hf (fun hf => ?_) (fun hf => ?_)
  · refine aw_iload_n C dX5_row_12 rfl 3 rfl ?_
    rcases Decidable.em (a3 = 0) with hx0 | hx0
    · rw [if_pos hx0] at hf
      refine aw_tabIn (tgt := 44) C dX5_row_13 (by rw [hx0]; decide) (by rw [hx0]; decide) (by rw [hx0]; rfl) (by decide) ?_
      refine aw_aload_n C dX5_row_44 rfl 0 rfl ?_
      refine aw_iload_n C dX5_row_45 rfl 1 rfl ?_
      obtain ⟨r2, hc, hf⟩ := bR_some hf
      refine aw_callVl (As := [.int a1]) (rest := []) C rfl (by decide) rfl (kX5_now (l := l) (D := D) (ad := ad) (cy := cy) (tb := tb) C.2.2.2.2.2.2.2.2.1 hc) (fun ht _ => cwV 1 ht gX5_row_X5_now rfl rfl rfl (by decide +kernel) ⟨Nat.le_of_ble_eq_true rfl, Nat.le_of_ble_eq_true rfl⟩) rfl rfl (Nat.le_of_ble_eq_true rfl) dX5_row_46 ?_
      refine aw_iload_n C dX5_row_49 rfl 2 rfl ?_
      obtain ⟨r3, hc, hf⟩ := bR_some hf
      refine aw_callSi (As := [.long r2, .int a2]) (rest := []) C (kX5_rowOf (l := l) (D := D) (ad := ad) (cy := cy) (tb := tb) C.2.2.2.2.2.2.2.2.1 hc) (fun ht _ => va_cwS 2 ht gX5_row_X5_rowOf rfl rfl rfl (by decide +kernel) ⟨Nat.le_of_ble_eq_true rfl, Nat.le_of_ble_eq_true rfl⟩) rfl rfl (Nat.le_of_ble_eq_true rfl) dX5_row_50 ?_
      exact aw_iretR C dX5_row_53 hf
    rw [if_neg hx0] at hf
    rcases Decidable.em (a3 = 1) with hx1 | hx1
    · rw [if_pos hx1] at hf
      refine aw_tabIn (tgt := 54) C dX5_row_13 (by rw [hx1]; decide) (by rw [hx1]; decide) (by rw [hx1]; rfl) (by decide) ?_
      refine aw_aload_n C dX5_row_54 rfl 0 rfl ?_
      refine aw_get C (kd_lt rfl (by decide)) (ce_5 rfl) rfl hinX5_row_5 2 (by decide) rfl (by decide +kernel) rfl dX5_row_55 ?_
      refine aw_getN (host := "StairCodes") C (kd_lt rfl (by decide)) (ce_2 rfl) rfl hinX5_row_2 1 (by decide) rfl (by decide +kernel) rfl dX5_row_58 ?_
      refine aw_iload_n C dX5_row_61 rfl 1 rfl ?_
      refine aw_lald C rfl rfl hf dX5_row_62 (fun hf => ?_)
      refine aw_iload_n C dX5_row_63 rfl 2 rfl ?_
      obtain ⟨r4, hc, hf⟩ := bR_some hf
      refine aw_callSi (As := [.long (h.2 9 a1.toNatClampNeg), .int a2]) (rest := []) C (kX5_rowOf (l := l) (D := D) (ad := ad) (cy := cy) (tb := tb) C.2.2.2.2.2.2.2.2.1 hc) (fun ht _ => va_cwS 2 ht gX5_row_X5_rowOf rfl rfl rfl (by decide +kernel) ⟨Nat.le_of_ble_eq_true rfl, Nat.le_of_ble_eq_true rfl⟩) rfl rfl (Nat.le_of_ble_eq_true rfl) dX5_row_64 ?_
      exact aw_iretR C dX5_row_67 hf
    rw [if_neg hx1] at hf
    rcases Decidable.em (a3 = 2) with hx2 | hx2
    · rw [if_pos hx2] at hf
      refine aw_tabIn (tgt := 68) C dX5_row_13 (by rw [hx2]; decide) (by rw [hx2]; decide) (by rw [hx2]; rfl) (by decide) ?_
      refine aw_aload_n C dX5_row_68 rfl 0 rfl ?_
      refine aw_iload_n C dX5_row_69 rfl 1 rfl ?_
      obtain ⟨r5, hc, hf⟩ := bR_some hf
      refine aw_callVl (As := [.int a1]) (rest := []) C rfl (by decide) rfl (kX5_now (l := l) (D := D) (ad := ad) (cy := cy) (tb := tb) C.2.2.2.2.2.2.2.2.1 hc) (fun ht _ => cwV 1 ht gX5_row_X5_now rfl rfl rfl (by decide +kernel) ⟨Nat.le_of_ble_eq_true rfl, Nat.le_of_ble_eq_true rfl⟩) rfl rfl (Nat.le_of_ble_eq_true rfl) dX5_row_70 ?_
      refine aw_iload_n C dX5_row_73 rfl 2 rfl ?_
      obtain ⟨r6, hc, hf⟩ := bR_some hf
      refine aw_callSi (As := [.long r5, .int a2]) (rest := []) C (kX5_rowOf (l := l) (D := D) (ad := ad) (cy := cy) (tb := tb) C.2.2.2.2.2.2.2.2.1 hc) (fun ht _ => va_cwS 2 ht gX5_row_X5_rowOf rfl rfl rfl (by decide +kernel) ⟨Nat.le_of_ble_eq_true rfl, Nat.le_of_ble_eq_true rfl⟩) rfl rfl (Nat.le_of_ble_eq_true rfl) dX5_row_74 ?_
      refine aw_bipush (v := 7) C dX5_row_77 (by decide) ?_
      refine aw_iand C dX5_row_79 ?_
      exact aw_iretR C dX5_row_80 hf
    rw [if_neg hx2] at hf
    rcases Decidable.em (a3 = 3) with hx3 | hx3
    · rw [if_pos hx3] at hf
      refine aw_tabIn (tgt := 81) C dX5_row_13 (by rw [hx3]; decide) (by rw [hx3]; decide) (by rw [hx3]; rfl) (by decide) ?_
      refine aw_aload_n C dX5_row_81 rfl 0 rfl ?_
      refine aw_get C (kd_lt rfl (by decide)) (ce_5 rfl) rfl hinX5_row_5 2 (by decide) rfl (by decide +kernel) rfl dX5_row_82 ?_
      refine aw_getN (host := "StairCodes") C (kd_lt rfl (by decide)) (ce_2 rfl) rfl hinX5_row_2 0 (by decide) rfl (by decide +kernel) rfl dX5_row_85 ?_
      refine aw_bipush (v := 8) C dX5_row_88 (by decide) ?_
      refine aw_iload_n C dX5_row_90 rfl 1 rfl ?_
      refine aw_imul C dX5_row_91 ?_
      refine aw_iload_n C dX5_row_92 rfl 2 rfl ?_
      refine aw_iadd C dX5_row_93 ?_
      refine aw_nmI hf (fun v7 hf => ?_)
      refine aw_iald C rfl rfl hf dX5_row_94 (fun hf => ?_)
      exact aw_iretR C dX5_row_95 hf
    rw [if_neg hx3] at hf
    have hsw := sw_out (x := a3) 4 (by decide) (fun j hj => by
      rcases (show j = 0 ∨ j = 1 ∨ j = 2 ∨ j = 3 by omega) with rfl | rfl | rfl | rfl
      · exact hx0
      · exact hx1
      · exact hx2
      · exact hx3)
    refine aw_tabOut (tgt := 96) C dX5_row_13 (by omega) (by decide) ?_
    refine aw_bipush (v := (-2)) C dX5_row_96 (by decide) ?_
    exact aw_iretR C dX5_row_98 hf
  refine aw_bipush (v := (-2)) C dX5_row_9 (by decide) ?_
  exact aw_iretR C dX5_row_11 hf
theorem kX5_row {h : AH} {a1 : Int32} {a2 : Int32} {a3 : Int32} {r0 : Int32} (hi : Inj ad) (hf : fX5_row h a1 a2 a3 = some r0) : Ki l yX5_row wsX5_row rmX5_row D ad cy tb [.ref (ad 0), .int a1, .int a2, .int a3] h r0 h := met_i (lv := [(0, .ref (ad 0)), (1, .int a1), (2, .int a2), (3, .int a3)]) hi (by decide) rfl (Nat.le_of_ble_eq_true rfl) rfl rfl (fun _ _ _ _ _ _ _ _ C => tX5_row_0 C  hf)
set_option maxRecDepth 20000 in
theorem ggX6_rowOf_X6_bitOf : GoodIn wsX6_rowOf wsX6_bitOf := goodIn_r _ [6, 7, 8, 9, 10, 11, 12, 5, 13, 14, 15, 16, 17, 18, 19, 20, 21, 22, 23, 24, 25, 26, 27, 28, 29, 30, 31, 32, 33] (by decide +kernel) (by decide +kernel)
set_option maxRecDepth 20000 in
theorem gX6_rowOf_X6_bitOf : GoodIn wsX6_rowOf (wsV RX6 115 RX6 yX6_bitOf wsX6_bitOf) := goodIn_app (goodIn_of _ (by decide +kernel)) ggX6_rowOf_X6_bitOf
theorem dX6_rowOf_0 : decode cX6_rowOf 0 = .ok (.iconst 0, 1) := by decide +kernel
theorem dX6_rowOf_1 : decode cX6_rowOf 1 = .ok (.istore 4, 2) := by decide +kernel
theorem dX6_rowOf_3 : decode cX6_rowOf 3 = .ok (.iconst 0, 1) := by decide +kernel
theorem dX6_rowOf_4 : decode cX6_rowOf 4 = .ok (.istore 5, 2) := by decide +kernel
theorem dX6_rowOf_6 : decode cX6_rowOf 6 = .ok (.iload 5, 2) := by decide +kernel
theorem dX6_rowOf_8 : decode cX6_rowOf 8 = .ok (.iload_n 3, 1) := by decide +kernel
theorem dX6_rowOf_9 : decode cX6_rowOf 9 = .ok (.iconst 2, 1) := by decide +kernel
theorem dX6_rowOf_10 : decode cX6_rowOf 10 = .ok (.if_icmp .ne 7, 3) := by decide +kernel
theorem dX6_rowOf_13 : decode cX6_rowOf 13 = .ok (.iconst 3, 1) := by decide +kernel
theorem dX6_rowOf_14 : decode cX6_rowOf 14 = .ok (.goto 5, 3) := by decide +kernel
theorem dX6_rowOf_17 : decode cX6_rowOf 17 = .ok (.bipush 8, 2) := by decide +kernel
theorem dX6_rowOf_19 : decode cX6_rowOf 19 = .ok (.if_icmp .ge 43, 3) := by decide +kernel
theorem dX6_rowOf_22 : decode cX6_rowOf 22 = .ok (.iload 4, 2) := by decide +kernel
theorem dX6_rowOf_24 : decode cX6_rowOf 24 = .ok (.aload_n 0, 1) := by decide +kernel
theorem dX6_rowOf_25 : decode cX6_rowOf 25 = .ok (.bipush 64, 2) := by decide +kernel
theorem dX6_rowOf_27 : decode cX6_rowOf 27 = .ok (.iload_n 1, 1) := by decide +kernel
theorem dX6_rowOf_28 : decode cX6_rowOf 28 = .ok (.imul, 1) := by decide +kernel
theorem dX6_rowOf_29 : decode cX6_rowOf 29 = .ok (.bipush 8, 2) := by decide +kernel
theorem dX6_rowOf_31 : decode cX6_rowOf 31 = .ok (.iload_n 2, 1) := by decide +kernel
theorem dX6_rowOf_32 : decode cX6_rowOf 32 = .ok (.imul, 1) := by decide +kernel
theorem dX6_rowOf_33 : decode cX6_rowOf 33 = .ok (.iadd, 1) := by decide +kernel
theorem dX6_rowOf_34 : decode cX6_rowOf 34 = .ok (.iload 5, 2) := by decide +kernel
theorem dX6_rowOf_36 : decode cX6_rowOf 36 = .ok (.iadd, 1) := by decide +kernel
theorem dX6_rowOf_37 : decode cX6_rowOf 37 = .ok (.iload_n 3, 1) := by decide +kernel
theorem dX6_rowOf_38 : decode cX6_rowOf 38 = .ok (.iconst 1, 1) := by decide +kernel
theorem dX6_rowOf_39 : decode cX6_rowOf 39 = .ok (.if_icmp .ne 7, 3) := by decide +kernel
theorem dX6_rowOf_42 : decode cX6_rowOf 42 = .ok (.iconst 1, 1) := by decide +kernel
theorem dX6_rowOf_43 : decode cX6_rowOf 43 = .ok (.goto 4, 3) := by decide +kernel
theorem dX6_rowOf_46 : decode cX6_rowOf 46 = .ok (.iconst 0, 1) := by decide +kernel
theorem dX6_rowOf_47 : decode cX6_rowOf 47 = .ok (.invokevirtual 115, 3) := by decide +kernel
theorem dX6_rowOf_50 : decode cX6_rowOf 50 = .ok (.iload 5, 2) := by decide +kernel
theorem dX6_rowOf_52 : decode cX6_rowOf 52 = .ok (.ishl, 1) := by decide +kernel
theorem dX6_rowOf_53 : decode cX6_rowOf 53 = .ok (.ior, 1) := by decide +kernel
theorem dX6_rowOf_54 : decode cX6_rowOf 54 = .ok (.istore 4, 2) := by decide +kernel
theorem dX6_rowOf_56 : decode cX6_rowOf 56 = .ok (.iinc 5 1, 3) := by decide +kernel
theorem dX6_rowOf_59 : decode cX6_rowOf 59 = .ok (.goto (-53), 3) := by decide +kernel
theorem dX6_rowOf_62 : decode cX6_rowOf 62 = .ok (.iload_n 3, 1) := by decide +kernel
theorem dX6_rowOf_63 : decode cX6_rowOf 63 = .ok (.iconst 3, 1) := by decide +kernel
theorem dX6_rowOf_64 : decode cX6_rowOf 64 = .ok (.if_icmp .ne 17, 3) := by decide +kernel
theorem dX6_rowOf_67 : decode cX6_rowOf 67 = .ok (.aload_n 0, 1) := by decide +kernel
theorem dX6_rowOf_68 : decode cX6_rowOf 68 = .ok (.getfield 13, 3) := by decide +kernel
theorem dX6_rowOf_71 : decode cX6_rowOf 71 = .ok (.bipush 8, 2) := by decide +kernel
theorem dX6_rowOf_73 : decode cX6_rowOf 73 = .ok (.iload_n 1, 1) := by decide +kernel
theorem dX6_rowOf_74 : decode cX6_rowOf 74 = .ok (.imul, 1) := by decide +kernel
theorem dX6_rowOf_75 : decode cX6_rowOf 75 = .ok (.iload_n 2, 1) := by decide +kernel
theorem dX6_rowOf_76 : decode cX6_rowOf 76 = .ok (.iadd, 1) := by decide +kernel
theorem dX6_rowOf_77 : decode cX6_rowOf 77 = .ok (.iaload, 1) := by decide +kernel
theorem dX6_rowOf_78 : decode cX6_rowOf 78 = .ok (.goto 5, 3) := by decide +kernel
theorem dX6_rowOf_81 : decode cX6_rowOf 81 = .ok (.iload 4, 2) := by decide +kernel
theorem dX6_rowOf_83 : decode cX6_rowOf 83 = .ok (.ireturn, 1) := by decide +kernel
abbrev rmX6_rowOf : Room := { frames := 2, cells := 0, slots := 0, locals := 45 }
set_option maxRecDepth 100000 in
theorem hinX6_rowOf_6 : ∀ w ∈ wsX60, w ∈ wsX6_rowOf := by decide +kernel
set_option maxHeartbeats 4000000 in
set_option maxRecDepth 100000 in
theorem tX6_rowOf_47 {h : AH} {a1 : Int32} {a2 : Int32} {a3 : Int32} {k6 : Int32 → Int32 → Option Int32} {x5 : Int32} {s0 : Int32} {s2 : Int32} {s3 : Int32} {r0 : Int32} (C : Cx p rmX6_rowOf s m args meth c RX6 cX6_rowOf 6 (some .int) wsX6_rowOf D ad cy tb 0 0) (H6 : ∀ (x4 : Int32) (x5 : Int32), k6 x4 x5 = some r0 → AW p l e rmX6_rowOf s m args below meth c 6 D ad cy 0 0 (Qi D ad cy below args s r0 h) 6 [(0, .ref (ad 29)), (1, .int a1), (2, .int a2), (3, .int a3), (4, .int x4), (5, .int x5)] [] h) (hf : fX6_rowOf_47 k6 h a1 a2 a3 x5 s0 s2 s3 = some r0) : AW p l e rmX6_rowOf s m args below meth c 6 D ad cy 0 0 (Qi D ad cy below args s r0 h) 47 [(0, .ref (ad 29)), (1, .int a1), (2, .int a2), (3, .int a3), (5, .int x5)] [.int s3, .int s2, .ref (ad 29), .int s0] h := by
  unfold fX6_rowOf_47 at hf
  obtain ⟨r1, hc, hf⟩ := bR_some hf
  refine aw_callVi (As := [.int s2, .int s3]) (rest := [.int s0]) C rfl (by decide) rfl (kX6_bitOf (l := l) (D := D) (ad := ad) (cy := cy) (tb := tb) C.2.2.2.2.2.2.2.2.1 hc) (fun ht _ => cwV 2 ht gX6_rowOf_X6_bitOf rfl rfl rfl (by decide +kernel) ⟨Nat.le_of_ble_eq_true rfl, Nat.le_of_ble_eq_true rfl⟩) rfl rfl (Nat.le_of_ble_eq_true rfl) dX6_rowOf_47 ?_
  refine aw_iload C dX6_rowOf_50 4 rfl ?_
  refine aw_ishl C dX6_rowOf_52 ?_
  refine aw_ior C dX6_rowOf_53 ?_
  refine aw_nmI hf (fun v2 hf => ?_)
  refine aw_istore (lv1 := [(4, .int v2), (0, .ref (ad 29)), (1, .int a1), (2, .int a2), (3, .int a3), (5, .int x5)]) C dX6_rowOf_54 (by decide) rfl ?_
  obtain ⟨v3, hvv3, hf⟩ := nm_ex hf
  refine aw_iinc (j := 5) (v := v3) (lv1 := [(5, .int v3), (4, .int v2), (0, .ref (ad 29)), (1, .int a1), (2, .int a2), (3, .int a3)]) C dX6_rowOf_56 rfl hvv3 (by decide) rfl ?_
  refine aw_goto (tgt := 6) C dX6_rowOf_59 (by decide) ?_
  refine aw_sub [2, 3, 4, 5, 1, 0] rfl ?_
  exact H6 v2 v3 hf
set_option maxHeartbeats 4000000 in
set_option maxRecDepth 100000 in
theorem tX6_rowOf_19 {h : AH} {a1 : Int32} {a2 : Int32} {a3 : Int32} {k6 : Int32 → Int32 → Option Int32} {x4 : Int32} {x5 : Int32} {s0 : Int32} {s1 : Int32} {r0 : Int32} (C : Cx p rmX6_rowOf s m args meth c RX6 cX6_rowOf 6 (some .int) wsX6_rowOf D ad cy tb 0 0) (H6 : ∀ (x4 : Int32) (x5 : Int32), k6 x4 x5 = some r0 → AW p l e rmX6_rowOf s m args below meth c 6 D ad cy 0 0 (Qi D ad cy below args s r0 h) 6 [(0, .ref (ad 29)), (1, .int a1), (2, .int a2), (3, .int a3), (4, .int x4), (5, .int x5)] [] h) (hf : fX6_rowOf_19 k6 h a1 a2 a3 x4 x5 s0 s1 = some r0) : AW p l e rmX6_rowOf s m args below meth c 6 D ad cy 0 0 (Qi D ad cy below args s r0 h) 19 [(0, .ref (ad 29)), (1, .int a1), (2, .int a2), (3, .int a3), (4, .int x4), (5, .int x5)] [.int s1, .int s0] h := by
  unfold fX6_rowOf_19 at hf
  refine aw_icmp_ge (tgt := 62) C dX6_rowOf_19 (by decide) hf (fun hf => ?_) (fun hf => ?_)
  · refine aw_iload_n C dX6_rowOf_62 rfl 3 rfl ?_
    refine aw_iconst (v := 3) C dX6_rowOf_63 (by decide) ?_
    refine aw_icmp_ne (tgt := 81) C dX6_rowOf_64 (by decide) hf (fun hf => ?_) (fun hf => ?_)
    · refine aw_iload C dX6_rowOf_81 4 rfl ?_
      exact aw_iretR C dX6_rowOf_83 hf
    refine aw_aload_n C dX6_rowOf_67 rfl 0 rfl ?_
    refine aw_get C (kd_lt rfl (by decide)) (ce_6 rfl) rfl hinX6_rowOf_6 2 (by decide) rfl (by decide +kernel) rfl dX6_rowOf_68 ?_
    refine aw_bipush (v := 8) C dX6_rowOf_71 (by decide) ?_
    refine aw_iload_n C dX6_rowOf_73 rfl 1 rfl ?_
    refine aw_imul C dX6_rowOf_74 ?_
    refine aw_iload_n C dX6_rowOf_75 rfl 2 rfl ?_
    refine aw_iadd C dX6_rowOf_76 ?_
    refine aw_nmI hf (fun v1 hf => ?_)
    refine aw_iald C rfl rfl hf dX6_rowOf_77 (fun hf => ?_)
    refine aw_goto (tgt := 83) C dX6_rowOf_78 (by decide) ?_
    exact aw_iretR C dX6_rowOf_83 hf
  refine aw_iload C dX6_rowOf_22 4 rfl ?_
  refine aw_aload_n C dX6_rowOf_24 rfl 0 rfl ?_
  refine aw_bipush (v := 64) C dX6_rowOf_25 (by decide) ?_
  refine aw_iload_n C dX6_rowOf_27 rfl 1 rfl ?_
  refine aw_imul C dX6_rowOf_28 ?_
  refine aw_bipush (v := 8) C dX6_rowOf_29 (by decide) ?_
  refine aw_iload_n C dX6_rowOf_31 rfl 2 rfl ?_
  refine aw_imul C dX6_rowOf_32 ?_
  refine aw_iadd C dX6_rowOf_33 ?_
  refine aw_iload C dX6_rowOf_34 5 rfl ?_
  refine aw_iadd C dX6_rowOf_36 ?_
  refine aw_iload_n C dX6_rowOf_37 rfl 3 rfl ?_
  refine aw_iconst (v := 1) C dX6_rowOf_38 (by decide) ?_
  refine aw_icmp_ne (tgt := 46) C dX6_rowOf_39 (by decide) hf (fun hf => ?_) (fun hf => ?_)
  · refine aw_iconst (v := 0) C dX6_rowOf_46 (by decide) ?_
    refine aw_sub [0, 1, 2, 3, 5] rfl ?_
    exact tX6_rowOf_47 C  H6 hf
  refine aw_iconst (v := 1) C dX6_rowOf_42 (by decide) ?_
  refine aw_goto (tgt := 47) C dX6_rowOf_43 (by decide) ?_
  refine aw_sub [0, 1, 2, 3, 5] rfl ?_
  exact tX6_rowOf_47 C  H6 hf
set_option maxHeartbeats 4000000 in
set_option maxRecDepth 100000 in
theorem tX6_rowOf_6b {h : AH} {a1 : Int32} {a2 : Int32} {a3 : Int32} {k6 : Int32 → Int32 → Option Int32} {x4 : Int32} {x5 : Int32} {r0 : Int32} (C : Cx p rmX6_rowOf s m args meth c RX6 cX6_rowOf 6 (some .int) wsX6_rowOf D ad cy tb 0 0) (H6 : ∀ (x4 : Int32) (x5 : Int32), k6 x4 x5 = some r0 → AW p l e rmX6_rowOf s m args below meth c 6 D ad cy 0 0 (Qi D ad cy below args s r0 h) 6 [(0, .ref (ad 29)), (1, .int a1), (2, .int a2), (3, .int a3), (4, .int x4), (5, .int x5)] [] h) (hf : fX6_rowOf_6b k6 h a1 a2 a3 x4 x5 = some r0) : AW p l e rmX6_rowOf s m args below meth c 6 D ad cy 0 0 (Qi D ad cy below args s r0 h) 6 [(0, .ref (ad 29)), (1, .int a1), (2, .int a2), (3, .int a3), (4, .int x4), (5, .int x5)] [] h := by
  unfold fX6_rowOf_6b at hf
  refine aw_iload C dX6_rowOf_6 5 rfl ?_
  refine aw_iload_n C dX6_rowOf_8 rfl 3 rfl ?_
  refine aw_iconst (v := 2) C dX6_rowOf_9 (by decide) ?_
  refine aw_icmp_ne (tgt := 17) C dX6_rowOf_10 (by decide) hf (fun hf => ?_) (fun hf => ?_)
  · refine aw_bipush (v := 8) C dX6_rowOf_17 (by decide) ?_
    refine aw_sub [0, 1, 2, 3, 4, 5] rfl ?_
    exact tX6_rowOf_19 C  H6 hf
  refine aw_iconst (v := 3) C dX6_rowOf_13 (by decide) ?_
  refine aw_goto (tgt := 19) C dX6_rowOf_14 (by decide) ?_
  refine aw_sub [0, 1, 2, 3, 4, 5] rfl ?_
  exact tX6_rowOf_19 C  H6 hf
set_option maxHeartbeats 4000000 in
set_option maxRecDepth 100000 in
theorem tX6_rowOf_6 {h : AH} {a1 : Int32} {a2 : Int32} {a3 : Int32} {r0 : Int32} (C : Cx p rmX6_rowOf s m args meth c RX6 cX6_rowOf 6 (some .int) wsX6_rowOf D ad cy tb 0 0) : ∀ (n : Nat) (x4 : Int32) (x5 : Int32), fX6_rowOf_6 h a1 a2 a3 n x4 x5 = some r0 → AW p l e rmX6_rowOf s m args below meth c 6 D ad cy 0 0 (Qi D ad cy below args s r0 h) 6 [(0, .ref (ad 29)), (1, .int a1), (2, .int a2), (3, .int a3), (4, .int x4), (5, .int x5)] [] h := by
  intro n
  induction n with
  | zero => intro x4 x5 hf; cases hf
  | succ n ih => intro x4 x5 hf; exact tX6_rowOf_6b C  ih  hf
set_option maxHeartbeats 4000000 in
set_option maxRecDepth 100000 in
theorem tX6_rowOf_0 {h : AH} {a1 : Int32} {a2 : Int32} {a3 : Int32} {r0 : Int32} (C : Cx p rmX6_rowOf s m args meth c RX6 cX6_rowOf 6 (some .int) wsX6_rowOf D ad cy tb 0 0) (hf : fX6_rowOf h a1 a2 a3 = some r0) : AW p l e rmX6_rowOf s m args below meth c 6 D ad cy 0 0 (Qi D ad cy below args s r0 h) 0 [(0, .ref (ad 29)), (1, .int a1), (2, .int a2), (3, .int a3)] [] h := by
  unfold fX6_rowOf at hf
  refine aw_iconst (v := 0) C dX6_rowOf_0 (by decide) ?_
  refine aw_istore (lv1 := [(4, .int 0), (0, .ref (ad 29)), (1, .int a1), (2, .int a2), (3, .int a3)]) C dX6_rowOf_1 (by decide) rfl ?_
  refine aw_iconst (v := 0) C dX6_rowOf_3 (by decide) ?_
  refine aw_istore (lv1 := [(5, .int 0), (4, .int 0), (0, .ref (ad 29)), (1, .int a1), (2, .int a2), (3, .int a3)]) C dX6_rowOf_4 (by decide) rfl ?_
  refine aw_sub [2, 3, 4, 5, 1, 0] rfl ?_
  exact tX6_rowOf_6 C   FU 0 0 hf
theorem kX6_rowOf {h : AH} {a1 : Int32} {a2 : Int32} {a3 : Int32} {r0 : Int32} (hi : Inj ad) (hf : fX6_rowOf h a1 a2 a3 = some r0) : Ki l yX6_rowOf wsX6_rowOf rmX6_rowOf D ad cy tb [.ref (ad 29), .int a1, .int a2, .int a3] h r0 h := met_i (lv := [(0, .ref (ad 29)), (1, .int a1), (2, .int a2), (3, .int a3)]) hi (by decide) rfl (Nat.le_of_ble_eq_true rfl) rfl rfl (fun _ _ _ _ _ _ _ _ C => tX6_rowOf_0 C  hf)
set_option maxRecDepth 20000 in
theorem ggX6_row_X6_isWord : GoodIn wsX6_row wsX6_isWord := goodIn_r _ [5, 6, 7, 8, 4, 9, 10, 11, 12, 13, 32, 33, 34, 35, 36, 37, 38, 39, 40, 41, 42, 43, 44, 45, 46, 47, 48, 49] (by decide +kernel) (by decide +kernel)
set_option maxRecDepth 20000 in
theorem gX6_row_X6_isWord : GoodIn wsX6_row (wsV RX6 81 RX6 yX6_isWord wsX6_isWord) := goodIn_app (goodIn_of _ (by decide +kernel)) ggX6_row_X6_isWord
set_option maxRecDepth 20000 in
theorem ggX6_row_X6_in : GoodIn wsX6_row wsX6_in := goodIn_r _ [13] (by decide +kernel) (by decide +kernel)
set_option maxRecDepth 20000 in
theorem gX6_row_X6_in : GoodIn wsX6_row (va_wsS RX6 73 yX6_in wsX6_in) := goodIn_app (goodIn_of _ (by decide +kernel)) ggX6_row_X6_in
set_option maxRecDepth 20000 in
theorem ggX6_row_X6_rowOf : GoodIn wsX6_row wsX6_rowOf := goodIn_r _ [17, 18, 19, 20, 21, 4, 22, 23, 24, 25, 26, 27, 28, 29, 30, 31, 32, 33, 34, 35, 36, 37, 38, 39, 40, 41, 42, 43, 44, 45, 46, 47, 48, 49] (by decide +kernel) (by decide +kernel)
set_option maxRecDepth 20000 in
theorem gX6_row_X6_rowOf : GoodIn wsX6_row (wsV RX6 119 RX6 yX6_rowOf wsX6_rowOf) := goodIn_app (goodIn_of _ (by decide +kernel)) ggX6_row_X6_rowOf
theorem dX6_row_0 : decode cX6_row 0 = .ok (.aload_n 0, 1) := by decide +kernel
theorem dX6_row_1 : decode cX6_row 1 = .ok (.iload_n 1, 1) := by decide +kernel
theorem dX6_row_2 : decode cX6_row 2 = .ok (.iload_n 2, 1) := by decide +kernel
theorem dX6_row_3 : decode cX6_row 3 = .ok (.invokevirtual 81, 3) := by decide +kernel
theorem dX6_row_6 : decode cX6_row 6 = .ok (.ifCond .eq 22, 3) := by decide +kernel
theorem dX6_row_9 : decode cX6_row 9 = .ok (.iload_n 3, 1) := by decide +kernel
theorem dX6_row_10 : decode cX6_row 10 = .ok (.iconst 0, 1) := by decide +kernel
theorem dX6_row_11 : decode cX6_row 11 = .ok (.iconst 3, 1) := by decide +kernel
theorem dX6_row_12 : decode cX6_row 12 = .ok (.invokestatic 73, 3) := by decide +kernel
theorem dX6_row_15 : decode cX6_row 15 = .ok (.ifCond .eq 13, 3) := by decide +kernel
theorem dX6_row_18 : decode cX6_row 18 = .ok (.aload_n 0, 1) := by decide +kernel
theorem dX6_row_19 : decode cX6_row 19 = .ok (.iload_n 1, 1) := by decide +kernel
theorem dX6_row_20 : decode cX6_row 20 = .ok (.iload_n 2, 1) := by decide +kernel
theorem dX6_row_21 : decode cX6_row 21 = .ok (.iload_n 3, 1) := by decide +kernel
theorem dX6_row_22 : decode cX6_row 22 = .ok (.invokevirtual 119, 3) := by decide +kernel
theorem dX6_row_25 : decode cX6_row 25 = .ok (.goto 5, 3) := by decide +kernel
theorem dX6_row_28 : decode cX6_row 28 = .ok (.bipush (-2), 2) := by decide +kernel
theorem dX6_row_30 : decode cX6_row 30 = .ok (.ireturn, 1) := by decide +kernel
abbrev rmX6_row : Room := { frames := 3, cells := 0, slots := 0, locals := 70 }
set_option maxHeartbeats 4000000 in
set_option maxRecDepth 100000 in
theorem tX6_row_0 {h : AH} {a1 : Int32} {a2 : Int32} {a3 : Int32} {r0 : Int32} (C : Cx p rmX6_row s m args meth c RX6 cX6_row 4 (some .int) wsX6_row D ad cy tb 0 0) (hf : fX6_row h a1 a2 a3 = some r0) : AW p l e rmX6_row s m args below meth c 4 D ad cy 0 0 (Qi D ad cy below args s r0 h) 0 [(0, .ref (ad 29)), (1, .int a1), (2, .int a2), (3, .int a3)] [] h := by
  unfold fX6_row at hf
  refine aw_aload_n C dX6_row_0 rfl 0 rfl ?_
  refine aw_iload_n C dX6_row_1 rfl 1 rfl ?_
  refine aw_iload_n C dX6_row_2 rfl 2 rfl ?_
  obtain ⟨r1, hc, hf⟩ := bR_some hf
  refine aw_callVi (As := [.int a1, .int a2]) (rest := []) C rfl (by decide) rfl (kX6_isWord (l := l) (D := D) (ad := ad) (cy := cy) (tb := tb) C.2.2.2.2.2.2.2.2.1 hc) (fun ht _ => cwV 2 ht gX6_row_X6_isWord rfl rfl rfl (by decide +kernel) ⟨Nat.le_of_ble_eq_true rfl, Nat.le_of_ble_eq_true rfl⟩) rfl rfl (Nat.le_of_ble_eq_true rfl) dX6_row_3 ?_
  refine aw_if_eq (tgt := 28) C dX6_row_6 (by decide) hf (fun hf => ?_) (fun hf => ?_)
  · refine aw_bipush (v := (-2)) C dX6_row_28 (by decide) ?_
    exact aw_iretR C dX6_row_30 hf
  refine aw_iload_n C dX6_row_9 rfl 3 rfl ?_
  refine aw_iconst (v := 0) C dX6_row_10 (by decide) ?_
  refine aw_iconst (v := 3) C dX6_row_11 (by decide) ?_
  obtain ⟨r2, hc, hf⟩ := bR_some hf
  refine aw_callSi (As := [.int a3, .int 0, .int 3]) (rest := []) C (kX6_in (l := l) (D := D) (ad := ad) (cy := cy) (tb := tb) C.2.2.2.2.2.2.2.2.1 hc) (fun ht _ => va_cwS 3 ht gX6_row_X6_in rfl rfl rfl (by decide +kernel) ⟨Nat.le_of_ble_eq_true rfl, Nat.le_of_ble_eq_true rfl⟩) rfl rfl (Nat.le_of_ble_eq_true rfl) dX6_row_12 ?_
  refine aw_if_eq (tgt := 28) C dX6_row_15 (by decide) hf (fun hf => ?_) (fun hf => ?_)
  · refine aw_bipush (v := (-2)) C dX6_row_28 (by decide) ?_
    exact aw_iretR C dX6_row_30 hf
  refine aw_aload_n C dX6_row_18 rfl 0 rfl ?_
  refine aw_iload_n C dX6_row_19 rfl 1 rfl ?_
  refine aw_iload_n C dX6_row_20 rfl 2 rfl ?_
  refine aw_iload_n C dX6_row_21 rfl 3 rfl ?_
  obtain ⟨r3, hc, hf⟩ := bR_some hf
  refine aw_callVi (As := [.int a1, .int a2, .int a3]) (rest := []) C rfl (by decide) rfl (kX6_rowOf (l := l) (D := D) (ad := ad) (cy := cy) (tb := tb) C.2.2.2.2.2.2.2.2.1 hc) (fun ht _ => cwV 3 ht gX6_row_X6_rowOf rfl rfl rfl (by decide +kernel) ⟨Nat.le_of_ble_eq_true rfl, Nat.le_of_ble_eq_true rfl⟩) rfl rfl (Nat.le_of_ble_eq_true rfl) dX6_row_22 ?_
  refine aw_goto (tgt := 30) C dX6_row_25 (by decide) ?_
  exact aw_iretR C dX6_row_30 hf
theorem kX6_row {h : AH} {a1 : Int32} {a2 : Int32} {a3 : Int32} {r0 : Int32} (hi : Inj ad) (hf : fX6_row h a1 a2 a3 = some r0) : Ki l yX6_row wsX6_row rmX6_row D ad cy tb [.ref (ad 29), .int a1, .int a2, .int a3] h r0 h := met_i (lv := [(0, .ref (ad 29)), (1, .int a1), (2, .int a2), (3, .int a3)]) hi (by decide) rfl (Nat.le_of_ble_eq_true rfl) rfl rfl (fun _ _ _ _ _ _ _ _ C => tX6_row_0 C  hf)
set_option maxRecDepth 20000 in
theorem ggX5_block_X5_isBlock : GoodIn wsX5_block wsX5_isBlock := goodIn_r _ [5, 6, 12, 13, 14, 15, 16, 17, 18, 19, 20, 21, 22, 23] (by decide +kernel) (by decide +kernel)
set_option maxRecDepth 20000 in
theorem gX5_block_X5_isBlock : GoodIn wsX5_block (wsV RX5 106 RX5 yX5_isBlock wsX5_isBlock) := goodIn_app (goodIn_of _ (by decide +kernel)) ggX5_block_X5_isBlock
set_option maxRecDepth 20000 in
theorem ggX5_block_X5_now : GoodIn wsX5_block wsX5_now := goodIn_r _ [10, 11, 6, 12, 13, 14, 15, 16, 17, 18, 19, 20, 24, 25, 21, 22, 23] (by decide +kernel) (by decide +kernel)
set_option maxRecDepth 20000 in
theorem gX5_block_X5_now : GoodIn wsX5_block (wsV RX5 129 RX5 yX5_now wsX5_now) := goodIn_app (goodIn_of _ (by decide +kernel)) ggX5_block_X5_now
theorem dX5_block_0 : decode cX5_block 0 = .ok (.aload_n 0, 1) := by decide +kernel
theorem dX5_block_1 : decode cX5_block 1 = .ok (.iload_n 1, 1) := by decide +kernel
theorem dX5_block_2 : decode cX5_block 2 = .ok (.invokevirtual 106, 3) := by decide +kernel
theorem dX5_block_5 : decode cX5_block 5 = .ok (.ifCond .eq 11, 3) := by decide +kernel
theorem dX5_block_8 : decode cX5_block 8 = .ok (.aload_n 0, 1) := by decide +kernel
theorem dX5_block_9 : decode cX5_block 9 = .ok (.iload_n 1, 1) := by decide +kernel
theorem dX5_block_10 : decode cX5_block 10 = .ok (.invokevirtual 129, 3) := by decide +kernel
theorem dX5_block_13 : decode cX5_block 13 = .ok (.goto 4, 3) := by decide +kernel
theorem dX5_block_16 : decode cX5_block 16 = .ok (.lconst 0, 1) := by decide +kernel
theorem dX5_block_17 : decode cX5_block 17 = .ok (.lreturn, 1) := by decide +kernel
abbrev rmX5_block : Room := { frames := 1, cells := 0, slots := 0, locals := 21 }
set_option maxHeartbeats 4000000 in
set_option maxRecDepth 100000 in
theorem tX5_block_0 {h : AH} {a1 : Int32} {r0 : Int64} (C : Cx p rmX5_block s m args meth c RX5 cX5_block 2 (some .long) wsX5_block D ad cy tb 0 0) (hf : fX5_block h a1 = some r0) : AW p l e rmX5_block s m args below meth c 2 D ad cy 0 0 (Ql D ad cy below args s r0 h) 0 [(0, .ref (ad 0)), (1, .int a1)] [] h := by
  unfold fX5_block at hf
  refine aw_aload_n C dX5_block_0 rfl 0 rfl ?_
  refine aw_iload_n C dX5_block_1 rfl 1 rfl ?_
  obtain ⟨r1, hc, hf⟩ := bR_some hf
  refine aw_callVi (As := [.int a1]) (rest := []) C rfl (by decide) rfl (kX5_isBlock (l := l) (D := D) (ad := ad) (cy := cy) (tb := tb) C.2.2.2.2.2.2.2.2.1 hc) (fun ht _ => cwV 1 ht gX5_block_X5_isBlock rfl rfl rfl (by decide +kernel) ⟨Nat.le_of_ble_eq_true rfl, Nat.le_of_ble_eq_true rfl⟩) rfl rfl (Nat.le_of_ble_eq_true rfl) dX5_block_2 ?_
  refine aw_if_eq (tgt := 16) C dX5_block_5 (by decide) hf (fun hf => ?_) (fun hf => ?_)
  · refine aw_lconst (v := 0) C dX5_block_16 (by decide) ?_
    exact aw_lretR C dX5_block_17 hf
  refine aw_aload_n C dX5_block_8 rfl 0 rfl ?_
  refine aw_iload_n C dX5_block_9 rfl 1 rfl ?_
  obtain ⟨r2, hc, hf⟩ := bR_some hf
  refine aw_callVl (As := [.int a1]) (rest := []) C rfl (by decide) rfl (kX5_now (l := l) (D := D) (ad := ad) (cy := cy) (tb := tb) C.2.2.2.2.2.2.2.2.1 hc) (fun ht _ => cwV 1 ht gX5_block_X5_now rfl rfl rfl (by decide +kernel) ⟨Nat.le_of_ble_eq_true rfl, Nat.le_of_ble_eq_true rfl⟩) rfl rfl (Nat.le_of_ble_eq_true rfl) dX5_block_10 ?_
  refine aw_goto (tgt := 17) C dX5_block_13 (by decide) ?_
  exact aw_lretR C dX5_block_17 hf
theorem kX5_block {h : AH} {a1 : Int32} {r0 : Int64} (hi : Inj ad) (hf : fX5_block h a1 = some r0) : Kl l yX5_block wsX5_block rmX5_block D ad cy tb [.ref (ad 0), .int a1] h r0 h := met_l (lv := [(0, .ref (ad 0)), (1, .int a1)]) hi (by decide) rfl (Nat.le_of_ble_eq_true rfl) rfl rfl (fun _ _ _ _ _ _ _ _ C => tX5_block_0 C  hf)
set_option maxRecDepth 20000 in
theorem ggX6_blockOf_X6_bitOf : GoodIn wsX6_blockOf wsX6_bitOf := goodIn_r _ [5, 6, 7, 8, 9, 10, 11, 4, 12, 13, 14, 15, 16, 17, 18, 19, 20, 21, 22, 23, 24, 25, 26, 27, 28, 29, 30, 31, 32] (by decide +kernel) (by decide +kernel)
set_option maxRecDepth 20000 in
theorem gX6_blockOf_X6_bitOf : GoodIn wsX6_blockOf (wsV RX6 115 RX6 yX6_bitOf wsX6_bitOf) := goodIn_app (goodIn_of _ (by decide +kernel)) ggX6_blockOf_X6_bitOf
theorem dX6_blockOf_0 : decode cX6_blockOf 0 = .ok (.lconst 0, 1) := by decide +kernel
theorem dX6_blockOf_1 : decode cX6_blockOf 1 = .ok (.lstore_n 2, 1) := by decide +kernel
theorem dX6_blockOf_2 : decode cX6_blockOf 2 = .ok (.bipush 63, 2) := by decide +kernel
theorem dX6_blockOf_4 : decode cX6_blockOf 4 = .ok (.istore 4, 2) := by decide +kernel
theorem dX6_blockOf_6 : decode cX6_blockOf 6 = .ok (.iload 4, 2) := by decide +kernel
theorem dX6_blockOf_8 : decode cX6_blockOf 8 = .ok (.ifCond .lt 27, 3) := by decide +kernel
theorem dX6_blockOf_11 : decode cX6_blockOf 11 = .ok (.lload_n 2, 1) := by decide +kernel
theorem dX6_blockOf_12 : decode cX6_blockOf 12 = .ok (.iconst 1, 1) := by decide +kernel
theorem dX6_blockOf_13 : decode cX6_blockOf 13 = .ok (.lshl, 1) := by decide +kernel
theorem dX6_blockOf_14 : decode cX6_blockOf 14 = .ok (.aload_n 0, 1) := by decide +kernel
theorem dX6_blockOf_15 : decode cX6_blockOf 15 = .ok (.bipush 64, 2) := by decide +kernel
theorem dX6_blockOf_17 : decode cX6_blockOf 17 = .ok (.iload_n 1, 1) := by decide +kernel
theorem dX6_blockOf_18 : decode cX6_blockOf 18 = .ok (.imul, 1) := by decide +kernel
theorem dX6_blockOf_19 : decode cX6_blockOf 19 = .ok (.iload 4, 2) := by decide +kernel
theorem dX6_blockOf_21 : decode cX6_blockOf 21 = .ok (.iadd, 1) := by decide +kernel
theorem dX6_blockOf_22 : decode cX6_blockOf 22 = .ok (.iconst 0, 1) := by decide +kernel
theorem dX6_blockOf_23 : decode cX6_blockOf 23 = .ok (.invokevirtual 115, 3) := by decide +kernel
theorem dX6_blockOf_26 : decode cX6_blockOf 26 = .ok (.i2l, 1) := by decide +kernel
theorem dX6_blockOf_27 : decode cX6_blockOf 27 = .ok (.lor, 1) := by decide +kernel
theorem dX6_blockOf_28 : decode cX6_blockOf 28 = .ok (.lstore_n 2, 1) := by decide +kernel
theorem dX6_blockOf_29 : decode cX6_blockOf 29 = .ok (.iinc 4 (-1), 3) := by decide +kernel
theorem dX6_blockOf_32 : decode cX6_blockOf 32 = .ok (.goto (-26), 3) := by decide +kernel
theorem dX6_blockOf_35 : decode cX6_blockOf 35 = .ok (.lload_n 2, 1) := by decide +kernel
theorem dX6_blockOf_36 : decode cX6_blockOf 36 = .ok (.lreturn, 1) := by decide +kernel
abbrev rmX6_blockOf : Room := { frames := 2, cells := 0, slots := 0, locals := 45 }
set_option maxHeartbeats 4000000 in
set_option maxRecDepth 100000 in
theorem tX6_blockOf_6b {h : AH} {a1 : Int32} {k6 : Int64 → Int32 → Option Int64} {x2 : Int64} {x4 : Int32} {r0 : Int64} (C : Cx p rmX6_blockOf s m args meth c RX6 cX6_blockOf 5 (some .long) wsX6_blockOf D ad cy tb 0 0) (H6 : ∀ (x2 : Int64) (x4 : Int32), k6 x2 x4 = some r0 → AW p l e rmX6_blockOf s m args below meth c 5 D ad cy 0 0 (Ql D ad cy below args s r0 h) 6 [(0, .ref (ad 29)), (1, .int a1), (2, .long x2), (4, .int x4)] [] h) (hf : fX6_blockOf_6b k6 h a1 x2 x4 = some r0) : AW p l e rmX6_blockOf s m args below meth c 5 D ad cy 0 0 (Ql D ad cy below args s r0 h) 6 [(0, .ref (ad 29)), (1, .int a1), (2, .long x2), (4, .int x4)] [] h := by
  unfold fX6_blockOf_6b at hf
  refine aw_iload C dX6_blockOf_6 3 rfl ?_
  refine aw_if_lt (tgt := 35) C dX6_blockOf_8 (by decide) hf (fun hf => ?_) (fun hf => ?_)
  · refine aw_lload_n C dX6_blockOf_35 rfl 2 rfl ?_
    exact aw_lretR C dX6_blockOf_36 hf
  refine aw_lload_n C dX6_blockOf_11 rfl 2 rfl ?_
  refine aw_iconst (v := 1) C dX6_blockOf_12 (by decide) ?_
  refine aw_lshl C dX6_blockOf_13 ?_
  refine aw_aload_n C dX6_blockOf_14 rfl 0 rfl ?_
  refine aw_bipush (v := 64) C dX6_blockOf_15 (by decide) ?_
  refine aw_iload_n C dX6_blockOf_17 rfl 1 rfl ?_
  refine aw_imul C dX6_blockOf_18 ?_
  refine aw_iload C dX6_blockOf_19 3 rfl ?_
  refine aw_iadd C dX6_blockOf_21 ?_
  refine aw_iconst (v := 0) C dX6_blockOf_22 (by decide) ?_
  obtain ⟨r1, hc, hf⟩ := bR_some hf
  refine aw_callVi (As := [.int ((64 * a1) + x4), .int 0]) (rest := [.long (x2 <<< ((1 : Int32).toInt64 &&& 63))]) C rfl (by decide) rfl (kX6_bitOf (l := l) (D := D) (ad := ad) (cy := cy) (tb := tb) C.2.2.2.2.2.2.2.2.1 hc) (fun ht _ => cwV 2 ht gX6_blockOf_X6_bitOf rfl rfl rfl (by decide +kernel) ⟨Nat.le_of_ble_eq_true rfl, Nat.le_of_ble_eq_true rfl⟩) rfl rfl (Nat.le_of_ble_eq_true rfl) dX6_blockOf_23 ?_
  refine aw_i2l C dX6_blockOf_26 ?_
  refine aw_lor C dX6_blockOf_27 ?_
  refine aw_nmL hf (fun v2 hf => ?_)
  refine aw_lstore_n (lv1 := [(2, .long v2), (0, .ref (ad 29)), (1, .int a1), (4, .int x4)]) C dX6_blockOf_28 rfl (by decide) rfl ?_
  obtain ⟨v3, hvv3, hf⟩ := nm_ex hf
  refine aw_iinc (j := 3) (v := v3) (lv1 := [(4, .int v3), (2, .long v2), (0, .ref (ad 29)), (1, .int a1)]) C dX6_blockOf_29 rfl hvv3 (by decide) rfl ?_
  refine aw_goto (tgt := 6) C dX6_blockOf_32 (by decide) ?_
  refine aw_sub [2, 3, 1, 0] rfl ?_
  exact H6 v2 v3 hf
set_option maxHeartbeats 4000000 in
set_option maxRecDepth 100000 in
theorem tX6_blockOf_6 {h : AH} {a1 : Int32} {r0 : Int64} (C : Cx p rmX6_blockOf s m args meth c RX6 cX6_blockOf 5 (some .long) wsX6_blockOf D ad cy tb 0 0) : ∀ (n : Nat) (x2 : Int64) (x4 : Int32), fX6_blockOf_6 h a1 n x2 x4 = some r0 → AW p l e rmX6_blockOf s m args below meth c 5 D ad cy 0 0 (Ql D ad cy below args s r0 h) 6 [(0, .ref (ad 29)), (1, .int a1), (2, .long x2), (4, .int x4)] [] h := by
  intro n
  induction n with
  | zero => intro x2 x4 hf; cases hf
  | succ n ih => intro x2 x4 hf; exact tX6_blockOf_6b C  ih  hf
set_option maxHeartbeats 4000000 in
set_option maxRecDepth 100000 in
theorem tX6_blockOf_0 {h : AH} {a1 : Int32} {r0 : Int64} (C : Cx p rmX6_blockOf s m args meth c RX6 cX6_blockOf 5 (some .long) wsX6_blockOf D ad cy tb 0 0) (hf : fX6_blockOf h a1 = some r0) : AW p l e rmX6_blockOf s m args below meth c 5 D ad cy 0 0 (Ql D ad cy below args s r0 h) 0 [(0, .ref (ad 29)), (1, .int a1)] [] h := by
  unfold fX6_blockOf at hf
  refine aw_lconst (v := 0) C dX6_blockOf_0 (by decide) ?_
  refine aw_lstore_n (lv1 := [(2, .long 0), (0, .ref (ad 29)), (1, .int a1)]) C dX6_blockOf_1 rfl (by decide) rfl ?_
  refine aw_bipush (v := 63) C dX6_blockOf_2 (by decide) ?_
  refine aw_istore (lv1 := [(4, .int 63), (2, .long 0), (0, .ref (ad 29)), (1, .int a1)]) C dX6_blockOf_4 (by decide) rfl ?_
  refine aw_sub [2, 3, 1, 0] rfl ?_
  exact tX6_blockOf_6 C   FU 0 63 hf
theorem kX6_blockOf {h : AH} {a1 : Int32} {r0 : Int64} (hi : Inj ad) (hf : fX6_blockOf h a1 = some r0) : Kl l yX6_blockOf wsX6_blockOf rmX6_blockOf D ad cy tb [.ref (ad 29), .int a1] h r0 h := met_l (lv := [(0, .ref (ad 29)), (1, .int a1)]) hi (by decide) rfl (Nat.le_of_ble_eq_true rfl) rfl rfl (fun _ _ _ _ _ _ _ _ C => tX6_blockOf_0 C  hf)
set_option maxRecDepth 20000 in
theorem ggX6_block_X6_isBlock : GoodIn wsX6_block wsX6_isBlock := goodIn_r _ [5, 6, 7, 8, 4, 9, 27, 28, 29, 30, 31, 32, 33, 34, 35, 36, 37, 38, 39, 40, 41, 42, 43, 44] (by decide +kernel) (by decide +kernel)
set_option maxRecDepth 20000 in
theorem gX6_block_X6_isBlock : GoodIn wsX6_block (wsV RX6 77 RX6 yX6_isBlock wsX6_isBlock) := goodIn_app (goodIn_of _ (by decide +kernel)) ggX6_block_X6_isBlock
set_option maxRecDepth 20000 in
theorem ggX6_block_X6_blockOf : GoodIn wsX6_block wsX6_blockOf := goodIn_r _ [13, 14, 15, 16, 4, 17, 18, 19, 20, 21, 22, 23, 24, 25, 26, 27, 28, 29, 30, 31, 32, 33, 34, 35, 36, 37, 38, 39, 40, 41, 42, 43, 44] (by decide +kernel) (by decide +kernel)
set_option maxRecDepth 20000 in
theorem gX6_block_X6_blockOf : GoodIn wsX6_block (wsV RX6 122 RX6 yX6_blockOf wsX6_blockOf) := goodIn_app (goodIn_of _ (by decide +kernel)) ggX6_block_X6_blockOf
theorem dX6_block_0 : decode cX6_block 0 = .ok (.aload_n 0, 1) := by decide +kernel
theorem dX6_block_1 : decode cX6_block 1 = .ok (.iload_n 1, 1) := by decide +kernel
theorem dX6_block_2 : decode cX6_block 2 = .ok (.invokevirtual 77, 3) := by decide +kernel
theorem dX6_block_5 : decode cX6_block 5 = .ok (.ifCond .eq 11, 3) := by decide +kernel
theorem dX6_block_8 : decode cX6_block 8 = .ok (.aload_n 0, 1) := by decide +kernel
theorem dX6_block_9 : decode cX6_block 9 = .ok (.iload_n 1, 1) := by decide +kernel
theorem dX6_block_10 : decode cX6_block 10 = .ok (.invokevirtual 122, 3) := by decide +kernel
theorem dX6_block_13 : decode cX6_block 13 = .ok (.goto 4, 3) := by decide +kernel
theorem dX6_block_16 : decode cX6_block 16 = .ok (.lconst 0, 1) := by decide +kernel
theorem dX6_block_17 : decode cX6_block 17 = .ok (.lreturn, 1) := by decide +kernel
abbrev rmX6_block : Room := { frames := 3, cells := 0, slots := 0, locals := 69 }
set_option maxHeartbeats 4000000 in
set_option maxRecDepth 100000 in
theorem tX6_block_0 {h : AH} {a1 : Int32} {r0 : Int64} (C : Cx p rmX6_block s m args meth c RX6 cX6_block 2 (some .long) wsX6_block D ad cy tb 0 0) (hf : fX6_block h a1 = some r0) : AW p l e rmX6_block s m args below meth c 2 D ad cy 0 0 (Ql D ad cy below args s r0 h) 0 [(0, .ref (ad 29)), (1, .int a1)] [] h := by
  unfold fX6_block at hf
  refine aw_aload_n C dX6_block_0 rfl 0 rfl ?_
  refine aw_iload_n C dX6_block_1 rfl 1 rfl ?_
  obtain ⟨r1, hc, hf⟩ := bR_some hf
  refine aw_callVi (As := [.int a1]) (rest := []) C rfl (by decide) rfl (kX6_isBlock (l := l) (D := D) (ad := ad) (cy := cy) (tb := tb) C.2.2.2.2.2.2.2.2.1 hc) (fun ht _ => cwV 1 ht gX6_block_X6_isBlock rfl rfl rfl (by decide +kernel) ⟨Nat.le_of_ble_eq_true rfl, Nat.le_of_ble_eq_true rfl⟩) rfl rfl (Nat.le_of_ble_eq_true rfl) dX6_block_2 ?_
  refine aw_if_eq (tgt := 16) C dX6_block_5 (by decide) hf (fun hf => ?_) (fun hf => ?_)
  · refine aw_lconst (v := 0) C dX6_block_16 (by decide) ?_
    exact aw_lretR C dX6_block_17 hf
  refine aw_aload_n C dX6_block_8 rfl 0 rfl ?_
  refine aw_iload_n C dX6_block_9 rfl 1 rfl ?_
  obtain ⟨r2, hc, hf⟩ := bR_some hf
  refine aw_callVl (As := [.int a1]) (rest := []) C rfl (by decide) rfl (kX6_blockOf (l := l) (D := D) (ad := ad) (cy := cy) (tb := tb) C.2.2.2.2.2.2.2.2.1 hc) (fun ht _ => cwV 1 ht gX6_block_X6_blockOf rfl rfl rfl (by decide +kernel) ⟨Nat.le_of_ble_eq_true rfl, Nat.le_of_ble_eq_true rfl⟩) rfl rfl (Nat.le_of_ble_eq_true rfl) dX6_block_10 ?_
  refine aw_goto (tgt := 17) C dX6_block_13 (by decide) ?_
  exact aw_lretR C dX6_block_17 hf
theorem kX6_block {h : AH} {a1 : Int32} {r0 : Int64} (hi : Inj ad) (hf : fX6_block h a1 = some r0) : Kl l yX6_block wsX6_block rmX6_block D ad cy tb [.ref (ad 29), .int a1] h r0 h := met_l (lv := [(0, .ref (ad 29)), (1, .int a1)]) hi (by decide) rfl (Nat.le_of_ble_eq_true rfl) rfl rfl (fun _ _ _ _ _ _ _ _ C => tX6_block_0 C  hf)
theorem dX4_checkOf_0 : decode cX4_checkOf 0 = .ok (.aload_n 0, 1) := by decide +kernel
theorem dX4_checkOf_1 : decode cX4_checkOf 1 = .ok (.getfield 19, 3) := by decide +kernel
theorem dX4_checkOf_4 : decode cX4_checkOf 4 = .ok (.iload_n 1, 1) := by decide +kernel
theorem dX4_checkOf_5 : decode cX4_checkOf 5 = .ok (.iaload, 1) := by decide +kernel
theorem dX4_checkOf_6 : decode cX4_checkOf 6 = .ok (.bipush 15, 2) := by decide +kernel
theorem dX4_checkOf_8 : decode cX4_checkOf 8 = .ok (.iand, 1) := by decide +kernel
theorem dX4_checkOf_9 : decode cX4_checkOf 9 = .ok (.ireturn, 1) := by decide +kernel
abbrev rmX4_checkOf : Room := { frames := 0, cells := 0, slots := 0, locals := 0 }
set_option maxRecDepth 100000 in
theorem hinX4_checkOf_4 : ∀ w ∈ wsX40, w ∈ wsX4_checkOf := by decide +kernel
set_option maxHeartbeats 4000000 in
set_option maxRecDepth 100000 in
theorem tX4_checkOf_0 {h : AH} {a0 : Nat} {a1 : Int32} {r0 : Int32} (C : Cx p rmX4_checkOf s m args meth c RX4 cX4_checkOf 2 (some .int) wsX4_checkOf D ad cy tb 0 0) (hk0 : kd a0 = 4) (hf : fX4_checkOf h a0 a1 = some r0) : AW p l e rmX4_checkOf s m args below meth c 2 D ad cy 0 0 (Qi D ad cy below args s r0 h) 0 [(0, .ref (ad a0)), (1, .int a1)] [] h := by
  unfold fX4_checkOf at hf
  refine aw_aload_n C dX4_checkOf_0 rfl 0 rfl ?_
  refine aw_get C (kd_lt hk0 (by decide)) (ce_4 hk0) rfl hinX4_checkOf_4 2 (by decide) rfl (by decide +kernel) rfl dX4_checkOf_1 ?_
  refine aw_iload_n C dX4_checkOf_4 rfl 1 rfl ?_
  refine aw_iald C (kd4b hk0) (ln4b hk0) hf dX4_checkOf_5 (fun hf => ?_)
  refine aw_bipush (v := 15) C dX4_checkOf_6 (by decide) ?_
  refine aw_iand C dX4_checkOf_8 ?_
  exact aw_iretR C dX4_checkOf_9 hf
theorem kX4_checkOf {h : AH} {a0 : Nat} {a1 : Int32} {r0 : Int32} (hi : Inj ad) (hk0 : kd a0 = 4) (hf : fX4_checkOf h a0 a1 = some r0) : Ki l yX4_checkOf wsX4_checkOf rmX4_checkOf D ad cy tb [.ref (ad a0), .int a1] h r0 h := met_i (lv := [(0, .ref (ad a0)), (1, .int a1)]) hi (by decide) rfl (Nat.le_of_ble_eq_true rfl) rfl rfl (fun _ _ _ _ _ _ _ _ C => tX4_checkOf_0 C hk0 hf)
theorem dX4_isOdd_0 : decode cX4_isOdd 0 = .ok (.aload_n 0, 1) := by decide +kernel
theorem dX4_isOdd_1 : decode cX4_isOdd 1 = .ok (.getfield 19, 3) := by decide +kernel
theorem dX4_isOdd_4 : decode cX4_isOdd 4 = .ok (.iload_n 1, 1) := by decide +kernel
theorem dX4_isOdd_5 : decode cX4_isOdd 5 = .ok (.iaload, 1) := by decide +kernel
theorem dX4_isOdd_6 : decode cX4_isOdd 6 = .ok (.bipush 16, 2) := by decide +kernel
theorem dX4_isOdd_8 : decode cX4_isOdd 8 = .ok (.iand, 1) := by decide +kernel
theorem dX4_isOdd_9 : decode cX4_isOdd 9 = .ok (.ifCond .eq 7, 3) := by decide +kernel
theorem dX4_isOdd_12 : decode cX4_isOdd 12 = .ok (.iconst 1, 1) := by decide +kernel
theorem dX4_isOdd_13 : decode cX4_isOdd 13 = .ok (.goto 4, 3) := by decide +kernel
theorem dX4_isOdd_16 : decode cX4_isOdd 16 = .ok (.iconst 0, 1) := by decide +kernel
theorem dX4_isOdd_17 : decode cX4_isOdd 17 = .ok (.ireturn, 1) := by decide +kernel
abbrev rmX4_isOdd : Room := { frames := 0, cells := 0, slots := 0, locals := 0 }
set_option maxRecDepth 100000 in
theorem hinX4_isOdd_4 : ∀ w ∈ wsX40, w ∈ wsX4_isOdd := by decide +kernel
set_option maxHeartbeats 4000000 in
set_option maxRecDepth 100000 in
theorem tX4_isOdd_0 {h : AH} {a0 : Nat} {a1 : Int32} {r0 : Int32} (C : Cx p rmX4_isOdd s m args meth c RX4 cX4_isOdd 2 (some .boolean) wsX4_isOdd D ad cy tb 0 0) (hk0 : kd a0 = 4) (hf : fX4_isOdd h a0 a1 = some r0) : AW p l e rmX4_isOdd s m args below meth c 2 D ad cy 0 0 (Qi D ad cy below args s r0 h) 0 [(0, .ref (ad a0)), (1, .int a1)] [] h := by
  unfold fX4_isOdd at hf
  refine aw_aload_n C dX4_isOdd_0 rfl 0 rfl ?_
  refine aw_get C (kd_lt hk0 (by decide)) (ce_4 hk0) rfl hinX4_isOdd_4 2 (by decide) rfl (by decide +kernel) rfl dX4_isOdd_1 ?_
  refine aw_iload_n C dX4_isOdd_4 rfl 1 rfl ?_
  refine aw_iald C (kd4b hk0) (ln4b hk0) hf dX4_isOdd_5 (fun hf => ?_)
  refine aw_bipush (v := 16) C dX4_isOdd_6 (by decide) ?_
  refine aw_iand C dX4_isOdd_8 ?_
  refine aw_if_eq (tgt := 16) C dX4_isOdd_9 (by decide) hf (fun hf => ?_) (fun hf => ?_)
  · refine aw_iconst (v := 0) C dX4_isOdd_16 (by decide) ?_
    exact aw_zretR C (by decide) dX4_isOdd_17 hf
  refine aw_iconst (v := 1) C dX4_isOdd_12 (by decide) ?_
  refine aw_goto (tgt := 17) C dX4_isOdd_13 (by decide) ?_
  exact aw_zretR C (by decide) dX4_isOdd_17 hf
theorem kX4_isOdd {h : AH} {a0 : Nat} {a1 : Int32} {r0 : Int32} (hi : Inj ad) (hk0 : kd a0 = 4) (hf : fX4_isOdd h a0 a1 = some r0) : Ki l yX4_isOdd wsX4_isOdd rmX4_isOdd D ad cy tb [.ref (ad a0), .int a1] h r0 h := met_i (lv := [(0, .ref (ad a0)), (1, .int a1)]) hi (by decide) rfl (Nat.le_of_ble_eq_true rfl) rfl rfl (fun _ _ _ _ _ _ _ _ C => tX4_isOdd_0 C hk0 hf)
theorem dX4_isSound_0 : decode cX4_isSound 0 = .ok (.aload_n 0, 1) := by decide +kernel
theorem dX4_isSound_1 : decode cX4_isSound 1 = .ok (.getfield 19, 3) := by decide +kernel
theorem dX4_isSound_4 : decode cX4_isSound 4 = .ok (.iload_n 1, 1) := by decide +kernel
theorem dX4_isSound_5 : decode cX4_isSound 5 = .ok (.iaload, 1) := by decide +kernel
theorem dX4_isSound_6 : decode cX4_isSound 6 = .ok (.ifCond .ne 7, 3) := by decide +kernel
theorem dX4_isSound_9 : decode cX4_isSound 9 = .ok (.iconst 1, 1) := by decide +kernel
theorem dX4_isSound_10 : decode cX4_isSound 10 = .ok (.goto 4, 3) := by decide +kernel
theorem dX4_isSound_13 : decode cX4_isSound 13 = .ok (.iconst 0, 1) := by decide +kernel
theorem dX4_isSound_14 : decode cX4_isSound 14 = .ok (.ireturn, 1) := by decide +kernel
abbrev rmX4_isSound : Room := { frames := 0, cells := 0, slots := 0, locals := 0 }
set_option maxRecDepth 100000 in
theorem hinX4_isSound_4 : ∀ w ∈ wsX40, w ∈ wsX4_isSound := by decide +kernel
set_option maxHeartbeats 4000000 in
set_option maxRecDepth 100000 in
theorem tX4_isSound_0 {h : AH} {a0 : Nat} {a1 : Int32} {r0 : Int32} (C : Cx p rmX4_isSound s m args meth c RX4 cX4_isSound 2 (some .boolean) wsX4_isSound D ad cy tb 0 0) (hk0 : kd a0 = 4) (hf : fX4_isSound h a0 a1 = some r0) : AW p l e rmX4_isSound s m args below meth c 2 D ad cy 0 0 (Qi D ad cy below args s r0 h) 0 [(0, .ref (ad a0)), (1, .int a1)] [] h := by
  unfold fX4_isSound at hf
  refine aw_aload_n C dX4_isSound_0 rfl 0 rfl ?_
  refine aw_get C (kd_lt hk0 (by decide)) (ce_4 hk0) rfl hinX4_isSound_4 2 (by decide) rfl (by decide +kernel) rfl dX4_isSound_1 ?_
  refine aw_iload_n C dX4_isSound_4 rfl 1 rfl ?_
  refine aw_iald C (kd4b hk0) (ln4b hk0) hf dX4_isSound_5 (fun hf => ?_)
  refine aw_if_ne (tgt := 13) C dX4_isSound_6 (by decide) hf (fun hf => ?_) (fun hf => ?_)
  · refine aw_iconst (v := 0) C dX4_isSound_13 (by decide) ?_
    exact aw_zretR C (by decide) dX4_isSound_14 hf
  refine aw_iconst (v := 1) C dX4_isSound_9 (by decide) ?_
  refine aw_goto (tgt := 14) C dX4_isSound_10 (by decide) ?_
  exact aw_zretR C (by decide) dX4_isSound_14 hf
theorem kX4_isSound {h : AH} {a0 : Nat} {a1 : Int32} {r0 : Int32} (hi : Inj ad) (hk0 : kd a0 = 4) (hf : fX4_isSound h a0 a1 = some r0) : Ki l yX4_isSound wsX4_isSound rmX4_isSound D ad cy tb [.ref (ad a0), .int a1] h r0 h := met_i (lv := [(0, .ref (ad a0)), (1, .int a1)]) hi (by decide) rfl (Nat.le_of_ble_eq_true rfl) rfl rfl (fun _ _ _ _ _ _ _ _ C => tX4_isSound_0 C hk0 hf)
set_option maxRecDepth 20000 in
theorem ggX4_stateOf_X4_isSound : GoodIn wsX4_stateOf wsX4_isSound := goodIn_r _ [5, 6, 11, 12, 13] (by decide +kernel) (by decide +kernel)
set_option maxRecDepth 20000 in
theorem gX4_stateOf_X4_isSound : GoodIn wsX4_stateOf (wsV RX4 45 RX4 yX4_isSound wsX4_isSound) := goodIn_app (goodIn_of _ (by decide +kernel)) ggX4_stateOf_X4_isSound
set_option maxRecDepth 20000 in
theorem ggX4_stateOf_X4_isOdd : GoodIn wsX4_stateOf wsX4_isOdd := goodIn_r _ [10, 6, 11, 12, 13] (by decide +kernel) (by decide +kernel)
set_option maxRecDepth 20000 in
theorem gX4_stateOf_X4_isOdd : GoodIn wsX4_stateOf (wsV RX4 41 RX4 yX4_isOdd wsX4_isOdd) := goodIn_app (goodIn_of _ (by decide +kernel)) ggX4_stateOf_X4_isOdd
theorem dX4_stateOf_0 : decode cX4_stateOf 0 = .ok (.aload_n 0, 1) := by decide +kernel
theorem dX4_stateOf_1 : decode cX4_stateOf 1 = .ok (.iload_n 1, 1) := by decide +kernel
theorem dX4_stateOf_2 : decode cX4_stateOf 2 = .ok (.invokevirtual 45, 3) := by decide +kernel
theorem dX4_stateOf_5 : decode cX4_stateOf 5 = .ok (.ifCond .eq 5, 3) := by decide +kernel
theorem dX4_stateOf_8 : decode cX4_stateOf 8 = .ok (.iconst 0, 1) := by decide +kernel
theorem dX4_stateOf_9 : decode cX4_stateOf 9 = .ok (.ireturn, 1) := by decide +kernel
theorem dX4_stateOf_10 : decode cX4_stateOf 10 = .ok (.aload_n 0, 1) := by decide +kernel
theorem dX4_stateOf_11 : decode cX4_stateOf 11 = .ok (.iload_n 1, 1) := by decide +kernel
theorem dX4_stateOf_12 : decode cX4_stateOf 12 = .ok (.invokevirtual 41, 3) := by decide +kernel
theorem dX4_stateOf_15 : decode cX4_stateOf 15 = .ok (.ifCond .eq 7, 3) := by decide +kernel
theorem dX4_stateOf_18 : decode cX4_stateOf 18 = .ok (.iconst 2, 1) := by decide +kernel
theorem dX4_stateOf_19 : decode cX4_stateOf 19 = .ok (.goto 4, 3) := by decide +kernel
theorem dX4_stateOf_22 : decode cX4_stateOf 22 = .ok (.iconst 1, 1) := by decide +kernel
theorem dX4_stateOf_23 : decode cX4_stateOf 23 = .ok (.ireturn, 1) := by decide +kernel
abbrev rmX4_stateOf : Room := { frames := 1, cells := 0, slots := 0, locals := 21 }
set_option maxHeartbeats 4000000 in
set_option maxRecDepth 100000 in
theorem tX4_stateOf_0 {h : AH} {a0 : Nat} {a1 : Int32} {r0 : Int32} (C : Cx p rmX4_stateOf s m args meth c RX4 cX4_stateOf 2 (some .int) wsX4_stateOf D ad cy tb 0 0) (hk0 : kd a0 = 4) (hf : fX4_stateOf h a0 a1 = some r0) : AW p l e rmX4_stateOf s m args below meth c 2 D ad cy 0 0 (Qi D ad cy below args s r0 h) 0 [(0, .ref (ad a0)), (1, .int a1)] [] h := by
  unfold fX4_stateOf at hf
  refine aw_aload_n C dX4_stateOf_0 rfl 0 rfl ?_
  refine aw_iload_n C dX4_stateOf_1 rfl 1 rfl ?_
  obtain ⟨r1, hc, hf⟩ := bR_some hf
  refine aw_callVi (As := [.int a1]) (rest := []) C hk0 (by decide) rfl (kX4_isSound (l := l) (D := D) (ad := ad) (cy := cy) (tb := tb) C.2.2.2.2.2.2.2.2.1 hk0 hc) (fun ht _ => cwV 1 ht gX4_stateOf_X4_isSound rfl rfl rfl (by decide +kernel) ⟨Nat.le_of_ble_eq_true rfl, Nat.le_of_ble_eq_true rfl⟩) rfl rfl (Nat.le_of_ble_eq_true rfl) dX4_stateOf_2 ?_
  refine aw_if_eq (tgt := 10) C dX4_stateOf_5 (by decide) hf (fun hf => ?_) (fun hf => ?_)
  · refine aw_aload_n C dX4_stateOf_10 rfl 0 rfl ?_
    refine aw_iload_n C dX4_stateOf_11 rfl 1 rfl ?_
    obtain ⟨r2, hc, hf⟩ := bR_some hf
    refine aw_callVi (As := [.int a1]) (rest := []) C hk0 (by decide) rfl (kX4_isOdd (l := l) (D := D) (ad := ad) (cy := cy) (tb := tb) C.2.2.2.2.2.2.2.2.1 hk0 hc) (fun ht _ => cwV 1 ht gX4_stateOf_X4_isOdd rfl rfl rfl (by decide +kernel) ⟨Nat.le_of_ble_eq_true rfl, Nat.le_of_ble_eq_true rfl⟩) rfl rfl (Nat.le_of_ble_eq_true rfl) dX4_stateOf_12 ?_
    refine aw_if_eq (tgt := 22) C dX4_stateOf_15 (by decide) hf (fun hf => ?_) (fun hf => ?_)
    · refine aw_iconst (v := 1) C dX4_stateOf_22 (by decide) ?_
      exact aw_iretR C dX4_stateOf_23 hf
    refine aw_iconst (v := 2) C dX4_stateOf_18 (by decide) ?_
    refine aw_goto (tgt := 23) C dX4_stateOf_19 (by decide) ?_
    exact aw_iretR C dX4_stateOf_23 hf
  refine aw_iconst (v := 0) C dX4_stateOf_8 (by decide) ?_
  exact aw_iretR C dX4_stateOf_9 hf
theorem kX4_stateOf {h : AH} {a0 : Nat} {a1 : Int32} {r0 : Int32} (hi : Inj ad) (hk0 : kd a0 = 4) (hf : fX4_stateOf h a0 a1 = some r0) : Ki l yX4_stateOf wsX4_stateOf rmX4_stateOf D ad cy tb [.ref (ad a0), .int a1] h r0 h := met_i (lv := [(0, .ref (ad a0)), (1, .int a1)]) hi (by decide) rfl (Nat.le_of_ble_eq_true rfl) rfl rfl (fun _ _ _ _ _ _ _ _ C => tX4_stateOf_0 C hk0 hf)
set_option maxRecDepth 20000 in
theorem ggX4_wrongRow_X5_rowOf : GoodIn wsX4_wrongRow wsX5_rowOf := goodIn_r _ [4] (by decide +kernel) (by decide +kernel)
set_option maxRecDepth 20000 in
theorem gX4_wrongRow_X5_rowOf_n48 : GoodIn wsX4_wrongRow (wsX5_rowOf) := ggX4_wrongRow_X5_rowOf
theorem dX4_wrongRow_0 : decode cX4_wrongRow 0 = .ok (.aload_n 0, 1) := by decide +kernel
theorem dX4_wrongRow_1 : decode cX4_wrongRow 1 = .ok (.getfield 15, 3) := by decide +kernel
theorem dX4_wrongRow_4 : decode cX4_wrongRow 4 = .ok (.iload_n 1, 1) := by decide +kernel
theorem dX4_wrongRow_5 : decode cX4_wrongRow 5 = .ok (.iconst 3, 1) := by decide +kernel
theorem dX4_wrongRow_6 : decode cX4_wrongRow 6 = .ok (.ishr, 1) := by decide +kernel
theorem dX4_wrongRow_7 : decode cX4_wrongRow 7 = .ok (.laload, 1) := by decide +kernel
theorem dX4_wrongRow_8 : decode cX4_wrongRow 8 = .ok (.iload_n 1, 1) := by decide +kernel
theorem dX4_wrongRow_9 : decode cX4_wrongRow 9 = .ok (.bipush 7, 2) := by decide +kernel
theorem dX4_wrongRow_11 : decode cX4_wrongRow 11 = .ok (.iand, 1) := by decide +kernel
theorem dX4_wrongRow_12 : decode cX4_wrongRow 12 = .ok (.invokestatic 48, 3) := by decide +kernel
theorem dX4_wrongRow_15 : decode cX4_wrongRow 15 = .ok (.ireturn, 1) := by decide +kernel
abbrev rmX4_wrongRow : Room := { frames := 1, cells := 0, slots := 0, locals := 22 }
set_option maxRecDepth 100000 in
theorem hinX4_wrongRow_4 : ∀ w ∈ wsX40, w ∈ wsX4_wrongRow := by decide +kernel
set_option maxHeartbeats 4000000 in
set_option maxRecDepth 100000 in
theorem tX4_wrongRow_0 {h : AH} {a0 : Nat} {a1 : Int32} {r0 : Int32} (C : Cx p rmX4_wrongRow s m args meth c RX4 cX4_wrongRow 2 (some .int) wsX4_wrongRow D ad cy tb 0 0) (hk0 : kd a0 = 4) (hf : fX4_wrongRow h a0 a1 = some r0) : AW p l e rmX4_wrongRow s m args below meth c 2 D ad cy 0 0 (Qi D ad cy below args s r0 h) 0 [(0, .ref (ad a0)), (1, .int a1)] [] h := by
  unfold fX4_wrongRow at hf
  refine aw_aload_n C dX4_wrongRow_0 rfl 0 rfl ?_
  refine aw_get C (kd_lt hk0 (by decide)) (ce_4 hk0) rfl hinX4_wrongRow_4 1 (by decide) rfl (by decide +kernel) rfl dX4_wrongRow_1 ?_
  refine aw_iload_n C dX4_wrongRow_4 rfl 1 rfl ?_
  refine aw_iconst (v := 3) C dX4_wrongRow_5 (by decide) ?_
  refine aw_ishr C dX4_wrongRow_6 ?_
  refine aw_nmI hf (fun v1 hf => ?_)
  refine aw_lald C (kd4a hk0) (ln4a hk0) hf dX4_wrongRow_7 (fun hf => ?_)
  refine aw_iload_n C dX4_wrongRow_8 rfl 1 rfl ?_
  refine aw_bipush (v := 7) C dX4_wrongRow_9 (by decide) ?_
  refine aw_iand C dX4_wrongRow_11 ?_
  obtain ⟨r2, hc, hf⟩ := bR_some hf
  refine aw_callSNi (As := [.long (h.2 (a0 + 1) v1.toNatClampNeg), .int (a1 &&& 7)]) (rest := []) C (kX5_rowOf (l := l) (D := D) (ad := ad) (cy := cy) (tb := tb) C.2.2.2.2.2.2.2.2.1 hc) (fun ht hn => ⟨va_cnB (host := "StairCodes") 2 ht gX4_wrongRow_X5_rowOf_n48 rfl rfl rfl (hn _ (by decide +kernel)) (ht _ (by decide +kernel)) (by decide +kernel) ⟨Nat.le_of_ble_eq_true rfl, Nat.le_of_ble_eq_true rfl⟩, ht _ (by decide +kernel), trivial⟩) rfl rfl (Nat.le_of_ble_eq_true rfl) dX4_wrongRow_12 ?_
  exact aw_iretR C dX4_wrongRow_15 hf
theorem kX4_wrongRow {h : AH} {a0 : Nat} {a1 : Int32} {r0 : Int32} (hi : Inj ad) (hk0 : kd a0 = 4) (hf : fX4_wrongRow h a0 a1 = some r0) : Ki l yX4_wrongRow wsX4_wrongRow rmX4_wrongRow D ad cy tb [.ref (ad a0), .int a1] h r0 h := met_i (lv := [(0, .ref (ad a0)), (1, .int a1)]) hi (by decide) rfl (Nat.le_of_ble_eq_true rfl) rfl rfl (fun _ _ _ _ _ _ _ _ C => tX4_wrongRow_0 C hk0 hf)
theorem dX4_wrongColumn_0 : decode cX4_wrongColumn 0 = .ok (.aload_n 0, 1) := by decide +kernel
theorem dX4_wrongColumn_1 : decode cX4_wrongColumn 1 = .ok (.getfield 15, 3) := by decide +kernel
theorem dX4_wrongColumn_4 : decode cX4_wrongColumn 4 = .ok (.iload_n 1, 1) := by decide +kernel
theorem dX4_wrongColumn_5 : decode cX4_wrongColumn 5 = .ok (.iconst 3, 1) := by decide +kernel
theorem dX4_wrongColumn_6 : decode cX4_wrongColumn 6 = .ok (.ishr, 1) := by decide +kernel
theorem dX4_wrongColumn_7 : decode cX4_wrongColumn 7 = .ok (.iconst 1, 1) := by decide +kernel
theorem dX4_wrongColumn_8 : decode cX4_wrongColumn 8 = .ok (.isub, 1) := by decide +kernel
theorem dX4_wrongColumn_9 : decode cX4_wrongColumn 9 = .ok (.laload, 1) := by decide +kernel
theorem dX4_wrongColumn_10 : decode cX4_wrongColumn 10 = .ok (.ldc2_w 52, 3) := by decide +kernel
theorem dX4_wrongColumn_13 : decode cX4_wrongColumn 13 = .ok (.iload_n 1, 1) := by decide +kernel
theorem dX4_wrongColumn_14 : decode cX4_wrongColumn 14 = .ok (.bipush 7, 2) := by decide +kernel
theorem dX4_wrongColumn_16 : decode cX4_wrongColumn 16 = .ok (.iand, 1) := by decide +kernel
theorem dX4_wrongColumn_17 : decode cX4_wrongColumn 17 = .ok (.lshl, 1) := by decide +kernel
theorem dX4_wrongColumn_18 : decode cX4_wrongColumn 18 = .ok (.land, 1) := by decide +kernel
theorem dX4_wrongColumn_19 : decode cX4_wrongColumn 19 = .ok (.lreturn, 1) := by decide +kernel
abbrev rmX4_wrongColumn : Room := { frames := 0, cells := 0, slots := 0, locals := 0 }
set_option maxRecDepth 100000 in
theorem hinX4_wrongColumn_4 : ∀ w ∈ wsX40, w ∈ wsX4_wrongColumn := by decide +kernel
set_option maxHeartbeats 4000000 in
set_option maxRecDepth 100000 in
theorem tX4_wrongColumn_0 {h : AH} {a0 : Nat} {a1 : Int32} {r0 : Int64} (C : Cx p rmX4_wrongColumn s m args meth c RX4 cX4_wrongColumn 2 (some .long) wsX4_wrongColumn D ad cy tb 0 0) (hk0 : kd a0 = 4) (hf : fX4_wrongColumn h a0 a1 = some r0) : AW p l e rmX4_wrongColumn s m args below meth c 2 D ad cy 0 0 (Ql D ad cy below args s r0 h) 0 [(0, .ref (ad a0)), (1, .int a1)] [] h := by
  unfold fX4_wrongColumn at hf
  refine aw_aload_n C dX4_wrongColumn_0 rfl 0 rfl ?_
  refine aw_get C (kd_lt hk0 (by decide)) (ce_4 hk0) rfl hinX4_wrongColumn_4 1 (by decide) rfl (by decide +kernel) rfl dX4_wrongColumn_1 ?_
  refine aw_iload_n C dX4_wrongColumn_4 rfl 1 rfl ?_
  refine aw_iconst (v := 3) C dX4_wrongColumn_5 (by decide) ?_
  refine aw_ishr C dX4_wrongColumn_6 ?_
  refine aw_iconst (v := 1) C dX4_wrongColumn_7 (by decide) ?_
  refine aw_isub C dX4_wrongColumn_8 ?_
  refine aw_nmI hf (fun v1 hf => ?_)
  refine aw_lald C (kd4a hk0) (ln4a hk0) hf dX4_wrongColumn_9 (fun hf => ?_)
  refine aw_ldc2 (v := 72340172838076673) C (by decide +kernel) dX4_wrongColumn_10 ?_
  refine aw_iload_n C dX4_wrongColumn_13 rfl 1 rfl ?_
  refine aw_bipush (v := 7) C dX4_wrongColumn_14 (by decide) ?_
  refine aw_iand C dX4_wrongColumn_16 ?_
  refine aw_lshl C dX4_wrongColumn_17 ?_
  refine aw_land C dX4_wrongColumn_18 ?_
  exact aw_lretR C dX4_wrongColumn_19 hf
theorem kX4_wrongColumn {h : AH} {a0 : Nat} {a1 : Int32} {r0 : Int64} (hi : Inj ad) (hk0 : kd a0 = 4) (hf : fX4_wrongColumn h a0 a1 = some r0) : Kl l yX4_wrongColumn wsX4_wrongColumn rmX4_wrongColumn D ad cy tb [.ref (ad a0), .int a1] h r0 h := met_l (lv := [(0, .ref (ad a0)), (1, .int a1)]) hi (by decide) rfl (Nat.le_of_ble_eq_true rfl) rfl rfl (fun _ _ _ _ _ _ _ _ C => tX4_wrongColumn_0 C hk0 hf)
set_option maxRecDepth 20000 in
theorem ggX4_wrongBitsOf_X4_wrongRow : GoodIn wsX4_wrongBitsOf wsX4_wrongRow := goodIn_r _ [5, 6, 7, 8, 9, 29, 30, 31] (by decide +kernel) (by decide +kernel)
set_option maxRecDepth 20000 in
theorem gX4_wrongBitsOf_X4_wrongRow : GoodIn wsX4_wrongBitsOf (wsV RX4 54 RX4 yX4_wrongRow wsX4_wrongRow) := goodIn_app (goodIn_of _ (by decide +kernel)) ggX4_wrongBitsOf_X4_wrongRow
set_option maxRecDepth 20000 in
theorem ggX4_wrongBitsOf_J6_bitCount_0f7a4 : GoodIn wsX4_wrongBitsOf wsJ6_bitCount_0f7a4 := goodIn_r _ [13, 14, 15, 16] (by decide +kernel) (by decide +kernel)
set_option maxRecDepth 20000 in
theorem gX4_wrongBitsOf_J6_bitCount_0f7a4 : GoodIn wsX4_wrongBitsOf (va_wsS RX4 58 yJ6_bitCount_0f7a4 wsJ6_bitCount_0f7a4) := goodIn_app (goodIn_of _ (by decide +kernel)) ggX4_wrongBitsOf_J6_bitCount_0f7a4
set_option maxRecDepth 20000 in
theorem ggX4_wrongBitsOf_X4_wrongColumn : GoodIn wsX4_wrongBitsOf wsX4_wrongColumn := goodIn_r _ [20, 6, 21, 29, 30, 31] (by decide +kernel) (by decide +kernel)
set_option maxRecDepth 20000 in
theorem gX4_wrongBitsOf_X4_wrongColumn : GoodIn wsX4_wrongBitsOf (wsV RX4 63 RX4 yX4_wrongColumn wsX4_wrongColumn) := goodIn_app (goodIn_of _ (by decide +kernel)) ggX4_wrongBitsOf_X4_wrongColumn
set_option maxRecDepth 20000 in
theorem ggX4_wrongBitsOf_J13_bitCount_95d88 : GoodIn wsX4_wrongBitsOf wsJ13_bitCount_95d88 := goodIn_r _ [25, 26, 27, 28] (by decide +kernel) (by decide +kernel)
set_option maxRecDepth 20000 in
theorem gX4_wrongBitsOf_J13_bitCount_95d88 : GoodIn wsX4_wrongBitsOf (va_wsS RX4 67 yJ13_bitCount_95d88 wsJ13_bitCount_95d88) := goodIn_app (goodIn_of _ (by decide +kernel)) ggX4_wrongBitsOf_J13_bitCount_95d88
theorem dX4_wrongBitsOf_0 : decode cX4_wrongBitsOf 0 = .ok (.aload_n 0, 1) := by decide +kernel
theorem dX4_wrongBitsOf_1 : decode cX4_wrongBitsOf 1 = .ok (.iload_n 1, 1) := by decide +kernel
theorem dX4_wrongBitsOf_2 : decode cX4_wrongBitsOf 2 = .ok (.invokevirtual 54, 3) := by decide +kernel
theorem dX4_wrongBitsOf_5 : decode cX4_wrongBitsOf 5 = .ok (.invokestatic 58, 3) := by decide +kernel
theorem dX4_wrongBitsOf_8 : decode cX4_wrongBitsOf 8 = .ok (.aload_n 0, 1) := by decide +kernel
theorem dX4_wrongBitsOf_9 : decode cX4_wrongBitsOf 9 = .ok (.iload_n 1, 1) := by decide +kernel
theorem dX4_wrongBitsOf_10 : decode cX4_wrongBitsOf 10 = .ok (.invokevirtual 63, 3) := by decide +kernel
theorem dX4_wrongBitsOf_13 : decode cX4_wrongBitsOf 13 = .ok (.invokestatic 67, 3) := by decide +kernel
theorem dX4_wrongBitsOf_16 : decode cX4_wrongBitsOf 16 = .ok (.iadd, 1) := by decide +kernel
theorem dX4_wrongBitsOf_17 : decode cX4_wrongBitsOf 17 = .ok (.ireturn, 1) := by decide +kernel
abbrev rmX4_wrongBitsOf : Room := { frames := 2, cells := 0, slots := 0, locals := 43 }
set_option maxHeartbeats 4000000 in
set_option maxRecDepth 100000 in
theorem tX4_wrongBitsOf_0 {h : AH} {a0 : Nat} {a1 : Int32} {r0 : Int32} (C : Cx p rmX4_wrongBitsOf s m args meth c RX4 cX4_wrongBitsOf 2 (some .int) wsX4_wrongBitsOf D ad cy tb 0 0) (hk0 : kd a0 = 4) (hf : fX4_wrongBitsOf h a0 a1 = some r0) : AW p l e rmX4_wrongBitsOf s m args below meth c 2 D ad cy 0 0 (Qi D ad cy below args s r0 h) 0 [(0, .ref (ad a0)), (1, .int a1)] [] h := by
  unfold fX4_wrongBitsOf at hf
  refine aw_aload_n C dX4_wrongBitsOf_0 rfl 0 rfl ?_
  refine aw_iload_n C dX4_wrongBitsOf_1 rfl 1 rfl ?_
  obtain ⟨r1, hc, hf⟩ := bR_some hf
  refine aw_callVi (As := [.int a1]) (rest := []) C hk0 (by decide) rfl (kX4_wrongRow (l := l) (D := D) (ad := ad) (cy := cy) (tb := tb) C.2.2.2.2.2.2.2.2.1 hk0 hc) (fun ht _ => cwV 1 ht gX4_wrongBitsOf_X4_wrongRow rfl rfl rfl (by decide +kernel) ⟨Nat.le_of_ble_eq_true rfl, Nat.le_of_ble_eq_true rfl⟩) rfl rfl (Nat.le_of_ble_eq_true rfl) dX4_wrongBitsOf_2 ?_
  obtain ⟨r2, hc, hf⟩ := bR_some hf
  refine aw_callSi (As := [.int r1]) (rest := []) C (kJ6_bitCount_0f7a4 (l := l) (D := D) (ad := ad) (cy := cy) (tb := tb) C.2.2.2.2.2.2.2.2.1 hc) (fun ht _ => va_cwS 1 ht gX4_wrongBitsOf_J6_bitCount_0f7a4 rfl rfl rfl (by decide +kernel) ⟨Nat.le_of_ble_eq_true rfl, Nat.le_of_ble_eq_true rfl⟩) rfl rfl (Nat.le_of_ble_eq_true rfl) dX4_wrongBitsOf_5 ?_
  refine aw_aload_n C dX4_wrongBitsOf_8 rfl 0 rfl ?_
  refine aw_iload_n C dX4_wrongBitsOf_9 rfl 1 rfl ?_
  obtain ⟨r3, hc, hf⟩ := bR_some hf
  refine aw_callVl (As := [.int a1]) (rest := [.int r2]) C hk0 (by decide) rfl (kX4_wrongColumn (l := l) (D := D) (ad := ad) (cy := cy) (tb := tb) C.2.2.2.2.2.2.2.2.1 hk0 hc) (fun ht _ => cwV 1 ht gX4_wrongBitsOf_X4_wrongColumn rfl rfl rfl (by decide +kernel) ⟨Nat.le_of_ble_eq_true rfl, Nat.le_of_ble_eq_true rfl⟩) rfl rfl (Nat.le_of_ble_eq_true rfl) dX4_wrongBitsOf_10 ?_
  obtain ⟨r4, hc, hf⟩ := bR_some hf
  refine aw_callSi (As := [.long r3]) (rest := [.int r2]) C (kJ13_bitCount_95d88 (l := l) (D := D) (ad := ad) (cy := cy) (tb := tb) C.2.2.2.2.2.2.2.2.1 hc) (fun ht _ => va_cwS 1 ht gX4_wrongBitsOf_J13_bitCount_95d88 rfl rfl rfl (by decide +kernel) ⟨Nat.le_of_ble_eq_true rfl, Nat.le_of_ble_eq_true rfl⟩) rfl rfl (Nat.le_of_ble_eq_true rfl) dX4_wrongBitsOf_13 ?_
  refine aw_iadd C dX4_wrongBitsOf_16 ?_
  exact aw_iretR C dX4_wrongBitsOf_17 hf
theorem kX4_wrongBitsOf {h : AH} {a0 : Nat} {a1 : Int32} {r0 : Int32} (hi : Inj ad) (hk0 : kd a0 = 4) (hf : fX4_wrongBitsOf h a0 a1 = some r0) : Ki l yX4_wrongBitsOf wsX4_wrongBitsOf rmX4_wrongBitsOf D ad cy tb [.ref (ad a0), .int a1] h r0 h := met_i (lv := [(0, .ref (ad a0)), (1, .int a1)]) hi (by decide) rfl (Nat.le_of_ble_eq_true rfl) rfl rfl (fun _ _ _ _ _ _ _ _ C => tX4_wrongBitsOf_0 C hk0 hf)
theorem dX4_placeToMend_0 : decode cX4_placeToMend 0 = .ok (.aload_n 0, 1) := by decide +kernel
theorem dX4_placeToMend_1 : decode cX4_placeToMend 1 = .ok (.getfield 19, 3) := by decide +kernel
theorem dX4_placeToMend_4 : decode cX4_placeToMend 4 = .ok (.iload_n 1, 1) := by decide +kernel
theorem dX4_placeToMend_5 : decode cX4_placeToMend 5 = .ok (.iaload, 1) := by decide +kernel
theorem dX4_placeToMend_6 : decode cX4_placeToMend 6 = .ok (.istore_n 3, 1) := by decide +kernel
theorem dX4_placeToMend_7 : decode cX4_placeToMend 7 = .ok (.iload_n 3, 1) := by decide +kernel
theorem dX4_placeToMend_8 : decode cX4_placeToMend 8 = .ok (.bipush 16, 2) := by decide +kernel
theorem dX4_placeToMend_10 : decode cX4_placeToMend 10 = .ok (.iand, 1) := by decide +kernel
theorem dX4_placeToMend_11 : decode cX4_placeToMend 11 = .ok (.ifCond .ne 5, 3) := by decide +kernel
theorem dX4_placeToMend_14 : decode cX4_placeToMend 14 = .ok (.iconst (-1), 1) := by decide +kernel
theorem dX4_placeToMend_15 : decode cX4_placeToMend 15 = .ok (.ireturn, 1) := by decide +kernel
theorem dX4_placeToMend_16 : decode cX4_placeToMend 16 = .ok (.getstatic 79, 3) := by decide +kernel
theorem dX4_placeToMend_19 : decode cX4_placeToMend 19 = .ok (.iload_n 3, 1) := by decide +kernel
theorem dX4_placeToMend_20 : decode cX4_placeToMend 20 = .ok (.bipush 15, 2) := by decide +kernel
theorem dX4_placeToMend_22 : decode cX4_placeToMend 22 = .ok (.iand, 1) := by decide +kernel
theorem dX4_placeToMend_23 : decode cX4_placeToMend 23 = .ok (.iaload, 1) := by decide +kernel
theorem dX4_placeToMend_24 : decode cX4_placeToMend 24 = .ok (.istore 4, 2) := by decide +kernel
theorem dX4_placeToMend_26 : decode cX4_placeToMend 26 = .ok (.iload_n 1, 1) := by decide +kernel
theorem dX4_placeToMend_27 : decode cX4_placeToMend 27 = .ok (.iconst 3, 1) := by decide +kernel
theorem dX4_placeToMend_28 : decode cX4_placeToMend 28 = .ok (.ishr, 1) := by decide +kernel
theorem dX4_placeToMend_29 : decode cX4_placeToMend 29 = .ok (.istore 5, 2) := by decide +kernel
theorem dX4_placeToMend_31 : decode cX4_placeToMend 31 = .ok (.iload 4, 2) := by decide +kernel
theorem dX4_placeToMend_33 : decode cX4_placeToMend 33 = .ok (.bipush 8, 2) := by decide +kernel
theorem dX4_placeToMend_35 : decode cX4_placeToMend 35 = .ok (.if_icmp .ge 12, 3) := by decide +kernel
theorem dX4_placeToMend_38 : decode cX4_placeToMend 38 = .ok (.iload 5, 2) := by decide +kernel
theorem dX4_placeToMend_40 : decode cX4_placeToMend 40 = .ok (.iconst 1, 1) := by decide +kernel
theorem dX4_placeToMend_41 : decode cX4_placeToMend 41 = .ok (.if_icmp .ne 6, 3) := by decide +kernel
theorem dX4_placeToMend_44 : decode cX4_placeToMend 44 = .ok (.bipush (-5), 2) := by decide +kernel
theorem dX4_placeToMend_46 : decode cX4_placeToMend 46 = .ok (.ireturn, 1) := by decide +kernel
theorem dX4_placeToMend_47 : decode cX4_placeToMend 47 = .ok (.iload 4, 2) := by decide +kernel
theorem dX4_placeToMend_49 : decode cX4_placeToMend 49 = .ok (.bipush 8, 2) := by decide +kernel
theorem dX4_placeToMend_51 : decode cX4_placeToMend 51 = .ok (.if_icmp .lt 12, 3) := by decide +kernel
theorem dX4_placeToMend_54 : decode cX4_placeToMend 54 = .ok (.iload 5, 2) := by decide +kernel
theorem dX4_placeToMend_56 : decode cX4_placeToMend 56 = .ok (.aload_n 0, 1) := by decide +kernel
theorem dX4_placeToMend_57 : decode cX4_placeToMend 57 = .ok (.getfield 9, 3) := by decide +kernel
theorem dX4_placeToMend_60 : decode cX4_placeToMend 60 = .ok (.if_icmp .ge 7, 3) := by decide +kernel
theorem dX4_placeToMend_63 : decode cX4_placeToMend 63 = .ok (.iconst 1, 1) := by decide +kernel
theorem dX4_placeToMend_64 : decode cX4_placeToMend 64 = .ok (.goto 4, 3) := by decide +kernel
theorem dX4_placeToMend_67 : decode cX4_placeToMend 67 = .ok (.iconst 0, 1) := by decide +kernel
theorem dX4_placeToMend_68 : decode cX4_placeToMend 68 = .ok (.istore 6, 2) := by decide +kernel
theorem dX4_placeToMend_70 : decode cX4_placeToMend 70 = .ok (.iload 4, 2) := by decide +kernel
theorem dX4_placeToMend_72 : decode cX4_placeToMend 72 = .ok (.bipush 8, 2) := by decide +kernel
theorem dX4_placeToMend_74 : decode cX4_placeToMend 74 = .ok (.if_icmp .ge 16, 3) := by decide +kernel
theorem dX4_placeToMend_77 : decode cX4_placeToMend 77 = .ok (.bipush 8, 2) := by decide +kernel
theorem dX4_placeToMend_79 : decode cX4_placeToMend 79 = .ok (.iload 5, 2) := by decide +kernel
theorem dX4_placeToMend_81 : decode cX4_placeToMend 81 = .ok (.iconst 1, 1) := by decide +kernel
theorem dX4_placeToMend_82 : decode cX4_placeToMend 82 = .ok (.isub, 1) := by decide +kernel
theorem dX4_placeToMend_83 : decode cX4_placeToMend 83 = .ok (.imul, 1) := by decide +kernel
theorem dX4_placeToMend_84 : decode cX4_placeToMend 84 = .ok (.iload 4, 2) := by decide +kernel
theorem dX4_placeToMend_86 : decode cX4_placeToMend 86 = .ok (.iadd, 1) := by decide +kernel
theorem dX4_placeToMend_87 : decode cX4_placeToMend 87 = .ok (.goto 16, 3) := by decide +kernel
theorem dX4_placeToMend_90 : decode cX4_placeToMend 90 = .ok (.bipush 8, 2) := by decide +kernel
theorem dX4_placeToMend_92 : decode cX4_placeToMend 92 = .ok (.iload 5, 2) := by decide +kernel
theorem dX4_placeToMend_94 : decode cX4_placeToMend 94 = .ok (.iconst 1, 1) := by decide +kernel
theorem dX4_placeToMend_95 : decode cX4_placeToMend 95 = .ok (.iadd, 1) := by decide +kernel
theorem dX4_placeToMend_96 : decode cX4_placeToMend 96 = .ok (.imul, 1) := by decide +kernel
theorem dX4_placeToMend_97 : decode cX4_placeToMend 97 = .ok (.iload 4, 2) := by decide +kernel
theorem dX4_placeToMend_99 : decode cX4_placeToMend 99 = .ok (.iadd, 1) := by decide +kernel
theorem dX4_placeToMend_100 : decode cX4_placeToMend 100 = .ok (.bipush 8, 2) := by decide +kernel
theorem dX4_placeToMend_102 : decode cX4_placeToMend 102 = .ok (.isub, 1) := by decide +kernel
theorem dX4_placeToMend_103 : decode cX4_placeToMend 103 = .ok (.istore 7, 2) := by decide +kernel
theorem dX4_placeToMend_105 : decode cX4_placeToMend 105 = .ok (.iload_n 2, 1) := by decide +kernel
theorem dX4_placeToMend_106 : decode cX4_placeToMend 106 = .ok (.iconst 1, 1) := by decide +kernel
theorem dX4_placeToMend_107 : decode cX4_placeToMend 107 = .ok (.if_icmp .ne 23, 3) := by decide +kernel
theorem dX4_placeToMend_110 : decode cX4_placeToMend 110 = .ok (.iload 6, 2) := by decide +kernel
theorem dX4_placeToMend_112 : decode cX4_placeToMend 112 = .ok (.ifCond .eq 18, 3) := by decide +kernel
theorem dX4_placeToMend_115 : decode cX4_placeToMend 115 = .ok (.aload_n 0, 1) := by decide +kernel
theorem dX4_placeToMend_116 : decode cX4_placeToMend 116 = .ok (.getfield 19, 3) := by decide +kernel
theorem dX4_placeToMend_119 : decode cX4_placeToMend 119 = .ok (.iload 7, 2) := by decide +kernel
theorem dX4_placeToMend_121 : decode cX4_placeToMend 121 = .ok (.iaload, 1) := by decide +kernel
theorem dX4_placeToMend_122 : decode cX4_placeToMend 122 = .ok (.ifCond .ne 8, 3) := by decide +kernel
theorem dX4_placeToMend_125 : decode cX4_placeToMend 125 = .ok (.bipush (-5), 2) := by decide +kernel
theorem dX4_placeToMend_127 : decode cX4_placeToMend 127 = .ok (.goto 5, 3) := by decide +kernel
theorem dX4_placeToMend_130 : decode cX4_placeToMend 130 = .ok (.iload 4, 2) := by decide +kernel
theorem dX4_placeToMend_132 : decode cX4_placeToMend 132 = .ok (.ireturn, 1) := by decide +kernel
abbrev rmX4_placeToMend : Room := { frames := 0, cells := 0, slots := 0, locals := 0 }
set_option maxRecDepth 100000 in
theorem hinX4_placeToMend_4 : ∀ w ∈ wsX40, w ∈ wsX4_placeToMend := by decide +kernel
set_option maxHeartbeats 4000000 in
set_option maxRecDepth 100000 in
theorem tX4_placeToMend_103 {h : AH} {a0 : Nat} {a1 : Int32} {a2 : Int32} {x4 : Int32} {x6 : Int32} {s0 : Int32} {r0 : Int32} (C : Cx p rmX4_placeToMend s m args meth c RX4 cX4_placeToMend 8 (some .int) wsX4_placeToMend D ad cy tb 0 0) (hk0 : kd a0 = 4) (hf : fX4_placeToMend_103 h a0 a1 a2 x4 x6 s0 = some r0) : AW p l e rmX4_placeToMend s m args below meth c 8 D ad cy 0 0 (Qi D ad cy below args s r0 h) 103 [(0, .ref (ad a0)), (1, .int a1), (2, .int a2), (4, .int x4), (6, .int x6)] [.int s0] h := by
  unfold fX4_placeToMend_103 at hf
  refine aw_istore (lv1 := [(7, .int s0), (0, .ref (ad a0)), (1, .int a1), (2, .int a2), (4, .int x4), (6, .int x6)]) C dX4_placeToMend_103 (by decide) rfl ?_
  refine aw_iload_n C dX4_placeToMend_105 rfl 3 rfl ?_
  refine aw_iconst (v := 1) C dX4_placeToMend_106 (by decide) ?_
  refine aw_icmp_ne (tgt := 130) C dX4_placeToMend_107 (by decide) hf (fun hf => ?_) (fun hf => ?_)
  · refine aw_iload C dX4_placeToMend_130 4 rfl ?_
    exact aw_iretR C dX4_placeToMend_132 hf
  refine aw_iload C dX4_placeToMend_110 5 rfl ?_
  refine aw_if_eq (tgt := 130) C dX4_placeToMend_112 (by decide) hf (fun hf => ?_) (fun hf => ?_)
  · refine aw_iload C dX4_placeToMend_130 4 rfl ?_
    exact aw_iretR C dX4_placeToMend_132 hf
  refine aw_aload_n C dX4_placeToMend_115 rfl 1 rfl ?_
  refine aw_get C (kd_lt hk0 (by decide)) (ce_4 hk0) rfl hinX4_placeToMend_4 2 (by decide) rfl (by decide +kernel) rfl dX4_placeToMend_116 ?_
  refine aw_iload C dX4_placeToMend_119 0 rfl ?_
  refine aw_iald C (kd4b hk0) (ln4b hk0) hf dX4_placeToMend_121 (fun hf => ?_)
  refine aw_if_ne (tgt := 130) C dX4_placeToMend_122 (by decide) hf (fun hf => ?_) (fun hf => ?_)
  · refine aw_iload C dX4_placeToMend_130 4 rfl ?_
    exact aw_iretR C dX4_placeToMend_132 hf
  refine aw_bipush (v := (-5)) C dX4_placeToMend_125 (by decide) ?_
  refine aw_goto (tgt := 132) C dX4_placeToMend_127 (by decide) ?_
  exact aw_iretR C dX4_placeToMend_132 hf
set_option maxHeartbeats 4000000 in
set_option maxRecDepth 100000 in
theorem tX4_placeToMend_68 {h : AH} {a0 : Nat} {a1 : Int32} {a2 : Int32} {x4 : Int32} {x5 : Int32} {s0 : Int32} {r0 : Int32} (C : Cx p rmX4_placeToMend s m args meth c RX4 cX4_placeToMend 8 (some .int) wsX4_placeToMend D ad cy tb 0 0) (hk0 : kd a0 = 4) (hf : fX4_placeToMend_68 h a0 a1 a2 x4 x5 s0 = some r0) : AW p l e rmX4_placeToMend s m args below meth c 8 D ad cy 0 0 (Qi D ad cy below args s r0 h) 68 [(0, .ref (ad a0)), (1, .int a1), (2, .int a2), (4, .int x4), (5, .int x5)] [.int s0] h := by
  unfold fX4_placeToMend_68 at hf
  refine aw_istore (lv1 := [(6, .int s0), (0, .ref (ad a0)), (1, .int a1), (2, .int a2), (4, .int x4), (5, .int x5)]) C dX4_placeToMend_68 (by decide) rfl ?_
  refine aw_iload C dX4_placeToMend_70 4 rfl ?_
  refine aw_bipush (v := 8) C dX4_placeToMend_72 (by decide) ?_
  refine aw_icmp_ge (tgt := 90) C dX4_placeToMend_74 (by decide) hf (fun hf => ?_) (fun hf => ?_)
  · refine aw_bipush (v := 8) C dX4_placeToMend_90 (by decide) ?_
    refine aw_iload C dX4_placeToMend_92 5 rfl ?_
    refine aw_iconst (v := 1) C dX4_placeToMend_94 (by decide) ?_
    refine aw_iadd C dX4_placeToMend_95 ?_
    refine aw_imul C dX4_placeToMend_96 ?_
    refine aw_iload C dX4_placeToMend_97 4 rfl ?_
    refine aw_iadd C dX4_placeToMend_99 ?_
    refine aw_bipush (v := 8) C dX4_placeToMend_100 (by decide) ?_
    refine aw_isub C dX4_placeToMend_102 ?_
    refine aw_sub [1, 2, 3, 4, 0] rfl ?_
    exact tX4_placeToMend_103 C hk0  hf
  refine aw_bipush (v := 8) C dX4_placeToMend_77 (by decide) ?_
  refine aw_iload C dX4_placeToMend_79 5 rfl ?_
  refine aw_iconst (v := 1) C dX4_placeToMend_81 (by decide) ?_
  refine aw_isub C dX4_placeToMend_82 ?_
  refine aw_imul C dX4_placeToMend_83 ?_
  refine aw_iload C dX4_placeToMend_84 4 rfl ?_
  refine aw_iadd C dX4_placeToMend_86 ?_
  refine aw_goto (tgt := 103) C dX4_placeToMend_87 (by decide) ?_
  refine aw_sub [1, 2, 3, 4, 0] rfl ?_
  exact tX4_placeToMend_103 C hk0  hf
set_option maxHeartbeats 4000000 in
set_option maxRecDepth 100000 in
theorem tX4_placeToMend_63 {h : AH} {a0 : Nat} {a1 : Int32} {a2 : Int32} {x4 : Int32} {x5 : Int32} {r0 : Int32} (C : Cx p rmX4_placeToMend s m args meth c RX4 cX4_placeToMend 8 (some .int) wsX4_placeToMend D ad cy tb 0 0) (hk0 : kd a0 = 4) (hf : fX4_placeToMend_63 h a0 a1 a2 x4 x5 = some r0) : AW p l e rmX4_placeToMend s m args below meth c 8 D ad cy 0 0 (Qi D ad cy below args s r0 h) 63 [(0, .ref (ad a0)), (1, .int a1), (2, .int a2), (4, .int x4), (5, .int x5)] [] h := by
  unfold fX4_placeToMend_63 at hf
  refine aw_iconst (v := 1) C dX4_placeToMend_63 (by decide) ?_
  refine aw_goto (tgt := 68) C dX4_placeToMend_64 (by decide) ?_
  refine aw_sub [0, 1, 2, 3, 4] rfl ?_
  exact tX4_placeToMend_68 C hk0  hf
set_option maxHeartbeats 4000000 in
set_option maxRecDepth 100000 in
theorem tX4_placeToMend_47 {h : AH} {a0 : Nat} {a1 : Int32} {a2 : Int32} {x4 : Int32} {x5 : Int32} {r0 : Int32} (C : Cx p rmX4_placeToMend s m args meth c RX4 cX4_placeToMend 8 (some .int) wsX4_placeToMend D ad cy tb 0 0) (hk0 : kd a0 = 4) (hf : fX4_placeToMend_47 h a0 a1 a2 x4 x5 = some r0) : AW p l e rmX4_placeToMend s m args below meth c 8 D ad cy 0 0 (Qi D ad cy below args s r0 h) 47 [(0, .ref (ad a0)), (1, .int a1), (2, .int a2), (4, .int x4), (5, .int x5)] [] h := by
  unfold fX4_placeToMend_47 at hf
  refine aw_iload C dX4_placeToMend_47 3 rfl ?_
  refine aw_bipush (v := 8) C dX4_placeToMend_49 (by decide) ?_
  refine aw_icmp_lt (tgt := 63) C dX4_placeToMend_51 (by decide) hf (fun hf => ?_) (fun hf => ?_)
  · refine aw_sub [0, 1, 2, 3, 4] rfl ?_
    exact tX4_placeToMend_63 C hk0  hf
  refine aw_iload C dX4_placeToMend_54 4 rfl ?_
  refine aw_aload_n C dX4_placeToMend_56 rfl 0 rfl ?_
  refine aw_get C (kd_lt hk0 (by decide)) (ce_4 hk0) rfl hinX4_placeToMend_4 0 (by decide) rfl (by decide +kernel) rfl dX4_placeToMend_57 ?_
  refine aw_icmp_ge (tgt := 67) C dX4_placeToMend_60 (by decide) hf (fun hf => ?_) (fun hf => ?_)
  · refine aw_iconst (v := 0) C dX4_placeToMend_67 (by decide) ?_
    refine aw_sub [0, 1, 2, 3, 4] rfl ?_
    exact tX4_placeToMend_68 C hk0  hf
  refine aw_sub [0, 1, 2, 3, 4] rfl ?_
  exact tX4_placeToMend_63 C hk0  hf
set_option maxHeartbeats 4000000 in
set_option maxRecDepth 100000 in
theorem tX4_placeToMend_0 {h : AH} {a0 : Nat} {a1 : Int32} {a2 : Int32} {r0 : Int32} (C : Cx p rmX4_placeToMend s m args meth c RX4 cX4_placeToMend 8 (some .int) wsX4_placeToMend D ad cy tb 0 0) (hk0 : kd a0 = 4) (hf : fX4_placeToMend h a0 a1 a2 = some r0) : AW p l e rmX4_placeToMend s m args below meth c 8 D ad cy 0 0 (Qi D ad cy below args s r0 h) 0 [(0, .ref (ad a0)), (1, .int a1), (2, .int a2)] [] h := by
  unfold fX4_placeToMend at hf
  refine aw_aload_n C dX4_placeToMend_0 rfl 0 rfl ?_
  refine aw_get C (kd_lt hk0 (by decide)) (ce_4 hk0) rfl hinX4_placeToMend_4 2 (by decide) rfl (by decide +kernel) rfl dX4_placeToMend_1 ?_
  refine aw_iload_n C dX4_placeToMend_4 rfl 1 rfl ?_
  refine aw_iald C (kd4b hk0) (ln4b hk0) hf dX4_placeToMend_5 (fun hf => ?_)
  refine aw_nmI hf (fun v1 hf => ?_)
  refine aw_istore_n (lv1 := [(3, .int v1), (0, .ref (ad a0)), (1, .int a1), (2, .int a2)]) C dX4_placeToMend_6 rfl (by decide) rfl ?_
  refine aw_iload_n C dX4_placeToMend_7 rfl 0 rfl ?_
  refine aw_bipush (v := 16) C dX4_placeToMend_8 (by decide) ?_
  refine aw_iand C dX4_placeToMend_10 ?_
  refine aw_if_ne (tgt := 16) C dX4_placeToMend_11 (by decide) hf (fun hf => ?_) (fun hf => ?_)
  · refine aw_gtab1 C (by decide +kernel) dX4_placeToMend_16 ?_
    refine aw_iload_n C dX4_placeToMend_19 rfl 0 rfl ?_
    refine aw_bipush (v := 15) C dX4_placeToMend_20 (by decide) ?_
    refine aw_iand C dX4_placeToMend_22 ?_
    refine aw_nmI hf (fun v2 hf => ?_)
    refine aw_ltab1 C hf dX4_placeToMend_23 (fun hf => ?_)
    refine aw_nmI hf (fun v3 hf => ?_)
    refine aw_istore (lv1 := [(4, .int v3), (3, .int v1), (0, .ref (ad a0)), (1, .int a1), (2, .int a2)]) C dX4_placeToMend_24 (by decide) rfl ?_
    refine aw_iload_n C dX4_placeToMend_26 rfl 3 rfl ?_
    refine aw_iconst (v := 3) C dX4_placeToMend_27 (by decide) ?_
    refine aw_ishr C dX4_placeToMend_28 ?_
    refine aw_nmI hf (fun v4 hf => ?_)
    refine aw_istore (lv1 := [(5, .int v4), (4, .int v3), (3, .int v1), (0, .ref (ad a0)), (1, .int a1), (2, .int a2)]) C dX4_placeToMend_29 (by decide) rfl ?_
    refine aw_iload C dX4_placeToMend_31 1 rfl ?_
    refine aw_bipush (v := 8) C dX4_placeToMend_33 (by decide) ?_
    refine aw_icmp_ge (tgt := 47) C dX4_placeToMend_35 (by decide) hf (fun hf => ?_) (fun hf => ?_)
    · refine aw_sub [3, 4, 5, 1, 0] rfl ?_
      exact tX4_placeToMend_47 C hk0  hf
    refine aw_iload C dX4_placeToMend_38 0 rfl ?_
    refine aw_iconst (v := 1) C dX4_placeToMend_40 (by decide) ?_
    refine aw_icmp_ne (tgt := 47) C dX4_placeToMend_41 (by decide) hf (fun hf => ?_) (fun hf => ?_)
    · refine aw_sub [3, 4, 5, 1, 0] rfl ?_
      exact tX4_placeToMend_47 C hk0  hf
    refine aw_bipush (v := (-5)) C dX4_placeToMend_44 (by decide) ?_
    exact aw_iretR C dX4_placeToMend_46 hf
  refine aw_iconst (v := (-1)) C dX4_placeToMend_14 (by decide) ?_
  exact aw_iretR C dX4_placeToMend_15 hf
theorem kX4_placeToMend {h : AH} {a0 : Nat} {a1 : Int32} {a2 : Int32} {r0 : Int32} (hi : Inj ad) (hk0 : kd a0 = 4) (hf : fX4_placeToMend h a0 a1 a2 = some r0) : Ki l yX4_placeToMend wsX4_placeToMend rmX4_placeToMend D ad cy tb [.ref (ad a0), .int a1, .int a2] h r0 h := met_i (lv := [(0, .ref (ad a0)), (1, .int a1), (2, .int a2)]) hi (by decide) rfl (Nat.le_of_ble_eq_true rfl) rfl rfl (fun _ _ _ _ _ _ _ _ C => tX4_placeToMend_0 C hk0 hf)
