variable {p : Program} {l : Launch} {e : Env} {s : State} {m : MethodId} {args : Array Value} {below : List Frame} {meth : Method} {c : Code} {D : va_G} {ad : Nat → Nat} {cy : Nat → ClassId} {tb : Nat → Nat}
set_option maxRecDepth 20000 in
theorem ggX5_word_X5_isWord : GoodIn wsX5_word wsX5_isWord := goodIn_r _ [11, 12, 13, 14, 10, 15, 1, 16, 17, 18, 73, 74, 75, 76, 77, 78, 79, 80, 81, 82, 83, 84] (by decide +kernel) (by decide +kernel)
set_option maxRecDepth 20000 in
theorem gX5_word_X5_isWord : GoodIn wsX5_word (wsV RX5 74 RX5 yX5_isWord wsX5_isWord) := goodIn_app (goodIn_of _ (by decide +kernel)) ggX5_word_X5_isWord
set_option maxRecDepth 20000 in
theorem ggX5_word_X4_checkOf : GoodIn wsX5_word wsX4_checkOf := goodIn_r _ [23, 24, 82, 83, 84] (by decide +kernel) (by decide +kernel)
set_option maxRecDepth 20000 in
theorem gX5_word_X4_checkOf : GoodIn wsX5_word (wsV RX5 149 RX4 yX4_checkOf wsX4_checkOf) := goodIn_app (goodIn_of _ (by decide +kernel)) ggX5_word_X4_checkOf
set_option maxRecDepth 20000 in
theorem ggX5_word_X4_isOdd : GoodIn wsX5_word wsX4_isOdd := goodIn_r _ [28, 24, 82, 83, 84] (by decide +kernel) (by decide +kernel)
set_option maxRecDepth 20000 in
theorem gX5_word_X4_isOdd : GoodIn wsX5_word (wsV RX5 152 RX4 yX4_isOdd wsX4_isOdd) := goodIn_app (goodIn_of _ (by decide +kernel)) ggX5_word_X4_isOdd
set_option maxRecDepth 20000 in
theorem ggX5_word_X4_stateOf : GoodIn wsX5_word wsX4_stateOf := goodIn_r _ [32, 33, 34, 35, 22, 36, 24, 37, 26, 27, 28, 82, 83, 84] (by decide +kernel) (by decide +kernel)
set_option maxRecDepth 20000 in
theorem gX5_word_X4_stateOf : GoodIn wsX5_word (wsV RX5 155 RX4 yX4_stateOf wsX4_stateOf) := goodIn_app (goodIn_of _ (by decide +kernel)) ggX5_word_X4_stateOf
set_option maxRecDepth 20000 in
theorem ggX5_word_X4_wrongBitsOf : GoodIn wsX5_word wsX4_wrongBitsOf := goodIn_r _ [41, 42, 43, 44, 22, 45, 46, 47, 10, 48, 49, 50, 51, 52, 53, 54, 55, 56, 57, 58, 59, 60, 61, 62, 63, 64, 65, 66, 67, 82, 83, 84] (by decide +kernel) (by decide +kernel)
set_option maxRecDepth 20000 in
theorem gX5_word_X4_wrongBitsOf : GoodIn wsX5_word (wsV RX5 158 RX4 yX4_wrongBitsOf wsX4_wrongBitsOf) := goodIn_app (goodIn_of _ (by decide +kernel)) ggX5_word_X4_wrongBitsOf
set_option maxRecDepth 20000 in
theorem ggX5_word_X4_placeToMend : GoodIn wsX5_word wsX4_placeToMend := goodIn_r _ [71, 24, 72, 82, 83, 84] (by decide +kernel) (by decide +kernel)
set_option maxRecDepth 20000 in
theorem gX5_word_X4_placeToMend : GoodIn wsX5_word (wsV RX5 161 RX4 yX4_placeToMend wsX4_placeToMend) := goodIn_app (goodIn_of _ (by decide +kernel)) ggX5_word_X4_placeToMend
theorem dX5_word_0 : decode cX5_word 0 = .ok (.aload_n 0, 1) := by decide +kernel
theorem dX5_word_1 : decode cX5_word 1 = .ok (.iload_n 1, 1) := by decide +kernel
theorem dX5_word_2 : decode cX5_word 2 = .ok (.iload_n 2, 1) := by decide +kernel
theorem dX5_word_3 : decode cX5_word 3 = .ok (.invokevirtual 74, 3) := by decide +kernel
theorem dX5_word_6 : decode cX5_word 6 = .ok (.ifCond .ne 6, 3) := by decide +kernel
theorem dX5_word_9 : decode cX5_word 9 = .ok (.bipush (-2), 2) := by decide +kernel
theorem dX5_word_11 : decode cX5_word 11 = .ok (.ireturn, 1) := by decide +kernel
theorem dX5_word_12 : decode cX5_word 12 = .ok (.bipush 8, 2) := by decide +kernel
theorem dX5_word_14 : decode cX5_word 14 = .ok (.iload_n 1, 1) := by decide +kernel
theorem dX5_word_15 : decode cX5_word 15 = .ok (.imul, 1) := by decide +kernel
theorem dX5_word_16 : decode cX5_word 16 = .ok (.iload_n 2, 1) := by decide +kernel
theorem dX5_word_17 : decode cX5_word 17 = .ok (.iadd, 1) := by decide +kernel
theorem dX5_word_18 : decode cX5_word 18 = .ok (.istore 4, 2) := by decide +kernel
theorem dX5_word_20 : decode cX5_word 20 = .ok (.iload_n 3, 1) := by decide +kernel
theorem dX5_word_21 : decode cX5_word 21 = .ok (.tableswitch 101 0 4 #[35, 45, 63, 73, 83], 35) := by decide +kernel
theorem dX5_word_56 : decode cX5_word 56 = .ok (.aload_n 0, 1) := by decide +kernel
theorem dX5_word_57 : decode cX5_word 57 = .ok (.getfield 12, 3) := by decide +kernel
theorem dX5_word_60 : decode cX5_word 60 = .ok (.iload 4, 2) := by decide +kernel
theorem dX5_word_62 : decode cX5_word 62 = .ok (.invokevirtual 149, 3) := by decide +kernel
theorem dX5_word_65 : decode cX5_word 65 = .ok (.ireturn, 1) := by decide +kernel
theorem dX5_word_66 : decode cX5_word 66 = .ok (.aload_n 0, 1) := by decide +kernel
theorem dX5_word_67 : decode cX5_word 67 = .ok (.getfield 12, 3) := by decide +kernel
theorem dX5_word_70 : decode cX5_word 70 = .ok (.iload 4, 2) := by decide +kernel
theorem dX5_word_72 : decode cX5_word 72 = .ok (.invokevirtual 152, 3) := by decide +kernel
theorem dX5_word_75 : decode cX5_word 75 = .ok (.ifCond .eq 7, 3) := by decide +kernel
theorem dX5_word_78 : decode cX5_word 78 = .ok (.iconst 1, 1) := by decide +kernel
theorem dX5_word_79 : decode cX5_word 79 = .ok (.goto 4, 3) := by decide +kernel
theorem dX5_word_82 : decode cX5_word 82 = .ok (.iconst 0, 1) := by decide +kernel
theorem dX5_word_83 : decode cX5_word 83 = .ok (.ireturn, 1) := by decide +kernel
theorem dX5_word_84 : decode cX5_word 84 = .ok (.aload_n 0, 1) := by decide +kernel
theorem dX5_word_85 : decode cX5_word 85 = .ok (.getfield 12, 3) := by decide +kernel
theorem dX5_word_88 : decode cX5_word 88 = .ok (.iload 4, 2) := by decide +kernel
theorem dX5_word_90 : decode cX5_word 90 = .ok (.invokevirtual 155, 3) := by decide +kernel
theorem dX5_word_93 : decode cX5_word 93 = .ok (.ireturn, 1) := by decide +kernel
theorem dX5_word_94 : decode cX5_word 94 = .ok (.aload_n 0, 1) := by decide +kernel
theorem dX5_word_95 : decode cX5_word 95 = .ok (.getfield 12, 3) := by decide +kernel
theorem dX5_word_98 : decode cX5_word 98 = .ok (.iload 4, 2) := by decide +kernel
theorem dX5_word_100 : decode cX5_word 100 = .ok (.invokevirtual 158, 3) := by decide +kernel
theorem dX5_word_103 : decode cX5_word 103 = .ok (.ireturn, 1) := by decide +kernel
theorem dX5_word_104 : decode cX5_word 104 = .ok (.iconst (-1), 1) := by decide +kernel
theorem dX5_word_105 : decode cX5_word 105 = .ok (.aload_n 0, 1) := by decide +kernel
theorem dX5_word_106 : decode cX5_word 106 = .ok (.getfield 12, 3) := by decide +kernel
theorem dX5_word_109 : decode cX5_word 109 = .ok (.iload 4, 2) := by decide +kernel
theorem dX5_word_111 : decode cX5_word 111 = .ok (.aload_n 0, 1) := by decide +kernel
theorem dX5_word_112 : decode cX5_word 112 = .ok (.getfield 51, 3) := by decide +kernel
theorem dX5_word_115 : decode cX5_word 115 = .ok (.invokevirtual 161, 3) := by decide +kernel
theorem dX5_word_118 : decode cX5_word 118 = .ok (.invokestatic 165, 3) := by decide +kernel
theorem dX5_word_121 : decode cX5_word 121 = .ok (.ireturn, 1) := by decide +kernel
theorem dX5_word_122 : decode cX5_word 122 = .ok (.bipush (-2), 2) := by decide +kernel
theorem dX5_word_124 : decode cX5_word 124 = .ok (.ireturn, 1) := by decide +kernel
abbrev rmX5_word : Room := { frames := 3, cells := 0, slots := 0, locals := 64 }
set_option maxRecDepth 100000 in
theorem hinX5_word_5 : ∀ w ∈ wsX50, w ∈ wsX5_word := by decide +kernel
set_option maxHeartbeats 4000000 in
set_option maxRecDepth 100000 in
theorem tX5_word_0 {h : AH} {a1 : Int32} {a2 : Int32} {a3 : Int32} {r0 : Int32} (C : Cx p rmX5_word s m args meth c RX5 cX5_word 5 (some .int) wsX5_word D ad cy tb 0 0) (hf : fX5_word h a1 a2 a3 = some r0) : AW p l e rmX5_word s m args below meth c 5 D ad cy 0 0 (Qi D ad cy below args s r0 h) 0 [(0, .ref (ad 0)), (1, .int a1), (2, .int a2), (3, .int a3)] [] h := by
  unfold fX5_word at hf
  refine aw_aload_n C dX5_word_0 rfl 0 rfl ?_
  refine aw_iload_n C dX5_word_1 rfl 1 rfl ?_
  refine aw_iload_n C dX5_word_2 rfl 2 rfl ?_
  obtain ⟨r1, hc, hf⟩ := bR_some hf
  refine aw_callVi (As := [.int a1, .int a2]) (rest := []) C rfl (by decide) rfl (kX5_isWord (l := l) (D := D) (ad := ad) (cy := cy) (tb := tb) C.2.2.2.2.2.2.2.2.1 hc) (fun ht _ => cwV 2 ht gX5_word_X5_isWord rfl rfl rfl (by decide +kernel) ⟨Nat.le_of_ble_eq_true rfl, Nat.le_of_ble_eq_true rfl⟩) rfl rfl (Nat.le_of_ble_eq_true rfl) dX5_word_3 ?_
  refine aw_if_ne (tgt := 12) C dX5_word_6 (by decide) hf (fun hf => ?_) (fun hf => ?_)
  · refine aw_bipush (v := 8) C dX5_word_12 (by decide) ?_
    refine aw_iload_n C dX5_word_14 rfl 1 rfl ?_
    refine aw_imul C dX5_word_15 ?_
    refine aw_iload_n C dX5_word_16 rfl 2 rfl ?_
    refine aw_iadd C dX5_word_17 ?_
    refine aw_nmI hf (fun v2 hf => ?_)
    refine aw_istore (lv1 := [(4, .int v2), (0, .ref (ad 0)), (1, .int a1), (2, .int a2), (3, .int a3)]) C dX5_word_18 (by decide) rfl ?_
    refine aw_iload_n C dX5_word_20 rfl 4 rfl ?_
    rcases Decidable.em (a3 = 0) with hx0 | hx0
    · rw [if_pos hx0] at hf
      refine aw_tabIn (tgt := 56) C dX5_word_21 (by rw [hx0]; decide) (by rw [hx0]; decide) (by rw [hx0]; rfl) (by decide) ?_
      refine aw_aload_n C dX5_word_56 rfl 1 rfl ?_
      refine aw_get C (kd_lt rfl (by decide)) (ce_5 rfl) rfl hinX5_word_5 0 (by decide) rfl (by decide +kernel) rfl dX5_word_57 ?_
      refine aw_iload C dX5_word_60 0 rfl ?_
      obtain ⟨r3, hc, hf⟩ := bR_some hf
      refine aw_callVi (As := [.int v2]) (rest := []) C rfl (by decide) rfl (kX4_checkOf (l := l) (D := D) (ad := ad) (cy := cy) (tb := tb) C.2.2.2.2.2.2.2.2.1 rfl hc) (fun ht _ => cwV 1 ht gX5_word_X4_checkOf rfl rfl rfl (by decide +kernel) ⟨Nat.le_of_ble_eq_true rfl, Nat.le_of_ble_eq_true rfl⟩) rfl rfl (Nat.le_of_ble_eq_true rfl) dX5_word_62 ?_
      exact aw_iretR C dX5_word_65 hf
    rw [if_neg hx0] at hf
    rcases Decidable.em (a3 = 1) with hx1 | hx1
    · rw [if_pos hx1] at hf
      refine aw_tabIn (tgt := 66) C dX5_word_21 (by rw [hx1]; decide) (by rw [hx1]; decide) (by rw [hx1]; rfl) (by decide) ?_
      refine aw_aload_n C dX5_word_66 rfl 1 rfl ?_
      refine aw_get C (kd_lt rfl (by decide)) (ce_5 rfl) rfl hinX5_word_5 0 (by decide) rfl (by decide +kernel) rfl dX5_word_67 ?_
      refine aw_iload C dX5_word_70 0 rfl ?_
      obtain ⟨r4, hc, hf⟩ := bR_some hf
      refine aw_callVi (As := [.int v2]) (rest := []) C rfl (by decide) rfl (kX4_isOdd (l := l) (D := D) (ad := ad) (cy := cy) (tb := tb) C.2.2.2.2.2.2.2.2.1 rfl hc) (fun ht _ => cwV 1 ht gX5_word_X4_isOdd rfl rfl rfl (by decide +kernel) ⟨Nat.le_of_ble_eq_true rfl, Nat.le_of_ble_eq_true rfl⟩) rfl rfl (Nat.le_of_ble_eq_true rfl) dX5_word_72 ?_
      refine aw_if_eq (tgt := 82) C dX5_word_75 (by decide) hf (fun hf => ?_) (fun hf => ?_)
      · refine aw_iconst (v := 0) C dX5_word_82 (by decide) ?_
        exact aw_iretR C dX5_word_83 hf
      refine aw_iconst (v := 1) C dX5_word_78 (by decide) ?_
      refine aw_goto (tgt := 83) C dX5_word_79 (by decide) ?_
      exact aw_iretR C dX5_word_83 hf
    rw [if_neg hx1] at hf
    rcases Decidable.em (a3 = 2) with hx2 | hx2
    · rw [if_pos hx2] at hf
      refine aw_tabIn (tgt := 84) C dX5_word_21 (by rw [hx2]; decide) (by rw [hx2]; decide) (by rw [hx2]; rfl) (by decide) ?_
      refine aw_aload_n C dX5_word_84 rfl 1 rfl ?_
      refine aw_get C (kd_lt rfl (by decide)) (ce_5 rfl) rfl hinX5_word_5 0 (by decide) rfl (by decide +kernel) rfl dX5_word_85 ?_
      refine aw_iload C dX5_word_88 0 rfl ?_
      obtain ⟨r5, hc, hf⟩ := bR_some hf
      refine aw_callVi (As := [.int v2]) (rest := []) C rfl (by decide) rfl (kX4_stateOf (l := l) (D := D) (ad := ad) (cy := cy) (tb := tb) C.2.2.2.2.2.2.2.2.1 rfl hc) (fun ht _ => cwV 1 ht gX5_word_X4_stateOf rfl rfl rfl (by decide +kernel) ⟨Nat.le_of_ble_eq_true rfl, Nat.le_of_ble_eq_true rfl⟩) rfl rfl (Nat.le_of_ble_eq_true rfl) dX5_word_90 ?_
      exact aw_iretR C dX5_word_93 hf
    rw [if_neg hx2] at hf
    rcases Decidable.em (a3 = 3) with hx3 | hx3
    · rw [if_pos hx3] at hf
      refine aw_tabIn (tgt := 94) C dX5_word_21 (by rw [hx3]; decide) (by rw [hx3]; decide) (by rw [hx3]; rfl) (by decide) ?_
      refine aw_aload_n C dX5_word_94 rfl 1 rfl ?_
      refine aw_get C (kd_lt rfl (by decide)) (ce_5 rfl) rfl hinX5_word_5 0 (by decide) rfl (by decide +kernel) rfl dX5_word_95 ?_
      refine aw_iload C dX5_word_98 0 rfl ?_
      obtain ⟨r6, hc, hf⟩ := bR_some hf
      refine aw_callVi (As := [.int v2]) (rest := []) C rfl (by decide) rfl (kX4_wrongBitsOf (l := l) (D := D) (ad := ad) (cy := cy) (tb := tb) C.2.2.2.2.2.2.2.2.1 rfl hc) (fun ht _ => cwV 1 ht gX5_word_X4_wrongBitsOf rfl rfl rfl (by decide +kernel) ⟨Nat.le_of_ble_eq_true rfl, Nat.le_of_ble_eq_true rfl⟩) rfl rfl (Nat.le_of_ble_eq_true rfl) dX5_word_100 ?_
      exact aw_iretR C dX5_word_103 hf
    rw [if_neg hx3] at hf
    rcases Decidable.em (a3 = 4) with hx4 | hx4
    · rw [if_pos hx4] at hf
      refine aw_tabIn (tgt := 104) C dX5_word_21 (by rw [hx4]; decide) (by rw [hx4]; decide) (by rw [hx4]; rfl) (by decide) ?_
      refine aw_iconst (v := (-1)) C dX5_word_104 (by decide) ?_
      refine aw_aload_n C dX5_word_105 rfl 1 rfl ?_
      refine aw_get C (kd_lt rfl (by decide)) (ce_5 rfl) rfl hinX5_word_5 0 (by decide) rfl (by decide +kernel) rfl dX5_word_106 ?_
      refine aw_iload C dX5_word_109 0 rfl ?_
      refine aw_aload_n C dX5_word_111 rfl 1 rfl ?_
      refine aw_get C (kd_lt rfl (by decide)) (ce_5 rfl) rfl hinX5_word_5 7 (by decide) rfl (by decide +kernel) rfl dX5_word_112 ?_
      obtain ⟨r7, hc, hf⟩ := bR_some hf
      refine aw_callVi (As := [.int v2, .int (h.1 0 7)]) (rest := [.int (-1)]) C rfl (by decide) rfl (kX4_placeToMend (l := l) (D := D) (ad := ad) (cy := cy) (tb := tb) C.2.2.2.2.2.2.2.2.1 rfl hc) (fun ht _ => cwV 2 ht gX5_word_X4_placeToMend rfl rfl rfl (by decide +kernel) ⟨Nat.le_of_ble_eq_true rfl, Nat.le_of_ble_eq_true rfl⟩) rfl rfl (Nat.le_of_ble_eq_true rfl) dX5_word_115 ?_
      refine aw_max C (by decide +kernel) (by decide +kernel) (by decide +kernel) (by decide +kernel) (Nat.le_of_ble_eq_true rfl) (Nat.le_of_ble_eq_true rfl) dX5_word_118 ?_
      exact aw_iretR C dX5_word_121 hf
    rw [if_neg hx4] at hf
    have hsw := sw_out (x := a3) 5 (by decide) (fun j hj => by
      rcases (show j = 0 ∨ j = 1 ∨ j = 2 ∨ j = 3 ∨ j = 4 by omega) with rfl | rfl | rfl | rfl | rfl
      · exact hx0
      · exact hx1
      · exact hx2
      · exact hx3
      · exact hx4)
    refine aw_tabOut (tgt := 122) C dX5_word_21 (by omega) (by decide) ?_
    refine aw_bipush (v := (-2)) C dX5_word_122 (by decide) ?_
    exact aw_iretR C dX5_word_124 hf
  refine aw_bipush (v := (-2)) C dX5_word_9 (by decide) ?_
  exact aw_iretR C dX5_word_11 hf
theorem kX5_word {h : AH} {a1 : Int32} {a2 : Int32} {a3 : Int32} {r0 : Int32} (hi : Inj ad) (hf : fX5_word h a1 a2 a3 = some r0) : Ki l yX5_word wsX5_word rmX5_word D ad cy tb [.ref (ad 0), .int a1, .int a2, .int a3] h r0 h := met_i (lv := [(0, .ref (ad 0)), (1, .int a1), (2, .int a2), (3, .int a3)]) hi (by decide) rfl (Nat.le_of_ble_eq_true rfl) rfl rfl (fun _ _ _ _ _ _ _ _ C => tX5_word_0 C  hf)
set_option maxRecDepth 20000 in
theorem ggX6_checkOf_X6_labelsOf : GoodIn wsX6_checkOf wsX6_labelsOf := goodIn_r _ [5, 6, 7, 4, 8, 9, 10, 11] (by decide +kernel) (by decide +kernel)
set_option maxRecDepth 20000 in
theorem gX6_checkOf_X6_labelsOf : GoodIn wsX6_checkOf (va_wsS RX6 65 yX6_labelsOf wsX6_labelsOf) := goodIn_app (goodIn_of _ (by decide +kernel)) ggX6_checkOf_X6_labelsOf
theorem dX6_checkOf_0 : decode cX6_checkOf 0 = .ok (.aload_n 0, 1) := by decide +kernel
theorem dX6_checkOf_1 : decode cX6_checkOf 1 = .ok (.getfield 21, 3) := by decide +kernel
theorem dX6_checkOf_4 : decode cX6_checkOf 4 = .ok (.iload_n 1, 1) := by decide +kernel
theorem dX6_checkOf_5 : decode cX6_checkOf 5 = .ok (.iload_n 2, 1) := by decide +kernel
theorem dX6_checkOf_6 : decode cX6_checkOf 6 = .ok (.bipush 16, 2) := by decide +kernel
theorem dX6_checkOf_8 : decode cX6_checkOf 8 = .ok (.invokestatic 65, 3) := by decide +kernel
theorem dX6_checkOf_11 : decode cX6_checkOf 11 = .ok (.ireturn, 1) := by decide +kernel
abbrev rmX6_checkOf : Room := { frames := 2, cells := 0, slots := 0, locals := 47 }
set_option maxRecDepth 100000 in
theorem hinX6_checkOf_6 : ∀ w ∈ wsX60, w ∈ wsX6_checkOf := by decide +kernel
set_option maxHeartbeats 4000000 in
set_option maxRecDepth 100000 in
theorem tX6_checkOf_0 {h : AH} {a1 : Int32} {a2 : Int32} {r0 : Int32} (C : Cx p rmX6_checkOf s m args meth c RX6 cX6_checkOf 3 (some .int) wsX6_checkOf D ad cy tb 0 0) (hf : fX6_checkOf h a1 a2 = some r0) : AW p l e rmX6_checkOf s m args below meth c 3 D ad cy 0 0 (Qi D ad cy below args s r0 h) 0 [(0, .ref (ad 29)), (1, .int a1), (2, .int a2)] [] h := by
  unfold fX6_checkOf at hf
  refine aw_aload_n C dX6_checkOf_0 rfl 0 rfl ?_
  refine aw_get C (kd_lt rfl (by decide)) (ce_6 rfl) rfl hinX6_checkOf_6 4 (by decide) rfl (by decide +kernel) rfl dX6_checkOf_1 ?_
  refine aw_iload_n C dX6_checkOf_4 rfl 1 rfl ?_
  refine aw_iload_n C dX6_checkOf_5 rfl 2 rfl ?_
  refine aw_bipush (v := 16) C dX6_checkOf_6 (by decide) ?_
  obtain ⟨r1, hc, hf⟩ := bR_some hf
  refine aw_callSi (As := [.ref (ad 32), .int a1, .int a2, .int 16]) (rest := []) C (kX6_labelsOf (l := l) (D := D) (ad := ad) (cy := cy) (tb := tb) C.2.2.2.2.2.2.2.2.1 rfl hc) (fun ht _ => va_cwS 4 ht gX6_checkOf_X6_labelsOf rfl rfl rfl (by decide +kernel) ⟨Nat.le_of_ble_eq_true rfl, Nat.le_of_ble_eq_true rfl⟩) rfl rfl (Nat.le_of_ble_eq_true rfl) dX6_checkOf_8 ?_
  exact aw_iretR C dX6_checkOf_11 hf
theorem kX6_checkOf {h : AH} {a1 : Int32} {a2 : Int32} {r0 : Int32} (hi : Inj ad) (hf : fX6_checkOf h a1 a2 = some r0) : Ki l yX6_checkOf wsX6_checkOf rmX6_checkOf D ad cy tb [.ref (ad 29), .int a1, .int a2] h r0 h := met_i (lv := [(0, .ref (ad 29)), (1, .int a1), (2, .int a2)]) hi (by decide) rfl (Nat.le_of_ble_eq_true rfl) rfl rfl (fun _ _ _ _ _ _ _ _ C => tX6_checkOf_0 C  hf)
set_option maxRecDepth 20000 in
theorem ggX6_isOdd_X6_onesOf : GoodIn wsX6_isOdd wsX6_onesOf := goodIn_r _ [5, 6, 7, 4, 8] (by decide +kernel) (by decide +kernel)
set_option maxRecDepth 20000 in
theorem gX6_isOdd_X6_onesOf : GoodIn wsX6_isOdd (va_wsS RX6 69 yX6_onesOf wsX6_onesOf) := goodIn_app (goodIn_of _ (by decide +kernel)) ggX6_isOdd_X6_onesOf
theorem dX6_isOdd_0 : decode cX6_isOdd 0 = .ok (.aload_n 0, 1) := by decide +kernel
theorem dX6_isOdd_1 : decode cX6_isOdd 1 = .ok (.getfield 21, 3) := by decide +kernel
theorem dX6_isOdd_4 : decode cX6_isOdd 4 = .ok (.iload_n 1, 1) := by decide +kernel
theorem dX6_isOdd_5 : decode cX6_isOdd 5 = .ok (.iload_n 2, 1) := by decide +kernel
theorem dX6_isOdd_6 : decode cX6_isOdd 6 = .ok (.iconst 0, 1) := by decide +kernel
theorem dX6_isOdd_7 : decode cX6_isOdd 7 = .ok (.bipush 16, 2) := by decide +kernel
theorem dX6_isOdd_9 : decode cX6_isOdd 9 = .ok (.invokestatic 69, 3) := by decide +kernel
theorem dX6_isOdd_12 : decode cX6_isOdd 12 = .ok (.iconst 2, 1) := by decide +kernel
theorem dX6_isOdd_13 : decode cX6_isOdd 13 = .ok (.irem, 1) := by decide +kernel
theorem dX6_isOdd_14 : decode cX6_isOdd 14 = .ok (.iconst 1, 1) := by decide +kernel
theorem dX6_isOdd_15 : decode cX6_isOdd 15 = .ok (.if_icmp .ne 7, 3) := by decide +kernel
theorem dX6_isOdd_18 : decode cX6_isOdd 18 = .ok (.iconst 1, 1) := by decide +kernel
theorem dX6_isOdd_19 : decode cX6_isOdd 19 = .ok (.goto 4, 3) := by decide +kernel
theorem dX6_isOdd_22 : decode cX6_isOdd 22 = .ok (.iconst 0, 1) := by decide +kernel
theorem dX6_isOdd_23 : decode cX6_isOdd 23 = .ok (.ireturn, 1) := by decide +kernel
abbrev rmX6_isOdd : Room := { frames := 2, cells := 0, slots := 0, locals := 48 }
set_option maxRecDepth 100000 in
theorem hinX6_isOdd_6 : ∀ w ∈ wsX60, w ∈ wsX6_isOdd := by decide +kernel
set_option maxHeartbeats 4000000 in
set_option maxRecDepth 100000 in
theorem tX6_isOdd_0 {h : AH} {a1 : Int32} {a2 : Int32} {r0 : Int32} (C : Cx p rmX6_isOdd s m args meth c RX6 cX6_isOdd 3 (some .boolean) wsX6_isOdd D ad cy tb 0 0) (hf : fX6_isOdd h a1 a2 = some r0) : AW p l e rmX6_isOdd s m args below meth c 3 D ad cy 0 0 (Qi D ad cy below args s r0 h) 0 [(0, .ref (ad 29)), (1, .int a1), (2, .int a2)] [] h := by
  unfold fX6_isOdd at hf
  refine aw_aload_n C dX6_isOdd_0 rfl 0 rfl ?_
  refine aw_get C (kd_lt rfl (by decide)) (ce_6 rfl) rfl hinX6_isOdd_6 4 (by decide) rfl (by decide +kernel) rfl dX6_isOdd_1 ?_
  refine aw_iload_n C dX6_isOdd_4 rfl 1 rfl ?_
  refine aw_iload_n C dX6_isOdd_5 rfl 2 rfl ?_
  refine aw_iconst (v := 0) C dX6_isOdd_6 (by decide) ?_
  refine aw_bipush (v := 16) C dX6_isOdd_7 (by decide) ?_
  obtain ⟨r1, hc, hf⟩ := bR_some hf
  refine aw_callSi (As := [.ref (ad 32), .int a1, .int a2, .int 0, .int 16]) (rest := []) C (kX6_onesOf (l := l) (D := D) (ad := ad) (cy := cy) (tb := tb) C.2.2.2.2.2.2.2.2.1 rfl hc) (fun ht _ => va_cwS 5 ht gX6_isOdd_X6_onesOf rfl rfl rfl (by decide +kernel) ⟨Nat.le_of_ble_eq_true rfl, Nat.le_of_ble_eq_true rfl⟩) rfl rfl (Nat.le_of_ble_eq_true rfl) dX6_isOdd_9 ?_
  refine aw_iconst (v := 2) C dX6_isOdd_12 (by decide) ?_
  refine aw_irem C dX6_isOdd_13 (by decide) ?_
  refine aw_iconst (v := 1) C dX6_isOdd_14 (by decide) ?_
  refine aw_icmp_ne (tgt := 22) C dX6_isOdd_15 (by decide) hf (fun hf => ?_) (fun hf => ?_)
  · refine aw_iconst (v := 0) C dX6_isOdd_22 (by decide) ?_
    exact aw_zretR C (by decide) dX6_isOdd_23 hf
  refine aw_iconst (v := 1) C dX6_isOdd_18 (by decide) ?_
  refine aw_goto (tgt := 23) C dX6_isOdd_19 (by decide) ?_
  exact aw_zretR C (by decide) dX6_isOdd_23 hf
theorem kX6_isOdd {h : AH} {a1 : Int32} {a2 : Int32} {r0 : Int32} (hi : Inj ad) (hf : fX6_isOdd h a1 a2 = some r0) : Ki l yX6_isOdd wsX6_isOdd rmX6_isOdd D ad cy tb [.ref (ad 29), .int a1, .int a2] h r0 h := met_i (lv := [(0, .ref (ad 29)), (1, .int a1), (2, .int a2)]) hi (by decide) rfl (Nat.le_of_ble_eq_true rfl) rfl rfl (fun _ _ _ _ _ _ _ _ C => tX6_isOdd_0 C  hf)
set_option maxRecDepth 20000 in
theorem ggX6_stateOf_X6_isOdd : GoodIn wsX6_stateOf wsX6_isOdd := goodIn_r _ [5, 6, 7, 8, 4, 9, 10, 11, 12, 23, 24, 25, 26, 27, 28, 29, 30, 31, 32, 33, 34, 35, 36, 37, 38, 39, 40] (by decide +kernel) (by decide +kernel)
set_option maxRecDepth 20000 in
theorem gX6_stateOf_X6_isOdd : GoodIn wsX6_stateOf (wsV RX6 126 RX6 yX6_isOdd wsX6_isOdd) := goodIn_app (goodIn_of _ (by decide +kernel)) ggX6_stateOf_X6_isOdd
set_option maxRecDepth 20000 in
theorem ggX6_stateOf_X6_checkOf : GoodIn wsX6_stateOf wsX6_checkOf := goodIn_r _ [16, 6, 17, 18, 4, 19, 10, 11, 12, 20, 21, 22, 23, 24, 25, 26, 27, 28, 29, 30, 31, 32, 33, 34, 35, 36, 37, 38, 39, 40] (by decide +kernel) (by decide +kernel)
set_option maxRecDepth 20000 in
theorem gX6_stateOf_X6_checkOf : GoodIn wsX6_stateOf (wsV RX6 129 RX6 yX6_checkOf wsX6_checkOf) := goodIn_app (goodIn_of _ (by decide +kernel)) ggX6_stateOf_X6_checkOf
theorem dX6_stateOf_0 : decode cX6_stateOf 0 = .ok (.aload_n 0, 1) := by decide +kernel
theorem dX6_stateOf_1 : decode cX6_stateOf 1 = .ok (.iload_n 1, 1) := by decide +kernel
theorem dX6_stateOf_2 : decode cX6_stateOf 2 = .ok (.iload_n 2, 1) := by decide +kernel
theorem dX6_stateOf_3 : decode cX6_stateOf 3 = .ok (.invokevirtual 126, 3) := by decide +kernel
theorem dX6_stateOf_6 : decode cX6_stateOf 6 = .ok (.ifCond .eq 7, 3) := by decide +kernel
theorem dX6_stateOf_9 : decode cX6_stateOf 9 = .ok (.iconst 2, 1) := by decide +kernel
theorem dX6_stateOf_10 : decode cX6_stateOf 10 = .ok (.goto 17, 3) := by decide +kernel
theorem dX6_stateOf_13 : decode cX6_stateOf 13 = .ok (.aload_n 0, 1) := by decide +kernel
theorem dX6_stateOf_14 : decode cX6_stateOf 14 = .ok (.iload_n 1, 1) := by decide +kernel
theorem dX6_stateOf_15 : decode cX6_stateOf 15 = .ok (.iload_n 2, 1) := by decide +kernel
theorem dX6_stateOf_16 : decode cX6_stateOf 16 = .ok (.invokevirtual 129, 3) := by decide +kernel
theorem dX6_stateOf_19 : decode cX6_stateOf 19 = .ok (.ifCond .ne 7, 3) := by decide +kernel
theorem dX6_stateOf_22 : decode cX6_stateOf 22 = .ok (.iconst 0, 1) := by decide +kernel
theorem dX6_stateOf_23 : decode cX6_stateOf 23 = .ok (.goto 4, 3) := by decide +kernel
theorem dX6_stateOf_26 : decode cX6_stateOf 26 = .ok (.iconst 1, 1) := by decide +kernel
theorem dX6_stateOf_27 : decode cX6_stateOf 27 = .ok (.ireturn, 1) := by decide +kernel
abbrev rmX6_stateOf : Room := { frames := 3, cells := 0, slots := 0, locals := 70 }
set_option maxHeartbeats 4000000 in
set_option maxRecDepth 100000 in
theorem tX6_stateOf_0 {h : AH} {a1 : Int32} {a2 : Int32} {r0 : Int32} (C : Cx p rmX6_stateOf s m args meth c RX6 cX6_stateOf 3 (some .int) wsX6_stateOf D ad cy tb 0 0) (hf : fX6_stateOf h a1 a2 = some r0) : AW p l e rmX6_stateOf s m args below meth c 3 D ad cy 0 0 (Qi D ad cy below args s r0 h) 0 [(0, .ref (ad 29)), (1, .int a1), (2, .int a2)] [] h := by
  unfold fX6_stateOf at hf
  refine aw_aload_n C dX6_stateOf_0 rfl 0 rfl ?_
  refine aw_iload_n C dX6_stateOf_1 rfl 1 rfl ?_
  refine aw_iload_n C dX6_stateOf_2 rfl 2 rfl ?_
  obtain ⟨r1, hc, hf⟩ := bR_some hf
  refine aw_callVi (As := [.int a1, .int a2]) (rest := []) C rfl (by decide) rfl (kX6_isOdd (l := l) (D := D) (ad := ad) (cy := cy) (tb := tb) C.2.2.2.2.2.2.2.2.1 hc) (fun ht _ => cwV 2 ht gX6_stateOf_X6_isOdd rfl rfl rfl (by decide +kernel) ⟨Nat.le_of_ble_eq_true rfl, Nat.le_of_ble_eq_true rfl⟩) rfl rfl (Nat.le_of_ble_eq_true rfl) dX6_stateOf_3 ?_
  refine aw_if_eq (tgt := 13) C dX6_stateOf_6 (by decide) hf (fun hf => ?_) (fun hf => ?_)
  · refine aw_aload_n C dX6_stateOf_13 rfl 0 rfl ?_
    refine aw_iload_n C dX6_stateOf_14 rfl 1 rfl ?_
    refine aw_iload_n C dX6_stateOf_15 rfl 2 rfl ?_
    obtain ⟨r2, hc, hf⟩ := bR_some hf
    refine aw_callVi (As := [.int a1, .int a2]) (rest := []) C rfl (by decide) rfl (kX6_checkOf (l := l) (D := D) (ad := ad) (cy := cy) (tb := tb) C.2.2.2.2.2.2.2.2.1 hc) (fun ht _ => cwV 2 ht gX6_stateOf_X6_checkOf rfl rfl rfl (by decide +kernel) ⟨Nat.le_of_ble_eq_true rfl, Nat.le_of_ble_eq_true rfl⟩) rfl rfl (Nat.le_of_ble_eq_true rfl) dX6_stateOf_16 ?_
    refine aw_if_ne (tgt := 26) C dX6_stateOf_19 (by decide) hf (fun hf => ?_) (fun hf => ?_)
    · refine aw_iconst (v := 1) C dX6_stateOf_26 (by decide) ?_
      exact aw_iretR C dX6_stateOf_27 hf
    refine aw_iconst (v := 0) C dX6_stateOf_22 (by decide) ?_
    refine aw_goto (tgt := 27) C dX6_stateOf_23 (by decide) ?_
    exact aw_iretR C dX6_stateOf_27 hf
  refine aw_iconst (v := 2) C dX6_stateOf_9 (by decide) ?_
  refine aw_goto (tgt := 27) C dX6_stateOf_10 (by decide) ?_
  exact aw_iretR C dX6_stateOf_27 hf
theorem kX6_stateOf {h : AH} {a1 : Int32} {a2 : Int32} {r0 : Int32} (hi : Inj ad) (hf : fX6_stateOf h a1 a2 = some r0) : Ki l yX6_stateOf wsX6_stateOf rmX6_stateOf D ad cy tb [.ref (ad 29), .int a1, .int a2] h r0 h := met_i (lv := [(0, .ref (ad 29)), (1, .int a1), (2, .int a2)]) hi (by decide) rfl (Nat.le_of_ble_eq_true rfl) rfl rfl (fun _ _ _ _ _ _ _ _ C => tX6_stateOf_0 C  hf)
set_option maxRecDepth 20000 in
theorem ggX6_placeOf_X6_labelOf : GoodIn wsX6_placeOf wsX6_labelOf := goodIn_r _ [4] (by decide +kernel) (by decide +kernel)
set_option maxRecDepth 20000 in
theorem gX6_placeOf_X6_labelOf : GoodIn wsX6_placeOf (va_wsS RX6 57 yX6_labelOf wsX6_labelOf) := goodIn_app (goodIn_of _ (by decide +kernel)) ggX6_placeOf_X6_labelOf
theorem dX6_placeOf_0 : decode cX6_placeOf 0 = .ok (.iconst (-1), 1) := by decide +kernel
theorem dX6_placeOf_1 : decode cX6_placeOf 1 = .ok (.istore_n 1, 1) := by decide +kernel
theorem dX6_placeOf_2 : decode cX6_placeOf 2 = .ok (.iconst 0, 1) := by decide +kernel
theorem dX6_placeOf_3 : decode cX6_placeOf 3 = .ok (.istore_n 2, 1) := by decide +kernel
theorem dX6_placeOf_4 : decode cX6_placeOf 4 = .ok (.iload_n 2, 1) := by decide +kernel
theorem dX6_placeOf_5 : decode cX6_placeOf 5 = .ok (.bipush 16, 2) := by decide +kernel
theorem dX6_placeOf_7 : decode cX6_placeOf 7 = .ok (.if_icmp .ge 23, 3) := by decide +kernel
theorem dX6_placeOf_10 : decode cX6_placeOf 10 = .ok (.iload_n 2, 1) := by decide +kernel
theorem dX6_placeOf_11 : decode cX6_placeOf 11 = .ok (.invokestatic 57, 3) := by decide +kernel
theorem dX6_placeOf_14 : decode cX6_placeOf 14 = .ok (.iload_n 0, 1) := by decide +kernel
theorem dX6_placeOf_15 : decode cX6_placeOf 15 = .ok (.if_icmp .ne 7, 3) := by decide +kernel
theorem dX6_placeOf_18 : decode cX6_placeOf 18 = .ok (.iload_n 2, 1) := by decide +kernel
theorem dX6_placeOf_19 : decode cX6_placeOf 19 = .ok (.goto 4, 3) := by decide +kernel
theorem dX6_placeOf_22 : decode cX6_placeOf 22 = .ok (.iload_n 1, 1) := by decide +kernel
theorem dX6_placeOf_23 : decode cX6_placeOf 23 = .ok (.istore_n 1, 1) := by decide +kernel
theorem dX6_placeOf_24 : decode cX6_placeOf 24 = .ok (.iinc 2 1, 3) := by decide +kernel
theorem dX6_placeOf_27 : decode cX6_placeOf 27 = .ok (.goto (-23), 3) := by decide +kernel
theorem dX6_placeOf_30 : decode cX6_placeOf 30 = .ok (.iload_n 1, 1) := by decide +kernel
theorem dX6_placeOf_31 : decode cX6_placeOf 31 = .ok (.ireturn, 1) := by decide +kernel
abbrev rmX6_placeOf : Room := { frames := 1, cells := 0, slots := 0, locals := 20 }
set_option maxHeartbeats 4000000 in
set_option maxRecDepth 100000 in
theorem tX6_placeOf_23 {h : AH} {a0 : Int32} {k4 : Int32 → Int32 → Option Int32} {x2 : Int32} {s0 : Int32} {r0 : Int32} (C : Cx p rmX6_placeOf s m args meth c RX6 cX6_placeOf 3 (some .int) wsX6_placeOf D ad cy tb 0 0) (H4 : ∀ (x1 : Int32) (x2 : Int32), k4 x1 x2 = some r0 → AW p l e rmX6_placeOf s m args below meth c 3 D ad cy 0 0 (Qi D ad cy below args s r0 h) 4 [(0, .int a0), (1, .int x1), (2, .int x2)] [] h) (hf : fX6_placeOf_23 k4 h a0 x2 s0 = some r0) : AW p l e rmX6_placeOf s m args below meth c 3 D ad cy 0 0 (Qi D ad cy below args s r0 h) 23 [(0, .int a0), (2, .int x2)] [.int s0] h := by
  unfold fX6_placeOf_23 at hf
  refine aw_istore_n (lv1 := [(1, .int s0), (0, .int a0), (2, .int x2)]) C dX6_placeOf_23 rfl (by decide) rfl ?_
  obtain ⟨v1, hvv1, hf⟩ := nm_ex hf
  refine aw_iinc (j := 2) (v := v1) (lv1 := [(2, .int v1), (1, .int s0), (0, .int a0)]) C dX6_placeOf_24 rfl hvv1 (by decide) rfl ?_
  refine aw_goto (tgt := 4) C dX6_placeOf_27 (by decide) ?_
  refine aw_sub [2, 1, 0] rfl ?_
  exact H4 s0 v1 hf
set_option maxHeartbeats 4000000 in
set_option maxRecDepth 100000 in
theorem tX6_placeOf_4b {h : AH} {a0 : Int32} {k4 : Int32 → Int32 → Option Int32} {x1 : Int32} {x2 : Int32} {r0 : Int32} (C : Cx p rmX6_placeOf s m args meth c RX6 cX6_placeOf 3 (some .int) wsX6_placeOf D ad cy tb 0 0) (H4 : ∀ (x1 : Int32) (x2 : Int32), k4 x1 x2 = some r0 → AW p l e rmX6_placeOf s m args below meth c 3 D ad cy 0 0 (Qi D ad cy below args s r0 h) 4 [(0, .int a0), (1, .int x1), (2, .int x2)] [] h) (hf : fX6_placeOf_4b k4 h a0 x1 x2 = some r0) : AW p l e rmX6_placeOf s m args below meth c 3 D ad cy 0 0 (Qi D ad cy below args s r0 h) 4 [(0, .int a0), (1, .int x1), (2, .int x2)] [] h := by
  unfold fX6_placeOf_4b at hf
  refine aw_iload_n C dX6_placeOf_4 rfl 2 rfl ?_
  refine aw_bipush (v := 16) C dX6_placeOf_5 (by decide) ?_
  refine aw_icmp_ge (tgt := 30) C dX6_placeOf_7 (by decide) hf (fun hf => ?_) (fun hf => ?_)
  · refine aw_iload_n C dX6_placeOf_30 rfl 1 rfl ?_
    exact aw_iretR C dX6_placeOf_31 hf
  refine aw_iload_n C dX6_placeOf_10 rfl 2 rfl ?_
  obtain ⟨r1, hc, hf⟩ := bR_some hf
  refine aw_callSi (As := [.int x2]) (rest := []) C (kX6_labelOf (l := l) (D := D) (ad := ad) (cy := cy) (tb := tb) C.2.2.2.2.2.2.2.2.1 hc) (fun ht _ => va_cwS 1 ht gX6_placeOf_X6_labelOf rfl rfl rfl (by decide +kernel) ⟨Nat.le_of_ble_eq_true rfl, Nat.le_of_ble_eq_true rfl⟩) rfl rfl (Nat.le_of_ble_eq_true rfl) dX6_placeOf_11 ?_
  refine aw_iload_n C dX6_placeOf_14 rfl 0 rfl ?_
  refine aw_icmp_ne (tgt := 22) C dX6_placeOf_15 (by decide) hf (fun hf => ?_) (fun hf => ?_)
  · refine aw_iload_n C dX6_placeOf_22 rfl 1 rfl ?_
    refine aw_sub [0, 2] rfl ?_
    exact tX6_placeOf_23 C  H4 hf
  refine aw_iload_n C dX6_placeOf_18 rfl 2 rfl ?_
  refine aw_goto (tgt := 23) C dX6_placeOf_19 (by decide) ?_
  refine aw_sub [0, 2] rfl ?_
  exact tX6_placeOf_23 C  H4 hf
set_option maxHeartbeats 4000000 in
set_option maxRecDepth 100000 in
theorem tX6_placeOf_4 {h : AH} {a0 : Int32} {r0 : Int32} (C : Cx p rmX6_placeOf s m args meth c RX6 cX6_placeOf 3 (some .int) wsX6_placeOf D ad cy tb 0 0) : ∀ (n : Nat) (x1 : Int32) (x2 : Int32), fX6_placeOf_4 h a0 n x1 x2 = some r0 → AW p l e rmX6_placeOf s m args below meth c 3 D ad cy 0 0 (Qi D ad cy below args s r0 h) 4 [(0, .int a0), (1, .int x1), (2, .int x2)] [] h := by
  intro n
  induction n with
  | zero => intro x1 x2 hf; cases hf
  | succ n ih => intro x1 x2 hf; exact tX6_placeOf_4b C  ih  hf
set_option maxHeartbeats 4000000 in
set_option maxRecDepth 100000 in
theorem tX6_placeOf_0 {h : AH} {a0 : Int32} {r0 : Int32} (C : Cx p rmX6_placeOf s m args meth c RX6 cX6_placeOf 3 (some .int) wsX6_placeOf D ad cy tb 0 0) (hf : fX6_placeOf h a0 = some r0) : AW p l e rmX6_placeOf s m args below meth c 3 D ad cy 0 0 (Qi D ad cy below args s r0 h) 0 [(0, .int a0)] [] h := by
  unfold fX6_placeOf at hf
  refine aw_iconst (v := (-1)) C dX6_placeOf_0 (by decide) ?_
  refine aw_nmI hf (fun v1 hf => ?_)
  refine aw_istore_n (lv1 := [(1, .int v1), (0, .int a0)]) C dX6_placeOf_1 rfl (by decide) rfl ?_
  refine aw_iconst (v := 0) C dX6_placeOf_2 (by decide) ?_
  refine aw_istore_n (lv1 := [(2, .int 0), (1, .int v1), (0, .int a0)]) C dX6_placeOf_3 rfl (by decide) rfl ?_
  refine aw_sub [2, 1, 0] rfl ?_
  exact tX6_placeOf_4 C   FU v1 0 hf
theorem kX6_placeOf {h : AH} {a0 : Int32} {r0 : Int32} (hi : Inj ad) (hf : fX6_placeOf h a0 = some r0) : Ki l yX6_placeOf wsX6_placeOf rmX6_placeOf D ad cy tb [.int a0] h r0 h := met_i (lv := [(0, .int a0)]) hi (by decide) rfl (Nat.le_of_ble_eq_true rfl) rfl rfl (fun _ _ _ _ _ _ _ _ C => tX6_placeOf_0 C  hf)
set_option maxRecDepth 20000 in
theorem ggX6_isSound_X6_isOdd : GoodIn wsX6_isSound wsX6_isOdd := goodIn_r _ [5, 6, 7, 8, 4, 9, 10, 11, 12, 23, 24, 25, 26, 27, 28, 29, 30, 31, 32, 33, 34, 35, 36, 37, 38, 39, 40] (by decide +kernel) (by decide +kernel)
set_option maxRecDepth 20000 in
theorem gX6_isSound_X6_isOdd : GoodIn wsX6_isSound (wsV RX6 126 RX6 yX6_isOdd wsX6_isOdd) := goodIn_app (goodIn_of _ (by decide +kernel)) ggX6_isSound_X6_isOdd
set_option maxRecDepth 20000 in
theorem ggX6_isSound_X6_checkOf : GoodIn wsX6_isSound wsX6_checkOf := goodIn_r _ [16, 6, 17, 18, 4, 19, 10, 11, 12, 20, 21, 22, 23, 24, 25, 26, 27, 28, 29, 30, 31, 32, 33, 34, 35, 36, 37, 38, 39, 40] (by decide +kernel) (by decide +kernel)
set_option maxRecDepth 20000 in
theorem gX6_isSound_X6_checkOf : GoodIn wsX6_isSound (wsV RX6 129 RX6 yX6_checkOf wsX6_checkOf) := goodIn_app (goodIn_of _ (by decide +kernel)) ggX6_isSound_X6_checkOf
theorem dX6_isSound_0 : decode cX6_isSound 0 = .ok (.aload_n 0, 1) := by decide +kernel
theorem dX6_isSound_1 : decode cX6_isSound 1 = .ok (.iload_n 1, 1) := by decide +kernel
theorem dX6_isSound_2 : decode cX6_isSound 2 = .ok (.iload_n 2, 1) := by decide +kernel
theorem dX6_isSound_3 : decode cX6_isSound 3 = .ok (.invokevirtual 126, 3) := by decide +kernel
theorem dX6_isSound_6 : decode cX6_isSound 6 = .ok (.ifCond .ne 16, 3) := by decide +kernel
theorem dX6_isSound_9 : decode cX6_isSound 9 = .ok (.aload_n 0, 1) := by decide +kernel
theorem dX6_isSound_10 : decode cX6_isSound 10 = .ok (.iload_n 1, 1) := by decide +kernel
theorem dX6_isSound_11 : decode cX6_isSound 11 = .ok (.iload_n 2, 1) := by decide +kernel
theorem dX6_isSound_12 : decode cX6_isSound 12 = .ok (.invokevirtual 129, 3) := by decide +kernel
theorem dX6_isSound_15 : decode cX6_isSound 15 = .ok (.ifCond .ne 7, 3) := by decide +kernel
theorem dX6_isSound_18 : decode cX6_isSound 18 = .ok (.iconst 1, 1) := by decide +kernel
theorem dX6_isSound_19 : decode cX6_isSound 19 = .ok (.goto 4, 3) := by decide +kernel
theorem dX6_isSound_22 : decode cX6_isSound 22 = .ok (.iconst 0, 1) := by decide +kernel
theorem dX6_isSound_23 : decode cX6_isSound 23 = .ok (.ireturn, 1) := by decide +kernel
abbrev rmX6_isSound : Room := { frames := 3, cells := 0, slots := 0, locals := 70 }
set_option maxHeartbeats 4000000 in
set_option maxRecDepth 100000 in
theorem tX6_isSound_0 {h : AH} {a1 : Int32} {a2 : Int32} {r0 : Int32} (C : Cx p rmX6_isSound s m args meth c RX6 cX6_isSound 3 (some .boolean) wsX6_isSound D ad cy tb 0 0) (hf : fX6_isSound h a1 a2 = some r0) : AW p l e rmX6_isSound s m args below meth c 3 D ad cy 0 0 (Qi D ad cy below args s r0 h) 0 [(0, .ref (ad 29)), (1, .int a1), (2, .int a2)] [] h := by
  unfold fX6_isSound at hf
  refine aw_aload_n C dX6_isSound_0 rfl 0 rfl ?_
  refine aw_iload_n C dX6_isSound_1 rfl 1 rfl ?_
  refine aw_iload_n C dX6_isSound_2 rfl 2 rfl ?_
  obtain ⟨r1, hc, hf⟩ := bR_some hf
  refine aw_callVi (As := [.int a1, .int a2]) (rest := []) C rfl (by decide) rfl (kX6_isOdd (l := l) (D := D) (ad := ad) (cy := cy) (tb := tb) C.2.2.2.2.2.2.2.2.1 hc) (fun ht _ => cwV 2 ht gX6_isSound_X6_isOdd rfl rfl rfl (by decide +kernel) ⟨Nat.le_of_ble_eq_true rfl, Nat.le_of_ble_eq_true rfl⟩) rfl rfl (Nat.le_of_ble_eq_true rfl) dX6_isSound_3 ?_
  refine aw_if_ne (tgt := 22) C dX6_isSound_6 (by decide) hf (fun hf => ?_) (fun hf => ?_)
  · refine aw_iconst (v := 0) C dX6_isSound_22 (by decide) ?_
    exact aw_zretR C (by decide) dX6_isSound_23 hf
  refine aw_aload_n C dX6_isSound_9 rfl 0 rfl ?_
  refine aw_iload_n C dX6_isSound_10 rfl 1 rfl ?_
  refine aw_iload_n C dX6_isSound_11 rfl 2 rfl ?_
  obtain ⟨r2, hc, hf⟩ := bR_some hf
  refine aw_callVi (As := [.int a1, .int a2]) (rest := []) C rfl (by decide) rfl (kX6_checkOf (l := l) (D := D) (ad := ad) (cy := cy) (tb := tb) C.2.2.2.2.2.2.2.2.1 hc) (fun ht _ => cwV 2 ht gX6_isSound_X6_checkOf rfl rfl rfl (by decide +kernel) ⟨Nat.le_of_ble_eq_true rfl, Nat.le_of_ble_eq_true rfl⟩) rfl rfl (Nat.le_of_ble_eq_true rfl) dX6_isSound_12 ?_
  refine aw_if_ne (tgt := 22) C dX6_isSound_15 (by decide) hf (fun hf => ?_) (fun hf => ?_)
  · refine aw_iconst (v := 0) C dX6_isSound_22 (by decide) ?_
    exact aw_zretR C (by decide) dX6_isSound_23 hf
  refine aw_iconst (v := 1) C dX6_isSound_18 (by decide) ?_
  refine aw_goto (tgt := 23) C dX6_isSound_19 (by decide) ?_
  exact aw_zretR C (by decide) dX6_isSound_23 hf
theorem kX6_isSound {h : AH} {a1 : Int32} {a2 : Int32} {r0 : Int32} (hi : Inj ad) (hf : fX6_isSound h a1 a2 = some r0) : Ki l yX6_isSound wsX6_isSound rmX6_isSound D ad cy tb [.ref (ad 29), .int a1, .int a2] h r0 h := met_i (lv := [(0, .ref (ad 29)), (1, .int a1), (2, .int a2)]) hi (by decide) rfl (Nat.le_of_ble_eq_true rfl) rfl rfl (fun _ _ _ _ _ _ _ _ C => tX6_isSound_0 C  hf)
set_option maxRecDepth 20000 in
theorem ggX6_hasSound_X6_isSound : GoodIn wsX6_hasSound wsX6_isSound := goodIn_r _ [6, 7, 8, 9, 5, 10, 11, 12, 13, 14, 15, 16, 17, 18, 19, 20, 21, 22, 23, 24, 25, 26, 27, 28, 29, 30, 31, 32, 33, 34, 35, 36, 37, 38, 39, 40, 41, 42, 43, 44, 45] (by decide +kernel) (by decide +kernel)
set_option maxRecDepth 20000 in
theorem gX6_hasSound_X6_isSound : GoodIn wsX6_hasSound (wsV RX6 132 RX6 yX6_isSound wsX6_isSound) := goodIn_app (goodIn_of _ (by decide +kernel)) ggX6_hasSound_X6_isSound
theorem dX6_hasSound_0 : decode cX6_hasSound 0 = .ok (.iload_n 1, 1) := by decide +kernel
theorem dX6_hasSound_1 : decode cX6_hasSound 1 = .ok (.bipush 64, 2) := by decide +kernel
theorem dX6_hasSound_3 : decode cX6_hasSound 3 = .ok (.idiv, 1) := by decide +kernel
theorem dX6_hasSound_4 : decode cX6_hasSound 4 = .ok (.istore 4, 2) := by decide +kernel
theorem dX6_hasSound_6 : decode cX6_hasSound 6 = .ok (.iload_n 1, 1) := by decide +kernel
theorem dX6_hasSound_7 : decode cX6_hasSound 7 = .ok (.bipush 8, 2) := by decide +kernel
theorem dX6_hasSound_9 : decode cX6_hasSound 9 = .ok (.idiv, 1) := by decide +kernel
theorem dX6_hasSound_10 : decode cX6_hasSound 10 = .ok (.bipush 8, 2) := by decide +kernel
theorem dX6_hasSound_12 : decode cX6_hasSound 12 = .ok (.irem, 1) := by decide +kernel
theorem dX6_hasSound_13 : decode cX6_hasSound 13 = .ok (.istore 5, 2) := by decide +kernel
theorem dX6_hasSound_15 : decode cX6_hasSound 15 = .ok (.iload_n 1, 1) := by decide +kernel
theorem dX6_hasSound_16 : decode cX6_hasSound 16 = .ok (.bipush 8, 2) := by decide +kernel
theorem dX6_hasSound_18 : decode cX6_hasSound 18 = .ok (.irem, 1) := by decide +kernel
theorem dX6_hasSound_19 : decode cX6_hasSound 19 = .ok (.istore 6, 2) := by decide +kernel
theorem dX6_hasSound_21 : decode cX6_hasSound 21 = .ok (.iload 4, 2) := by decide +kernel
theorem dX6_hasSound_23 : decode cX6_hasSound 23 = .ok (.iload_n 2, 1) := by decide +kernel
theorem dX6_hasSound_24 : decode cX6_hasSound 24 = .ok (.if_icmp .ne 9, 3) := by decide +kernel
theorem dX6_hasSound_27 : decode cX6_hasSound 27 = .ok (.iload 5, 2) := by decide +kernel
theorem dX6_hasSound_29 : decode cX6_hasSound 29 = .ok (.iload_n 3, 1) := by decide +kernel
theorem dX6_hasSound_30 : decode cX6_hasSound 30 = .ok (.if_icmp .eq 18, 3) := by decide +kernel
theorem dX6_hasSound_33 : decode cX6_hasSound 33 = .ok (.aload_n 0, 1) := by decide +kernel
theorem dX6_hasSound_34 : decode cX6_hasSound 34 = .ok (.iload 4, 2) := by decide +kernel
theorem dX6_hasSound_36 : decode cX6_hasSound 36 = .ok (.iload 5, 2) := by decide +kernel
theorem dX6_hasSound_38 : decode cX6_hasSound 38 = .ok (.invokevirtual 132, 3) := by decide +kernel
theorem dX6_hasSound_41 : decode cX6_hasSound 41 = .ok (.ifCond .eq 7, 3) := by decide +kernel
theorem dX6_hasSound_44 : decode cX6_hasSound 44 = .ok (.iconst 1, 1) := by decide +kernel
theorem dX6_hasSound_45 : decode cX6_hasSound 45 = .ok (.goto 4, 3) := by decide +kernel
theorem dX6_hasSound_48 : decode cX6_hasSound 48 = .ok (.iconst 0, 1) := by decide +kernel
theorem dX6_hasSound_49 : decode cX6_hasSound 49 = .ok (.istore 7, 2) := by decide +kernel
theorem dX6_hasSound_51 : decode cX6_hasSound 51 = .ok (.iload 4, 2) := by decide +kernel
theorem dX6_hasSound_53 : decode cX6_hasSound 53 = .ok (.aload_n 0, 1) := by decide +kernel
theorem dX6_hasSound_54 : decode cX6_hasSound 54 = .ok (.getfield 7, 3) := by decide +kernel
theorem dX6_hasSound_57 : decode cX6_hasSound 57 = .ok (.if_icmp .ge 34, 3) := by decide +kernel
theorem dX6_hasSound_60 : decode cX6_hasSound 60 = .ok (.iload 4, 2) := by decide +kernel
theorem dX6_hasSound_62 : decode cX6_hasSound 62 = .ok (.iconst 1, 1) := by decide +kernel
theorem dX6_hasSound_63 : decode cX6_hasSound 63 = .ok (.iadd, 1) := by decide +kernel
theorem dX6_hasSound_64 : decode cX6_hasSound 64 = .ok (.iload_n 2, 1) := by decide +kernel
theorem dX6_hasSound_65 : decode cX6_hasSound 65 = .ok (.if_icmp .ne 9, 3) := by decide +kernel
theorem dX6_hasSound_68 : decode cX6_hasSound 68 = .ok (.iload 6, 2) := by decide +kernel
theorem dX6_hasSound_70 : decode cX6_hasSound 70 = .ok (.iload_n 3, 1) := by decide +kernel
theorem dX6_hasSound_71 : decode cX6_hasSound 71 = .ok (.if_icmp .eq 20, 3) := by decide +kernel
theorem dX6_hasSound_74 : decode cX6_hasSound 74 = .ok (.aload_n 0, 1) := by decide +kernel
theorem dX6_hasSound_75 : decode cX6_hasSound 75 = .ok (.iload 4, 2) := by decide +kernel
theorem dX6_hasSound_77 : decode cX6_hasSound 77 = .ok (.iconst 1, 1) := by decide +kernel
theorem dX6_hasSound_78 : decode cX6_hasSound 78 = .ok (.iadd, 1) := by decide +kernel
theorem dX6_hasSound_79 : decode cX6_hasSound 79 = .ok (.iload 6, 2) := by decide +kernel
theorem dX6_hasSound_81 : decode cX6_hasSound 81 = .ok (.invokevirtual 132, 3) := by decide +kernel
theorem dX6_hasSound_84 : decode cX6_hasSound 84 = .ok (.ifCond .eq 7, 3) := by decide +kernel
theorem dX6_hasSound_87 : decode cX6_hasSound 87 = .ok (.iconst 1, 1) := by decide +kernel
theorem dX6_hasSound_88 : decode cX6_hasSound 88 = .ok (.goto 4, 3) := by decide +kernel
theorem dX6_hasSound_91 : decode cX6_hasSound 91 = .ok (.iconst 0, 1) := by decide +kernel
theorem dX6_hasSound_92 : decode cX6_hasSound 92 = .ok (.istore 8, 2) := by decide +kernel
theorem dX6_hasSound_94 : decode cX6_hasSound 94 = .ok (.iload 7, 2) := by decide +kernel
theorem dX6_hasSound_96 : decode cX6_hasSound 96 = .ok (.ifCond .ne 8, 3) := by decide +kernel
theorem dX6_hasSound_99 : decode cX6_hasSound 99 = .ok (.iload 8, 2) := by decide +kernel
theorem dX6_hasSound_101 : decode cX6_hasSound 101 = .ok (.ifCond .eq 7, 3) := by decide +kernel
theorem dX6_hasSound_104 : decode cX6_hasSound 104 = .ok (.iconst 1, 1) := by decide +kernel
theorem dX6_hasSound_105 : decode cX6_hasSound 105 = .ok (.goto 4, 3) := by decide +kernel
theorem dX6_hasSound_108 : decode cX6_hasSound 108 = .ok (.iconst 0, 1) := by decide +kernel
theorem dX6_hasSound_109 : decode cX6_hasSound 109 = .ok (.ireturn, 1) := by decide +kernel
abbrev rmX6_hasSound : Room := { frames := 4, cells := 0, slots := 0, locals := 92 }
set_option maxRecDepth 100000 in
theorem hinX6_hasSound_6 : ∀ w ∈ wsX60, w ∈ wsX6_hasSound := by decide +kernel
set_option maxHeartbeats 4000000 in
set_option maxRecDepth 100000 in
theorem tX6_hasSound_92 {h : AH} {a1 : Int32} {a2 : Int32} {a3 : Int32} {x7 : Int32} {s0 : Int32} {r0 : Int32} (C : Cx p rmX6_hasSound s m args meth c RX6 cX6_hasSound 9 (some .boolean) wsX6_hasSound D ad cy tb 0 0) (hf : fX6_hasSound_92 h a1 a2 a3 x7 s0 = some r0) : AW p l e rmX6_hasSound s m args below meth c 9 D ad cy 0 0 (Qi D ad cy below args s r0 h) 92 [(0, .ref (ad 29)), (1, .int a1), (2, .int a2), (3, .int a3), (7, .int x7)] [.int s0] h := by
  unfold fX6_hasSound_92 at hf
  refine aw_istore (lv1 := [(8, .int s0), (0, .ref (ad 29)), (1, .int a1), (2, .int a2), (3, .int a3), (7, .int x7)]) C dX6_hasSound_92 (by decide) rfl ?_
  refine aw_iload C dX6_hasSound_94 5 rfl ?_
  refine aw_if_ne (tgt := 104) C dX6_hasSound_96 (by decide) hf (fun hf => ?_) (fun hf => ?_)
  · refine aw_iconst (v := 1) C dX6_hasSound_104 (by decide) ?_
    refine aw_goto (tgt := 109) C dX6_hasSound_105 (by decide) ?_
    exact aw_zretR C (by decide) dX6_hasSound_109 hf
  refine aw_iload C dX6_hasSound_99 0 rfl ?_
  refine aw_if_eq (tgt := 108) C dX6_hasSound_101 (by decide) hf (fun hf => ?_) (fun hf => ?_)
  · refine aw_iconst (v := 0) C dX6_hasSound_108 (by decide) ?_
    exact aw_zretR C (by decide) dX6_hasSound_109 hf
  refine aw_iconst (v := 1) C dX6_hasSound_104 (by decide) ?_
  refine aw_goto (tgt := 109) C dX6_hasSound_105 (by decide) ?_
  exact aw_zretR C (by decide) dX6_hasSound_109 hf
set_option maxHeartbeats 4000000 in
set_option maxRecDepth 100000 in
theorem tX6_hasSound_91 {h : AH} {a1 : Int32} {a2 : Int32} {a3 : Int32} {x7 : Int32} {r0 : Int32} (C : Cx p rmX6_hasSound s m args meth c RX6 cX6_hasSound 9 (some .boolean) wsX6_hasSound D ad cy tb 0 0) (hf : fX6_hasSound_91 h a1 a2 a3 x7 = some r0) : AW p l e rmX6_hasSound s m args below meth c 9 D ad cy 0 0 (Qi D ad cy below args s r0 h) 91 [(0, .ref (ad 29)), (1, .int a1), (2, .int a2), (3, .int a3), (7, .int x7)] [] h := by
  unfold fX6_hasSound_91 at hf
  refine aw_iconst (v := 0) C dX6_hasSound_91 (by decide) ?_
  refine aw_sub [0, 1, 2, 3, 4] rfl ?_
  exact tX6_hasSound_92 C   hf
set_option maxHeartbeats 4000000 in
set_option maxRecDepth 100000 in
theorem tX6_hasSound_74 {h : AH} {a1 : Int32} {a2 : Int32} {a3 : Int32} {x4 : Int32} {x6 : Int32} {x7 : Int32} {r0 : Int32} (C : Cx p rmX6_hasSound s m args meth c RX6 cX6_hasSound 9 (some .boolean) wsX6_hasSound D ad cy tb 0 0) (hf : fX6_hasSound_74 h a1 a2 a3 x4 x6 x7 = some r0) : AW p l e rmX6_hasSound s m args below meth c 9 D ad cy 0 0 (Qi D ad cy below args s r0 h) 74 [(0, .ref (ad 29)), (1, .int a1), (2, .int a2), (3, .int a3), (4, .int x4), (6, .int x6), (7, .int x7)] [] h := by
  unfold fX6_hasSound_74 at hf
  refine aw_aload_n C dX6_hasSound_74 rfl 0 rfl ?_
  refine aw_iload C dX6_hasSound_75 4 rfl ?_
  refine aw_iconst (v := 1) C dX6_hasSound_77 (by decide) ?_
  refine aw_iadd C dX6_hasSound_78 ?_
  refine aw_iload C dX6_hasSound_79 5 rfl ?_
  obtain ⟨r1, hc, hf⟩ := bR_some hf
  refine aw_callVi (As := [.int (x4 + 1), .int x6]) (rest := []) C rfl (by decide) rfl (kX6_isSound (l := l) (D := D) (ad := ad) (cy := cy) (tb := tb) C.2.2.2.2.2.2.2.2.1 hc) (fun ht _ => cwV 2 ht gX6_hasSound_X6_isSound rfl rfl rfl (by decide +kernel) ⟨Nat.le_of_ble_eq_true rfl, Nat.le_of_ble_eq_true rfl⟩) rfl rfl (Nat.le_of_ble_eq_true rfl) dX6_hasSound_81 ?_
  refine aw_if_eq (tgt := 91) C dX6_hasSound_84 (by decide) hf (fun hf => ?_) (fun hf => ?_)
  · refine aw_sub [0, 1, 2, 3, 6] rfl ?_
    exact tX6_hasSound_91 C   hf
  refine aw_iconst (v := 1) C dX6_hasSound_87 (by decide) ?_
  refine aw_goto (tgt := 92) C dX6_hasSound_88 (by decide) ?_
  refine aw_sub [0, 1, 2, 3, 6] rfl ?_
  exact tX6_hasSound_92 C   hf
set_option maxHeartbeats 4000000 in
set_option maxRecDepth 100000 in
theorem tX6_hasSound_49 {h : AH} {a1 : Int32} {a2 : Int32} {a3 : Int32} {x4 : Int32} {x6 : Int32} {s0 : Int32} {r0 : Int32} (C : Cx p rmX6_hasSound s m args meth c RX6 cX6_hasSound 9 (some .boolean) wsX6_hasSound D ad cy tb 0 0) (hf : fX6_hasSound_49 h a1 a2 a3 x4 x6 s0 = some r0) : AW p l e rmX6_hasSound s m args below meth c 9 D ad cy 0 0 (Qi D ad cy below args s r0 h) 49 [(0, .ref (ad 29)), (1, .int a1), (2, .int a2), (3, .int a3), (4, .int x4), (6, .int x6)] [.int s0] h := by
  unfold fX6_hasSound_49 at hf
  refine aw_istore (lv1 := [(7, .int s0), (0, .ref (ad 29)), (1, .int a1), (2, .int a2), (3, .int a3), (4, .int x4), (6, .int x6)]) C dX6_hasSound_49 (by decide) rfl ?_
  refine aw_iload C dX6_hasSound_51 5 rfl ?_
  refine aw_aload_n C dX6_hasSound_53 rfl 1 rfl ?_
  refine aw_get C (kd_lt rfl (by decide)) (ce_6 rfl) rfl hinX6_hasSound_6 0 (by decide) rfl (by decide +kernel) rfl dX6_hasSound_54 ?_
  refine aw_icmp_ge (tgt := 91) C dX6_hasSound_57 (by decide) hf (fun hf => ?_) (fun hf => ?_)
  · refine aw_sub [1, 2, 3, 4, 0] rfl ?_
    exact tX6_hasSound_91 C   hf
  refine aw_iload C dX6_hasSound_60 5 rfl ?_
  refine aw_iconst (v := 1) C dX6_hasSound_62 (by decide) ?_
  refine aw_iadd C dX6_hasSound_63 ?_
  refine aw_iload_n C dX6_hasSound_64 rfl 3 rfl ?_
  refine aw_icmp_ne (tgt := 74) C dX6_hasSound_65 (by decide) hf (fun hf => ?_) (fun hf => ?_)
  · refine aw_sub [1, 2, 3, 4, 5, 6, 0] rfl ?_
    exact tX6_hasSound_74 C   hf
  refine aw_iload C dX6_hasSound_68 6 rfl ?_
  refine aw_iload_n C dX6_hasSound_70 rfl 4 rfl ?_
  refine aw_icmp_eq (tgt := 91) C dX6_hasSound_71 (by decide) hf (fun hf => ?_) (fun hf => ?_)
  · refine aw_sub [1, 2, 3, 4, 0] rfl ?_
    exact tX6_hasSound_91 C   hf
  refine aw_sub [1, 2, 3, 4, 5, 6, 0] rfl ?_
  exact tX6_hasSound_74 C   hf
set_option maxHeartbeats 4000000 in
set_option maxRecDepth 100000 in
theorem tX6_hasSound_48 {h : AH} {a1 : Int32} {a2 : Int32} {a3 : Int32} {x4 : Int32} {x6 : Int32} {r0 : Int32} (C : Cx p rmX6_hasSound s m args meth c RX6 cX6_hasSound 9 (some .boolean) wsX6_hasSound D ad cy tb 0 0) (hf : fX6_hasSound_48 h a1 a2 a3 x4 x6 = some r0) : AW p l e rmX6_hasSound s m args below meth c 9 D ad cy 0 0 (Qi D ad cy below args s r0 h) 48 [(0, .ref (ad 29)), (1, .int a1), (2, .int a2), (3, .int a3), (4, .int x4), (6, .int x6)] [] h := by
  unfold fX6_hasSound_48 at hf
  refine aw_iconst (v := 0) C dX6_hasSound_48 (by decide) ?_
  refine aw_sub [0, 1, 2, 3, 4, 5] rfl ?_
  exact tX6_hasSound_49 C   hf
set_option maxHeartbeats 4000000 in
set_option maxRecDepth 100000 in
theorem tX6_hasSound_33 {h : AH} {a1 : Int32} {a2 : Int32} {a3 : Int32} {x4 : Int32} {x5 : Int32} {x6 : Int32} {r0 : Int32} (C : Cx p rmX6_hasSound s m args meth c RX6 cX6_hasSound 9 (some .boolean) wsX6_hasSound D ad cy tb 0 0) (hf : fX6_hasSound_33 h a1 a2 a3 x4 x5 x6 = some r0) : AW p l e rmX6_hasSound s m args below meth c 9 D ad cy 0 0 (Qi D ad cy below args s r0 h) 33 [(0, .ref (ad 29)), (1, .int a1), (2, .int a2), (3, .int a3), (4, .int x4), (5, .int x5), (6, .int x6)] [] h := by
  unfold fX6_hasSound_33 at hf
  refine aw_aload_n C dX6_hasSound_33 rfl 0 rfl ?_
  refine aw_iload C dX6_hasSound_34 4 rfl ?_
  refine aw_iload C dX6_hasSound_36 5 rfl ?_
  obtain ⟨r1, hc, hf⟩ := bR_some hf
  refine aw_callVi (As := [.int x4, .int x5]) (rest := []) C rfl (by decide) rfl (kX6_isSound (l := l) (D := D) (ad := ad) (cy := cy) (tb := tb) C.2.2.2.2.2.2.2.2.1 hc) (fun ht _ => cwV 2 ht gX6_hasSound_X6_isSound rfl rfl rfl (by decide +kernel) ⟨Nat.le_of_ble_eq_true rfl, Nat.le_of_ble_eq_true rfl⟩) rfl rfl (Nat.le_of_ble_eq_true rfl) dX6_hasSound_38 ?_
  refine aw_if_eq (tgt := 48) C dX6_hasSound_41 (by decide) hf (fun hf => ?_) (fun hf => ?_)
  · refine aw_sub [0, 1, 2, 3, 4, 6] rfl ?_
    exact tX6_hasSound_48 C   hf
  refine aw_iconst (v := 1) C dX6_hasSound_44 (by decide) ?_
  refine aw_goto (tgt := 49) C dX6_hasSound_45 (by decide) ?_
  refine aw_sub [0, 1, 2, 3, 4, 6] rfl ?_
  exact tX6_hasSound_49 C   hf
set_option maxHeartbeats 4000000 in
set_option maxRecDepth 100000 in
theorem tX6_hasSound_0 {h : AH} {a1 : Int32} {a2 : Int32} {a3 : Int32} {r0 : Int32} (C : Cx p rmX6_hasSound s m args meth c RX6 cX6_hasSound 9 (some .boolean) wsX6_hasSound D ad cy tb 0 0) (hf : fX6_hasSound h a1 a2 a3 = some r0) : AW p l e rmX6_hasSound s m args below meth c 9 D ad cy 0 0 (Qi D ad cy below args s r0 h) 0 [(0, .ref (ad 29)), (1, .int a1), (2, .int a2), (3, .int a3)] [] h := by
  unfold fX6_hasSound at hf
  refine aw_iload_n C dX6_hasSound_0 rfl 1 rfl ?_
  refine aw_bipush (v := 64) C dX6_hasSound_1 (by decide) ?_
  refine aw_idiv C dX6_hasSound_3 (by decide) ?_
  refine aw_nmI hf (fun v1 hf => ?_)
  refine aw_istore (lv1 := [(4, .int v1), (0, .ref (ad 29)), (1, .int a1), (2, .int a2), (3, .int a3)]) C dX6_hasSound_4 (by decide) rfl ?_
  refine aw_iload_n C dX6_hasSound_6 rfl 2 rfl ?_
  refine aw_bipush (v := 8) C dX6_hasSound_7 (by decide) ?_
  refine aw_idiv C dX6_hasSound_9 (by decide) ?_
  refine aw_bipush (v := 8) C dX6_hasSound_10 (by decide) ?_
  refine aw_nm2 hf (fun v2 hf => ?_)
  refine aw_irem C dX6_hasSound_12 (by decide) ?_
  refine aw_nmI hf (fun v3 hf => ?_)
  refine aw_istore (lv1 := [(5, .int v3), (4, .int v1), (0, .ref (ad 29)), (1, .int a1), (2, .int a2), (3, .int a3)]) C dX6_hasSound_13 (by decide) rfl ?_
  refine aw_iload_n C dX6_hasSound_15 rfl 3 rfl ?_
  refine aw_bipush (v := 8) C dX6_hasSound_16 (by decide) ?_
  refine aw_irem C dX6_hasSound_18 (by decide) ?_
  refine aw_nmI hf (fun v4 hf => ?_)
  refine aw_istore (lv1 := [(6, .int v4), (5, .int v3), (4, .int v1), (0, .ref (ad 29)), (1, .int a1), (2, .int a2), (3, .int a3)]) C dX6_hasSound_19 (by decide) rfl ?_
  refine aw_iload C dX6_hasSound_21 2 rfl ?_
  refine aw_iload_n C dX6_hasSound_23 rfl 5 rfl ?_
  refine aw_icmp_ne (tgt := 33) C dX6_hasSound_24 (by decide) hf (fun hf => ?_) (fun hf => ?_)
  · refine aw_sub [3, 4, 5, 6, 2, 1, 0] rfl ?_
    exact tX6_hasSound_33 C   hf
  refine aw_iload C dX6_hasSound_27 1 rfl ?_
  refine aw_iload_n C dX6_hasSound_29 rfl 6 rfl ?_
  refine aw_icmp_eq (tgt := 48) C dX6_hasSound_30 (by decide) hf (fun hf => ?_) (fun hf => ?_)
  · refine aw_sub [3, 4, 5, 6, 2, 0] rfl ?_
    exact tX6_hasSound_48 C   hf
  refine aw_sub [3, 4, 5, 6, 2, 1, 0] rfl ?_
  exact tX6_hasSound_33 C   hf
theorem kX6_hasSound {h : AH} {a1 : Int32} {a2 : Int32} {a3 : Int32} {r0 : Int32} (hi : Inj ad) (hf : fX6_hasSound h a1 a2 a3 = some r0) : Ki l yX6_hasSound wsX6_hasSound rmX6_hasSound D ad cy tb [.ref (ad 29), .int a1, .int a2, .int a3] h r0 h := met_i (lv := [(0, .ref (ad 29)), (1, .int a1), (2, .int a2), (3, .int a3)]) hi (by decide) rfl (Nat.le_of_ble_eq_true rfl) rfl rfl (fun _ _ _ _ _ _ _ _ C => tX6_hasSound_0 C  hf)
set_option maxRecDepth 20000 in
theorem ggX6_placeBy_X6_checkOf : GoodIn wsX6_placeBy wsX6_checkOf := goodIn_r _ [6, 7, 8, 9, 5, 10, 11, 12, 13, 14, 15, 16, 36, 37, 38, 39, 40, 41, 42, 43, 44, 45, 46, 47, 48, 49, 50, 51, 52, 53] (by decide +kernel) (by decide +kernel)
set_option maxRecDepth 20000 in
theorem gX6_placeBy_X6_checkOf : GoodIn wsX6_placeBy (wsV RX6 129 RX6 yX6_checkOf wsX6_checkOf) := goodIn_app (goodIn_of _ (by decide +kernel)) ggX6_placeBy_X6_checkOf
set_option maxRecDepth 20000 in
theorem ggX6_placeBy_X6_placeOf : GoodIn wsX6_placeBy wsX6_placeOf := goodIn_r _ [19, 14, 15, 5, 16] (by decide +kernel) (by decide +kernel)
set_option maxRecDepth 20000 in
theorem gX6_placeBy_X6_placeOf : GoodIn wsX6_placeBy (va_wsS RX6 135 yX6_placeOf wsX6_placeOf) := goodIn_app (goodIn_of _ (by decide +kernel)) ggX6_placeBy_X6_placeOf
set_option maxRecDepth 20000 in
theorem ggX6_placeBy_X6_bitAt : GoodIn wsX6_placeBy wsX6_bitAt := goodIn_r _ [13] (by decide +kernel) (by decide +kernel)
set_option maxRecDepth 20000 in
theorem gX6_placeBy_X6_bitAt : GoodIn wsX6_placeBy (va_wsS RX6 61 yX6_bitAt wsX6_bitAt) := goodIn_app (goodIn_of _ (by decide +kernel)) ggX6_placeBy_X6_bitAt
set_option maxRecDepth 20000 in
theorem ggX6_placeBy_X6_isOdd : GoodIn wsX6_placeBy wsX6_isOdd := goodIn_r _ [23, 7, 24, 25, 5, 26, 11, 12, 13, 36, 37, 38, 39, 40, 41, 42, 43, 44, 45, 46, 47, 48, 49, 50, 51, 52, 53] (by decide +kernel) (by decide +kernel)
set_option maxRecDepth 20000 in
theorem gX6_placeBy_X6_isOdd : GoodIn wsX6_placeBy (wsV RX6 126 RX6 yX6_isOdd wsX6_isOdd) := goodIn_app (goodIn_of _ (by decide +kernel)) ggX6_placeBy_X6_isOdd
set_option maxRecDepth 20000 in
theorem ggX6_placeBy_X6_hasSound : GoodIn wsX6_placeBy wsX6_hasSound := goodIn_r _ [30, 31, 32, 33, 34, 5, 35, 20, 21, 22, 23, 7, 24, 25, 26, 11, 12, 13, 2, 3, 4, 6, 8, 9, 10, 14, 15, 16, 36, 37, 38, 39, 40, 41, 42, 43, 44, 45, 46, 47, 48, 49, 50, 51, 52, 53] (by decide +kernel) (by decide +kernel)
set_option maxRecDepth 20000 in
theorem gX6_placeBy_X6_hasSound : GoodIn wsX6_placeBy (wsV RX6 138 RX6 yX6_hasSound wsX6_hasSound) := goodIn_app (goodIn_of _ (by decide +kernel)) ggX6_placeBy_X6_hasSound
theorem dX6_placeBy_0 : decode cX6_placeBy 0 = .ok (.aload_n 0, 1) := by decide +kernel
theorem dX6_placeBy_1 : decode cX6_placeBy 1 = .ok (.iload_n 1, 1) := by decide +kernel
theorem dX6_placeBy_2 : decode cX6_placeBy 2 = .ok (.iload_n 2, 1) := by decide +kernel
theorem dX6_placeBy_3 : decode cX6_placeBy 3 = .ok (.invokevirtual 129, 3) := by decide +kernel
theorem dX6_placeBy_6 : decode cX6_placeBy 6 = .ok (.invokestatic 135, 3) := by decide +kernel
theorem dX6_placeBy_9 : decode cX6_placeBy 9 = .ok (.istore_n 3, 1) := by decide +kernel
theorem dX6_placeBy_10 : decode cX6_placeBy 10 = .ok (.iload_n 1, 1) := by decide +kernel
theorem dX6_placeBy_11 : decode cX6_placeBy 11 = .ok (.iload_n 2, 1) := by decide +kernel
theorem dX6_placeBy_12 : decode cX6_placeBy 12 = .ok (.iload_n 3, 1) := by decide +kernel
theorem dX6_placeBy_13 : decode cX6_placeBy 13 = .ok (.invokestatic 61, 3) := by decide +kernel
theorem dX6_placeBy_16 : decode cX6_placeBy 16 = .ok (.istore 4, 2) := by decide +kernel
theorem dX6_placeBy_18 : decode cX6_placeBy 18 = .ok (.aload_n 0, 1) := by decide +kernel
theorem dX6_placeBy_19 : decode cX6_placeBy 19 = .ok (.iload_n 1, 1) := by decide +kernel
theorem dX6_placeBy_20 : decode cX6_placeBy 20 = .ok (.iload_n 2, 1) := by decide +kernel
theorem dX6_placeBy_21 : decode cX6_placeBy 21 = .ok (.invokevirtual 126, 3) := by decide +kernel
theorem dX6_placeBy_24 : decode cX6_placeBy 24 = .ok (.ifCond .eq 32, 3) := by decide +kernel
theorem dX6_placeBy_27 : decode cX6_placeBy 27 = .ok (.iload 4, 2) := by decide +kernel
theorem dX6_placeBy_29 : decode cX6_placeBy 29 = .ok (.bipush 64, 2) := by decide +kernel
theorem dX6_placeBy_31 : decode cX6_placeBy 31 = .ok (.if_icmp .lt 25, 3) := by decide +kernel
theorem dX6_placeBy_34 : decode cX6_placeBy 34 = .ok (.aload_n 0, 1) := by decide +kernel
theorem dX6_placeBy_35 : decode cX6_placeBy 35 = .ok (.getfield 109, 3) := by decide +kernel
theorem dX6_placeBy_38 : decode cX6_placeBy 38 = .ok (.ifCond .eq 14, 3) := by decide +kernel
theorem dX6_placeBy_41 : decode cX6_placeBy 41 = .ok (.aload_n 0, 1) := by decide +kernel
theorem dX6_placeBy_42 : decode cX6_placeBy 42 = .ok (.iload 4, 2) := by decide +kernel
theorem dX6_placeBy_44 : decode cX6_placeBy 44 = .ok (.iload_n 1, 1) := by decide +kernel
theorem dX6_placeBy_45 : decode cX6_placeBy 45 = .ok (.iload_n 2, 1) := by decide +kernel
theorem dX6_placeBy_46 : decode cX6_placeBy 46 = .ok (.invokevirtual 138, 3) := by decide +kernel
theorem dX6_placeBy_49 : decode cX6_placeBy 49 = .ok (.ifCond .ne 7, 3) := by decide +kernel
theorem dX6_placeBy_52 : decode cX6_placeBy 52 = .ok (.iconst 1, 1) := by decide +kernel
theorem dX6_placeBy_53 : decode cX6_placeBy 53 = .ok (.goto 4, 3) := by decide +kernel
theorem dX6_placeBy_56 : decode cX6_placeBy 56 = .ok (.iconst 0, 1) := by decide +kernel
theorem dX6_placeBy_57 : decode cX6_placeBy 57 = .ok (.istore 5, 2) := by decide +kernel
theorem dX6_placeBy_59 : decode cX6_placeBy 59 = .ok (.iload 5, 2) := by decide +kernel
theorem dX6_placeBy_61 : decode cX6_placeBy 61 = .ok (.ifCond .eq 7, 3) := by decide +kernel
theorem dX6_placeBy_64 : decode cX6_placeBy 64 = .ok (.iload_n 3, 1) := by decide +kernel
theorem dX6_placeBy_65 : decode cX6_placeBy 65 = .ok (.goto 4, 3) := by decide +kernel
theorem dX6_placeBy_68 : decode cX6_placeBy 68 = .ok (.iconst (-1), 1) := by decide +kernel
theorem dX6_placeBy_69 : decode cX6_placeBy 69 = .ok (.ireturn, 1) := by decide +kernel
abbrev rmX6_placeBy : Room := { frames := 5, cells := 0, slots := 0, locals := 120 }
set_option maxRecDepth 100000 in
theorem hinX6_placeBy_6 : ∀ w ∈ wsX60, w ∈ wsX6_placeBy := by decide +kernel
set_option maxHeartbeats 4000000 in
set_option maxRecDepth 100000 in
theorem tX6_placeBy_57 {h : AH} {a1 : Int32} {a2 : Int32} {x3 : Int32} {s0 : Int32} {r0 : Int32} (C : Cx p rmX6_placeBy s m args meth c RX6 cX6_placeBy 6 (some .int) wsX6_placeBy D ad cy tb 0 0) (hf : fX6_placeBy_57 h a1 a2 x3 s0 = some r0) : AW p l e rmX6_placeBy s m args below meth c 6 D ad cy 0 0 (Qi D ad cy below args s r0 h) 57 [(0, .ref (ad 29)), (1, .int a1), (2, .int a2), (3, .int x3)] [.int s0] h := by
  unfold fX6_placeBy_57 at hf
  refine aw_istore (lv1 := [(5, .int s0), (0, .ref (ad 29)), (1, .int a1), (2, .int a2), (3, .int x3)]) C dX6_placeBy_57 (by decide) rfl ?_
  refine aw_iload C dX6_placeBy_59 0 rfl ?_
  refine aw_if_eq (tgt := 68) C dX6_placeBy_61 (by decide) hf (fun hf => ?_) (fun hf => ?_)
  · refine aw_iconst (v := (-1)) C dX6_placeBy_68 (by decide) ?_
    exact aw_iretR C dX6_placeBy_69 hf
  refine aw_iload_n C dX6_placeBy_64 rfl 4 rfl ?_
  refine aw_goto (tgt := 69) C dX6_placeBy_65 (by decide) ?_
  exact aw_iretR C dX6_placeBy_69 hf
set_option maxHeartbeats 4000000 in
set_option maxRecDepth 100000 in
theorem tX6_placeBy_52 {h : AH} {a1 : Int32} {a2 : Int32} {x3 : Int32} {r0 : Int32} (C : Cx p rmX6_placeBy s m args meth c RX6 cX6_placeBy 6 (some .int) wsX6_placeBy D ad cy tb 0 0) (hf : fX6_placeBy_52 h a1 a2 x3 = some r0) : AW p l e rmX6_placeBy s m args below meth c 6 D ad cy 0 0 (Qi D ad cy below args s r0 h) 52 [(0, .ref (ad 29)), (1, .int a1), (2, .int a2), (3, .int x3)] [] h := by
  unfold fX6_placeBy_52 at hf
  refine aw_iconst (v := 1) C dX6_placeBy_52 (by decide) ?_
  refine aw_goto (tgt := 57) C dX6_placeBy_53 (by decide) ?_
  refine aw_sub [0, 1, 2, 3] rfl ?_
  exact tX6_placeBy_57 C   hf
set_option maxHeartbeats 4000000 in
set_option maxRecDepth 100000 in
theorem tX6_placeBy_56 {h : AH} {a1 : Int32} {a2 : Int32} {x3 : Int32} {r0 : Int32} (C : Cx p rmX6_placeBy s m args meth c RX6 cX6_placeBy 6 (some .int) wsX6_placeBy D ad cy tb 0 0) (hf : fX6_placeBy_56 h a1 a2 x3 = some r0) : AW p l e rmX6_placeBy s m args below meth c 6 D ad cy 0 0 (Qi D ad cy below args s r0 h) 56 [(0, .ref (ad 29)), (1, .int a1), (2, .int a2), (3, .int x3)] [] h := by
  unfold fX6_placeBy_56 at hf
  refine aw_iconst (v := 0) C dX6_placeBy_56 (by decide) ?_
  refine aw_sub [0, 1, 2, 3] rfl ?_
  exact tX6_placeBy_57 C   hf
set_option maxHeartbeats 4000000 in
set_option maxRecDepth 100000 in
theorem tX6_placeBy_0 {h : AH} {a1 : Int32} {a2 : Int32} {r0 : Int32} (C : Cx p rmX6_placeBy s m args meth c RX6 cX6_placeBy 6 (some .int) wsX6_placeBy D ad cy tb 0 0) (hf : fX6_placeBy h a1 a2 = some r0) : AW p l e rmX6_placeBy s m args below meth c 6 D ad cy 0 0 (Qi D ad cy below args s r0 h) 0 [(0, .ref (ad 29)), (1, .int a1), (2, .int a2)] [] h := by
  unfold fX6_placeBy at hf
  refine aw_aload_n C dX6_placeBy_0 rfl 0 rfl ?_
  refine aw_iload_n C dX6_placeBy_1 rfl 1 rfl ?_
  refine aw_iload_n C dX6_placeBy_2 rfl 2 rfl ?_
  obtain ⟨r1, hc, hf⟩ := bR_some hf
  refine aw_callVi (As := [.int a1, .int a2]) (rest := []) C rfl (by decide) rfl (kX6_checkOf (l := l) (D := D) (ad := ad) (cy := cy) (tb := tb) C.2.2.2.2.2.2.2.2.1 hc) (fun ht _ => cwV 2 ht gX6_placeBy_X6_checkOf rfl rfl rfl (by decide +kernel) ⟨Nat.le_of_ble_eq_true rfl, Nat.le_of_ble_eq_true rfl⟩) rfl rfl (Nat.le_of_ble_eq_true rfl) dX6_placeBy_3 ?_
  obtain ⟨r2, hc, hf⟩ := bR_some hf
  refine aw_callSi (As := [.int r1]) (rest := []) C (kX6_placeOf (l := l) (D := D) (ad := ad) (cy := cy) (tb := tb) C.2.2.2.2.2.2.2.2.1 hc) (fun ht _ => va_cwS 1 ht gX6_placeBy_X6_placeOf rfl rfl rfl (by decide +kernel) ⟨Nat.le_of_ble_eq_true rfl, Nat.le_of_ble_eq_true rfl⟩) rfl rfl (Nat.le_of_ble_eq_true rfl) dX6_placeBy_6 ?_
  refine aw_istore_n (lv1 := [(3, .int r2), (0, .ref (ad 29)), (1, .int a1), (2, .int a2)]) C dX6_placeBy_9 rfl (by decide) rfl ?_
  refine aw_iload_n C dX6_placeBy_10 rfl 2 rfl ?_
  refine aw_iload_n C dX6_placeBy_11 rfl 3 rfl ?_
  refine aw_iload_n C dX6_placeBy_12 rfl 0 rfl ?_
  obtain ⟨r3, hc, hf⟩ := bR_some hf
  refine aw_callSi (As := [.int a1, .int a2, .int r2]) (rest := []) C (kX6_bitAt (l := l) (D := D) (ad := ad) (cy := cy) (tb := tb) C.2.2.2.2.2.2.2.2.1 hc) (fun ht _ => va_cwS 3 ht gX6_placeBy_X6_bitAt rfl rfl rfl (by decide +kernel) ⟨Nat.le_of_ble_eq_true rfl, Nat.le_of_ble_eq_true rfl⟩) rfl rfl (Nat.le_of_ble_eq_true rfl) dX6_placeBy_13 ?_
  refine aw_istore (lv1 := [(4, .int r3), (3, .int r2), (0, .ref (ad 29)), (1, .int a1), (2, .int a2)]) C dX6_placeBy_16 (by decide) rfl ?_
  refine aw_aload_n C dX6_placeBy_18 rfl 2 rfl ?_
  refine aw_iload_n C dX6_placeBy_19 rfl 3 rfl ?_
  refine aw_iload_n C dX6_placeBy_20 rfl 4 rfl ?_
  obtain ⟨r4, hc, hf⟩ := bR_some hf
  refine aw_callVi (As := [.int a1, .int a2]) (rest := []) C rfl (by decide) rfl (kX6_isOdd (l := l) (D := D) (ad := ad) (cy := cy) (tb := tb) C.2.2.2.2.2.2.2.2.1 hc) (fun ht _ => cwV 2 ht gX6_placeBy_X6_isOdd rfl rfl rfl (by decide +kernel) ⟨Nat.le_of_ble_eq_true rfl, Nat.le_of_ble_eq_true rfl⟩) rfl rfl (Nat.le_of_ble_eq_true rfl) dX6_placeBy_21 ?_
  refine aw_if_eq (tgt := 56) C dX6_placeBy_24 (by decide) hf (fun hf => ?_) (fun hf => ?_)
  · refine aw_sub [2, 3, 4, 1] rfl ?_
    exact tX6_placeBy_56 C   hf
  refine aw_iload C dX6_placeBy_27 0 rfl ?_
  refine aw_bipush (v := 64) C dX6_placeBy_29 (by decide) ?_
  refine aw_icmp_lt (tgt := 56) C dX6_placeBy_31 (by decide) hf (fun hf => ?_) (fun hf => ?_)
  · refine aw_sub [2, 3, 4, 1] rfl ?_
    exact tX6_placeBy_56 C   hf
  refine aw_aload_n C dX6_placeBy_34 rfl 2 rfl ?_
  refine aw_get C (kd_lt rfl (by decide)) (ce_6 rfl) rfl hinX6_placeBy_6 1 (by decide) rfl (by decide +kernel) rfl dX6_placeBy_35 ?_
  refine aw_if_eq (tgt := 52) C dX6_placeBy_38 (by decide) hf (fun hf => ?_) (fun hf => ?_)
  · refine aw_sub [2, 3, 4, 1] rfl ?_
    exact tX6_placeBy_52 C   hf
  refine aw_aload_n C dX6_placeBy_41 rfl 2 rfl ?_
  refine aw_iload C dX6_placeBy_42 0 rfl ?_
  refine aw_iload_n C dX6_placeBy_44 rfl 3 rfl ?_
  refine aw_iload_n C dX6_placeBy_45 rfl 4 rfl ?_
  obtain ⟨r5, hc, hf⟩ := bR_some hf
  refine aw_callVi (As := [.int r3, .int a1, .int a2]) (rest := []) C rfl (by decide) rfl (kX6_hasSound (l := l) (D := D) (ad := ad) (cy := cy) (tb := tb) C.2.2.2.2.2.2.2.2.1 hc) (fun ht _ => cwV 3 ht gX6_placeBy_X6_hasSound rfl rfl rfl (by decide +kernel) ⟨Nat.le_of_ble_eq_true rfl, Nat.le_of_ble_eq_true rfl⟩) rfl rfl (Nat.le_of_ble_eq_true rfl) dX6_placeBy_46 ?_
  refine aw_if_ne (tgt := 56) C dX6_placeBy_49 (by decide) hf (fun hf => ?_) (fun hf => ?_)
  · refine aw_sub [2, 3, 4, 1] rfl ?_
    exact tX6_placeBy_56 C   hf
  refine aw_sub [2, 3, 4, 1] rfl ?_
  exact tX6_placeBy_52 C   hf
theorem kX6_placeBy {h : AH} {a1 : Int32} {a2 : Int32} {r0 : Int32} (hi : Inj ad) (hf : fX6_placeBy h a1 a2 = some r0) : Ki l yX6_placeBy wsX6_placeBy rmX6_placeBy D ad cy tb [.ref (ad 29), .int a1, .int a2] h r0 h := met_i (lv := [(0, .ref (ad 29)), (1, .int a1), (2, .int a2)]) hi (by decide) rfl (Nat.le_of_ble_eq_true rfl) rfl rfl (fun _ _ _ _ _ _ _ _ C => tX6_placeBy_0 C  hf)
set_option maxRecDepth 20000 in
theorem ggX6_wordOf_X6_checkOf : GoodIn wsX6_wordOf wsX6_checkOf := goodIn_r _ [6, 1, 7, 8, 5, 9, 10, 11, 12, 13, 14, 15, 44, 45, 46, 47, 48, 49, 50, 51, 52, 53, 54, 55, 56, 57, 58, 59, 60, 61] (by decide +kernel) (by decide +kernel)
set_option maxRecDepth 20000 in
theorem gX6_wordOf_X6_checkOf : GoodIn wsX6_wordOf (wsV RX6 129 RX6 yX6_checkOf wsX6_checkOf) := goodIn_app (goodIn_of _ (by decide +kernel)) ggX6_wordOf_X6_checkOf
set_option maxRecDepth 20000 in
theorem ggX6_wordOf_X6_isOdd : GoodIn wsX6_wordOf wsX6_isOdd := goodIn_r _ [19, 1, 20, 21, 5, 22, 10, 11, 12, 44, 45, 46, 47, 48, 49, 50, 51, 52, 53, 54, 55, 56, 57, 58, 59, 60, 61] (by decide +kernel) (by decide +kernel)
set_option maxRecDepth 20000 in
theorem gX6_wordOf_X6_isOdd : GoodIn wsX6_wordOf (wsV RX6 126 RX6 yX6_isOdd wsX6_isOdd) := goodIn_app (goodIn_of _ (by decide +kernel)) ggX6_wordOf_X6_isOdd
set_option maxRecDepth 20000 in
theorem ggX6_wordOf_X6_stateOf : GoodIn wsX6_wordOf wsX6_stateOf := goodIn_r _ [26, 16, 17, 18, 5, 19, 1, 20, 21, 22, 10, 11, 12, 2, 3, 4, 6, 7, 8, 9, 13, 14, 15, 44, 45, 46, 47, 48, 49, 50, 51, 52, 53, 54, 55, 56, 57, 58, 59, 60, 61] (by decide +kernel) (by decide +kernel)
set_option maxRecDepth 20000 in
theorem gX6_wordOf_X6_stateOf : GoodIn wsX6_wordOf (wsV RX6 141 RX6 yX6_stateOf wsX6_stateOf) := goodIn_app (goodIn_of _ (by decide +kernel)) ggX6_wordOf_X6_stateOf
set_option maxRecDepth 20000 in
theorem ggX6_wordOf_X6_onesOf : GoodIn wsX6_wordOf wsX6_onesOf := goodIn_r _ [22, 10, 11, 5, 12] (by decide +kernel) (by decide +kernel)
set_option maxRecDepth 20000 in
theorem gX6_wordOf_X6_onesOf : GoodIn wsX6_wordOf (va_wsS RX6 69 yX6_onesOf wsX6_onesOf) := goodIn_app (goodIn_of _ (by decide +kernel)) ggX6_wordOf_X6_onesOf
set_option maxRecDepth 20000 in
theorem ggX6_wordOf_X6_placeBy : GoodIn wsX6_wordOf wsX6_placeBy := goodIn_r _ [30, 31, 2, 3, 4, 5, 6, 1, 7, 8, 9, 10, 11, 12, 13, 14, 15, 32, 33, 34, 16, 17, 18, 19, 20, 21, 22, 35, 36, 37, 38, 39, 40, 41, 42, 43, 44, 45, 46, 47, 48, 49, 50, 51, 52, 53, 54, 55, 56, 57, 58, 59, 60, 61] (by decide +kernel) (by decide +kernel)
set_option maxRecDepth 20000 in
theorem gX6_wordOf_X6_placeBy : GoodIn wsX6_wordOf (wsV RX6 144 RX6 yX6_placeBy wsX6_placeBy) := goodIn_app (goodIn_of _ (by decide +kernel)) ggX6_wordOf_X6_placeBy
theorem dX6_wordOf_0 : decode cX6_wordOf 0 = .ok (.iload_n 3, 1) := by decide +kernel
theorem dX6_wordOf_1 : decode cX6_wordOf 1 = .ok (.tableswitch 73 0 3 #[31, 38, 53, 60], 31) := by decide +kernel
theorem dX6_wordOf_32 : decode cX6_wordOf 32 = .ok (.aload_n 0, 1) := by decide +kernel
theorem dX6_wordOf_33 : decode cX6_wordOf 33 = .ok (.iload_n 1, 1) := by decide +kernel
theorem dX6_wordOf_34 : decode cX6_wordOf 34 = .ok (.iload_n 2, 1) := by decide +kernel
theorem dX6_wordOf_35 : decode cX6_wordOf 35 = .ok (.invokevirtual 129, 3) := by decide +kernel
theorem dX6_wordOf_38 : decode cX6_wordOf 38 = .ok (.ireturn, 1) := by decide +kernel
theorem dX6_wordOf_39 : decode cX6_wordOf 39 = .ok (.aload_n 0, 1) := by decide +kernel
theorem dX6_wordOf_40 : decode cX6_wordOf 40 = .ok (.iload_n 1, 1) := by decide +kernel
theorem dX6_wordOf_41 : decode cX6_wordOf 41 = .ok (.iload_n 2, 1) := by decide +kernel
theorem dX6_wordOf_42 : decode cX6_wordOf 42 = .ok (.invokevirtual 126, 3) := by decide +kernel
theorem dX6_wordOf_45 : decode cX6_wordOf 45 = .ok (.ifCond .eq 7, 3) := by decide +kernel
theorem dX6_wordOf_48 : decode cX6_wordOf 48 = .ok (.iconst 1, 1) := by decide +kernel
theorem dX6_wordOf_49 : decode cX6_wordOf 49 = .ok (.goto 4, 3) := by decide +kernel
theorem dX6_wordOf_52 : decode cX6_wordOf 52 = .ok (.iconst 0, 1) := by decide +kernel
theorem dX6_wordOf_53 : decode cX6_wordOf 53 = .ok (.ireturn, 1) := by decide +kernel
theorem dX6_wordOf_54 : decode cX6_wordOf 54 = .ok (.aload_n 0, 1) := by decide +kernel
theorem dX6_wordOf_55 : decode cX6_wordOf 55 = .ok (.iload_n 1, 1) := by decide +kernel
theorem dX6_wordOf_56 : decode cX6_wordOf 56 = .ok (.iload_n 2, 1) := by decide +kernel
theorem dX6_wordOf_57 : decode cX6_wordOf 57 = .ok (.invokevirtual 141, 3) := by decide +kernel
theorem dX6_wordOf_60 : decode cX6_wordOf 60 = .ok (.ireturn, 1) := by decide +kernel
theorem dX6_wordOf_61 : decode cX6_wordOf 61 = .ok (.aload_n 0, 1) := by decide +kernel
theorem dX6_wordOf_62 : decode cX6_wordOf 62 = .ok (.getfield 21, 3) := by decide +kernel
theorem dX6_wordOf_65 : decode cX6_wordOf 65 = .ok (.iload_n 1, 1) := by decide +kernel
theorem dX6_wordOf_66 : decode cX6_wordOf 66 = .ok (.iload_n 2, 1) := by decide +kernel
theorem dX6_wordOf_67 : decode cX6_wordOf 67 = .ok (.iconst 0, 1) := by decide +kernel
theorem dX6_wordOf_68 : decode cX6_wordOf 68 = .ok (.bipush 16, 2) := by decide +kernel
theorem dX6_wordOf_70 : decode cX6_wordOf 70 = .ok (.invokestatic 69, 3) := by decide +kernel
theorem dX6_wordOf_73 : decode cX6_wordOf 73 = .ok (.ireturn, 1) := by decide +kernel
theorem dX6_wordOf_74 : decode cX6_wordOf 74 = .ok (.aload_n 0, 1) := by decide +kernel
theorem dX6_wordOf_75 : decode cX6_wordOf 75 = .ok (.iload_n 1, 1) := by decide +kernel
theorem dX6_wordOf_76 : decode cX6_wordOf 76 = .ok (.iload_n 2, 1) := by decide +kernel
theorem dX6_wordOf_77 : decode cX6_wordOf 77 = .ok (.invokevirtual 144, 3) := by decide +kernel
theorem dX6_wordOf_80 : decode cX6_wordOf 80 = .ok (.ireturn, 1) := by decide +kernel
abbrev rmX6_wordOf : Room := { frames := 6, cells := 0, slots := 0, locals := 145 }
set_option maxRecDepth 100000 in
theorem hinX6_wordOf_6 : ∀ w ∈ wsX60, w ∈ wsX6_wordOf := by decide +kernel
set_option maxHeartbeats 4000000 in
set_option maxRecDepth 100000 in
theorem tX6_wordOf_0 {h : AH} {a1 : Int32} {a2 : Int32} {a3 : Int32} {r0 : Int32} (C : Cx p rmX6_wordOf s m args meth c RX6 cX6_wordOf 4 (some .int) wsX6_wordOf D ad cy tb 0 0) (hf : fX6_wordOf h a1 a2 a3 = some r0) : AW p l e rmX6_wordOf s m args below meth c 4 D ad cy 0 0 (Qi D ad cy below args s r0 h) 0 [(0, .ref (ad 29)), (1, .int a1), (2, .int a2), (3, .int a3)] [] h := by
  unfold fX6_wordOf at hf
  refine aw_iload_n C dX6_wordOf_0 rfl 3 rfl ?_
  rcases Decidable.em (a3 = 0) with hx0 | hx0
  · rw [if_pos hx0] at hf
    refine aw_tabIn (tgt := 32) C dX6_wordOf_1 (by rw [hx0]; decide) (by rw [hx0]; decide) (by rw [hx0]; rfl) (by decide) ?_
    refine aw_aload_n C dX6_wordOf_32 rfl 0 rfl ?_
    refine aw_iload_n C dX6_wordOf_33 rfl 1 rfl ?_
    refine aw_iload_n C dX6_wordOf_34 rfl 2 rfl ?_
    obtain ⟨r1, hc, hf⟩ := bR_some hf
    refine aw_callVi (As := [.int a1, .int a2]) (rest := []) C rfl (by decide) rfl (kX6_checkOf (l := l) (D := D) (ad := ad) (cy := cy) (tb := tb) C.2.2.2.2.2.2.2.2.1 hc) (fun ht _ => cwV 2 ht gX6_wordOf_X6_checkOf rfl rfl rfl (by decide +kernel) ⟨Nat.le_of_ble_eq_true rfl, Nat.le_of_ble_eq_true rfl⟩) rfl rfl (Nat.le_of_ble_eq_true rfl) dX6_wordOf_35 ?_
    exact aw_iretR C dX6_wordOf_38 hf
  rw [if_neg hx0] at hf
  rcases Decidable.em (a3 = 1) with hx1 | hx1
  · rw [if_pos hx1] at hf
    refine aw_tabIn (tgt := 39) C dX6_wordOf_1 (by rw [hx1]; decide) (by rw [hx1]; decide) (by rw [hx1]; rfl) (by decide) ?_
    refine aw_aload_n C dX6_wordOf_39 rfl 0 rfl ?_
    refine aw_iload_n C dX6_wordOf_40 rfl 1 rfl ?_
    refine aw_iload_n C dX6_wordOf_41 rfl 2 rfl ?_
    obtain ⟨r2, hc, hf⟩ := bR_some hf
    refine aw_callVi (As := [.int a1, .int a2]) (rest := []) C rfl (by decide) rfl (kX6_isOdd (l := l) (D := D) (ad := ad) (cy := cy) (tb := tb) C.2.2.2.2.2.2.2.2.1 hc) (fun ht _ => cwV 2 ht gX6_wordOf_X6_isOdd rfl rfl rfl (by decide +kernel) ⟨Nat.le_of_ble_eq_true rfl, Nat.le_of_ble_eq_true rfl⟩) rfl rfl (Nat.le_of_ble_eq_true rfl) dX6_wordOf_42 ?_
    refine aw_if_eq (tgt := 52) C dX6_wordOf_45 (by decide) hf (fun hf => ?_) (fun hf => ?_)
    · refine aw_iconst (v := 0) C dX6_wordOf_52 (by decide) ?_
      exact aw_iretR C dX6_wordOf_53 hf
    refine aw_iconst (v := 1) C dX6_wordOf_48 (by decide) ?_
    refine aw_goto (tgt := 53) C dX6_wordOf_49 (by decide) ?_
    exact aw_iretR C dX6_wordOf_53 hf
  rw [if_neg hx1] at hf
  rcases Decidable.em (a3 = 2) with hx2 | hx2
  · rw [if_pos hx2] at hf
    refine aw_tabIn (tgt := 54) C dX6_wordOf_1 (by rw [hx2]; decide) (by rw [hx2]; decide) (by rw [hx2]; rfl) (by decide) ?_
    refine aw_aload_n C dX6_wordOf_54 rfl 0 rfl ?_
    refine aw_iload_n C dX6_wordOf_55 rfl 1 rfl ?_
    refine aw_iload_n C dX6_wordOf_56 rfl 2 rfl ?_
    obtain ⟨r3, hc, hf⟩ := bR_some hf
    refine aw_callVi (As := [.int a1, .int a2]) (rest := []) C rfl (by decide) rfl (kX6_stateOf (l := l) (D := D) (ad := ad) (cy := cy) (tb := tb) C.2.2.2.2.2.2.2.2.1 hc) (fun ht _ => cwV 2 ht gX6_wordOf_X6_stateOf rfl rfl rfl (by decide +kernel) ⟨Nat.le_of_ble_eq_true rfl, Nat.le_of_ble_eq_true rfl⟩) rfl rfl (Nat.le_of_ble_eq_true rfl) dX6_wordOf_57 ?_
    exact aw_iretR C dX6_wordOf_60 hf
  rw [if_neg hx2] at hf
  rcases Decidable.em (a3 = 3) with hx3 | hx3
  · rw [if_pos hx3] at hf
    refine aw_tabIn (tgt := 61) C dX6_wordOf_1 (by rw [hx3]; decide) (by rw [hx3]; decide) (by rw [hx3]; rfl) (by decide) ?_
    refine aw_aload_n C dX6_wordOf_61 rfl 0 rfl ?_
    refine aw_get C (kd_lt rfl (by decide)) (ce_6 rfl) rfl hinX6_wordOf_6 4 (by decide) rfl (by decide +kernel) rfl dX6_wordOf_62 ?_
    refine aw_iload_n C dX6_wordOf_65 rfl 1 rfl ?_
    refine aw_iload_n C dX6_wordOf_66 rfl 2 rfl ?_
    refine aw_iconst (v := 0) C dX6_wordOf_67 (by decide) ?_
    refine aw_bipush (v := 16) C dX6_wordOf_68 (by decide) ?_
    obtain ⟨r4, hc, hf⟩ := bR_some hf
    refine aw_callSi (As := [.ref (ad 32), .int a1, .int a2, .int 0, .int 16]) (rest := []) C (kX6_onesOf (l := l) (D := D) (ad := ad) (cy := cy) (tb := tb) C.2.2.2.2.2.2.2.2.1 rfl hc) (fun ht _ => va_cwS 5 ht gX6_wordOf_X6_onesOf rfl rfl rfl (by decide +kernel) ⟨Nat.le_of_ble_eq_true rfl, Nat.le_of_ble_eq_true rfl⟩) rfl rfl (Nat.le_of_ble_eq_true rfl) dX6_wordOf_70 ?_
    exact aw_iretR C dX6_wordOf_73 hf
  rw [if_neg hx3] at hf
  have hsw := sw_out (x := a3) 4 (by decide) (fun j hj => by
    rcases (show j = 0 ∨ j = 1 ∨ j = 2 ∨ j = 3 by omega) with rfl | rfl | rfl | rfl
    · exact hx0
    · exact hx1
    · exact hx2
    · exact hx3)
  refine aw_tabOut (tgt := 74) C dX6_wordOf_1 (by omega) (by decide) ?_
  refine aw_aload_n C dX6_wordOf_74 rfl 0 rfl ?_
  refine aw_iload_n C dX6_wordOf_75 rfl 1 rfl ?_
  refine aw_iload_n C dX6_wordOf_76 rfl 2 rfl ?_
  obtain ⟨r5, hc, hf⟩ := bR_some hf
  refine aw_callVi (As := [.int a1, .int a2]) (rest := []) C rfl (by decide) rfl (kX6_placeBy (l := l) (D := D) (ad := ad) (cy := cy) (tb := tb) C.2.2.2.2.2.2.2.2.1 hc) (fun ht _ => cwV 2 ht gX6_wordOf_X6_placeBy rfl rfl rfl (by decide +kernel) ⟨Nat.le_of_ble_eq_true rfl, Nat.le_of_ble_eq_true rfl⟩) rfl rfl (Nat.le_of_ble_eq_true rfl) dX6_wordOf_77 ?_
  exact aw_iretR C dX6_wordOf_80 hf
theorem kX6_wordOf {h : AH} {a1 : Int32} {a2 : Int32} {a3 : Int32} {r0 : Int32} (hi : Inj ad) (hf : fX6_wordOf h a1 a2 a3 = some r0) : Ki l yX6_wordOf wsX6_wordOf rmX6_wordOf D ad cy tb [.ref (ad 29), .int a1, .int a2, .int a3] h r0 h := met_i (lv := [(0, .ref (ad 29)), (1, .int a1), (2, .int a2), (3, .int a3)]) hi (by decide) rfl (Nat.le_of_ble_eq_true rfl) rfl rfl (fun _ _ _ _ _ _ _ _ C => tX6_wordOf_0 C  hf)
set_option maxRecDepth 20000 in
theorem ggX6_word_X6_isWord : GoodIn wsX6_word wsX6_isWord := goodIn_r _ [5, 6, 7, 8, 4, 9, 10, 11, 12, 13, 59, 60, 61, 62, 63, 64, 65, 66, 67, 68, 69, 70, 71, 72, 73, 74, 75, 76] (by decide +kernel) (by decide +kernel)
set_option maxRecDepth 20000 in
theorem gX6_word_X6_isWord : GoodIn wsX6_word (wsV RX6 81 RX6 yX6_isWord wsX6_isWord) := goodIn_app (goodIn_of _ (by decide +kernel)) ggX6_word_X6_isWord
set_option maxRecDepth 20000 in
theorem ggX6_word_X6_in : GoodIn wsX6_word wsX6_in := goodIn_r _ [13] (by decide +kernel) (by decide +kernel)
set_option maxRecDepth 20000 in
theorem gX6_word_X6_in : GoodIn wsX6_word (va_wsS RX6 73 yX6_in wsX6_in) := goodIn_app (goodIn_of _ (by decide +kernel)) ggX6_word_X6_in
set_option maxRecDepth 20000 in
theorem ggX6_word_X6_wordOf : GoodIn wsX6_word wsX6_wordOf := goodIn_r _ [17, 18, 19, 20, 21, 4, 22, 23, 24, 25, 26, 27, 28, 29, 30, 31, 32, 33, 34, 35, 36, 37, 38, 39, 40, 41, 42, 43, 44, 45, 46, 47, 48, 49, 50, 51, 52, 53, 54, 10, 55, 56, 57, 58, 59, 60, 61, 62, 63, 64, 65, 66, 67, 68, 69, 70, 71, 72, 73, 74, 75, 76] (by decide +kernel) (by decide +kernel)
set_option maxRecDepth 20000 in
theorem gX6_word_X6_wordOf : GoodIn wsX6_word (wsV RX6 147 RX6 yX6_wordOf wsX6_wordOf) := goodIn_app (goodIn_of _ (by decide +kernel)) ggX6_word_X6_wordOf
theorem dX6_word_0 : decode cX6_word 0 = .ok (.aload_n 0, 1) := by decide +kernel
theorem dX6_word_1 : decode cX6_word 1 = .ok (.iload_n 1, 1) := by decide +kernel
theorem dX6_word_2 : decode cX6_word 2 = .ok (.iload_n 2, 1) := by decide +kernel
theorem dX6_word_3 : decode cX6_word 3 = .ok (.invokevirtual 81, 3) := by decide +kernel
theorem dX6_word_6 : decode cX6_word 6 = .ok (.ifCond .eq 22, 3) := by decide +kernel
theorem dX6_word_9 : decode cX6_word 9 = .ok (.iload_n 3, 1) := by decide +kernel
theorem dX6_word_10 : decode cX6_word 10 = .ok (.iconst 0, 1) := by decide +kernel
theorem dX6_word_11 : decode cX6_word 11 = .ok (.iconst 4, 1) := by decide +kernel
theorem dX6_word_12 : decode cX6_word 12 = .ok (.invokestatic 73, 3) := by decide +kernel
theorem dX6_word_15 : decode cX6_word 15 = .ok (.ifCond .eq 13, 3) := by decide +kernel
theorem dX6_word_18 : decode cX6_word 18 = .ok (.aload_n 0, 1) := by decide +kernel
theorem dX6_word_19 : decode cX6_word 19 = .ok (.iload_n 1, 1) := by decide +kernel
theorem dX6_word_20 : decode cX6_word 20 = .ok (.iload_n 2, 1) := by decide +kernel
theorem dX6_word_21 : decode cX6_word 21 = .ok (.iload_n 3, 1) := by decide +kernel
theorem dX6_word_22 : decode cX6_word 22 = .ok (.invokevirtual 147, 3) := by decide +kernel
theorem dX6_word_25 : decode cX6_word 25 = .ok (.goto 5, 3) := by decide +kernel
theorem dX6_word_28 : decode cX6_word 28 = .ok (.bipush (-2), 2) := by decide +kernel
theorem dX6_word_30 : decode cX6_word 30 = .ok (.ireturn, 1) := by decide +kernel
abbrev rmX6_word : Room := { frames := 7, cells := 0, slots := 0, locals := 168 }
set_option maxHeartbeats 4000000 in
set_option maxRecDepth 100000 in
theorem tX6_word_0 {h : AH} {a1 : Int32} {a2 : Int32} {a3 : Int32} {r0 : Int32} (C : Cx p rmX6_word s m args meth c RX6 cX6_word 4 (some .int) wsX6_word D ad cy tb 0 0) (hf : fX6_word h a1 a2 a3 = some r0) : AW p l e rmX6_word s m args below meth c 4 D ad cy 0 0 (Qi D ad cy below args s r0 h) 0 [(0, .ref (ad 29)), (1, .int a1), (2, .int a2), (3, .int a3)] [] h := by
  unfold fX6_word at hf
  refine aw_aload_n C dX6_word_0 rfl 0 rfl ?_
  refine aw_iload_n C dX6_word_1 rfl 1 rfl ?_
  refine aw_iload_n C dX6_word_2 rfl 2 rfl ?_
  obtain ⟨r1, hc, hf⟩ := bR_some hf
  refine aw_callVi (As := [.int a1, .int a2]) (rest := []) C rfl (by decide) rfl (kX6_isWord (l := l) (D := D) (ad := ad) (cy := cy) (tb := tb) C.2.2.2.2.2.2.2.2.1 hc) (fun ht _ => cwV 2 ht gX6_word_X6_isWord rfl rfl rfl (by decide +kernel) ⟨Nat.le_of_ble_eq_true rfl, Nat.le_of_ble_eq_true rfl⟩) rfl rfl (Nat.le_of_ble_eq_true rfl) dX6_word_3 ?_
  refine aw_if_eq (tgt := 28) C dX6_word_6 (by decide) hf (fun hf => ?_) (fun hf => ?_)
  · refine aw_bipush (v := (-2)) C dX6_word_28 (by decide) ?_
    exact aw_iretR C dX6_word_30 hf
  refine aw_iload_n C dX6_word_9 rfl 3 rfl ?_
  refine aw_iconst (v := 0) C dX6_word_10 (by decide) ?_
  refine aw_iconst (v := 4) C dX6_word_11 (by decide) ?_
  obtain ⟨r2, hc, hf⟩ := bR_some hf
  refine aw_callSi (As := [.int a3, .int 0, .int 4]) (rest := []) C (kX6_in (l := l) (D := D) (ad := ad) (cy := cy) (tb := tb) C.2.2.2.2.2.2.2.2.1 hc) (fun ht _ => va_cwS 3 ht gX6_word_X6_in rfl rfl rfl (by decide +kernel) ⟨Nat.le_of_ble_eq_true rfl, Nat.le_of_ble_eq_true rfl⟩) rfl rfl (Nat.le_of_ble_eq_true rfl) dX6_word_12 ?_
  refine aw_if_eq (tgt := 28) C dX6_word_15 (by decide) hf (fun hf => ?_) (fun hf => ?_)
  · refine aw_bipush (v := (-2)) C dX6_word_28 (by decide) ?_
    exact aw_iretR C dX6_word_30 hf
  refine aw_aload_n C dX6_word_18 rfl 0 rfl ?_
  refine aw_iload_n C dX6_word_19 rfl 1 rfl ?_
  refine aw_iload_n C dX6_word_20 rfl 2 rfl ?_
  refine aw_iload_n C dX6_word_21 rfl 3 rfl ?_
  obtain ⟨r3, hc, hf⟩ := bR_some hf
  refine aw_callVi (As := [.int a1, .int a2, .int a3]) (rest := []) C rfl (by decide) rfl (kX6_wordOf (l := l) (D := D) (ad := ad) (cy := cy) (tb := tb) C.2.2.2.2.2.2.2.2.1 hc) (fun ht _ => cwV 3 ht gX6_word_X6_wordOf rfl rfl rfl (by decide +kernel) ⟨Nat.le_of_ble_eq_true rfl, Nat.le_of_ble_eq_true rfl⟩) rfl rfl (Nat.le_of_ble_eq_true rfl) dX6_word_22 ?_
  refine aw_goto (tgt := 30) C dX6_word_25 (by decide) ?_
  exact aw_iretR C dX6_word_30 hf
theorem kX6_word {h : AH} {a1 : Int32} {a2 : Int32} {a3 : Int32} {r0 : Int32} (hi : Inj ad) (hf : fX6_word h a1 a2 a3 = some r0) : Ki l yX6_word wsX6_word rmX6_word D ad cy tb [.ref (ad 29), .int a1, .int a2, .int a3] h r0 h := met_i (lv := [(0, .ref (ad 29)), (1, .int a1), (2, .int a2), (3, .int a3)]) hi (by decide) rfl (Nat.le_of_ble_eq_true rfl) rfl rfl (fun _ _ _ _ _ _ _ _ C => tX6_word_0 C  hf)
set_option maxRecDepth 20000 in
theorem ggX4_isStalled_X4_isOdd : GoodIn wsX4_isStalled wsX4_isOdd := goodIn_r _ [5, 6, 11, 12, 13] (by decide +kernel) (by decide +kernel)
set_option maxRecDepth 20000 in
theorem gX4_isStalled_X4_isOdd : GoodIn wsX4_isStalled (wsV RX4 41 RX4 yX4_isOdd wsX4_isOdd) := goodIn_app (goodIn_of _ (by decide +kernel)) ggX4_isStalled_X4_isOdd
set_option maxRecDepth 20000 in
theorem ggX4_isStalled_X4_isSound : GoodIn wsX4_isStalled wsX4_isSound := goodIn_r _ [10, 6, 11, 12, 13] (by decide +kernel) (by decide +kernel)
set_option maxRecDepth 20000 in
theorem gX4_isStalled_X4_isSound : GoodIn wsX4_isStalled (wsV RX4 45 RX4 yX4_isSound wsX4_isSound) := goodIn_app (goodIn_of _ (by decide +kernel)) ggX4_isStalled_X4_isSound
theorem dX4_isStalled_0 : decode cX4_isStalled 0 = .ok (.aload_n 0, 1) := by decide +kernel
theorem dX4_isStalled_1 : decode cX4_isStalled 1 = .ok (.iload_n 1, 1) := by decide +kernel
theorem dX4_isStalled_2 : decode cX4_isStalled 2 = .ok (.invokevirtual 41, 3) := by decide +kernel
theorem dX4_isStalled_5 : decode cX4_isStalled 5 = .ok (.ifCond .ne 15, 3) := by decide +kernel
theorem dX4_isStalled_8 : decode cX4_isStalled 8 = .ok (.aload_n 0, 1) := by decide +kernel
theorem dX4_isStalled_9 : decode cX4_isStalled 9 = .ok (.iload_n 1, 1) := by decide +kernel
theorem dX4_isStalled_10 : decode cX4_isStalled 10 = .ok (.invokevirtual 45, 3) := by decide +kernel
theorem dX4_isStalled_13 : decode cX4_isStalled 13 = .ok (.ifCond .ne 7, 3) := by decide +kernel
theorem dX4_isStalled_16 : decode cX4_isStalled 16 = .ok (.iconst 1, 1) := by decide +kernel
theorem dX4_isStalled_17 : decode cX4_isStalled 17 = .ok (.goto 4, 3) := by decide +kernel
theorem dX4_isStalled_20 : decode cX4_isStalled 20 = .ok (.iconst 0, 1) := by decide +kernel
theorem dX4_isStalled_21 : decode cX4_isStalled 21 = .ok (.ireturn, 1) := by decide +kernel
abbrev rmX4_isStalled : Room := { frames := 1, cells := 0, slots := 0, locals := 21 }
set_option maxHeartbeats 4000000 in
set_option maxRecDepth 100000 in
theorem tX4_isStalled_0 {h : AH} {a0 : Nat} {a1 : Int32} {r0 : Int32} (C : Cx p rmX4_isStalled s m args meth c RX4 cX4_isStalled 2 (some .boolean) wsX4_isStalled D ad cy tb 0 0) (hk0 : kd a0 = 4) (hf : fX4_isStalled h a0 a1 = some r0) : AW p l e rmX4_isStalled s m args below meth c 2 D ad cy 0 0 (Qi D ad cy below args s r0 h) 0 [(0, .ref (ad a0)), (1, .int a1)] [] h := by
  unfold fX4_isStalled at hf
  refine aw_aload_n C dX4_isStalled_0 rfl 0 rfl ?_
  refine aw_iload_n C dX4_isStalled_1 rfl 1 rfl ?_
  obtain ⟨r1, hc, hf⟩ := bR_some hf
  refine aw_callVi (As := [.int a1]) (rest := []) C hk0 (by decide) rfl (kX4_isOdd (l := l) (D := D) (ad := ad) (cy := cy) (tb := tb) C.2.2.2.2.2.2.2.2.1 hk0 hc) (fun ht _ => cwV 1 ht gX4_isStalled_X4_isOdd rfl rfl rfl (by decide +kernel) ⟨Nat.le_of_ble_eq_true rfl, Nat.le_of_ble_eq_true rfl⟩) rfl rfl (Nat.le_of_ble_eq_true rfl) dX4_isStalled_2 ?_
  refine aw_if_ne (tgt := 20) C dX4_isStalled_5 (by decide) hf (fun hf => ?_) (fun hf => ?_)
  · refine aw_iconst (v := 0) C dX4_isStalled_20 (by decide) ?_
    exact aw_zretR C (by decide) dX4_isStalled_21 hf
  refine aw_aload_n C dX4_isStalled_8 rfl 0 rfl ?_
  refine aw_iload_n C dX4_isStalled_9 rfl 1 rfl ?_
  obtain ⟨r2, hc, hf⟩ := bR_some hf
  refine aw_callVi (As := [.int a1]) (rest := []) C hk0 (by decide) rfl (kX4_isSound (l := l) (D := D) (ad := ad) (cy := cy) (tb := tb) C.2.2.2.2.2.2.2.2.1 hk0 hc) (fun ht _ => cwV 1 ht gX4_isStalled_X4_isSound rfl rfl rfl (by decide +kernel) ⟨Nat.le_of_ble_eq_true rfl, Nat.le_of_ble_eq_true rfl⟩) rfl rfl (Nat.le_of_ble_eq_true rfl) dX4_isStalled_10 ?_
  refine aw_if_ne (tgt := 20) C dX4_isStalled_13 (by decide) hf (fun hf => ?_) (fun hf => ?_)
  · refine aw_iconst (v := 0) C dX4_isStalled_20 (by decide) ?_
    exact aw_zretR C (by decide) dX4_isStalled_21 hf
  refine aw_iconst (v := 1) C dX4_isStalled_16 (by decide) ?_
  refine aw_goto (tgt := 21) C dX4_isStalled_17 (by decide) ?_
  exact aw_zretR C (by decide) dX4_isStalled_21 hf
theorem kX4_isStalled {h : AH} {a0 : Nat} {a1 : Int32} {r0 : Int32} (hi : Inj ad) (hk0 : kd a0 = 4) (hf : fX4_isStalled h a0 a1 = some r0) : Ki l yX4_isStalled wsX4_isStalled rmX4_isStalled D ad cy tb [.ref (ad a0), .int a1] h r0 h := met_i (lv := [(0, .ref (ad a0)), (1, .int a1)]) hi (by decide) rfl (Nat.le_of_ble_eq_true rfl) rfl rfl (fun _ _ _ _ _ _ _ _ C => tX4_isStalled_0 C hk0 hf)
theorem dX5_bitAt_0 : decode cX5_bitAt 0 = .ok (.iload_n 1, 1) := by decide +kernel
theorem dX5_bitAt_1 : decode cX5_bitAt 1 = .ok (.bipush 8, 2) := by decide +kernel
theorem dX5_bitAt_3 : decode cX5_bitAt 3 = .ok (.if_icmp .lt 13, 3) := by decide +kernel
theorem dX5_bitAt_6 : decode cX5_bitAt 6 = .ok (.bipush 8, 2) := by decide +kernel
theorem dX5_bitAt_8 : decode cX5_bitAt 8 = .ok (.iload_n 0, 1) := by decide +kernel
theorem dX5_bitAt_9 : decode cX5_bitAt 9 = .ok (.imul, 1) := by decide +kernel
theorem dX5_bitAt_10 : decode cX5_bitAt 10 = .ok (.iload_n 1, 1) := by decide +kernel
theorem dX5_bitAt_11 : decode cX5_bitAt 11 = .ok (.iadd, 1) := by decide +kernel
theorem dX5_bitAt_12 : decode cX5_bitAt 12 = .ok (.bipush 8, 2) := by decide +kernel
theorem dX5_bitAt_14 : decode cX5_bitAt 14 = .ok (.isub, 1) := by decide +kernel
theorem dX5_bitAt_15 : decode cX5_bitAt 15 = .ok (.ireturn, 1) := by decide +kernel
theorem dX5_bitAt_16 : decode cX5_bitAt 16 = .ok (.bipush 64, 2) := by decide +kernel
theorem dX5_bitAt_18 : decode cX5_bitAt 18 = .ok (.iload_n 0, 1) := by decide +kernel
theorem dX5_bitAt_19 : decode cX5_bitAt 19 = .ok (.iconst 3, 1) := by decide +kernel
theorem dX5_bitAt_20 : decode cX5_bitAt 20 = .ok (.ishr, 1) := by decide +kernel
theorem dX5_bitAt_21 : decode cX5_bitAt 21 = .ok (.iconst 1, 1) := by decide +kernel
theorem dX5_bitAt_22 : decode cX5_bitAt 22 = .ok (.isub, 1) := by decide +kernel
theorem dX5_bitAt_23 : decode cX5_bitAt 23 = .ok (.imul, 1) := by decide +kernel
theorem dX5_bitAt_24 : decode cX5_bitAt 24 = .ok (.bipush 8, 2) := by decide +kernel
theorem dX5_bitAt_26 : decode cX5_bitAt 26 = .ok (.iload_n 1, 1) := by decide +kernel
theorem dX5_bitAt_27 : decode cX5_bitAt 27 = .ok (.imul, 1) := by decide +kernel
theorem dX5_bitAt_28 : decode cX5_bitAt 28 = .ok (.iadd, 1) := by decide +kernel
theorem dX5_bitAt_29 : decode cX5_bitAt 29 = .ok (.iload_n 0, 1) := by decide +kernel
theorem dX5_bitAt_30 : decode cX5_bitAt 30 = .ok (.bipush 7, 2) := by decide +kernel
theorem dX5_bitAt_32 : decode cX5_bitAt 32 = .ok (.iand, 1) := by decide +kernel
theorem dX5_bitAt_33 : decode cX5_bitAt 33 = .ok (.iadd, 1) := by decide +kernel
theorem dX5_bitAt_34 : decode cX5_bitAt 34 = .ok (.ireturn, 1) := by decide +kernel
abbrev rmX5_bitAt : Room := { frames := 0, cells := 0, slots := 0, locals := 0 }
set_option maxHeartbeats 4000000 in
set_option maxRecDepth 100000 in
theorem tX5_bitAt_0 {h : AH} {a0 : Int32} {a1 : Int32} {r0 : Int32} (C : Cx p rmX5_bitAt s m args meth c RX5 cX5_bitAt 2 (some .int) wsX5_bitAt D ad cy tb 0 0) (hf : fX5_bitAt h a0 a1 = some r0) : AW p l e rmX5_bitAt s m args below meth c 2 D ad cy 0 0 (Qi D ad cy below args s r0 h) 0 [(0, .int a0), (1, .int a1)] [] h := by
  unfold fX5_bitAt at hf
  refine aw_iload_n C dX5_bitAt_0 rfl 1 rfl ?_
  refine aw_bipush (v := 8) C dX5_bitAt_1 (by decide) ?_
  refine aw_icmp_lt (tgt := 16) C dX5_bitAt_3 (by decide) hf (fun hf => ?_) (fun hf => ?_)
  · refine aw_bipush (v := 64) C dX5_bitAt_16 (by decide) ?_
    refine aw_iload_n C dX5_bitAt_18 rfl 0 rfl ?_
    refine aw_iconst (v := 3) C dX5_bitAt_19 (by decide) ?_
    refine aw_ishr C dX5_bitAt_20 ?_
    refine aw_iconst (v := 1) C dX5_bitAt_21 (by decide) ?_
    refine aw_isub C dX5_bitAt_22 ?_
    refine aw_imul C dX5_bitAt_23 ?_
    refine aw_bipush (v := 8) C dX5_bitAt_24 (by decide) ?_
    refine aw_iload_n C dX5_bitAt_26 rfl 1 rfl ?_
    refine aw_imul C dX5_bitAt_27 ?_
    refine aw_iadd C dX5_bitAt_28 ?_
    refine aw_iload_n C dX5_bitAt_29 rfl 0 rfl ?_
    refine aw_bipush (v := 7) C dX5_bitAt_30 (by decide) ?_
    refine aw_iand C dX5_bitAt_32 ?_
    refine aw_iadd C dX5_bitAt_33 ?_
    exact aw_iretR C dX5_bitAt_34 hf
  refine aw_bipush (v := 8) C dX5_bitAt_6 (by decide) ?_
  refine aw_iload_n C dX5_bitAt_8 rfl 0 rfl ?_
  refine aw_imul C dX5_bitAt_9 ?_
  refine aw_iload_n C dX5_bitAt_10 rfl 1 rfl ?_
  refine aw_iadd C dX5_bitAt_11 ?_
  refine aw_bipush (v := 8) C dX5_bitAt_12 (by decide) ?_
  refine aw_isub C dX5_bitAt_14 ?_
  exact aw_iretR C dX5_bitAt_15 hf
theorem kX5_bitAt {h : AH} {a0 : Int32} {a1 : Int32} {r0 : Int32} (hi : Inj ad) (hf : fX5_bitAt h a0 a1 = some r0) : Ki l yX5_bitAt wsX5_bitAt rmX5_bitAt D ad cy tb [.int a0, .int a1] h r0 h := met_i (lv := [(0, .int a0), (1, .int a1)]) hi (by decide) rfl (Nat.le_of_ble_eq_true rfl) rfl rfl (fun _ _ _ _ _ _ _ _ C => tX5_bitAt_0 C  hf)
