variable {p : Program} {l : Launch} {e : Env} {s : State} {m : MethodId} {args : Array Value} {below : List Frame} {meth : Method} {c : Code} {D : va_G} {ad : Nat → Nat} {cy : Nat → ClassId} {tb : Nat → Nat}
set_option maxRecDepth 20000 in
theorem ggX6_data_X6_isWord : GoodIn wsX6_data wsX6_isWord := goodIn_r _ [6, 7, 8, 9, 5, 10, 11, 12, 13, 14, 32, 33, 34, 35, 36, 37, 38, 39, 40, 41, 42, 43, 44, 45, 46, 47, 48, 49] (by decide +kernel) (by decide +kernel)
set_option maxRecDepth 20000 in
theorem gX6_data_X6_isWord : GoodIn wsX6_data (wsV RX6 81 RX6 yX6_isWord wsX6_isWord) := goodIn_app (goodIn_of _ (by decide +kernel)) ggX6_data_X6_isWord
set_option maxRecDepth 20000 in
theorem ggX6_data_X6_in : GoodIn wsX6_data wsX6_in := goodIn_r _ [14] (by decide +kernel) (by decide +kernel)
set_option maxRecDepth 20000 in
theorem gX6_data_X6_in : GoodIn wsX6_data (va_wsS RX6 73 yX6_in wsX6_in) := goodIn_app (goodIn_of _ (by decide +kernel)) ggX6_data_X6_in
set_option maxRecDepth 20000 in
theorem ggX6_data_X6_sends : GoodIn wsX6_data wsX6_sends := goodIn_r _ [18, 19, 11, 1, 20, 21, 5, 22, 23, 24, 25, 26, 27, 28, 29, 30, 31, 32, 33, 34, 35, 36, 37, 38, 39, 40, 41, 42, 43, 44, 45, 46, 47, 48, 49] (by decide +kernel) (by decide +kernel)
set_option maxRecDepth 20000 in
theorem gX6_data_X6_sends : GoodIn wsX6_data (wsV RX6 88 RX6 yX6_sends wsX6_sends) := goodIn_app (goodIn_of _ (by decide +kernel)) ggX6_data_X6_sends
theorem dX6_data_0 : decode cX6_data 0 = .ok (.aload_n 0, 1) := by decide +kernel
theorem dX6_data_1 : decode cX6_data 1 = .ok (.iload_n 1, 1) := by decide +kernel
theorem dX6_data_2 : decode cX6_data 2 = .ok (.iload_n 2, 1) := by decide +kernel
theorem dX6_data_3 : decode cX6_data 3 = .ok (.invokevirtual 81, 3) := by decide +kernel
theorem dX6_data_6 : decode cX6_data 6 = .ok (.ifCond .eq 13, 3) := by decide +kernel
theorem dX6_data_9 : decode cX6_data 9 = .ok (.iload_n 3, 1) := by decide +kernel
theorem dX6_data_10 : decode cX6_data 10 = .ok (.iconst 0, 1) := by decide +kernel
theorem dX6_data_11 : decode cX6_data 11 = .ok (.bipush 7, 2) := by decide +kernel
theorem dX6_data_13 : decode cX6_data 13 = .ok (.invokestatic 73, 3) := by decide +kernel
theorem dX6_data_16 : decode cX6_data 16 = .ok (.ifCond .ne 6, 3) := by decide +kernel
theorem dX6_data_19 : decode cX6_data 19 = .ok (.bipush (-2), 2) := by decide +kernel
theorem dX6_data_21 : decode cX6_data 21 = .ok (.ireturn, 1) := by decide +kernel
theorem dX6_data_22 : decode cX6_data 22 = .ok (.aload_n 0, 1) := by decide +kernel
theorem dX6_data_23 : decode cX6_data 23 = .ok (.getfield 13, 3) := by decide +kernel
theorem dX6_data_26 : decode cX6_data 26 = .ok (.bipush 8, 2) := by decide +kernel
theorem dX6_data_28 : decode cX6_data 28 = .ok (.iload_n 1, 1) := by decide +kernel
theorem dX6_data_29 : decode cX6_data 29 = .ok (.imul, 1) := by decide +kernel
theorem dX6_data_30 : decode cX6_data 30 = .ok (.iload_n 2, 1) := by decide +kernel
theorem dX6_data_31 : decode cX6_data 31 = .ok (.iadd, 1) := by decide +kernel
theorem dX6_data_32 : decode cX6_data 32 = .ok (.iaload, 1) := by decide +kernel
theorem dX6_data_33 : decode cX6_data 33 = .ok (.istore 4, 2) := by decide +kernel
theorem dX6_data_35 : decode cX6_data 35 = .ok (.aload_n 0, 1) := by decide +kernel
theorem dX6_data_36 : decode cX6_data 36 = .ok (.getfield 13, 3) := by decide +kernel
theorem dX6_data_39 : decode cX6_data 39 = .ok (.bipush 8, 2) := by decide +kernel
theorem dX6_data_41 : decode cX6_data 41 = .ok (.iload_n 1, 1) := by decide +kernel
theorem dX6_data_42 : decode cX6_data 42 = .ok (.imul, 1) := by decide +kernel
theorem dX6_data_43 : decode cX6_data 43 = .ok (.iload_n 2, 1) := by decide +kernel
theorem dX6_data_44 : decode cX6_data 44 = .ok (.iadd, 1) := by decide +kernel
theorem dX6_data_45 : decode cX6_data 45 = .ok (.iload_n 3, 1) := by decide +kernel
theorem dX6_data_46 : decode cX6_data 46 = .ok (.iastore, 1) := by decide +kernel
theorem dX6_data_47 : decode cX6_data 47 = .ok (.aload_n 0, 1) := by decide +kernel
theorem dX6_data_48 : decode cX6_data 48 = .ok (.invokevirtual 88, 3) := by decide +kernel
theorem dX6_data_51 : decode cX6_data 51 = .ok (.iload 4, 2) := by decide +kernel
theorem dX6_data_53 : decode cX6_data 53 = .ok (.ireturn, 1) := by decide +kernel
abbrev rmX6_data : Room := { frames := 3, cells := 0, slots := 0, locals := 72 }
set_option maxRecDepth 100000 in
theorem hinX6_data_6 : ∀ w ∈ wsX60, w ∈ wsX6_data := by decide +kernel
set_option maxHeartbeats 4000000 in
set_option maxRecDepth 100000 in
theorem tX6_data_0 {h : AH} {a1 : Int32} {a2 : Int32} {a3 : Int32} {r0 : Int32} {h0 : AH} (C : Cx p rmX6_data s m args meth c RX6 cX6_data 5 (some .int) wsX6_data D ad cy tb 0 0) (hf : fX6_data h a1 a2 a3 = some (r0, h0)) : AW p l e rmX6_data s m args below meth c 5 D ad cy 0 0 (Qi D ad cy below args s r0 h0) 0 [(0, .ref (ad 29)), (1, .int a1), (2, .int a2), (3, .int a3)] [] h := by
  unfold fX6_data at hf
  refine aw_aload_n C dX6_data_0 rfl 0 rfl ?_
  refine aw_iload_n C dX6_data_1 rfl 1 rfl ?_
  refine aw_iload_n C dX6_data_2 rfl 2 rfl ?_
  obtain ⟨r1, hc, hf⟩ := bR_some hf
  refine aw_callVi (As := [.int a1, .int a2]) (rest := []) C rfl (by decide) rfl (kX6_isWord (l := l) (D := D) (ad := ad) (cy := cy) (tb := tb) C.2.2.2.2.2.2.2.2.1 hc) (fun ht _ => cwV 2 ht gX6_data_X6_isWord rfl rfl rfl (by decide +kernel) ⟨Nat.le_of_ble_eq_true rfl, Nat.le_of_ble_eq_true rfl⟩) rfl rfl (Nat.le_of_ble_eq_true rfl) dX6_data_3 ?_
  refine aw_if_eq (tgt := 19) C dX6_data_6 (by decide) hf (fun hf => ?_) (fun hf => ?_)
  · refine aw_bipush (v := (-2)) C dX6_data_19 (by decide) ?_
    exact aw_iretW C dX6_data_21 hf
  refine aw_iload_n C dX6_data_9 rfl 3 rfl ?_
  refine aw_iconst (v := 0) C dX6_data_10 (by decide) ?_
  refine aw_bipush (v := 7) C dX6_data_11 (by decide) ?_
  obtain ⟨r2, hc, hf⟩ := bR_some hf
  refine aw_callSi (As := [.int a3, .int 0, .int 7]) (rest := []) C (kX6_in (l := l) (D := D) (ad := ad) (cy := cy) (tb := tb) C.2.2.2.2.2.2.2.2.1 hc) (fun ht _ => va_cwS 3 ht gX6_data_X6_in rfl rfl rfl (by decide +kernel) ⟨Nat.le_of_ble_eq_true rfl, Nat.le_of_ble_eq_true rfl⟩) rfl rfl (Nat.le_of_ble_eq_true rfl) dX6_data_13 ?_
  refine aw_if_ne (tgt := 22) C dX6_data_16 (by decide) hf (fun hf => ?_) (fun hf => ?_)
  · refine aw_aload_n C dX6_data_22 rfl 0 rfl ?_
    refine aw_get C (kd_lt rfl (by decide)) (ce_6 rfl) rfl hinX6_data_6 2 (by decide) rfl (by decide +kernel) rfl dX6_data_23 ?_
    refine aw_bipush (v := 8) C dX6_data_26 (by decide) ?_
    refine aw_iload_n C dX6_data_28 rfl 1 rfl ?_
    refine aw_imul C dX6_data_29 ?_
    refine aw_iload_n C dX6_data_30 rfl 2 rfl ?_
    refine aw_iadd C dX6_data_31 ?_
    refine aw_nmI hf (fun v3 hf => ?_)
    refine aw_iald C rfl rfl hf dX6_data_32 (fun hf => ?_)
    refine aw_nmI hf (fun v4 hf => ?_)
    refine aw_istore (lv1 := [(4, .int v4), (0, .ref (ad 29)), (1, .int a1), (2, .int a2), (3, .int a3)]) C dX6_data_33 (by decide) rfl ?_
    refine aw_aload_n C dX6_data_35 rfl 1 rfl ?_
    refine aw_get C (kd_lt rfl (by decide)) (ce_6 rfl) rfl hinX6_data_6 2 (by decide) rfl (by decide +kernel) rfl dX6_data_36 ?_
    refine aw_bipush (v := 8) C dX6_data_39 (by decide) ?_
    refine aw_iload_n C dX6_data_41 rfl 2 rfl ?_
    refine aw_imul C dX6_data_42 ?_
    refine aw_iload_n C dX6_data_43 rfl 3 rfl ?_
    refine aw_iadd C dX6_data_44 ?_
    refine aw_iload_n C dX6_data_45 rfl 4 rfl ?_
    refine aw_nm2 hf (fun v5 hf => ?_)
    refine aw_iast C rfl rfl hf dX6_data_46 (fun hf => ?_)
    refine aw_nmH hf (fun h6 hf => ?_)
    refine aw_aload_n C dX6_data_47 rfl 1 rfl ?_
    obtain ⟨h7, hc, hf⟩ := bR_some hf
    refine aw_callVv (As := []) (rest := []) C rfl (by decide) rfl (kX6_sends (l := l) (D := D) (ad := ad) (cy := cy) (tb := tb) C.2.2.2.2.2.2.2.2.1 hc) (fun ht _ => cwV 0 ht gX6_data_X6_sends rfl rfl rfl (by decide +kernel) ⟨Nat.le_of_ble_eq_true rfl, Nat.le_of_ble_eq_true rfl⟩) rfl rfl (Nat.le_of_ble_eq_true rfl) dX6_data_48 ?_
    refine aw_iload C dX6_data_51 0 rfl ?_
    exact aw_iretW C dX6_data_53 hf
  refine aw_bipush (v := (-2)) C dX6_data_19 (by decide) ?_
  exact aw_iretW C dX6_data_21 hf
theorem kX6_data {h : AH} {a1 : Int32} {a2 : Int32} {a3 : Int32} {r0 : Int32} {h0 : AH} (hi : Inj ad) (hf : fX6_data h a1 a2 a3 = some (r0, h0)) : Ki l yX6_data wsX6_data rmX6_data D ad cy tb [.ref (ad 29), .int a1, .int a2, .int a3] h r0 h0 := met_i (lv := [(0, .ref (ad 29)), (1, .int a1), (2, .int a2), (3, .int a3)]) hi (by decide) rfl (Nat.le_of_ble_eq_true rfl) rfl rfl (fun _ _ _ _ _ _ _ _ C => tX6_data_0 C  hf)
set_option maxRecDepth 20000 in
theorem ggX5_isBit_X5_isBlock : GoodIn wsX5_isBit wsX5_isBlock := goodIn_r _ [5, 6, 10, 11, 12, 13, 14, 15, 16, 17, 18, 19, 20, 21] (by decide +kernel) (by decide +kernel)
set_option maxRecDepth 20000 in
theorem gX5_isBit_X5_isBlock : GoodIn wsX5_isBit (wsV RX5 106 RX5 yX5_isBlock wsX5_isBlock) := goodIn_app (goodIn_of _ (by decide +kernel)) ggX5_isBit_X5_isBlock
set_option maxRecDepth 20000 in
theorem ggX5_isBit_X5_isOctal : GoodIn wsX5_isBit wsX5_isOctal := goodIn_r _ [9] (by decide +kernel) (by decide +kernel)
set_option maxRecDepth 20000 in
theorem gX5_isBit_X5_isOctal : GoodIn wsX5_isBit (va_wsS RX5 78 yX5_isOctal wsX5_isOctal) := goodIn_app (goodIn_of _ (by decide +kernel)) ggX5_isBit_X5_isOctal
theorem dX5_isBit_0 : decode cX5_isBit 0 = .ok (.aload_n 0, 1) := by decide +kernel
theorem dX5_isBit_1 : decode cX5_isBit 1 = .ok (.iload_n 1, 1) := by decide +kernel
theorem dX5_isBit_2 : decode cX5_isBit 2 = .ok (.invokevirtual 106, 3) := by decide +kernel
theorem dX5_isBit_5 : decode cX5_isBit 5 = .ok (.ifCond .eq 21, 3) := by decide +kernel
theorem dX5_isBit_8 : decode cX5_isBit 8 = .ok (.iload_n 2, 1) := by decide +kernel
theorem dX5_isBit_9 : decode cX5_isBit 9 = .ok (.invokestatic 78, 3) := by decide +kernel
theorem dX5_isBit_12 : decode cX5_isBit 12 = .ok (.ifCond .eq 14, 3) := by decide +kernel
theorem dX5_isBit_15 : decode cX5_isBit 15 = .ok (.iload_n 3, 1) := by decide +kernel
theorem dX5_isBit_16 : decode cX5_isBit 16 = .ok (.invokestatic 78, 3) := by decide +kernel
theorem dX5_isBit_19 : decode cX5_isBit 19 = .ok (.ifCond .eq 7, 3) := by decide +kernel
theorem dX5_isBit_22 : decode cX5_isBit 22 = .ok (.iconst 1, 1) := by decide +kernel
theorem dX5_isBit_23 : decode cX5_isBit 23 = .ok (.goto 4, 3) := by decide +kernel
theorem dX5_isBit_26 : decode cX5_isBit 26 = .ok (.iconst 0, 1) := by decide +kernel
theorem dX5_isBit_27 : decode cX5_isBit 27 = .ok (.ireturn, 1) := by decide +kernel
abbrev rmX5_isBit : Room := { frames := 1, cells := 0, slots := 0, locals := 21 }
set_option maxHeartbeats 4000000 in
set_option maxRecDepth 100000 in
theorem tX5_isBit_0 {h : AH} {a1 : Int32} {a2 : Int32} {a3 : Int32} {r0 : Int32} (C : Cx p rmX5_isBit s m args meth c RX5 cX5_isBit 4 (some .boolean) wsX5_isBit D ad cy tb 0 0) (hf : fX5_isBit h a1 a2 a3 = some r0) : AW p l e rmX5_isBit s m args below meth c 4 D ad cy 0 0 (Qi D ad cy below args s r0 h) 0 [(0, .ref (ad 0)), (1, .int a1), (2, .int a2), (3, .int a3)] [] h := by
  unfold fX5_isBit at hf
  refine aw_aload_n C dX5_isBit_0 rfl 0 rfl ?_
  refine aw_iload_n C dX5_isBit_1 rfl 1 rfl ?_
  obtain ⟨r1, hc, hf⟩ := bR_some hf
  refine aw_callVi (As := [.int a1]) (rest := []) C rfl (by decide) rfl (kX5_isBlock (l := l) (D := D) (ad := ad) (cy := cy) (tb := tb) C.2.2.2.2.2.2.2.2.1 hc) (fun ht _ => cwV 1 ht gX5_isBit_X5_isBlock rfl rfl rfl (by decide +kernel) ⟨Nat.le_of_ble_eq_true rfl, Nat.le_of_ble_eq_true rfl⟩) rfl rfl (Nat.le_of_ble_eq_true rfl) dX5_isBit_2 ?_
  refine aw_if_eq (tgt := 26) C dX5_isBit_5 (by decide) hf (fun hf => ?_) (fun hf => ?_)
  · refine aw_iconst (v := 0) C dX5_isBit_26 (by decide) ?_
    exact aw_zretR C (by decide) dX5_isBit_27 hf
  refine aw_iload_n C dX5_isBit_8 rfl 2 rfl ?_
  obtain ⟨r2, hc, hf⟩ := bR_some hf
  refine aw_callSi (As := [.int a2]) (rest := []) C (kX5_isOctal (l := l) (D := D) (ad := ad) (cy := cy) (tb := tb) C.2.2.2.2.2.2.2.2.1 hc) (fun ht _ => va_cwS 1 ht gX5_isBit_X5_isOctal rfl rfl rfl (by decide +kernel) ⟨Nat.le_of_ble_eq_true rfl, Nat.le_of_ble_eq_true rfl⟩) rfl rfl (Nat.le_of_ble_eq_true rfl) dX5_isBit_9 ?_
  refine aw_if_eq (tgt := 26) C dX5_isBit_12 (by decide) hf (fun hf => ?_) (fun hf => ?_)
  · refine aw_iconst (v := 0) C dX5_isBit_26 (by decide) ?_
    exact aw_zretR C (by decide) dX5_isBit_27 hf
  refine aw_iload_n C dX5_isBit_15 rfl 3 rfl ?_
  obtain ⟨r3, hc, hf⟩ := bR_some hf
  refine aw_callSi (As := [.int a3]) (rest := []) C (kX5_isOctal (l := l) (D := D) (ad := ad) (cy := cy) (tb := tb) C.2.2.2.2.2.2.2.2.1 hc) (fun ht _ => va_cwS 1 ht gX5_isBit_X5_isOctal rfl rfl rfl (by decide +kernel) ⟨Nat.le_of_ble_eq_true rfl, Nat.le_of_ble_eq_true rfl⟩) rfl rfl (Nat.le_of_ble_eq_true rfl) dX5_isBit_16 ?_
  refine aw_if_eq (tgt := 26) C dX5_isBit_19 (by decide) hf (fun hf => ?_) (fun hf => ?_)
  · refine aw_iconst (v := 0) C dX5_isBit_26 (by decide) ?_
    exact aw_zretR C (by decide) dX5_isBit_27 hf
  refine aw_iconst (v := 1) C dX5_isBit_22 (by decide) ?_
  refine aw_goto (tgt := 27) C dX5_isBit_23 (by decide) ?_
  exact aw_zretR C (by decide) dX5_isBit_27 hf
theorem kX5_isBit {h : AH} {a1 : Int32} {a2 : Int32} {a3 : Int32} {r0 : Int32} (hi : Inj ad) (hf : fX5_isBit h a1 a2 a3 = some r0) : Ki l yX5_isBit wsX5_isBit rmX5_isBit D ad cy tb [.ref (ad 0), .int a1, .int a2, .int a3] h r0 h := met_i (lv := [(0, .ref (ad 0)), (1, .int a1), (2, .int a2), (3, .int a3)]) hi (by decide) rfl (Nat.le_of_ble_eq_true rfl) rfl rfl (fun _ _ _ _ _ _ _ _ C => tX5_isBit_0 C  hf)
theorem dX5_bitNumber_0 : decode cX5_bitNumber 0 = .ok (.bipush 64, 2) := by decide +kernel
theorem dX5_bitNumber_2 : decode cX5_bitNumber 2 = .ok (.iload_n 0, 1) := by decide +kernel
theorem dX5_bitNumber_3 : decode cX5_bitNumber 3 = .ok (.imul, 1) := by decide +kernel
theorem dX5_bitNumber_4 : decode cX5_bitNumber 4 = .ok (.bipush 8, 2) := by decide +kernel
theorem dX5_bitNumber_6 : decode cX5_bitNumber 6 = .ok (.iload_n 1, 1) := by decide +kernel
theorem dX5_bitNumber_7 : decode cX5_bitNumber 7 = .ok (.imul, 1) := by decide +kernel
theorem dX5_bitNumber_8 : decode cX5_bitNumber 8 = .ok (.iadd, 1) := by decide +kernel
theorem dX5_bitNumber_9 : decode cX5_bitNumber 9 = .ok (.iload_n 2, 1) := by decide +kernel
theorem dX5_bitNumber_10 : decode cX5_bitNumber 10 = .ok (.iadd, 1) := by decide +kernel
theorem dX5_bitNumber_11 : decode cX5_bitNumber 11 = .ok (.ireturn, 1) := by decide +kernel
abbrev rmX5_bitNumber : Room := { frames := 0, cells := 0, slots := 0, locals := 0 }
set_option maxHeartbeats 4000000 in
set_option maxRecDepth 100000 in
theorem tX5_bitNumber_0 {h : AH} {a0 : Int32} {a1 : Int32} {a2 : Int32} {r0 : Int32} (C : Cx p rmX5_bitNumber s m args meth c RX5 cX5_bitNumber 3 (some .int) wsX5_bitNumber D ad cy tb 0 0) (hf : fX5_bitNumber h a0 a1 a2 = some r0) : AW p l e rmX5_bitNumber s m args below meth c 3 D ad cy 0 0 (Qi D ad cy below args s r0 h) 0 [(0, .int a0), (1, .int a1), (2, .int a2)] [] h := by
  unfold fX5_bitNumber at hf
  refine aw_bipush (v := 64) C dX5_bitNumber_0 (by decide) ?_
  refine aw_iload_n C dX5_bitNumber_2 rfl 0 rfl ?_
  refine aw_imul C dX5_bitNumber_3 ?_
  refine aw_bipush (v := 8) C dX5_bitNumber_4 (by decide) ?_
  refine aw_iload_n C dX5_bitNumber_6 rfl 1 rfl ?_
  refine aw_imul C dX5_bitNumber_7 ?_
  refine aw_iadd C dX5_bitNumber_8 ?_
  refine aw_iload_n C dX5_bitNumber_9 rfl 2 rfl ?_
  refine aw_iadd C dX5_bitNumber_10 ?_
  exact aw_iretR C dX5_bitNumber_11 hf
theorem kX5_bitNumber {h : AH} {a0 : Int32} {a1 : Int32} {a2 : Int32} {r0 : Int32} (hi : Inj ad) (hf : fX5_bitNumber h a0 a1 a2 = some r0) : Ki l yX5_bitNumber wsX5_bitNumber rmX5_bitNumber D ad cy tb [.int a0, .int a1, .int a2] h r0 h := met_i (lv := [(0, .int a0), (1, .int a1), (2, .int a2)]) hi (by decide) rfl (Nat.le_of_ble_eq_true rfl) rfl rfl (fun _ _ _ _ _ _ _ _ C => tX5_bitNumber_0 C  hf)
theorem dX4_turnBit_0 : decode cX4_turnBit 0 = .ok (.iload_n 1, 1) := by decide +kernel
theorem dX4_turnBit_1 : decode cX4_turnBit 1 = .ok (.bipush 6, 2) := by decide +kernel
theorem dX4_turnBit_3 : decode cX4_turnBit 3 = .ok (.ishr, 1) := by decide +kernel
theorem dX4_turnBit_4 : decode cX4_turnBit 4 = .ok (.istore_n 2, 1) := by decide +kernel
theorem dX4_turnBit_5 : decode cX4_turnBit 5 = .ok (.iload_n 1, 1) := by decide +kernel
theorem dX4_turnBit_6 : decode cX4_turnBit 6 = .ok (.iconst 3, 1) := by decide +kernel
theorem dX4_turnBit_7 : decode cX4_turnBit 7 = .ok (.ishr, 1) := by decide +kernel
theorem dX4_turnBit_8 : decode cX4_turnBit 8 = .ok (.bipush 7, 2) := by decide +kernel
theorem dX4_turnBit_10 : decode cX4_turnBit 10 = .ok (.iand, 1) := by decide +kernel
theorem dX4_turnBit_11 : decode cX4_turnBit 11 = .ok (.istore_n 3, 1) := by decide +kernel
theorem dX4_turnBit_12 : decode cX4_turnBit 12 = .ok (.iload_n 1, 1) := by decide +kernel
theorem dX4_turnBit_13 : decode cX4_turnBit 13 = .ok (.bipush 7, 2) := by decide +kernel
theorem dX4_turnBit_15 : decode cX4_turnBit 15 = .ok (.iand, 1) := by decide +kernel
theorem dX4_turnBit_16 : decode cX4_turnBit 16 = .ok (.istore 4, 2) := by decide +kernel
theorem dX4_turnBit_18 : decode cX4_turnBit 18 = .ok (.aload_n 0, 1) := by decide +kernel
theorem dX4_turnBit_19 : decode cX4_turnBit 19 = .ok (.getfield 15, 3) := by decide +kernel
theorem dX4_turnBit_22 : decode cX4_turnBit 22 = .ok (.iload_n 2, 1) := by decide +kernel
theorem dX4_turnBit_23 : decode cX4_turnBit 23 = .ok (.dup2, 1) := by decide +kernel
theorem dX4_turnBit_24 : decode cX4_turnBit 24 = .ok (.laload, 1) := by decide +kernel
theorem dX4_turnBit_25 : decode cX4_turnBit 25 = .ok (.lconst 1, 1) := by decide +kernel
theorem dX4_turnBit_26 : decode cX4_turnBit 26 = .ok (.iload_n 1, 1) := by decide +kernel
theorem dX4_turnBit_27 : decode cX4_turnBit 27 = .ok (.bipush 63, 2) := by decide +kernel
theorem dX4_turnBit_29 : decode cX4_turnBit 29 = .ok (.iand, 1) := by decide +kernel
theorem dX4_turnBit_30 : decode cX4_turnBit 30 = .ok (.lshl, 1) := by decide +kernel
theorem dX4_turnBit_31 : decode cX4_turnBit 31 = .ok (.lxor, 1) := by decide +kernel
theorem dX4_turnBit_32 : decode cX4_turnBit 32 = .ok (.lastore, 1) := by decide +kernel
theorem dX4_turnBit_33 : decode cX4_turnBit 33 = .ok (.aload_n 0, 1) := by decide +kernel
theorem dX4_turnBit_34 : decode cX4_turnBit 34 = .ok (.getfield 19, 3) := by decide +kernel
theorem dX4_turnBit_37 : decode cX4_turnBit 37 = .ok (.iload_n 1, 1) := by decide +kernel
theorem dX4_turnBit_38 : decode cX4_turnBit 38 = .ok (.iconst 3, 1) := by decide +kernel
theorem dX4_turnBit_39 : decode cX4_turnBit 39 = .ok (.ishr, 1) := by decide +kernel
theorem dX4_turnBit_40 : decode cX4_turnBit 40 = .ok (.dup2, 1) := by decide +kernel
theorem dX4_turnBit_41 : decode cX4_turnBit 41 = .ok (.iaload, 1) := by decide +kernel
theorem dX4_turnBit_42 : decode cX4_turnBit 42 = .ok (.bipush 16, 2) := by decide +kernel
theorem dX4_turnBit_44 : decode cX4_turnBit 44 = .ok (.getstatic 38, 3) := by decide +kernel
theorem dX4_turnBit_47 : decode cX4_turnBit 47 = .ok (.bipush 8, 2) := by decide +kernel
theorem dX4_turnBit_49 : decode cX4_turnBit 49 = .ok (.iload 4, 2) := by decide +kernel
theorem dX4_turnBit_51 : decode cX4_turnBit 51 = .ok (.iadd, 1) := by decide +kernel
theorem dX4_turnBit_52 : decode cX4_turnBit 52 = .ok (.iaload, 1) := by decide +kernel
theorem dX4_turnBit_53 : decode cX4_turnBit 53 = .ok (.ior, 1) := by decide +kernel
theorem dX4_turnBit_54 : decode cX4_turnBit 54 = .ok (.ixor, 1) := by decide +kernel
theorem dX4_turnBit_55 : decode cX4_turnBit 55 = .ok (.iastore, 1) := by decide +kernel
theorem dX4_turnBit_56 : decode cX4_turnBit 56 = .ok (.iload_n 2, 1) := by decide +kernel
theorem dX4_turnBit_57 : decode cX4_turnBit 57 = .ok (.aload_n 0, 1) := by decide +kernel
theorem dX4_turnBit_58 : decode cX4_turnBit 58 = .ok (.getfield 9, 3) := by decide +kernel
theorem dX4_turnBit_61 : decode cX4_turnBit 61 = .ok (.if_icmp .ge 28, 3) := by decide +kernel
theorem dX4_turnBit_64 : decode cX4_turnBit 64 = .ok (.aload_n 0, 1) := by decide +kernel
theorem dX4_turnBit_65 : decode cX4_turnBit 65 = .ok (.getfield 19, 3) := by decide +kernel
theorem dX4_turnBit_68 : decode cX4_turnBit 68 = .ok (.bipush 8, 2) := by decide +kernel
theorem dX4_turnBit_70 : decode cX4_turnBit 70 = .ok (.iload_n 2, 1) := by decide +kernel
theorem dX4_turnBit_71 : decode cX4_turnBit 71 = .ok (.iconst 1, 1) := by decide +kernel
theorem dX4_turnBit_72 : decode cX4_turnBit 72 = .ok (.iadd, 1) := by decide +kernel
theorem dX4_turnBit_73 : decode cX4_turnBit 73 = .ok (.imul, 1) := by decide +kernel
theorem dX4_turnBit_74 : decode cX4_turnBit 74 = .ok (.iload 4, 2) := by decide +kernel
theorem dX4_turnBit_76 : decode cX4_turnBit 76 = .ok (.iadd, 1) := by decide +kernel
theorem dX4_turnBit_77 : decode cX4_turnBit 77 = .ok (.dup2, 1) := by decide +kernel
theorem dX4_turnBit_78 : decode cX4_turnBit 78 = .ok (.iaload, 1) := by decide +kernel
theorem dX4_turnBit_79 : decode cX4_turnBit 79 = .ok (.bipush 16, 2) := by decide +kernel
theorem dX4_turnBit_81 : decode cX4_turnBit 81 = .ok (.getstatic 38, 3) := by decide +kernel
theorem dX4_turnBit_84 : decode cX4_turnBit 84 = .ok (.iload_n 3, 1) := by decide +kernel
theorem dX4_turnBit_85 : decode cX4_turnBit 85 = .ok (.iaload, 1) := by decide +kernel
theorem dX4_turnBit_86 : decode cX4_turnBit 86 = .ok (.ior, 1) := by decide +kernel
theorem dX4_turnBit_87 : decode cX4_turnBit 87 = .ok (.ixor, 1) := by decide +kernel
theorem dX4_turnBit_88 : decode cX4_turnBit 88 = .ok (.iastore, 1) := by decide +kernel
theorem dX4_turnBit_89 : decode cX4_turnBit 89 = .ok (.return_, 1) := by decide +kernel
abbrev rmX4_turnBit : Room := { frames := 0, cells := 0, slots := 0, locals := 0 }
set_option maxRecDepth 100000 in
theorem hinX4_turnBit_4 : ∀ w ∈ wsX40, w ∈ wsX4_turnBit := by decide +kernel
set_option maxHeartbeats 4000000 in
set_option maxRecDepth 100000 in
theorem tX4_turnBit_0 {h : AH} {a0 : Nat} {a1 : Int32} {h0 : AH} (C : Cx p rmX4_turnBit s m args meth c RX4 cX4_turnBit 5 none wsX4_turnBit D ad cy tb 0 0) (hk0 : kd a0 = 4) (hf : fX4_turnBit h a0 a1 = some h0) : AW p l e rmX4_turnBit s m args below meth c 5 D ad cy 0 0 (Qv D ad cy below args s h0) 0 [(0, .ref (ad a0)), (1, .int a1)] [] h := by
  unfold fX4_turnBit at hf
  refine aw_iload_n C dX4_turnBit_0 rfl 1 rfl ?_
  refine aw_bipush (v := 6) C dX4_turnBit_1 (by decide) ?_
  refine aw_ishr C dX4_turnBit_3 ?_
  refine aw_nmI hf (fun v1 hf => ?_)
  refine aw_istore_n (lv1 := [(2, .int v1), (0, .ref (ad a0)), (1, .int a1)]) C dX4_turnBit_4 rfl (by decide) rfl ?_
  refine aw_iload_n C dX4_turnBit_5 rfl 2 rfl ?_
  refine aw_iconst (v := 3) C dX4_turnBit_6 (by decide) ?_
  refine aw_ishr C dX4_turnBit_7 ?_
  refine aw_bipush (v := 7) C dX4_turnBit_8 (by decide) ?_
  refine aw_iand C dX4_turnBit_10 ?_
  refine aw_nmI hf (fun v2 hf => ?_)
  refine aw_istore_n (lv1 := [(3, .int v2), (2, .int v1), (0, .ref (ad a0)), (1, .int a1)]) C dX4_turnBit_11 rfl (by decide) rfl ?_
  refine aw_iload_n C dX4_turnBit_12 rfl 3 rfl ?_
  refine aw_bipush (v := 7) C dX4_turnBit_13 (by decide) ?_
  refine aw_iand C dX4_turnBit_15 ?_
  refine aw_nmI hf (fun v3 hf => ?_)
  refine aw_istore (lv1 := [(4, .int v3), (3, .int v2), (2, .int v1), (0, .ref (ad a0)), (1, .int a1)]) C dX4_turnBit_16 (by decide) rfl ?_
  refine aw_aload_n C dX4_turnBit_18 rfl 3 rfl ?_
  refine aw_get C (kd_lt hk0 (by decide)) (ce_4 hk0) rfl hinX4_turnBit_4 1 (by decide) rfl (by decide +kernel) rfl dX4_turnBit_19 ?_
  refine aw_iload_n C dX4_turnBit_22 rfl 2 rfl ?_
  refine aw_dup2 C dX4_turnBit_23 rfl rfl ?_
  refine aw_lald C (kd4a hk0) (ln4a hk0) hf dX4_turnBit_24 (fun hf => ?_)
  refine aw_lconst (v := 1) C dX4_turnBit_25 (by decide) ?_
  refine aw_iload_n C dX4_turnBit_26 rfl 4 rfl ?_
  refine aw_bipush (v := 63) C dX4_turnBit_27 (by decide) ?_
  refine aw_iand C dX4_turnBit_29 ?_
  refine aw_lshl C dX4_turnBit_30 ?_
  refine aw_lxor C dX4_turnBit_31 ?_
  refine aw_last C (kd4a hk0) (ln4a hk0) hf dX4_turnBit_32 (fun hf => ?_)
  refine aw_nmH hf (fun h4 hf => ?_)
  refine aw_aload_n C dX4_turnBit_33 rfl 3 rfl ?_
  refine aw_get C (kd_lt hk0 (by decide)) (ce_4 hk0) rfl hinX4_turnBit_4 2 (by decide) rfl (by decide +kernel) rfl dX4_turnBit_34 ?_
  refine aw_iload_n C dX4_turnBit_37 rfl 4 rfl ?_
  refine aw_iconst (v := 3) C dX4_turnBit_38 (by decide) ?_
  refine aw_ishr C dX4_turnBit_39 ?_
  refine aw_nmI hf (fun v5 hf => ?_)
  refine aw_dup2 C dX4_turnBit_40 rfl rfl ?_
  refine aw_iald C (kd4b hk0) (ln4b hk0) hf dX4_turnBit_41 (fun hf => ?_)
  refine aw_bipush (v := 16) C dX4_turnBit_42 (by decide) ?_
  refine aw_gtab0 C (by decide +kernel) dX4_turnBit_44 ?_
  refine aw_bipush (v := 8) C dX4_turnBit_47 (by decide) ?_
  refine aw_iload C dX4_turnBit_49 0 rfl ?_
  refine aw_iadd C dX4_turnBit_51 ?_
  refine aw_nmI hf (fun v6 hf => ?_)
  refine aw_ltab0 C hf dX4_turnBit_52 (fun hf => ?_)
  refine aw_ior C dX4_turnBit_53 ?_
  refine aw_ixor C dX4_turnBit_54 ?_
  refine aw_iast C (kd4b hk0) (ln4b hk0) hf dX4_turnBit_55 (fun hf => ?_)
  refine aw_nmH hf (fun h7 hf => ?_)
  refine aw_iload_n C dX4_turnBit_56 rfl 2 rfl ?_
  refine aw_aload_n C dX4_turnBit_57 rfl 3 rfl ?_
  refine aw_get C (kd_lt hk0 (by decide)) (ce_4 hk0) rfl hinX4_turnBit_4 0 (by decide) rfl (by decide +kernel) rfl dX4_turnBit_58 ?_
  refine aw_icmp_ge (tgt := 89) C dX4_turnBit_61 (by decide) hf (fun hf => ?_) (fun hf => ?_)
  · exact aw_vret C dX4_turnBit_89 hf
  refine aw_aload_n C dX4_turnBit_64 rfl 3 rfl ?_
  refine aw_get C (kd_lt hk0 (by decide)) (ce_4 hk0) rfl hinX4_turnBit_4 2 (by decide) rfl (by decide +kernel) rfl dX4_turnBit_65 ?_
  refine aw_bipush (v := 8) C dX4_turnBit_68 (by decide) ?_
  refine aw_iload_n C dX4_turnBit_70 rfl 2 rfl ?_
  refine aw_iconst (v := 1) C dX4_turnBit_71 (by decide) ?_
  refine aw_iadd C dX4_turnBit_72 ?_
  refine aw_imul C dX4_turnBit_73 ?_
  refine aw_iload C dX4_turnBit_74 0 rfl ?_
  refine aw_iadd C dX4_turnBit_76 ?_
  refine aw_nmI hf (fun v8 hf => ?_)
  refine aw_dup2 C dX4_turnBit_77 rfl rfl ?_
  refine aw_iald C (kd4b hk0) (ln4b hk0) hf dX4_turnBit_78 (fun hf => ?_)
  refine aw_bipush (v := 16) C dX4_turnBit_79 (by decide) ?_
  refine aw_gtab0 C (by decide +kernel) dX4_turnBit_81 ?_
  refine aw_iload_n C dX4_turnBit_84 rfl 1 rfl ?_
  refine aw_ltab0 C hf dX4_turnBit_85 (fun hf => ?_)
  refine aw_ior C dX4_turnBit_86 ?_
  refine aw_ixor C dX4_turnBit_87 ?_
  refine aw_iast C (kd4b hk0) (ln4b hk0) hf dX4_turnBit_88 (fun hf => ?_)
  refine aw_nmH hf (fun h9 hf => ?_)
  exact aw_vret C dX4_turnBit_89 hf
theorem kX4_turnBit {h : AH} {a0 : Nat} {a1 : Int32} {h0 : AH} (hi : Inj ad) (hk0 : kd a0 = 4) (hf : fX4_turnBit h a0 a1 = some h0) : Kv l yX4_turnBit wsX4_turnBit rmX4_turnBit D ad cy tb [.ref (ad a0), .int a1] h h0 := met_v (lv := [(0, .ref (ad a0)), (1, .int a1)]) hi (by decide) rfl (Nat.le_of_ble_eq_true rfl) rfl rfl (fun _ _ _ _ _ _ _ _ C => tX4_turnBit_0 C hk0 hf)
set_option maxRecDepth 20000 in
theorem ggX5_hitBit_X4_turnBit : GoodIn wsX5_hitBit wsX4_turnBit := goodIn_r _ [7, 8, 9, 10, 20, 21, 22] (by decide +kernel) (by decide +kernel)
set_option maxRecDepth 20000 in
theorem gX5_hitBit_X4_turnBit : GoodIn wsX5_hitBit (wsV RX5 176 RX4 yX4_turnBit wsX4_turnBit) := goodIn_app (goodIn_of _ (by decide +kernel)) ggX5_hitBit_X4_turnBit
theorem dX5_hitBit_0 : decode cX5_hitBit 0 = .ok (.aload_n 0, 1) := by decide +kernel
theorem dX5_hitBit_1 : decode cX5_hitBit 1 = .ok (.getfield 12, 3) := by decide +kernel
theorem dX5_hitBit_4 : decode cX5_hitBit 4 = .ok (.iload_n 1, 1) := by decide +kernel
theorem dX5_hitBit_5 : decode cX5_hitBit 5 = .ok (.invokevirtual 176, 3) := by decide +kernel
theorem dX5_hitBit_8 : decode cX5_hitBit 8 = .ok (.aload_n 0, 1) := by decide +kernel
theorem dX5_hitBit_9 : decode cX5_hitBit 9 = .ok (.getfield 26, 3) := by decide +kernel
theorem dX5_hitBit_12 : decode cX5_hitBit 12 = .ok (.iload_n 1, 1) := by decide +kernel
theorem dX5_hitBit_13 : decode cX5_hitBit 13 = .ok (.bipush 6, 2) := by decide +kernel
theorem dX5_hitBit_15 : decode cX5_hitBit 15 = .ok (.ishr, 1) := by decide +kernel
theorem dX5_hitBit_16 : decode cX5_hitBit 16 = .ok (.dup2, 1) := by decide +kernel
theorem dX5_hitBit_17 : decode cX5_hitBit 17 = .ok (.laload, 1) := by decide +kernel
theorem dX5_hitBit_18 : decode cX5_hitBit 18 = .ok (.lconst 1, 1) := by decide +kernel
theorem dX5_hitBit_19 : decode cX5_hitBit 19 = .ok (.iload_n 1, 1) := by decide +kernel
theorem dX5_hitBit_20 : decode cX5_hitBit 20 = .ok (.bipush 63, 2) := by decide +kernel
theorem dX5_hitBit_22 : decode cX5_hitBit 22 = .ok (.iand, 1) := by decide +kernel
theorem dX5_hitBit_23 : decode cX5_hitBit 23 = .ok (.lshl, 1) := by decide +kernel
theorem dX5_hitBit_24 : decode cX5_hitBit 24 = .ok (.lxor, 1) := by decide +kernel
theorem dX5_hitBit_25 : decode cX5_hitBit 25 = .ok (.lastore, 1) := by decide +kernel
theorem dX5_hitBit_26 : decode cX5_hitBit 26 = .ok (.return_, 1) := by decide +kernel
abbrev rmX5_hitBit : Room := { frames := 1, cells := 0, slots := 0, locals := 24 }
set_option maxRecDepth 100000 in
theorem hinX5_hitBit_5 : ∀ w ∈ wsX50, w ∈ wsX5_hitBit := by decide +kernel
set_option maxHeartbeats 4000000 in
set_option maxRecDepth 100000 in
theorem tX5_hitBit_0 {h : AH} {a1 : Int32} {h0 : AH} (C : Cx p rmX5_hitBit s m args meth c RX5 cX5_hitBit 2 none wsX5_hitBit D ad cy tb 0 0) (hf : fX5_hitBit h a1 = some h0) : AW p l e rmX5_hitBit s m args below meth c 2 D ad cy 0 0 (Qv D ad cy below args s h0) 0 [(0, .ref (ad 0)), (1, .int a1)] [] h := by
  unfold fX5_hitBit at hf
  refine aw_aload_n C dX5_hitBit_0 rfl 0 rfl ?_
  refine aw_get C (kd_lt rfl (by decide)) (ce_5 rfl) rfl hinX5_hitBit_5 0 (by decide) rfl (by decide +kernel) rfl dX5_hitBit_1 ?_
  refine aw_iload_n C dX5_hitBit_4 rfl 1 rfl ?_
  obtain ⟨h1, hc, hf⟩ := bR_some hf
  refine aw_callVv (As := [.int a1]) (rest := []) C rfl (by decide) rfl (kX4_turnBit (l := l) (D := D) (ad := ad) (cy := cy) (tb := tb) C.2.2.2.2.2.2.2.2.1 rfl hc) (fun ht _ => cwV 1 ht gX5_hitBit_X4_turnBit rfl rfl rfl (by decide +kernel) ⟨Nat.le_of_ble_eq_true rfl, Nat.le_of_ble_eq_true rfl⟩) rfl rfl (Nat.le_of_ble_eq_true rfl) dX5_hitBit_5 ?_
  refine aw_aload_n C dX5_hitBit_8 rfl 0 rfl ?_
  refine aw_get C (kd_lt rfl (by decide)) (ce_5 rfl) rfl hinX5_hitBit_5 3 (by decide) rfl (by decide +kernel) rfl dX5_hitBit_9 ?_
  refine aw_iload_n C dX5_hitBit_12 rfl 1 rfl ?_
  refine aw_bipush (v := 6) C dX5_hitBit_13 (by decide) ?_
  refine aw_ishr C dX5_hitBit_15 ?_
  refine aw_nmI hf (fun v2 hf => ?_)
  refine aw_dup2 C dX5_hitBit_16 rfl rfl ?_
  refine aw_lald C rfl rfl hf dX5_hitBit_17 (fun hf => ?_)
  refine aw_lconst (v := 1) C dX5_hitBit_18 (by decide) ?_
  refine aw_iload_n C dX5_hitBit_19 rfl 1 rfl ?_
  refine aw_bipush (v := 63) C dX5_hitBit_20 (by decide) ?_
  refine aw_iand C dX5_hitBit_22 ?_
  refine aw_lshl C dX5_hitBit_23 ?_
  refine aw_lxor C dX5_hitBit_24 ?_
  refine aw_last C rfl rfl hf dX5_hitBit_25 (fun hf => ?_)
  refine aw_nmH hf (fun h3 hf => ?_)
  exact aw_vret C dX5_hitBit_26 hf
theorem kX5_hitBit {h : AH} {a1 : Int32} {h0 : AH} (hi : Inj ad) (hf : fX5_hitBit h a1 = some h0) : Kv l yX5_hitBit wsX5_hitBit rmX5_hitBit D ad cy tb [.ref (ad 0), .int a1] h h0 := met_v (lv := [(0, .ref (ad 0)), (1, .int a1)]) hi (by decide) rfl (Nat.le_of_ble_eq_true rfl) rfl rfl (fun _ _ _ _ _ _ _ _ C => tX5_hitBit_0 C  hf)
set_option maxRecDepth 20000 in
theorem ggX4_wrongBits_J13_bitCount_95d88 : GoodIn wsX4_wrongBits wsJ13_bitCount_95d88 := goodIn_r _ [6, 7, 8, 9] (by decide +kernel) (by decide +kernel)
set_option maxRecDepth 20000 in
theorem gX4_wrongBits_J13_bitCount_95d88 : GoodIn wsX4_wrongBits (va_wsS RX4 67 yJ13_bitCount_95d88 wsJ13_bitCount_95d88) := goodIn_app (goodIn_of _ (by decide +kernel)) ggX4_wrongBits_J13_bitCount_95d88
theorem dX4_wrongBits_0 : decode cX4_wrongBits 0 = .ok (.iconst 0, 1) := by decide +kernel
theorem dX4_wrongBits_1 : decode cX4_wrongBits 1 = .ok (.istore_n 1, 1) := by decide +kernel
theorem dX4_wrongBits_2 : decode cX4_wrongBits 2 = .ok (.iconst 1, 1) := by decide +kernel
theorem dX4_wrongBits_3 : decode cX4_wrongBits 3 = .ok (.istore_n 2, 1) := by decide +kernel
theorem dX4_wrongBits_4 : decode cX4_wrongBits 4 = .ok (.iload_n 2, 1) := by decide +kernel
theorem dX4_wrongBits_5 : decode cX4_wrongBits 5 = .ok (.aload_n 0, 1) := by decide +kernel
theorem dX4_wrongBits_6 : decode cX4_wrongBits 6 = .ok (.getfield 9, 3) := by decide +kernel
theorem dX4_wrongBits_9 : decode cX4_wrongBits 9 = .ok (.if_icmp .gt 21, 3) := by decide +kernel
theorem dX4_wrongBits_12 : decode cX4_wrongBits 12 = .ok (.iload_n 1, 1) := by decide +kernel
theorem dX4_wrongBits_13 : decode cX4_wrongBits 13 = .ok (.aload_n 0, 1) := by decide +kernel
theorem dX4_wrongBits_14 : decode cX4_wrongBits 14 = .ok (.getfield 15, 3) := by decide +kernel
theorem dX4_wrongBits_17 : decode cX4_wrongBits 17 = .ok (.iload_n 2, 1) := by decide +kernel
theorem dX4_wrongBits_18 : decode cX4_wrongBits 18 = .ok (.laload, 1) := by decide +kernel
theorem dX4_wrongBits_19 : decode cX4_wrongBits 19 = .ok (.invokestatic 67, 3) := by decide +kernel
theorem dX4_wrongBits_22 : decode cX4_wrongBits 22 = .ok (.iadd, 1) := by decide +kernel
theorem dX4_wrongBits_23 : decode cX4_wrongBits 23 = .ok (.istore_n 1, 1) := by decide +kernel
theorem dX4_wrongBits_24 : decode cX4_wrongBits 24 = .ok (.iinc 2 1, 3) := by decide +kernel
theorem dX4_wrongBits_27 : decode cX4_wrongBits 27 = .ok (.goto (-23), 3) := by decide +kernel
theorem dX4_wrongBits_30 : decode cX4_wrongBits 30 = .ok (.iload_n 1, 1) := by decide +kernel
theorem dX4_wrongBits_31 : decode cX4_wrongBits 31 = .ok (.ireturn, 1) := by decide +kernel
abbrev rmX4_wrongBits : Room := { frames := 1, cells := 0, slots := 0, locals := 21 }
set_option maxRecDepth 100000 in
theorem hinX4_wrongBits_4 : ∀ w ∈ wsX40, w ∈ wsX4_wrongBits := by decide +kernel
set_option maxHeartbeats 4000000 in
set_option maxRecDepth 100000 in
theorem tX4_wrongBits_4b {h : AH} {a0 : Nat} {k4 : Int32 → Int32 → Option Int32} {x1 : Int32} {x2 : Int32} {r0 : Int32} (C : Cx p rmX4_wrongBits s m args meth c RX4 cX4_wrongBits 3 (some .int) wsX4_wrongBits D ad cy tb 0 0) (hk0 : kd a0 = 4) (H4 : ∀ (x1 : Int32) (x2 : Int32), k4 x1 x2 = some r0 → AW p l e rmX4_wrongBits s m args below meth c 3 D ad cy 0 0 (Qi D ad cy below args s r0 h) 4 [(0, .ref (ad a0)), (1, .int x1), (2, .int x2)] [] h) (hf : fX4_wrongBits_4b k4 h a0 x1 x2 = some r0) : AW p l e rmX4_wrongBits s m args below meth c 3 D ad cy 0 0 (Qi D ad cy below args s r0 h) 4 [(0, .ref (ad a0)), (1, .int x1), (2, .int x2)] [] h := by
  unfold fX4_wrongBits_4b at hf
  refine aw_iload_n C dX4_wrongBits_4 rfl 2 rfl ?_
  refine aw_aload_n C dX4_wrongBits_5 rfl 0 rfl ?_
  refine aw_get C (kd_lt hk0 (by decide)) (ce_4 hk0) rfl hinX4_wrongBits_4 0 (by decide) rfl (by decide +kernel) rfl dX4_wrongBits_6 ?_
  refine aw_icmp_gt (tgt := 30) C dX4_wrongBits_9 (by decide) hf (fun hf => ?_) (fun hf => ?_)
  · refine aw_iload_n C dX4_wrongBits_30 rfl 1 rfl ?_
    exact aw_iretR C dX4_wrongBits_31 hf
  refine aw_iload_n C dX4_wrongBits_12 rfl 1 rfl ?_
  refine aw_aload_n C dX4_wrongBits_13 rfl 0 rfl ?_
  refine aw_get C (kd_lt hk0 (by decide)) (ce_4 hk0) rfl hinX4_wrongBits_4 1 (by decide) rfl (by decide +kernel) rfl dX4_wrongBits_14 ?_
  refine aw_iload_n C dX4_wrongBits_17 rfl 2 rfl ?_
  refine aw_lald C (kd4a hk0) (ln4a hk0) hf dX4_wrongBits_18 (fun hf => ?_)
  obtain ⟨r1, hc, hf⟩ := bR_some hf
  refine aw_callSi (As := [.long (h.2 (a0 + 1) x2.toNatClampNeg)]) (rest := [.int x1]) C (kJ13_bitCount_95d88 (l := l) (D := D) (ad := ad) (cy := cy) (tb := tb) C.2.2.2.2.2.2.2.2.1 hc) (fun ht _ => va_cwS 1 ht gX4_wrongBits_J13_bitCount_95d88 rfl rfl rfl (by decide +kernel) ⟨Nat.le_of_ble_eq_true rfl, Nat.le_of_ble_eq_true rfl⟩) rfl rfl (Nat.le_of_ble_eq_true rfl) dX4_wrongBits_19 ?_
  refine aw_iadd C dX4_wrongBits_22 ?_
  refine aw_nmI hf (fun v2 hf => ?_)
  refine aw_istore_n (lv1 := [(1, .int v2), (0, .ref (ad a0)), (2, .int x2)]) C dX4_wrongBits_23 rfl (by decide) rfl ?_
  obtain ⟨v3, hvv3, hf⟩ := nm_ex hf
  refine aw_iinc (j := 2) (v := v3) (lv1 := [(2, .int v3), (1, .int v2), (0, .ref (ad a0))]) C dX4_wrongBits_24 rfl hvv3 (by decide) rfl ?_
  refine aw_goto (tgt := 4) C dX4_wrongBits_27 (by decide) ?_
  refine aw_sub [2, 1, 0] rfl ?_
  exact H4 v2 v3 hf
set_option maxHeartbeats 4000000 in
set_option maxRecDepth 100000 in
theorem tX4_wrongBits_4 {h : AH} {a0 : Nat} {r0 : Int32} (C : Cx p rmX4_wrongBits s m args meth c RX4 cX4_wrongBits 3 (some .int) wsX4_wrongBits D ad cy tb 0 0) (hk0 : kd a0 = 4) : ∀ (n : Nat) (x1 : Int32) (x2 : Int32), fX4_wrongBits_4 h a0 n x1 x2 = some r0 → AW p l e rmX4_wrongBits s m args below meth c 3 D ad cy 0 0 (Qi D ad cy below args s r0 h) 4 [(0, .ref (ad a0)), (1, .int x1), (2, .int x2)] [] h := by
  intro n
  induction n with
  | zero => intro x1 x2 hf; cases hf
  | succ n ih => intro x1 x2 hf; exact tX4_wrongBits_4b C hk0 ih  hf
set_option maxHeartbeats 4000000 in
set_option maxRecDepth 100000 in
theorem tX4_wrongBits_0 {h : AH} {a0 : Nat} {r0 : Int32} (C : Cx p rmX4_wrongBits s m args meth c RX4 cX4_wrongBits 3 (some .int) wsX4_wrongBits D ad cy tb 0 0) (hk0 : kd a0 = 4) (hf : fX4_wrongBits h a0 = some r0) : AW p l e rmX4_wrongBits s m args below meth c 3 D ad cy 0 0 (Qi D ad cy below args s r0 h) 0 [(0, .ref (ad a0))] [] h := by
  unfold fX4_wrongBits at hf
  refine aw_iconst (v := 0) C dX4_wrongBits_0 (by decide) ?_
  refine aw_istore_n (lv1 := [(1, .int 0), (0, .ref (ad a0))]) C dX4_wrongBits_1 rfl (by decide) rfl ?_
  refine aw_iconst (v := 1) C dX4_wrongBits_2 (by decide) ?_
  refine aw_istore_n (lv1 := [(2, .int 1), (1, .int 0), (0, .ref (ad a0))]) C dX4_wrongBits_3 rfl (by decide) rfl ?_
  refine aw_sub [2, 1, 0] rfl ?_
  exact tX4_wrongBits_4 C hk0  FU 0 1 hf
theorem kX4_wrongBits {h : AH} {a0 : Nat} {r0 : Int32} (hi : Inj ad) (hk0 : kd a0 = 4) (hf : fX4_wrongBits h a0 = some r0) : Ki l yX4_wrongBits wsX4_wrongBits rmX4_wrongBits D ad cy tb [.ref (ad a0)] h r0 h := met_i (lv := [(0, .ref (ad a0))]) hi (by decide) rfl (Nat.le_of_ble_eq_true rfl) rfl rfl (fun _ _ _ _ _ _ _ _ C => tX4_wrongBits_0 C hk0 hf)
set_option maxRecDepth 20000 in
theorem ggX5_flip_X5_isBit : GoodIn wsX5_flip wsX5_isBit := goodIn_r _ [6, 7, 8, 9, 5, 10, 1, 11, 12, 13, 41, 42, 43, 44, 45, 46, 47, 48, 49, 50, 51, 52] (by decide +kernel) (by decide +kernel)
set_option maxRecDepth 20000 in
theorem gX5_flip_X5_isBit : GoodIn wsX5_flip (wsV RX5 90 RX5 yX5_isBit wsX5_isBit) := goodIn_app (goodIn_of _ (by decide +kernel)) ggX5_flip_X5_isBit
set_option maxRecDepth 20000 in
theorem ggX5_flip_X5_bitNumber : GoodIn wsX5_flip wsX5_bitNumber := goodIn_r _ [16] (by decide +kernel) (by decide +kernel)
set_option maxRecDepth 20000 in
theorem gX5_flip_X5_bitNumber : GoodIn wsX5_flip (va_wsS RX5 94 yX5_bitNumber wsX5_bitNumber) := goodIn_app (goodIn_of _ (by decide +kernel)) ggX5_flip_X5_bitNumber
set_option maxRecDepth 20000 in
theorem ggX5_flip_X5_hitBit : GoodIn wsX5_flip wsX5_hitBit := goodIn_r _ [20, 1, 21, 22, 23, 24, 25, 26, 27, 28, 29, 41, 42, 43, 44, 45, 46, 47, 48, 49, 50, 51, 52] (by decide +kernel) (by decide +kernel)
set_option maxRecDepth 20000 in
theorem gX5_flip_X5_hitBit : GoodIn wsX5_flip (wsV RX5 98 RX5 yX5_hitBit wsX5_hitBit) := goodIn_app (goodIn_of _ (by decide +kernel)) ggX5_flip_X5_hitBit
set_option maxRecDepth 20000 in
theorem ggX5_flip_X4_wrongBits : GoodIn wsX5_flip wsX4_wrongBits := goodIn_r _ [33, 29, 27, 34, 35, 36, 37, 38, 39, 40, 50, 51, 52] (by decide +kernel) (by decide +kernel)
set_option maxRecDepth 20000 in
theorem gX5_flip_X4_wrongBits : GoodIn wsX5_flip (wsV RX5 101 RX4 yX4_wrongBits wsX4_wrongBits) := goodIn_app (goodIn_of _ (by decide +kernel)) ggX5_flip_X4_wrongBits
theorem dX5_flip_0 : decode cX5_flip 0 = .ok (.aload_n 0, 1) := by decide +kernel
theorem dX5_flip_1 : decode cX5_flip 1 = .ok (.iload_n 1, 1) := by decide +kernel
theorem dX5_flip_2 : decode cX5_flip 2 = .ok (.iload_n 2, 1) := by decide +kernel
theorem dX5_flip_3 : decode cX5_flip 3 = .ok (.iload_n 3, 1) := by decide +kernel
theorem dX5_flip_4 : decode cX5_flip 4 = .ok (.invokevirtual 90, 3) := by decide +kernel
theorem dX5_flip_7 : decode cX5_flip 7 = .ok (.ifCond .ne 6, 3) := by decide +kernel
theorem dX5_flip_10 : decode cX5_flip 10 = .ok (.bipush (-2), 2) := by decide +kernel
theorem dX5_flip_12 : decode cX5_flip 12 = .ok (.ireturn, 1) := by decide +kernel
theorem dX5_flip_13 : decode cX5_flip 13 = .ok (.aload_n 0, 1) := by decide +kernel
theorem dX5_flip_14 : decode cX5_flip 14 = .ok (.iload_n 1, 1) := by decide +kernel
theorem dX5_flip_15 : decode cX5_flip 15 = .ok (.iload_n 2, 1) := by decide +kernel
theorem dX5_flip_16 : decode cX5_flip 16 = .ok (.iload_n 3, 1) := by decide +kernel
theorem dX5_flip_17 : decode cX5_flip 17 = .ok (.invokestatic 94, 3) := by decide +kernel
theorem dX5_flip_20 : decode cX5_flip 20 = .ok (.invokevirtual 98, 3) := by decide +kernel
theorem dX5_flip_23 : decode cX5_flip 23 = .ok (.aload_n 0, 1) := by decide +kernel
theorem dX5_flip_24 : decode cX5_flip 24 = .ok (.getfield 12, 3) := by decide +kernel
theorem dX5_flip_27 : decode cX5_flip 27 = .ok (.invokevirtual 101, 3) := by decide +kernel
theorem dX5_flip_30 : decode cX5_flip 30 = .ok (.ireturn, 1) := by decide +kernel
abbrev rmX5_flip : Room := { frames := 2, cells := 0, slots := 0, locals := 45 }
set_option maxRecDepth 100000 in
theorem hinX5_flip_5 : ∀ w ∈ wsX50, w ∈ wsX5_flip := by decide +kernel
set_option maxHeartbeats 4000000 in
set_option maxRecDepth 100000 in
theorem tX5_flip_0 {h : AH} {a1 : Int32} {a2 : Int32} {a3 : Int32} {r0 : Int32} {h0 : AH} (C : Cx p rmX5_flip s m args meth c RX5 cX5_flip 4 (some .int) wsX5_flip D ad cy tb 0 0) (hf : fX5_flip h a1 a2 a3 = some (r0, h0)) : AW p l e rmX5_flip s m args below meth c 4 D ad cy 0 0 (Qi D ad cy below args s r0 h0) 0 [(0, .ref (ad 0)), (1, .int a1), (2, .int a2), (3, .int a3)] [] h := by
  unfold fX5_flip at hf
  refine aw_aload_n C dX5_flip_0 rfl 0 rfl ?_
  refine aw_iload_n C dX5_flip_1 rfl 1 rfl ?_
  refine aw_iload_n C dX5_flip_2 rfl 2 rfl ?_
  refine aw_iload_n C dX5_flip_3 rfl 3 rfl ?_
  obtain ⟨r1, hc, hf⟩ := bR_some hf
  refine aw_callVi (As := [.int a1, .int a2, .int a3]) (rest := []) C rfl (by decide) rfl (kX5_isBit (l := l) (D := D) (ad := ad) (cy := cy) (tb := tb) C.2.2.2.2.2.2.2.2.1 hc) (fun ht _ => cwV 3 ht gX5_flip_X5_isBit rfl rfl rfl (by decide +kernel) ⟨Nat.le_of_ble_eq_true rfl, Nat.le_of_ble_eq_true rfl⟩) rfl rfl (Nat.le_of_ble_eq_true rfl) dX5_flip_4 ?_
  refine aw_if_ne (tgt := 13) C dX5_flip_7 (by decide) hf (fun hf => ?_) (fun hf => ?_)
  · refine aw_aload_n C dX5_flip_13 rfl 0 rfl ?_
    refine aw_iload_n C dX5_flip_14 rfl 1 rfl ?_
    refine aw_iload_n C dX5_flip_15 rfl 2 rfl ?_
    refine aw_iload_n C dX5_flip_16 rfl 3 rfl ?_
    obtain ⟨r2, hc, hf⟩ := bR_some hf
    refine aw_callSi (As := [.int a1, .int a2, .int a3]) (rest := [.ref (ad 0)]) C (kX5_bitNumber (l := l) (D := D) (ad := ad) (cy := cy) (tb := tb) C.2.2.2.2.2.2.2.2.1 hc) (fun ht _ => va_cwS 3 ht gX5_flip_X5_bitNumber rfl rfl rfl (by decide +kernel) ⟨Nat.le_of_ble_eq_true rfl, Nat.le_of_ble_eq_true rfl⟩) rfl rfl (Nat.le_of_ble_eq_true rfl) dX5_flip_17 ?_
    obtain ⟨h3, hc, hf⟩ := bR_some hf
    refine aw_callVv (As := [.int r2]) (rest := []) C rfl (by decide) rfl (kX5_hitBit (l := l) (D := D) (ad := ad) (cy := cy) (tb := tb) C.2.2.2.2.2.2.2.2.1 hc) (fun ht _ => cwV 1 ht gX5_flip_X5_hitBit rfl rfl rfl (by decide +kernel) ⟨Nat.le_of_ble_eq_true rfl, Nat.le_of_ble_eq_true rfl⟩) rfl rfl (Nat.le_of_ble_eq_true rfl) dX5_flip_20 ?_
    refine aw_aload_n C dX5_flip_23 rfl 0 rfl ?_
    refine aw_get C (kd_lt rfl (by decide)) (ce_5 rfl) rfl hinX5_flip_5 0 (by decide) rfl (by decide +kernel) rfl dX5_flip_24 ?_
    obtain ⟨r4, hc, hf⟩ := bR_some hf
    refine aw_callVi (As := []) (rest := []) C rfl (by decide) rfl (kX4_wrongBits (l := l) (D := D) (ad := ad) (cy := cy) (tb := tb) C.2.2.2.2.2.2.2.2.1 rfl hc) (fun ht _ => cwV 0 ht gX5_flip_X4_wrongBits rfl rfl rfl (by decide +kernel) ⟨Nat.le_of_ble_eq_true rfl, Nat.le_of_ble_eq_true rfl⟩) rfl rfl (Nat.le_of_ble_eq_true rfl) dX5_flip_27 ?_
    exact aw_iretW C dX5_flip_30 hf
  refine aw_bipush (v := (-2)) C dX5_flip_10 (by decide) ?_
  exact aw_iretW C dX5_flip_12 hf
theorem kX5_flip {h : AH} {a1 : Int32} {a2 : Int32} {a3 : Int32} {r0 : Int32} {h0 : AH} (hi : Inj ad) (hf : fX5_flip h a1 a2 a3 = some (r0, h0)) : Ki l yX5_flip wsX5_flip rmX5_flip D ad cy tb [.ref (ad 0), .int a1, .int a2, .int a3] h r0 h0 := met_i (lv := [(0, .ref (ad 0)), (1, .int a1), (2, .int a2), (3, .int a3)]) hi (by decide) rfl (Nat.le_of_ble_eq_true rfl) rfl rfl (fun _ _ _ _ _ _ _ _ C => tX5_flip_0 C  hf)
set_option maxRecDepth 20000 in
theorem ggX6_isBit_X6_isWord : GoodIn wsX6_isBit wsX6_isWord := goodIn_r _ [5, 6, 7, 8, 4, 9, 10, 11, 12, 13, 14, 15, 16, 17, 18, 19, 20, 21, 22, 23, 24, 25, 26, 27, 28, 29, 30, 31] (by decide +kernel) (by decide +kernel)
set_option maxRecDepth 20000 in
theorem gX6_isBit_X6_isWord : GoodIn wsX6_isBit (wsV RX6 81 RX6 yX6_isWord wsX6_isWord) := goodIn_app (goodIn_of _ (by decide +kernel)) ggX6_isBit_X6_isWord
set_option maxRecDepth 20000 in
theorem ggX6_isBit_X6_in : GoodIn wsX6_isBit wsX6_in := goodIn_r _ [13] (by decide +kernel) (by decide +kernel)
set_option maxRecDepth 20000 in
theorem gX6_isBit_X6_in : GoodIn wsX6_isBit (va_wsS RX6 73 yX6_in wsX6_in) := goodIn_app (goodIn_of _ (by decide +kernel)) ggX6_isBit_X6_in
theorem dX6_isBit_0 : decode cX6_isBit 0 = .ok (.aload_n 0, 1) := by decide +kernel
theorem dX6_isBit_1 : decode cX6_isBit 1 = .ok (.iload_n 1, 1) := by decide +kernel
theorem dX6_isBit_2 : decode cX6_isBit 2 = .ok (.iload_n 2, 1) := by decide +kernel
theorem dX6_isBit_3 : decode cX6_isBit 3 = .ok (.invokevirtual 81, 3) := by decide +kernel
theorem dX6_isBit_6 : decode cX6_isBit 6 = .ok (.ifCond .eq 17, 3) := by decide +kernel
theorem dX6_isBit_9 : decode cX6_isBit 9 = .ok (.iload_n 3, 1) := by decide +kernel
theorem dX6_isBit_10 : decode cX6_isBit 10 = .ok (.iconst 0, 1) := by decide +kernel
theorem dX6_isBit_11 : decode cX6_isBit 11 = .ok (.bipush 7, 2) := by decide +kernel
theorem dX6_isBit_13 : decode cX6_isBit 13 = .ok (.invokestatic 73, 3) := by decide +kernel
theorem dX6_isBit_16 : decode cX6_isBit 16 = .ok (.ifCond .eq 7, 3) := by decide +kernel
theorem dX6_isBit_19 : decode cX6_isBit 19 = .ok (.iconst 1, 1) := by decide +kernel
theorem dX6_isBit_20 : decode cX6_isBit 20 = .ok (.goto 4, 3) := by decide +kernel
theorem dX6_isBit_23 : decode cX6_isBit 23 = .ok (.iconst 0, 1) := by decide +kernel
theorem dX6_isBit_24 : decode cX6_isBit 24 = .ok (.ireturn, 1) := by decide +kernel
abbrev rmX6_isBit : Room := { frames := 3, cells := 0, slots := 0, locals := 65 }
set_option maxHeartbeats 4000000 in
set_option maxRecDepth 100000 in
theorem tX6_isBit_0 {h : AH} {a1 : Int32} {a2 : Int32} {a3 : Int32} {r0 : Int32} (C : Cx p rmX6_isBit s m args meth c RX6 cX6_isBit 4 (some .boolean) wsX6_isBit D ad cy tb 0 0) (hf : fX6_isBit h a1 a2 a3 = some r0) : AW p l e rmX6_isBit s m args below meth c 4 D ad cy 0 0 (Qi D ad cy below args s r0 h) 0 [(0, .ref (ad 29)), (1, .int a1), (2, .int a2), (3, .int a3)] [] h := by
  unfold fX6_isBit at hf
  refine aw_aload_n C dX6_isBit_0 rfl 0 rfl ?_
  refine aw_iload_n C dX6_isBit_1 rfl 1 rfl ?_
  refine aw_iload_n C dX6_isBit_2 rfl 2 rfl ?_
  obtain ⟨r1, hc, hf⟩ := bR_some hf
  refine aw_callVi (As := [.int a1, .int a2]) (rest := []) C rfl (by decide) rfl (kX6_isWord (l := l) (D := D) (ad := ad) (cy := cy) (tb := tb) C.2.2.2.2.2.2.2.2.1 hc) (fun ht _ => cwV 2 ht gX6_isBit_X6_isWord rfl rfl rfl (by decide +kernel) ⟨Nat.le_of_ble_eq_true rfl, Nat.le_of_ble_eq_true rfl⟩) rfl rfl (Nat.le_of_ble_eq_true rfl) dX6_isBit_3 ?_
  refine aw_if_eq (tgt := 23) C dX6_isBit_6 (by decide) hf (fun hf => ?_) (fun hf => ?_)
  · refine aw_iconst (v := 0) C dX6_isBit_23 (by decide) ?_
    exact aw_zretR C (by decide) dX6_isBit_24 hf
  refine aw_iload_n C dX6_isBit_9 rfl 3 rfl ?_
  refine aw_iconst (v := 0) C dX6_isBit_10 (by decide) ?_
  refine aw_bipush (v := 7) C dX6_isBit_11 (by decide) ?_
  obtain ⟨r2, hc, hf⟩ := bR_some hf
  refine aw_callSi (As := [.int a3, .int 0, .int 7]) (rest := []) C (kX6_in (l := l) (D := D) (ad := ad) (cy := cy) (tb := tb) C.2.2.2.2.2.2.2.2.1 hc) (fun ht _ => va_cwS 3 ht gX6_isBit_X6_in rfl rfl rfl (by decide +kernel) ⟨Nat.le_of_ble_eq_true rfl, Nat.le_of_ble_eq_true rfl⟩) rfl rfl (Nat.le_of_ble_eq_true rfl) dX6_isBit_13 ?_
  refine aw_if_eq (tgt := 23) C dX6_isBit_16 (by decide) hf (fun hf => ?_) (fun hf => ?_)
  · refine aw_iconst (v := 0) C dX6_isBit_23 (by decide) ?_
    exact aw_zretR C (by decide) dX6_isBit_24 hf
  refine aw_iconst (v := 1) C dX6_isBit_19 (by decide) ?_
  refine aw_goto (tgt := 24) C dX6_isBit_20 (by decide) ?_
  exact aw_zretR C (by decide) dX6_isBit_24 hf
theorem kX6_isBit {h : AH} {a1 : Int32} {a2 : Int32} {a3 : Int32} {r0 : Int32} (hi : Inj ad) (hf : fX6_isBit h a1 a2 a3 = some r0) : Ki l yX6_isBit wsX6_isBit rmX6_isBit D ad cy tb [.ref (ad 29), .int a1, .int a2, .int a3] h r0 h := met_i (lv := [(0, .ref (ad 29)), (1, .int a1), (2, .int a2), (3, .int a3)]) hi (by decide) rfl (Nat.le_of_ble_eq_true rfl) rfl rfl (fun _ _ _ _ _ _ _ _ C => tX6_isBit_0 C  hf)
theorem dX6_hits_0 : decode cX6_hits 0 = .ok (.aload_n 0, 1) := by decide +kernel
theorem dX6_hits_1 : decode cX6_hits 1 = .ok (.getfield 21, 3) := by decide +kernel
theorem dX6_hits_4 : decode cX6_hits 4 = .ok (.iload_n 1, 1) := by decide +kernel
theorem dX6_hits_5 : decode cX6_hits 5 = .ok (.aload_n 0, 1) := by decide +kernel
theorem dX6_hits_6 : decode cX6_hits 6 = .ok (.getfield 21, 3) := by decide +kernel
theorem dX6_hits_9 : decode cX6_hits 9 = .ok (.iload_n 1, 1) := by decide +kernel
theorem dX6_hits_10 : decode cX6_hits 10 = .ok (.baload, 1) := by decide +kernel
theorem dX6_hits_11 : decode cX6_hits 11 = .ok (.ifCond .ne 7, 3) := by decide +kernel
theorem dX6_hits_14 : decode cX6_hits 14 = .ok (.iconst 1, 1) := by decide +kernel
theorem dX6_hits_15 : decode cX6_hits 15 = .ok (.goto 4, 3) := by decide +kernel
theorem dX6_hits_18 : decode cX6_hits 18 = .ok (.iconst 0, 1) := by decide +kernel
theorem dX6_hits_19 : decode cX6_hits 19 = .ok (.bastore, 1) := by decide +kernel
theorem dX6_hits_20 : decode cX6_hits 20 = .ok (.aload_n 0, 1) := by decide +kernel
theorem dX6_hits_21 : decode cX6_hits 21 = .ok (.getfield 24, 3) := by decide +kernel
theorem dX6_hits_24 : decode cX6_hits 24 = .ok (.iload_n 1, 1) := by decide +kernel
theorem dX6_hits_25 : decode cX6_hits 25 = .ok (.aload_n 0, 1) := by decide +kernel
theorem dX6_hits_26 : decode cX6_hits 26 = .ok (.getfield 24, 3) := by decide +kernel
theorem dX6_hits_29 : decode cX6_hits 29 = .ok (.iload_n 1, 1) := by decide +kernel
theorem dX6_hits_30 : decode cX6_hits 30 = .ok (.baload, 1) := by decide +kernel
theorem dX6_hits_31 : decode cX6_hits 31 = .ok (.ifCond .ne 7, 3) := by decide +kernel
theorem dX6_hits_34 : decode cX6_hits 34 = .ok (.iconst 1, 1) := by decide +kernel
theorem dX6_hits_35 : decode cX6_hits 35 = .ok (.goto 4, 3) := by decide +kernel
theorem dX6_hits_38 : decode cX6_hits 38 = .ok (.iconst 0, 1) := by decide +kernel
theorem dX6_hits_39 : decode cX6_hits 39 = .ok (.bastore, 1) := by decide +kernel
theorem dX6_hits_40 : decode cX6_hits 40 = .ok (.return_, 1) := by decide +kernel
abbrev rmX6_hits : Room := { frames := 0, cells := 0, slots := 0, locals := 0 }
set_option maxRecDepth 100000 in
theorem hinX6_hits_6 : ∀ w ∈ wsX60, w ∈ wsX6_hits := by decide +kernel
set_option maxHeartbeats 4000000 in
set_option maxRecDepth 100000 in
theorem tX6_hits_39 {h : AH} {a1 : Int32} {s1 : Int32} {s2 : Int32} {h0 : AH} (C : Cx p rmX6_hits s m args meth c RX6 cX6_hits 2 none wsX6_hits D ad cy tb 0 0) (hf : fX6_hits_39 a1 h s1 s2 = some h0) : AW p l e rmX6_hits s m args below meth c 2 D ad cy 0 0 (Qv D ad cy below args s h0) 39 [(0, .ref (ad 29)), (1, .int a1)] [.int s2, .int s1, .ref (ad 33)] h := by
  unfold fX6_hits_39 at hf
  refine aw_zast C rfl rfl hf dX6_hits_39 (fun hf => ?_)
  refine aw_nmH hf (fun h1 hf => ?_)
  exact aw_vret C dX6_hits_40 hf
set_option maxHeartbeats 4000000 in
set_option maxRecDepth 100000 in
theorem tX6_hits_19 {h : AH} {a1 : Int32} {s1 : Int32} {s2 : Int32} {h0 : AH} (C : Cx p rmX6_hits s m args meth c RX6 cX6_hits 2 none wsX6_hits D ad cy tb 0 0) (hf : fX6_hits_19 a1 h s1 s2 = some h0) : AW p l e rmX6_hits s m args below meth c 2 D ad cy 0 0 (Qv D ad cy below args s h0) 19 [(0, .ref (ad 29)), (1, .int a1)] [.int s2, .int s1, .ref (ad 32)] h := by
  unfold fX6_hits_19 at hf
  refine aw_zast C rfl rfl hf dX6_hits_19 (fun hf => ?_)
  refine aw_nmH hf (fun h1 hf => ?_)
  refine aw_aload_n C dX6_hits_20 rfl 0 rfl ?_
  refine aw_get C (kd_lt rfl (by decide)) (ce_6 rfl) rfl hinX6_hits_6 5 (by decide) rfl (by decide +kernel) rfl dX6_hits_21 ?_
  refine aw_iload_n C dX6_hits_24 rfl 1 rfl ?_
  refine aw_aload_n C dX6_hits_25 rfl 0 rfl ?_
  refine aw_get C (kd_lt rfl (by decide)) (ce_6 rfl) rfl hinX6_hits_6 5 (by decide) rfl (by decide +kernel) rfl dX6_hits_26 ?_
  refine aw_iload_n C dX6_hits_29 rfl 1 rfl ?_
  refine aw_zald C rfl rfl hf dX6_hits_30 (fun hf => ?_)
  refine aw_if_ne (tgt := 38) C dX6_hits_31 (by decide) hf (fun hf => ?_) (fun hf => ?_)
  · refine aw_iconst (v := 0) C dX6_hits_38 (by decide) ?_
    refine aw_sub [0, 1] rfl ?_
    exact tX6_hits_39 C   hf
  refine aw_iconst (v := 1) C dX6_hits_34 (by decide) ?_
  refine aw_goto (tgt := 39) C dX6_hits_35 (by decide) ?_
  refine aw_sub [0, 1] rfl ?_
  exact tX6_hits_39 C   hf
set_option maxHeartbeats 4000000 in
set_option maxRecDepth 100000 in
theorem tX6_hits_0 {h : AH} {a1 : Int32} {h0 : AH} (C : Cx p rmX6_hits s m args meth c RX6 cX6_hits 2 none wsX6_hits D ad cy tb 0 0) (hf : fX6_hits h a1 = some h0) : AW p l e rmX6_hits s m args below meth c 2 D ad cy 0 0 (Qv D ad cy below args s h0) 0 [(0, .ref (ad 29)), (1, .int a1)] [] h := by
  unfold fX6_hits at hf
  refine aw_aload_n C dX6_hits_0 rfl 0 rfl ?_
  refine aw_get C (kd_lt rfl (by decide)) (ce_6 rfl) rfl hinX6_hits_6 4 (by decide) rfl (by decide +kernel) rfl dX6_hits_1 ?_
  refine aw_iload_n C dX6_hits_4 rfl 1 rfl ?_
  refine aw_aload_n C dX6_hits_5 rfl 0 rfl ?_
  refine aw_get C (kd_lt rfl (by decide)) (ce_6 rfl) rfl hinX6_hits_6 4 (by decide) rfl (by decide +kernel) rfl dX6_hits_6 ?_
  refine aw_iload_n C dX6_hits_9 rfl 1 rfl ?_
  refine aw_zald C rfl rfl hf dX6_hits_10 (fun hf => ?_)
  refine aw_if_ne (tgt := 18) C dX6_hits_11 (by decide) hf (fun hf => ?_) (fun hf => ?_)
  · refine aw_iconst (v := 0) C dX6_hits_18 (by decide) ?_
    refine aw_sub [0, 1] rfl ?_
    exact tX6_hits_19 C   hf
  refine aw_iconst (v := 1) C dX6_hits_14 (by decide) ?_
  refine aw_goto (tgt := 19) C dX6_hits_15 (by decide) ?_
  refine aw_sub [0, 1] rfl ?_
  exact tX6_hits_19 C   hf
theorem kX6_hits {h : AH} {a1 : Int32} {h0 : AH} (hi : Inj ad) (hf : fX6_hits h a1 = some h0) : Kv l yX6_hits wsX6_hits rmX6_hits D ad cy tb [.ref (ad 29), .int a1] h h0 := met_v (lv := [(0, .ref (ad 29)), (1, .int a1)]) hi (by decide) rfl (Nat.le_of_ble_eq_true rfl) rfl rfl (fun _ _ _ _ _ _ _ _ C => tX6_hits_0 C  hf)
theorem dX6_wrongMany_0 : decode cX6_wrongMany 0 = .ok (.iconst 0, 1) := by decide +kernel
theorem dX6_wrongMany_1 : decode cX6_wrongMany 1 = .ok (.istore_n 1, 1) := by decide +kernel
theorem dX6_wrongMany_2 : decode cX6_wrongMany 2 = .ok (.iconst 0, 1) := by decide +kernel
theorem dX6_wrongMany_3 : decode cX6_wrongMany 3 = .ok (.istore_n 2, 1) := by decide +kernel
theorem dX6_wrongMany_4 : decode cX6_wrongMany 4 = .ok (.iload_n 2, 1) := by decide +kernel
theorem dX6_wrongMany_5 : decode cX6_wrongMany 5 = .ok (.sipush 448, 3) := by decide +kernel
theorem dX6_wrongMany_8 : decode cX6_wrongMany 8 = .ok (.if_icmp .ge 26, 3) := by decide +kernel
theorem dX6_wrongMany_11 : decode cX6_wrongMany 11 = .ok (.iload_n 1, 1) := by decide +kernel
theorem dX6_wrongMany_12 : decode cX6_wrongMany 12 = .ok (.aload_n 0, 1) := by decide +kernel
theorem dX6_wrongMany_13 : decode cX6_wrongMany 13 = .ok (.getfield 21, 3) := by decide +kernel
theorem dX6_wrongMany_16 : decode cX6_wrongMany 16 = .ok (.iload_n 2, 1) := by decide +kernel
theorem dX6_wrongMany_17 : decode cX6_wrongMany 17 = .ok (.baload, 1) := by decide +kernel
theorem dX6_wrongMany_18 : decode cX6_wrongMany 18 = .ok (.ifCond .eq 7, 3) := by decide +kernel
theorem dX6_wrongMany_21 : decode cX6_wrongMany 21 = .ok (.iconst 1, 1) := by decide +kernel
theorem dX6_wrongMany_22 : decode cX6_wrongMany 22 = .ok (.goto 4, 3) := by decide +kernel
theorem dX6_wrongMany_25 : decode cX6_wrongMany 25 = .ok (.iconst 0, 1) := by decide +kernel
theorem dX6_wrongMany_26 : decode cX6_wrongMany 26 = .ok (.iadd, 1) := by decide +kernel
theorem dX6_wrongMany_27 : decode cX6_wrongMany 27 = .ok (.istore_n 1, 1) := by decide +kernel
theorem dX6_wrongMany_28 : decode cX6_wrongMany 28 = .ok (.iinc 2 1, 3) := by decide +kernel
theorem dX6_wrongMany_31 : decode cX6_wrongMany 31 = .ok (.goto (-27), 3) := by decide +kernel
theorem dX6_wrongMany_34 : decode cX6_wrongMany 34 = .ok (.iload_n 1, 1) := by decide +kernel
theorem dX6_wrongMany_35 : decode cX6_wrongMany 35 = .ok (.ireturn, 1) := by decide +kernel
abbrev rmX6_wrongMany : Room := { frames := 0, cells := 0, slots := 0, locals := 0 }
set_option maxRecDepth 100000 in
theorem hinX6_wrongMany_6 : ∀ w ∈ wsX60, w ∈ wsX6_wrongMany := by decide +kernel
set_option maxHeartbeats 4000000 in
set_option maxRecDepth 100000 in
theorem tX6_wrongMany_26 {h : AH} {k4 : Int32 → Int32 → Option Int32} {x2 : Int32} {s0 : Int32} {s1 : Int32} {r0 : Int32} (C : Cx p rmX6_wrongMany s m args meth c RX6 cX6_wrongMany 3 (some .int) wsX6_wrongMany D ad cy tb 0 0) (H4 : ∀ (x1 : Int32) (x2 : Int32), k4 x1 x2 = some r0 → AW p l e rmX6_wrongMany s m args below meth c 3 D ad cy 0 0 (Qi D ad cy below args s r0 h) 4 [(0, .ref (ad 29)), (1, .int x1), (2, .int x2)] [] h) (hf : fX6_wrongMany_26 k4 h x2 s0 s1 = some r0) : AW p l e rmX6_wrongMany s m args below meth c 3 D ad cy 0 0 (Qi D ad cy below args s r0 h) 26 [(0, .ref (ad 29)), (2, .int x2)] [.int s1, .int s0] h := by
  unfold fX6_wrongMany_26 at hf
  refine aw_iadd C dX6_wrongMany_26 ?_
  refine aw_nmI hf (fun v1 hf => ?_)
  refine aw_istore_n (lv1 := [(1, .int v1), (0, .ref (ad 29)), (2, .int x2)]) C dX6_wrongMany_27 rfl (by decide) rfl ?_
  obtain ⟨v2, hvv2, hf⟩ := nm_ex hf
  refine aw_iinc (j := 2) (v := v2) (lv1 := [(2, .int v2), (1, .int v1), (0, .ref (ad 29))]) C dX6_wrongMany_28 rfl hvv2 (by decide) rfl ?_
  refine aw_goto (tgt := 4) C dX6_wrongMany_31 (by decide) ?_
  refine aw_sub [2, 1, 0] rfl ?_
  exact H4 v1 v2 hf
set_option maxHeartbeats 4000000 in
set_option maxRecDepth 100000 in
theorem tX6_wrongMany_4b {h : AH} {k4 : Int32 → Int32 → Option Int32} {x1 : Int32} {x2 : Int32} {r0 : Int32} (C : Cx p rmX6_wrongMany s m args meth c RX6 cX6_wrongMany 3 (some .int) wsX6_wrongMany D ad cy tb 0 0) (H4 : ∀ (x1 : Int32) (x2 : Int32), k4 x1 x2 = some r0 → AW p l e rmX6_wrongMany s m args below meth c 3 D ad cy 0 0 (Qi D ad cy below args s r0 h) 4 [(0, .ref (ad 29)), (1, .int x1), (2, .int x2)] [] h) (hf : fX6_wrongMany_4b k4 h x1 x2 = some r0) : AW p l e rmX6_wrongMany s m args below meth c 3 D ad cy 0 0 (Qi D ad cy below args s r0 h) 4 [(0, .ref (ad 29)), (1, .int x1), (2, .int x2)] [] h := by
  unfold fX6_wrongMany_4b at hf
  refine aw_iload_n C dX6_wrongMany_4 rfl 2 rfl ?_
  refine aw_sipush (v := 448) C dX6_wrongMany_5 (by decide) ?_
  refine aw_icmp_ge (tgt := 34) C dX6_wrongMany_8 (by decide) hf (fun hf => ?_) (fun hf => ?_)
  · refine aw_iload_n C dX6_wrongMany_34 rfl 1 rfl ?_
    exact aw_iretR C dX6_wrongMany_35 hf
  refine aw_iload_n C dX6_wrongMany_11 rfl 1 rfl ?_
  refine aw_aload_n C dX6_wrongMany_12 rfl 0 rfl ?_
  refine aw_get C (kd_lt rfl (by decide)) (ce_6 rfl) rfl hinX6_wrongMany_6 4 (by decide) rfl (by decide +kernel) rfl dX6_wrongMany_13 ?_
  refine aw_iload_n C dX6_wrongMany_16 rfl 2 rfl ?_
  refine aw_zald C rfl rfl hf dX6_wrongMany_17 (fun hf => ?_)
  refine aw_if_eq (tgt := 25) C dX6_wrongMany_18 (by decide) hf (fun hf => ?_) (fun hf => ?_)
  · refine aw_iconst (v := 0) C dX6_wrongMany_25 (by decide) ?_
    refine aw_sub [0, 2] rfl ?_
    exact tX6_wrongMany_26 C  H4 hf
  refine aw_iconst (v := 1) C dX6_wrongMany_21 (by decide) ?_
  refine aw_goto (tgt := 26) C dX6_wrongMany_22 (by decide) ?_
  refine aw_sub [0, 2] rfl ?_
  exact tX6_wrongMany_26 C  H4 hf
set_option maxHeartbeats 4000000 in
set_option maxRecDepth 100000 in
theorem tX6_wrongMany_4 {h : AH} {r0 : Int32} (C : Cx p rmX6_wrongMany s m args meth c RX6 cX6_wrongMany 3 (some .int) wsX6_wrongMany D ad cy tb 0 0) : ∀ (n : Nat) (x1 : Int32) (x2 : Int32), fX6_wrongMany_4 h n x1 x2 = some r0 → AW p l e rmX6_wrongMany s m args below meth c 3 D ad cy 0 0 (Qi D ad cy below args s r0 h) 4 [(0, .ref (ad 29)), (1, .int x1), (2, .int x2)] [] h := by
  intro n
  induction n with
  | zero => intro x1 x2 hf; cases hf
  | succ n ih => intro x1 x2 hf; exact tX6_wrongMany_4b C  ih  hf
set_option maxHeartbeats 4000000 in
set_option maxRecDepth 100000 in
theorem tX6_wrongMany_0 {h : AH} {r0 : Int32} (C : Cx p rmX6_wrongMany s m args meth c RX6 cX6_wrongMany 3 (some .int) wsX6_wrongMany D ad cy tb 0 0) (hf : fX6_wrongMany h = some r0) : AW p l e rmX6_wrongMany s m args below meth c 3 D ad cy 0 0 (Qi D ad cy below args s r0 h) 0 [(0, .ref (ad 29))] [] h := by
  unfold fX6_wrongMany at hf
  refine aw_iconst (v := 0) C dX6_wrongMany_0 (by decide) ?_
  refine aw_istore_n (lv1 := [(1, .int 0), (0, .ref (ad 29))]) C dX6_wrongMany_1 rfl (by decide) rfl ?_
  refine aw_iconst (v := 0) C dX6_wrongMany_2 (by decide) ?_
  refine aw_istore_n (lv1 := [(2, .int 0), (1, .int 0), (0, .ref (ad 29))]) C dX6_wrongMany_3 rfl (by decide) rfl ?_
  refine aw_sub [2, 1, 0] rfl ?_
  exact tX6_wrongMany_4 C   FU 0 0 hf
theorem kX6_wrongMany {h : AH} {r0 : Int32} (hi : Inj ad) (hf : fX6_wrongMany h = some r0) : Ki l yX6_wrongMany wsX6_wrongMany rmX6_wrongMany D ad cy tb [.ref (ad 29)] h r0 h := met_i (lv := [(0, .ref (ad 29))]) hi (by decide) rfl (Nat.le_of_ble_eq_true rfl) rfl rfl (fun _ _ _ _ _ _ _ _ C => tX6_wrongMany_0 C  hf)
set_option maxRecDepth 20000 in
theorem ggX6_flip_X6_isBit : GoodIn wsX6_flip wsX6_isBit := goodIn_r _ [5, 6, 7, 8, 4, 9, 10, 11, 12, 13, 14, 15, 16, 17, 28, 29, 30, 31, 32, 33, 34, 35, 36, 37, 38, 39, 40, 41, 42, 43, 44, 45] (by decide +kernel) (by decide +kernel)
set_option maxRecDepth 20000 in
theorem gX6_flip_X6_isBit : GoodIn wsX6_flip (wsV RX6 91 RX6 yX6_isBit wsX6_isBit) := goodIn_app (goodIn_of _ (by decide +kernel)) ggX6_flip_X6_isBit
set_option maxRecDepth 20000 in
theorem ggX6_flip_X6_hits : GoodIn wsX6_flip wsX6_hits := goodIn_r _ [21, 22, 23, 28, 29, 30, 31, 32, 33, 34, 35, 36, 37, 38, 39, 40, 41, 42, 43, 44, 45] (by decide +kernel) (by decide +kernel)
set_option maxRecDepth 20000 in
theorem gX6_flip_X6_hits : GoodIn wsX6_flip (wsV RX6 94 RX6 yX6_hits wsX6_hits) := goodIn_app (goodIn_of _ (by decide +kernel)) ggX6_flip_X6_hits
set_option maxRecDepth 20000 in
theorem ggX6_flip_X6_wrongMany : GoodIn wsX6_flip wsX6_wrongMany := goodIn_r _ [27, 22, 28, 29, 30, 31, 32, 33, 34, 35, 36, 37, 38, 39, 40, 41, 42, 43, 44, 45] (by decide +kernel) (by decide +kernel)
set_option maxRecDepth 20000 in
theorem gX6_flip_X6_wrongMany : GoodIn wsX6_flip (wsV RX6 98 RX6 yX6_wrongMany wsX6_wrongMany) := goodIn_app (goodIn_of _ (by decide +kernel)) ggX6_flip_X6_wrongMany
theorem dX6_flip_0 : decode cX6_flip 0 = .ok (.aload_n 0, 1) := by decide +kernel
theorem dX6_flip_1 : decode cX6_flip 1 = .ok (.iload_n 1, 1) := by decide +kernel
theorem dX6_flip_2 : decode cX6_flip 2 = .ok (.iload_n 2, 1) := by decide +kernel
theorem dX6_flip_3 : decode cX6_flip 3 = .ok (.iload_n 3, 1) := by decide +kernel
theorem dX6_flip_4 : decode cX6_flip 4 = .ok (.invokevirtual 91, 3) := by decide +kernel
theorem dX6_flip_7 : decode cX6_flip 7 = .ok (.ifCond .ne 6, 3) := by decide +kernel
theorem dX6_flip_10 : decode cX6_flip 10 = .ok (.bipush (-2), 2) := by decide +kernel
theorem dX6_flip_12 : decode cX6_flip 12 = .ok (.ireturn, 1) := by decide +kernel
theorem dX6_flip_13 : decode cX6_flip 13 = .ok (.aload_n 0, 1) := by decide +kernel
theorem dX6_flip_14 : decode cX6_flip 14 = .ok (.bipush 64, 2) := by decide +kernel
theorem dX6_flip_16 : decode cX6_flip 16 = .ok (.iload_n 1, 1) := by decide +kernel
theorem dX6_flip_17 : decode cX6_flip 17 = .ok (.imul, 1) := by decide +kernel
theorem dX6_flip_18 : decode cX6_flip 18 = .ok (.bipush 8, 2) := by decide +kernel
theorem dX6_flip_20 : decode cX6_flip 20 = .ok (.iload_n 2, 1) := by decide +kernel
theorem dX6_flip_21 : decode cX6_flip 21 = .ok (.imul, 1) := by decide +kernel
theorem dX6_flip_22 : decode cX6_flip 22 = .ok (.iadd, 1) := by decide +kernel
theorem dX6_flip_23 : decode cX6_flip 23 = .ok (.iload_n 3, 1) := by decide +kernel
theorem dX6_flip_24 : decode cX6_flip 24 = .ok (.iadd, 1) := by decide +kernel
theorem dX6_flip_25 : decode cX6_flip 25 = .ok (.invokevirtual 94, 3) := by decide +kernel
theorem dX6_flip_28 : decode cX6_flip 28 = .ok (.aload_n 0, 1) := by decide +kernel
theorem dX6_flip_29 : decode cX6_flip 29 = .ok (.invokevirtual 98, 3) := by decide +kernel
theorem dX6_flip_32 : decode cX6_flip 32 = .ok (.ireturn, 1) := by decide +kernel
abbrev rmX6_flip : Room := { frames := 4, cells := 0, slots := 0, locals := 88 }
set_option maxHeartbeats 4000000 in
set_option maxRecDepth 100000 in
theorem tX6_flip_0 {h : AH} {a1 : Int32} {a2 : Int32} {a3 : Int32} {r0 : Int32} {h0 : AH} (C : Cx p rmX6_flip s m args meth c RX6 cX6_flip 4 (some .int) wsX6_flip D ad cy tb 0 0) (hf : fX6_flip h a1 a2 a3 = some (r0, h0)) : AW p l e rmX6_flip s m args below meth c 4 D ad cy 0 0 (Qi D ad cy below args s r0 h0) 0 [(0, .ref (ad 29)), (1, .int a1), (2, .int a2), (3, .int a3)] [] h := by
  unfold fX6_flip at hf
  refine aw_aload_n C dX6_flip_0 rfl 0 rfl ?_
  refine aw_iload_n C dX6_flip_1 rfl 1 rfl ?_
  refine aw_iload_n C dX6_flip_2 rfl 2 rfl ?_
  refine aw_iload_n C dX6_flip_3 rfl 3 rfl ?_
  obtain ⟨r1, hc, hf⟩ := bR_some hf
  refine aw_callVi (As := [.int a1, .int a2, .int a3]) (rest := []) C rfl (by decide) rfl (kX6_isBit (l := l) (D := D) (ad := ad) (cy := cy) (tb := tb) C.2.2.2.2.2.2.2.2.1 hc) (fun ht _ => cwV 3 ht gX6_flip_X6_isBit rfl rfl rfl (by decide +kernel) ⟨Nat.le_of_ble_eq_true rfl, Nat.le_of_ble_eq_true rfl⟩) rfl rfl (Nat.le_of_ble_eq_true rfl) dX6_flip_4 ?_
  refine aw_if_ne (tgt := 13) C dX6_flip_7 (by decide) hf (fun hf => ?_) (fun hf => ?_)
  · refine aw_aload_n C dX6_flip_13 rfl 0 rfl ?_
    refine aw_bipush (v := 64) C dX6_flip_14 (by decide) ?_
    refine aw_iload_n C dX6_flip_16 rfl 1 rfl ?_
    refine aw_imul C dX6_flip_17 ?_
    refine aw_bipush (v := 8) C dX6_flip_18 (by decide) ?_
    refine aw_iload_n C dX6_flip_20 rfl 2 rfl ?_
    refine aw_imul C dX6_flip_21 ?_
    refine aw_iadd C dX6_flip_22 ?_
    refine aw_iload_n C dX6_flip_23 rfl 3 rfl ?_
    refine aw_iadd C dX6_flip_24 ?_
    obtain ⟨h2, hc, hf⟩ := bR_some hf
    refine aw_callVv (As := [.int (((64 * a1) + (8 * a2)) + a3)]) (rest := []) C rfl (by decide) rfl (kX6_hits (l := l) (D := D) (ad := ad) (cy := cy) (tb := tb) C.2.2.2.2.2.2.2.2.1 hc) (fun ht _ => cwV 1 ht gX6_flip_X6_hits rfl rfl rfl (by decide +kernel) ⟨Nat.le_of_ble_eq_true rfl, Nat.le_of_ble_eq_true rfl⟩) rfl rfl (Nat.le_of_ble_eq_true rfl) dX6_flip_25 ?_
    refine aw_aload_n C dX6_flip_28 rfl 0 rfl ?_
    obtain ⟨r3, hc, hf⟩ := bR_some hf
    refine aw_callVi (As := []) (rest := []) C rfl (by decide) rfl (kX6_wrongMany (l := l) (D := D) (ad := ad) (cy := cy) (tb := tb) C.2.2.2.2.2.2.2.2.1 hc) (fun ht _ => cwV 0 ht gX6_flip_X6_wrongMany rfl rfl rfl (by decide +kernel) ⟨Nat.le_of_ble_eq_true rfl, Nat.le_of_ble_eq_true rfl⟩) rfl rfl (Nat.le_of_ble_eq_true rfl) dX6_flip_29 ?_
    exact aw_iretW C dX6_flip_32 hf
  refine aw_bipush (v := (-2)) C dX6_flip_10 (by decide) ?_
  exact aw_iretW C dX6_flip_12 hf
theorem kX6_flip {h : AH} {a1 : Int32} {a2 : Int32} {a3 : Int32} {r0 : Int32} {h0 : AH} (hi : Inj ad) (hf : fX6_flip h a1 a2 a3 = some (r0, h0)) : Ki l yX6_flip wsX6_flip rmX6_flip D ad cy tb [.ref (ad 29), .int a1, .int a2, .int a3] h r0 h0 := met_i (lv := [(0, .ref (ad 29)), (1, .int a1), (2, .int a2), (3, .int a3)]) hi (by decide) rfl (Nat.le_of_ble_eq_true rfl) rfl rfl (fun _ _ _ _ _ _ _ _ C => tX6_flip_0 C  hf)
set_option maxRecDepth 20000 in
theorem ggX5_lots_X5_bitNumber : GoodIn wsX5_lots wsX5_bitNumber := goodIn_r _ [6] (by decide +kernel) (by decide +kernel)
set_option maxRecDepth 20000 in
theorem gX5_lots_X5_bitNumber : GoodIn wsX5_lots (va_wsS RX5 94 yX5_bitNumber wsX5_bitNumber) := goodIn_app (goodIn_of _ (by decide +kernel)) ggX5_lots_X5_bitNumber
set_option maxRecDepth 20000 in
theorem ggX5_lots_X5_hitBit : GoodIn wsX5_lots wsX5_hitBit := goodIn_r _ [10, 1, 11, 12, 13, 14, 15, 16, 17, 18, 19, 20, 21, 22, 23, 24, 25, 26, 27, 28, 29, 30, 31] (by decide +kernel) (by decide +kernel)
set_option maxRecDepth 20000 in
theorem gX5_lots_X5_hitBit : GoodIn wsX5_lots (wsV RX5 98 RX5 yX5_hitBit wsX5_hitBit) := goodIn_app (goodIn_of _ (by decide +kernel)) ggX5_lots_X5_hitBit
theorem dX5_lots_0 : decode cX5_lots 0 = .ok (.iload_n 2, 1) := by decide +kernel
theorem dX5_lots_1 : decode cX5_lots 1 = .ok (.ifCond .lt 10, 3) := by decide +kernel
theorem dX5_lots_4 : decode cX5_lots 4 = .ok (.iload_n 2, 1) := by decide +kernel
theorem dX5_lots_5 : decode cX5_lots 5 = .ok (.sipush 256, 3) := by decide +kernel
theorem dX5_lots_8 : decode cX5_lots 8 = .ok (.if_icmp .le 6, 3) := by decide +kernel
theorem dX5_lots_11 : decode cX5_lots 11 = .ok (.bipush (-2), 2) := by decide +kernel
theorem dX5_lots_13 : decode cX5_lots 13 = .ok (.ireturn, 1) := by decide +kernel
theorem dX5_lots_14 : decode cX5_lots 14 = .ok (.iload_n 1, 1) := by decide +kernel
theorem dX5_lots_15 : decode cX5_lots 15 = .ok (.istore_n 3, 1) := by decide +kernel
theorem dX5_lots_16 : decode cX5_lots 16 = .ok (.iconst 0, 1) := by decide +kernel
theorem dX5_lots_17 : decode cX5_lots 17 = .ok (.istore 4, 2) := by decide +kernel
theorem dX5_lots_19 : decode cX5_lots 19 = .ok (.aload_n 0, 1) := by decide +kernel
theorem dX5_lots_20 : decode cX5_lots 20 = .ok (.getfield 12, 3) := by decide +kernel
theorem dX5_lots_23 : decode cX5_lots 23 = .ok (.getfield 58, 3) := by decide +kernel
theorem dX5_lots_26 : decode cX5_lots 26 = .ok (.iconst 1, 1) := by decide +kernel
theorem dX5_lots_27 : decode cX5_lots 27 = .ok (.iadd, 1) := by decide +kernel
theorem dX5_lots_28 : decode cX5_lots 28 = .ok (.iconst 0, 1) := by decide +kernel
theorem dX5_lots_29 : decode cX5_lots 29 = .ok (.iconst 0, 1) := by decide +kernel
theorem dX5_lots_30 : decode cX5_lots 30 = .ok (.invokestatic 94, 3) := by decide +kernel
theorem dX5_lots_33 : decode cX5_lots 33 = .ok (.istore 5, 2) := by decide +kernel
theorem dX5_lots_35 : decode cX5_lots 35 = .ok (.iconst 1, 1) := by decide +kernel
theorem dX5_lots_36 : decode cX5_lots 36 = .ok (.iconst 0, 1) := by decide +kernel
theorem dX5_lots_37 : decode cX5_lots 37 = .ok (.iconst 0, 1) := by decide +kernel
theorem dX5_lots_38 : decode cX5_lots 38 = .ok (.invokestatic 94, 3) := by decide +kernel
theorem dX5_lots_41 : decode cX5_lots 41 = .ok (.istore 6, 2) := by decide +kernel
theorem dX5_lots_43 : decode cX5_lots 43 = .ok (.iload 6, 2) := by decide +kernel
theorem dX5_lots_45 : decode cX5_lots 45 = .ok (.iload 5, 2) := by decide +kernel
theorem dX5_lots_47 : decode cX5_lots 47 = .ok (.if_icmp .ge 39, 3) := by decide +kernel
theorem dX5_lots_50 : decode cX5_lots 50 = .ok (.ldc 105, 2) := by decide +kernel
theorem dX5_lots_52 : decode cX5_lots 52 = .ok (.iload_n 3, 1) := by decide +kernel
theorem dX5_lots_53 : decode cX5_lots 53 = .ok (.imul, 1) := by decide +kernel
theorem dX5_lots_54 : decode cX5_lots 54 = .ok (.sipush 12345, 3) := by decide +kernel
theorem dX5_lots_57 : decode cX5_lots 57 = .ok (.iadd, 1) := by decide +kernel
theorem dX5_lots_58 : decode cX5_lots 58 = .ok (.istore_n 3, 1) := by decide +kernel
theorem dX5_lots_59 : decode cX5_lots 59 = .ok (.iload_n 3, 1) := by decide +kernel
theorem dX5_lots_60 : decode cX5_lots 60 = .ok (.bipush 16, 2) := by decide +kernel
theorem dX5_lots_62 : decode cX5_lots 62 = .ok (.iushr, 1) := by decide +kernel
theorem dX5_lots_63 : decode cX5_lots 63 = .ok (.sipush 255, 3) := by decide +kernel
theorem dX5_lots_66 : decode cX5_lots 66 = .ok (.iand, 1) := by decide +kernel
theorem dX5_lots_67 : decode cX5_lots 67 = .ok (.iload_n 2, 1) := by decide +kernel
theorem dX5_lots_68 : decode cX5_lots 68 = .ok (.if_icmp .ge 12, 3) := by decide +kernel
theorem dX5_lots_71 : decode cX5_lots 71 = .ok (.aload_n 0, 1) := by decide +kernel
theorem dX5_lots_72 : decode cX5_lots 72 = .ok (.iload 6, 2) := by decide +kernel
theorem dX5_lots_74 : decode cX5_lots 74 = .ok (.invokevirtual 98, 3) := by decide +kernel
theorem dX5_lots_77 : decode cX5_lots 77 = .ok (.iinc 4 1, 3) := by decide +kernel
theorem dX5_lots_80 : decode cX5_lots 80 = .ok (.iinc 6 1, 3) := by decide +kernel
theorem dX5_lots_83 : decode cX5_lots 83 = .ok (.goto (-40), 3) := by decide +kernel
theorem dX5_lots_86 : decode cX5_lots 86 = .ok (.iload 4, 2) := by decide +kernel
theorem dX5_lots_88 : decode cX5_lots 88 = .ok (.ireturn, 1) := by decide +kernel
abbrev rmX5_lots : Room := { frames := 2, cells := 0, slots := 0, locals := 45 }
set_option maxRecDepth 100000 in
theorem hinX5_lots_5 : ∀ w ∈ wsX50, w ∈ wsX5_lots := by decide +kernel
set_option maxRecDepth 100000 in
theorem hinX5_lots_4 : ∀ w ∈ wsX40, w ∈ wsX5_lots := by decide +kernel
set_option maxHeartbeats 4000000 in
set_option maxRecDepth 100000 in
theorem tX5_lots_80 {h : AH} {a1 : Int32} {a2 : Int32} {k43 : AH → Int32 → Int32 → Int32 → Int32 → Option (Int32 × AH)} {x3 : Int32} {x4 : Int32} {x5 : Int32} {x6 : Int32} {r0 : Int32} {h0 : AH} (C : Cx p rmX5_lots s m args meth c RX5 cX5_lots 7 (some .int) wsX5_lots D ad cy tb 0 0) (H43 : ∀ (h : AH) (x3 : Int32) (x4 : Int32) (x5 : Int32) (x6 : Int32), k43 h x3 x4 x5 x6 = some (r0, h0) → AW p l e rmX5_lots s m args below meth c 7 D ad cy 0 0 (Qi D ad cy below args s r0 h0) 43 [(0, .ref (ad 0)), (1, .int a1), (2, .int a2), (3, .int x3), (4, .int x4), (5, .int x5), (6, .int x6)] [] h) (hf : fX5_lots_80 k43 a1 a2 h x3 x4 x5 x6 = some (r0, h0)) : AW p l e rmX5_lots s m args below meth c 7 D ad cy 0 0 (Qi D ad cy below args s r0 h0) 80 [(0, .ref (ad 0)), (1, .int a1), (2, .int a2), (3, .int x3), (4, .int x4), (5, .int x5), (6, .int x6)] [] h := by
  unfold fX5_lots_80 at hf
  obtain ⟨v1, hvv1, hf⟩ := nm_ex hf
  refine aw_iinc (j := 6) (v := v1) (lv1 := [(6, .int v1), (0, .ref (ad 0)), (1, .int a1), (2, .int a2), (3, .int x3), (4, .int x4), (5, .int x5)]) C dX5_lots_80 rfl hvv1 (by decide) rfl ?_
  refine aw_goto (tgt := 43) C dX5_lots_83 (by decide) ?_
  refine aw_sub [1, 2, 3, 4, 5, 6, 0] rfl ?_
  exact H43 h x3 x4 x5 v1 hf
set_option maxHeartbeats 4000000 in
set_option maxRecDepth 100000 in
theorem tX5_lots_43b {h : AH} {a1 : Int32} {a2 : Int32} {k43 : AH → Int32 → Int32 → Int32 → Int32 → Option (Int32 × AH)} {x3 : Int32} {x4 : Int32} {x5 : Int32} {x6 : Int32} {r0 : Int32} {h0 : AH} (C : Cx p rmX5_lots s m args meth c RX5 cX5_lots 7 (some .int) wsX5_lots D ad cy tb 0 0) (H43 : ∀ (h : AH) (x3 : Int32) (x4 : Int32) (x5 : Int32) (x6 : Int32), k43 h x3 x4 x5 x6 = some (r0, h0) → AW p l e rmX5_lots s m args below meth c 7 D ad cy 0 0 (Qi D ad cy below args s r0 h0) 43 [(0, .ref (ad 0)), (1, .int a1), (2, .int a2), (3, .int x3), (4, .int x4), (5, .int x5), (6, .int x6)] [] h) (hf : fX5_lots_43b k43 a1 a2 h x3 x4 x5 x6 = some (r0, h0)) : AW p l e rmX5_lots s m args below meth c 7 D ad cy 0 0 (Qi D ad cy below args s r0 h0) 43 [(0, .ref (ad 0)), (1, .int a1), (2, .int a2), (3, .int x3), (4, .int x4), (5, .int x5), (6, .int x6)] [] h := by
  unfold fX5_lots_43b at hf
  refine aw_iload C dX5_lots_43 6 rfl ?_
  refine aw_iload C dX5_lots_45 5 rfl ?_
  refine aw_icmp_ge (tgt := 86) C dX5_lots_47 (by decide) hf (fun hf => ?_) (fun hf => ?_)
  · refine aw_iload C dX5_lots_86 4 rfl ?_
    exact aw_iretW C dX5_lots_88 hf
  refine aw_ldc (v := 1103515245) C (by decide +kernel) dX5_lots_50 ?_
  refine aw_iload_n C dX5_lots_52 rfl 3 rfl ?_
  refine aw_imul C dX5_lots_53 ?_
  refine aw_sipush (v := 12345) C dX5_lots_54 (by decide) ?_
  refine aw_iadd C dX5_lots_57 ?_
  refine aw_nmI hf (fun v1 hf => ?_)
  refine aw_istore_n (lv1 := [(3, .int v1), (0, .ref (ad 0)), (1, .int a1), (2, .int a2), (4, .int x4), (5, .int x5), (6, .int x6)]) C dX5_lots_58 rfl (by decide) rfl ?_
  refine aw_iload_n C dX5_lots_59 rfl 0 rfl ?_
  refine aw_bipush (v := 16) C dX5_lots_60 (by decide) ?_
  refine aw_iushr C dX5_lots_62 ?_
  refine aw_sipush (v := 255) C dX5_lots_63 (by decide) ?_
  refine aw_iand C dX5_lots_66 ?_
  refine aw_iload_n C dX5_lots_67 rfl 3 rfl ?_
  refine aw_icmp_ge (tgt := 80) C dX5_lots_68 (by decide) hf (fun hf => ?_) (fun hf => ?_)
  · refine aw_sub [1, 2, 3, 0, 4, 5, 6] rfl ?_
    exact tX5_lots_80 C  H43 hf
  refine aw_aload_n C dX5_lots_71 rfl 1 rfl ?_
  refine aw_iload C dX5_lots_72 6 rfl ?_
  obtain ⟨h2, hc, hf⟩ := bR_some hf
  refine aw_callVv (As := [.int x6]) (rest := []) C rfl (by decide) rfl (kX5_hitBit (l := l) (D := D) (ad := ad) (cy := cy) (tb := tb) C.2.2.2.2.2.2.2.2.1 hc) (fun ht _ => cwV 1 ht gX5_lots_X5_hitBit rfl rfl rfl (by decide +kernel) ⟨Nat.le_of_ble_eq_true rfl, Nat.le_of_ble_eq_true rfl⟩) rfl rfl (Nat.le_of_ble_eq_true rfl) dX5_lots_74 ?_
  obtain ⟨v3, hvv3, hf⟩ := nm_ex hf
  refine aw_iinc (j := 4) (v := v3) (lv1 := [(4, .int v3), (3, .int v1), (0, .ref (ad 0)), (1, .int a1), (2, .int a2), (5, .int x5), (6, .int x6)]) C dX5_lots_77 rfl hvv3 (by decide) rfl ?_
  refine aw_sub [2, 3, 4, 1, 0, 5, 6] rfl ?_
  exact tX5_lots_80 C  H43 hf
set_option maxHeartbeats 4000000 in
set_option maxRecDepth 100000 in
theorem tX5_lots_43  {a1 : Int32} {a2 : Int32} {r0 : Int32} {h0 : AH} (C : Cx p rmX5_lots s m args meth c RX5 cX5_lots 7 (some .int) wsX5_lots D ad cy tb 0 0) : ∀ (n : Nat) (h : AH) (x3 : Int32) (x4 : Int32) (x5 : Int32) (x6 : Int32), fX5_lots_43 a1 a2 n h x3 x4 x5 x6 = some (r0, h0) → AW p l e rmX5_lots s m args below meth c 7 D ad cy 0 0 (Qi D ad cy below args s r0 h0) 43 [(0, .ref (ad 0)), (1, .int a1), (2, .int a2), (3, .int x3), (4, .int x4), (5, .int x5), (6, .int x6)] [] h := by
  intro n
  induction n with
  | zero => intro h x3 x4 x5 x6 hf; cases hf
  | succ n ih => intro h x3 x4 x5 x6 hf; exact tX5_lots_43b C  ih  hf
set_option maxHeartbeats 4000000 in
set_option maxRecDepth 100000 in
theorem tX5_lots_0 {h : AH} {a1 : Int32} {a2 : Int32} {r0 : Int32} {h0 : AH} (C : Cx p rmX5_lots s m args meth c RX5 cX5_lots 7 (some .int) wsX5_lots D ad cy tb 0 0) (hf : fX5_lots h a1 a2 = some (r0, h0)) : AW p l e rmX5_lots s m args below meth c 7 D ad cy 0 0 (Qi D ad cy below args s r0 h0) 0 [(0, .ref (ad 0)), (1, .int a1), (2, .int a2)] [] h := by
  unfold fX5_lots at hf
  refine aw_iload_n C dX5_lots_0 rfl 2 rfl ?_
  refine aw_if_lt (tgt := 11) C dX5_lots_1 (by decide) hf (fun hf => ?_) (fun hf => ?_)
  · refine aw_bipush (v := (-2)) C dX5_lots_11 (by decide) ?_
    exact aw_iretW C dX5_lots_13 hf
  refine aw_iload_n C dX5_lots_4 rfl 2 rfl ?_
  refine aw_sipush (v := 256) C dX5_lots_5 (by decide) ?_
  refine aw_icmp_le (tgt := 14) C dX5_lots_8 (by decide) hf (fun hf => ?_) (fun hf => ?_)
  · refine aw_iload_n C dX5_lots_14 rfl 1 rfl ?_
    refine aw_istore_n (lv1 := [(3, .int a1), (0, .ref (ad 0)), (1, .int a1), (2, .int a2)]) C dX5_lots_15 rfl (by decide) rfl ?_
    refine aw_iconst (v := 0) C dX5_lots_16 (by decide) ?_
    refine aw_istore (lv1 := [(4, .int 0), (3, .int a1), (0, .ref (ad 0)), (1, .int a1), (2, .int a2)]) C dX5_lots_17 (by decide) rfl ?_
    refine aw_aload_n C dX5_lots_19 rfl 2 rfl ?_
    refine aw_get C (kd_lt rfl (by decide)) (ce_5 rfl) rfl hinX5_lots_5 0 (by decide) rfl (by decide +kernel) rfl dX5_lots_20 ?_
    refine aw_getN (host := "StairCodes") C (kd_lt rfl (by decide)) (ce_4 rfl) rfl hinX5_lots_4 0 (by decide) rfl (by decide +kernel) rfl dX5_lots_23 ?_
    refine aw_iconst (v := 1) C dX5_lots_26 (by decide) ?_
    refine aw_iadd C dX5_lots_27 ?_
    refine aw_iconst (v := 0) C dX5_lots_28 (by decide) ?_
    refine aw_iconst (v := 0) C dX5_lots_29 (by decide) ?_
    obtain ⟨r1, hc, hf⟩ := bR_some hf
    refine aw_callSi (As := [.int ((h.1 1 0) + 1), .int 0, .int 0]) (rest := []) C (kX5_bitNumber (l := l) (D := D) (ad := ad) (cy := cy) (tb := tb) C.2.2.2.2.2.2.2.2.1 hc) (fun ht _ => va_cwS 3 ht gX5_lots_X5_bitNumber rfl rfl rfl (by decide +kernel) ⟨Nat.le_of_ble_eq_true rfl, Nat.le_of_ble_eq_true rfl⟩) rfl rfl (Nat.le_of_ble_eq_true rfl) dX5_lots_30 ?_
    refine aw_istore (lv1 := [(5, .int r1), (4, .int 0), (3, .int a1), (0, .ref (ad 0)), (1, .int a1), (2, .int a2)]) C dX5_lots_33 (by decide) rfl ?_
    refine aw_iconst (v := 1) C dX5_lots_35 (by decide) ?_
    refine aw_iconst (v := 0) C dX5_lots_36 (by decide) ?_
    refine aw_iconst (v := 0) C dX5_lots_37 (by decide) ?_
    obtain ⟨r2, hc, hf⟩ := bR_some hf
    refine aw_callSi (As := [.int 1, .int 0, .int 0]) (rest := []) C (kX5_bitNumber (l := l) (D := D) (ad := ad) (cy := cy) (tb := tb) C.2.2.2.2.2.2.2.2.1 hc) (fun ht _ => va_cwS 3 ht gX5_lots_X5_bitNumber rfl rfl rfl (by decide +kernel) ⟨Nat.le_of_ble_eq_true rfl, Nat.le_of_ble_eq_true rfl⟩) rfl rfl (Nat.le_of_ble_eq_true rfl) dX5_lots_38 ?_
    refine aw_istore (lv1 := [(6, .int r2), (5, .int r1), (4, .int 0), (3, .int a1), (0, .ref (ad 0)), (1, .int a1), (2, .int a2)]) C dX5_lots_41 (by decide) rfl ?_
    refine aw_sub [4, 5, 6, 3, 2, 1, 0] rfl ?_
    exact tX5_lots_43 C   FU h a1 0 r1 r2 hf
  refine aw_bipush (v := (-2)) C dX5_lots_11 (by decide) ?_
  exact aw_iretW C dX5_lots_13 hf
theorem kX5_lots {h : AH} {a1 : Int32} {a2 : Int32} {r0 : Int32} {h0 : AH} (hi : Inj ad) (hf : fX5_lots h a1 a2 = some (r0, h0)) : Ki l yX5_lots wsX5_lots rmX5_lots D ad cy tb [.ref (ad 0), .int a1, .int a2] h r0 h0 := met_i (lv := [(0, .ref (ad 0)), (1, .int a1), (2, .int a2)]) hi (by decide) rfl (Nat.le_of_ble_eq_true rfl) rfl rfl (fun _ _ _ _ _ _ _ _ C => tX5_lots_0 C  hf)
set_option maxRecDepth 20000 in
theorem ggX6_lots_X6_in : GoodIn wsX6_lots wsX6_in := goodIn_r _ [6] (by decide +kernel) (by decide +kernel)
set_option maxRecDepth 20000 in
theorem gX6_lots_X6_in : GoodIn wsX6_lots (va_wsS RX6 73 yX6_in wsX6_in) := goodIn_app (goodIn_of _ (by decide +kernel)) ggX6_lots_X6_in
set_option maxRecDepth 20000 in
theorem ggX6_lots_X6_hits : GoodIn wsX6_lots wsX6_hits := goodIn_r _ [10, 11, 12, 13, 14, 15, 16, 17, 18, 19, 20, 21, 22, 23, 24, 25, 26, 27, 28, 29, 30] (by decide +kernel) (by decide +kernel)
set_option maxRecDepth 20000 in
theorem gX6_lots_X6_hits : GoodIn wsX6_lots (wsV RX6 94 RX6 yX6_hits wsX6_hits) := goodIn_app (goodIn_of _ (by decide +kernel)) ggX6_lots_X6_hits
theorem dX6_lots_0 : decode cX6_lots 0 = .ok (.iload_n 2, 1) := by decide +kernel
theorem dX6_lots_1 : decode cX6_lots 1 = .ok (.iconst 0, 1) := by decide +kernel
theorem dX6_lots_2 : decode cX6_lots 2 = .ok (.sipush 256, 3) := by decide +kernel
theorem dX6_lots_5 : decode cX6_lots 5 = .ok (.invokestatic 73, 3) := by decide +kernel
theorem dX6_lots_8 : decode cX6_lots 8 = .ok (.ifCond .ne 6, 3) := by decide +kernel
theorem dX6_lots_11 : decode cX6_lots 11 = .ok (.bipush (-2), 2) := by decide +kernel
theorem dX6_lots_13 : decode cX6_lots 13 = .ok (.ireturn, 1) := by decide +kernel
theorem dX6_lots_14 : decode cX6_lots 14 = .ok (.iload_n 1, 1) := by decide +kernel
theorem dX6_lots_15 : decode cX6_lots 15 = .ok (.istore_n 3, 1) := by decide +kernel
theorem dX6_lots_16 : decode cX6_lots 16 = .ok (.iconst 0, 1) := by decide +kernel
theorem dX6_lots_17 : decode cX6_lots 17 = .ok (.istore 4, 2) := by decide +kernel
theorem dX6_lots_19 : decode cX6_lots 19 = .ok (.bipush 64, 2) := by decide +kernel
theorem dX6_lots_21 : decode cX6_lots 21 = .ok (.istore 5, 2) := by decide +kernel
theorem dX6_lots_23 : decode cX6_lots 23 = .ok (.iload 5, 2) := by decide +kernel
theorem dX6_lots_25 : decode cX6_lots 25 = .ok (.bipush 64, 2) := by decide +kernel
theorem dX6_lots_27 : decode cX6_lots 27 = .ok (.aload_n 0, 1) := by decide +kernel
theorem dX6_lots_28 : decode cX6_lots 28 = .ok (.getfield 7, 3) := by decide +kernel
theorem dX6_lots_31 : decode cX6_lots 31 = .ok (.imul, 1) := by decide +kernel
theorem dX6_lots_32 : decode cX6_lots 32 = .ok (.bipush 64, 2) := by decide +kernel
theorem dX6_lots_34 : decode cX6_lots 34 = .ok (.iadd, 1) := by decide +kernel
theorem dX6_lots_35 : decode cX6_lots 35 = .ok (.if_icmp .ge 39, 3) := by decide +kernel
theorem dX6_lots_38 : decode cX6_lots 38 = .ok (.ldc 102, 2) := by decide +kernel
theorem dX6_lots_40 : decode cX6_lots 40 = .ok (.iload_n 3, 1) := by decide +kernel
theorem dX6_lots_41 : decode cX6_lots 41 = .ok (.imul, 1) := by decide +kernel
theorem dX6_lots_42 : decode cX6_lots 42 = .ok (.sipush 12345, 3) := by decide +kernel
theorem dX6_lots_45 : decode cX6_lots 45 = .ok (.iadd, 1) := by decide +kernel
theorem dX6_lots_46 : decode cX6_lots 46 = .ok (.istore_n 3, 1) := by decide +kernel
theorem dX6_lots_47 : decode cX6_lots 47 = .ok (.iload_n 3, 1) := by decide +kernel
theorem dX6_lots_48 : decode cX6_lots 48 = .ok (.bipush 16, 2) := by decide +kernel
theorem dX6_lots_50 : decode cX6_lots 50 = .ok (.iushr, 1) := by decide +kernel
theorem dX6_lots_51 : decode cX6_lots 51 = .ok (.sipush 256, 3) := by decide +kernel
theorem dX6_lots_54 : decode cX6_lots 54 = .ok (.irem, 1) := by decide +kernel
theorem dX6_lots_55 : decode cX6_lots 55 = .ok (.iload_n 2, 1) := by decide +kernel
theorem dX6_lots_56 : decode cX6_lots 56 = .ok (.if_icmp .ge 12, 3) := by decide +kernel
theorem dX6_lots_59 : decode cX6_lots 59 = .ok (.aload_n 0, 1) := by decide +kernel
theorem dX6_lots_60 : decode cX6_lots 60 = .ok (.iload 5, 2) := by decide +kernel
theorem dX6_lots_62 : decode cX6_lots 62 = .ok (.invokevirtual 94, 3) := by decide +kernel
theorem dX6_lots_65 : decode cX6_lots 65 = .ok (.iinc 4 1, 3) := by decide +kernel
theorem dX6_lots_68 : decode cX6_lots 68 = .ok (.iinc 5 1, 3) := by decide +kernel
theorem dX6_lots_71 : decode cX6_lots 71 = .ok (.goto (-48), 3) := by decide +kernel
theorem dX6_lots_74 : decode cX6_lots 74 = .ok (.iload 4, 2) := by decide +kernel
theorem dX6_lots_76 : decode cX6_lots 76 = .ok (.ireturn, 1) := by decide +kernel
abbrev rmX6_lots : Room := { frames := 1, cells := 0, slots := 0, locals := 22 }
set_option maxRecDepth 100000 in
theorem hinX6_lots_6 : ∀ w ∈ wsX60, w ∈ wsX6_lots := by decide +kernel
set_option maxHeartbeats 4000000 in
set_option maxRecDepth 100000 in
theorem tX6_lots_68 {h : AH} {a1 : Int32} {a2 : Int32} {k23 : AH → Int32 → Int32 → Int32 → Option (Int32 × AH)} {x3 : Int32} {x4 : Int32} {x5 : Int32} {r0 : Int32} {h0 : AH} (C : Cx p rmX6_lots s m args meth c RX6 cX6_lots 6 (some .int) wsX6_lots D ad cy tb 0 0) (H23 : ∀ (h : AH) (x3 : Int32) (x4 : Int32) (x5 : Int32), k23 h x3 x4 x5 = some (r0, h0) → AW p l e rmX6_lots s m args below meth c 6 D ad cy 0 0 (Qi D ad cy below args s r0 h0) 23 [(0, .ref (ad 29)), (1, .int a1), (2, .int a2), (3, .int x3), (4, .int x4), (5, .int x5)] [] h) (hf : fX6_lots_68 k23 a1 a2 h x3 x4 x5 = some (r0, h0)) : AW p l e rmX6_lots s m args below meth c 6 D ad cy 0 0 (Qi D ad cy below args s r0 h0) 68 [(0, .ref (ad 29)), (1, .int a1), (2, .int a2), (3, .int x3), (4, .int x4), (5, .int x5)] [] h := by
  unfold fX6_lots_68 at hf
  obtain ⟨v1, hvv1, hf⟩ := nm_ex hf
  refine aw_iinc (j := 5) (v := v1) (lv1 := [(5, .int v1), (0, .ref (ad 29)), (1, .int a1), (2, .int a2), (3, .int x3), (4, .int x4)]) C dX6_lots_68 rfl hvv1 (by decide) rfl ?_
  refine aw_goto (tgt := 23) C dX6_lots_71 (by decide) ?_
  refine aw_sub [1, 2, 3, 4, 5, 0] rfl ?_
  exact H23 h x3 x4 v1 hf
set_option maxHeartbeats 4000000 in
set_option maxRecDepth 100000 in
theorem tX6_lots_23b {h : AH} {a1 : Int32} {a2 : Int32} {k23 : AH → Int32 → Int32 → Int32 → Option (Int32 × AH)} {x3 : Int32} {x4 : Int32} {x5 : Int32} {r0 : Int32} {h0 : AH} (C : Cx p rmX6_lots s m args meth c RX6 cX6_lots 6 (some .int) wsX6_lots D ad cy tb 0 0) (H23 : ∀ (h : AH) (x3 : Int32) (x4 : Int32) (x5 : Int32), k23 h x3 x4 x5 = some (r0, h0) → AW p l e rmX6_lots s m args below meth c 6 D ad cy 0 0 (Qi D ad cy below args s r0 h0) 23 [(0, .ref (ad 29)), (1, .int a1), (2, .int a2), (3, .int x3), (4, .int x4), (5, .int x5)] [] h) (hf : fX6_lots_23b k23 a1 a2 h x3 x4 x5 = some (r0, h0)) : AW p l e rmX6_lots s m args below meth c 6 D ad cy 0 0 (Qi D ad cy below args s r0 h0) 23 [(0, .ref (ad 29)), (1, .int a1), (2, .int a2), (3, .int x3), (4, .int x4), (5, .int x5)] [] h := by
  unfold fX6_lots_23b at hf
  refine aw_iload C dX6_lots_23 5 rfl ?_
  refine aw_bipush (v := 64) C dX6_lots_25 (by decide) ?_
  refine aw_aload_n C dX6_lots_27 rfl 0 rfl ?_
  refine aw_get C (kd_lt rfl (by decide)) (ce_6 rfl) rfl hinX6_lots_6 0 (by decide) rfl (by decide +kernel) rfl dX6_lots_28 ?_
  refine aw_imul C dX6_lots_31 ?_
  refine aw_bipush (v := 64) C dX6_lots_32 (by decide) ?_
  refine aw_iadd C dX6_lots_34 ?_
  refine aw_icmp_ge (tgt := 74) C dX6_lots_35 (by decide) hf (fun hf => ?_) (fun hf => ?_)
  · refine aw_iload C dX6_lots_74 4 rfl ?_
    exact aw_iretW C dX6_lots_76 hf
  refine aw_ldc (v := 1103515245) C (by decide +kernel) dX6_lots_38 ?_
  refine aw_iload_n C dX6_lots_40 rfl 3 rfl ?_
  refine aw_imul C dX6_lots_41 ?_
  refine aw_sipush (v := 12345) C dX6_lots_42 (by decide) ?_
  refine aw_iadd C dX6_lots_45 ?_
  refine aw_nmI hf (fun v1 hf => ?_)
  refine aw_istore_n (lv1 := [(3, .int v1), (0, .ref (ad 29)), (1, .int a1), (2, .int a2), (4, .int x4), (5, .int x5)]) C dX6_lots_46 rfl (by decide) rfl ?_
  refine aw_iload_n C dX6_lots_47 rfl 0 rfl ?_
  refine aw_bipush (v := 16) C dX6_lots_48 (by decide) ?_
  refine aw_iushr C dX6_lots_50 ?_
  refine aw_sipush (v := 256) C dX6_lots_51 (by decide) ?_
  refine aw_nm2 hf (fun v2 hf => ?_)
  refine aw_irem C dX6_lots_54 (by decide) ?_
  refine aw_iload_n C dX6_lots_55 rfl 3 rfl ?_
  refine aw_icmp_ge (tgt := 68) C dX6_lots_56 (by decide) hf (fun hf => ?_) (fun hf => ?_)
  · refine aw_sub [1, 2, 3, 0, 4, 5] rfl ?_
    exact tX6_lots_68 C  H23 hf
  refine aw_aload_n C dX6_lots_59 rfl 1 rfl ?_
  refine aw_iload C dX6_lots_60 5 rfl ?_
  obtain ⟨h3, hc, hf⟩ := bR_some hf
  refine aw_callVv (As := [.int x5]) (rest := []) C rfl (by decide) rfl (kX6_hits (l := l) (D := D) (ad := ad) (cy := cy) (tb := tb) C.2.2.2.2.2.2.2.2.1 hc) (fun ht _ => cwV 1 ht gX6_lots_X6_hits rfl rfl rfl (by decide +kernel) ⟨Nat.le_of_ble_eq_true rfl, Nat.le_of_ble_eq_true rfl⟩) rfl rfl (Nat.le_of_ble_eq_true rfl) dX6_lots_62 ?_
  obtain ⟨v4, hvv4, hf⟩ := nm_ex hf
  refine aw_iinc (j := 4) (v := v4) (lv1 := [(4, .int v4), (3, .int v1), (0, .ref (ad 29)), (1, .int a1), (2, .int a2), (5, .int x5)]) C dX6_lots_65 rfl hvv4 (by decide) rfl ?_
  refine aw_sub [2, 3, 4, 1, 0, 5] rfl ?_
  exact tX6_lots_68 C  H23 hf
set_option maxHeartbeats 4000000 in
set_option maxRecDepth 100000 in
theorem tX6_lots_23  {a1 : Int32} {a2 : Int32} {r0 : Int32} {h0 : AH} (C : Cx p rmX6_lots s m args meth c RX6 cX6_lots 6 (some .int) wsX6_lots D ad cy tb 0 0) : ∀ (n : Nat) (h : AH) (x3 : Int32) (x4 : Int32) (x5 : Int32), fX6_lots_23 a1 a2 n h x3 x4 x5 = some (r0, h0) → AW p l e rmX6_lots s m args below meth c 6 D ad cy 0 0 (Qi D ad cy below args s r0 h0) 23 [(0, .ref (ad 29)), (1, .int a1), (2, .int a2), (3, .int x3), (4, .int x4), (5, .int x5)] [] h := by
  intro n
  induction n with
  | zero => intro h x3 x4 x5 hf; cases hf
  | succ n ih => intro h x3 x4 x5 hf; exact tX6_lots_23b C  ih  hf
set_option maxHeartbeats 4000000 in
set_option maxRecDepth 100000 in
theorem tX6_lots_0 {h : AH} {a1 : Int32} {a2 : Int32} {r0 : Int32} {h0 : AH} (C : Cx p rmX6_lots s m args meth c RX6 cX6_lots 6 (some .int) wsX6_lots D ad cy tb 0 0) (hf : fX6_lots h a1 a2 = some (r0, h0)) : AW p l e rmX6_lots s m args below meth c 6 D ad cy 0 0 (Qi D ad cy below args s r0 h0) 0 [(0, .ref (ad 29)), (1, .int a1), (2, .int a2)] [] h := by
  unfold fX6_lots at hf
  refine aw_iload_n C dX6_lots_0 rfl 2 rfl ?_
  refine aw_iconst (v := 0) C dX6_lots_1 (by decide) ?_
  refine aw_sipush (v := 256) C dX6_lots_2 (by decide) ?_
  obtain ⟨r1, hc, hf⟩ := bR_some hf
  refine aw_callSi (As := [.int a2, .int 0, .int 256]) (rest := []) C (kX6_in (l := l) (D := D) (ad := ad) (cy := cy) (tb := tb) C.2.2.2.2.2.2.2.2.1 hc) (fun ht _ => va_cwS 3 ht gX6_lots_X6_in rfl rfl rfl (by decide +kernel) ⟨Nat.le_of_ble_eq_true rfl, Nat.le_of_ble_eq_true rfl⟩) rfl rfl (Nat.le_of_ble_eq_true rfl) dX6_lots_5 ?_
  refine aw_if_ne (tgt := 14) C dX6_lots_8 (by decide) hf (fun hf => ?_) (fun hf => ?_)
  · refine aw_iload_n C dX6_lots_14 rfl 1 rfl ?_
    refine aw_istore_n (lv1 := [(3, .int a1), (0, .ref (ad 29)), (1, .int a1), (2, .int a2)]) C dX6_lots_15 rfl (by decide) rfl ?_
    refine aw_iconst (v := 0) C dX6_lots_16 (by decide) ?_
    refine aw_istore (lv1 := [(4, .int 0), (3, .int a1), (0, .ref (ad 29)), (1, .int a1), (2, .int a2)]) C dX6_lots_17 (by decide) rfl ?_
    refine aw_bipush (v := 64) C dX6_lots_19 (by decide) ?_
    refine aw_istore (lv1 := [(5, .int 64), (4, .int 0), (3, .int a1), (0, .ref (ad 29)), (1, .int a1), (2, .int a2)]) C dX6_lots_21 (by decide) rfl ?_
    refine aw_sub [3, 4, 5, 2, 1, 0] rfl ?_
    exact tX6_lots_23 C   FU h a1 0 64 hf
  refine aw_bipush (v := (-2)) C dX6_lots_11 (by decide) ?_
  exact aw_iretW C dX6_lots_13 hf
theorem kX6_lots {h : AH} {a1 : Int32} {a2 : Int32} {r0 : Int32} {h0 : AH} (hi : Inj ad) (hf : fX6_lots h a1 a2 = some (r0, h0)) : Ki l yX6_lots wsX6_lots rmX6_lots D ad cy tb [.ref (ad 29), .int a1, .int a2] h r0 h0 := met_i (lv := [(0, .ref (ad 29)), (1, .int a1), (2, .int a2)]) hi (by decide) rfl (Nat.le_of_ble_eq_true rfl) rfl rfl (fun _ _ _ _ _ _ _ _ C => tX6_lots_0 C  hf)
