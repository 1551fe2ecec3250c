variable {p : Program} {l : Launch} {e : Env} {s : State} {m : MethodId} {args : Array Value} {below : List Frame} {meth : Method} {c : Code} {D : va_G} {ad : Nat → Nat} {cy : Nat → ClassId} {tb : Nat → Nat}
theorem dX0_add_0 : decode cX0_add 0 = .ok (.aload_n 0, 1) := by decide +kernel
theorem dX0_add_1 : decode cX0_add 1 = .ok (.getfield 9, 3) := by decide +kernel
theorem dX0_add_4 : decode cX0_add 4 = .ok (.aload_n 0, 1) := by decide +kernel
theorem dX0_add_5 : decode cX0_add 5 = .ok (.getfield 15, 3) := by decide +kernel
theorem dX0_add_8 : decode cX0_add 8 = .ok (.aload_n 0, 1) := by decide +kernel
theorem dX0_add_9 : decode cX0_add 9 = .ok (.getfield 19, 3) := by decide +kernel
theorem dX0_add_12 : decode cX0_add 12 = .ok (.iadd, 1) := by decide +kernel
theorem dX0_add_13 : decode cX0_add 13 = .ok (.bipush 60, 2) := by decide +kernel
theorem dX0_add_15 : decode cX0_add 15 = .ok (.irem, 1) := by decide +kernel
theorem dX0_add_16 : decode cX0_add 16 = .ok (.iload_n 1, 1) := by decide +kernel
theorem dX0_add_17 : decode cX0_add 17 = .ok (.iastore, 1) := by decide +kernel
theorem dX0_add_18 : decode cX0_add 18 = .ok (.aload_n 0, 1) := by decide +kernel
theorem dX0_add_19 : decode cX0_add 19 = .ok (.getfield 19, 3) := by decide +kernel
theorem dX0_add_22 : decode cX0_add 22 = .ok (.bipush 60, 2) := by decide +kernel
theorem dX0_add_24 : decode cX0_add 24 = .ok (.if_icmp .ge 16, 3) := by decide +kernel
theorem dX0_add_27 : decode cX0_add 27 = .ok (.aload_n 0, 1) := by decide +kernel
theorem dX0_add_28 : decode cX0_add 28 = .ok (.dup, 1) := by decide +kernel
theorem dX0_add_29 : decode cX0_add 29 = .ok (.getfield 19, 3) := by decide +kernel
theorem dX0_add_32 : decode cX0_add 32 = .ok (.iconst 1, 1) := by decide +kernel
theorem dX0_add_33 : decode cX0_add 33 = .ok (.iadd, 1) := by decide +kernel
theorem dX0_add_34 : decode cX0_add 34 = .ok (.putfield 19, 3) := by decide +kernel
theorem dX0_add_37 : decode cX0_add 37 = .ok (.goto 16, 3) := by decide +kernel
theorem dX0_add_40 : decode cX0_add 40 = .ok (.aload_n 0, 1) := by decide +kernel
theorem dX0_add_41 : decode cX0_add 41 = .ok (.aload_n 0, 1) := by decide +kernel
theorem dX0_add_42 : decode cX0_add 42 = .ok (.getfield 15, 3) := by decide +kernel
theorem dX0_add_45 : decode cX0_add 45 = .ok (.iconst 1, 1) := by decide +kernel
theorem dX0_add_46 : decode cX0_add 46 = .ok (.iadd, 1) := by decide +kernel
theorem dX0_add_47 : decode cX0_add 47 = .ok (.bipush 60, 2) := by decide +kernel
theorem dX0_add_49 : decode cX0_add 49 = .ok (.irem, 1) := by decide +kernel
theorem dX0_add_50 : decode cX0_add 50 = .ok (.putfield 15, 3) := by decide +kernel
theorem dX0_add_53 : decode cX0_add 53 = .ok (.return_, 1) := by decide +kernel
abbrev rmX0_add : Room := { frames := 0, cells := 0, slots := 0, locals := 0 }
set_option maxRecDepth 100000 in
theorem hinX0_add_0 : ∀ w ∈ wsX00, w ∈ wsX0_add := by decide +kernel
set_option maxHeartbeats 4000000 in
set_option maxRecDepth 100000 in
theorem tX0_add_0 {h : AH} {a1 : Int32} {h0 : AH} (C : Cx p rmX0_add s m args meth c RX0 cX0_add 2 none wsX0_add D ad cy tb 0 0) (hf : fX0_add h a1 = some h0) : AW p l e rmX0_add s m args below meth c 2 D ad cy 0 0 (Qv D ad cy below args s h0) 0 [(0, .ref (ad 11)), (1, .int a1)] [] h := by
  unfold fX0_add at hf
  refine aw_aload_n C dX0_add_0 rfl 0 rfl ?_
  refine aw_get C (kd_lt rfl (by decide)) (ce_0 rfl) rfl hinX0_add_0 0 (by decide) rfl (by decide +kernel) rfl dX0_add_1 ?_
  refine aw_aload_n C dX0_add_4 rfl 0 rfl ?_
  refine aw_get C (kd_lt rfl (by decide)) (ce_0 rfl) rfl hinX0_add_0 1 (by decide) rfl (by decide +kernel) rfl dX0_add_5 ?_
  refine aw_aload_n C dX0_add_8 rfl 0 rfl ?_
  refine aw_get C (kd_lt rfl (by decide)) (ce_0 rfl) rfl hinX0_add_0 2 (by decide) rfl (by decide +kernel) rfl dX0_add_9 ?_
  refine aw_iadd C dX0_add_12 ?_
  refine aw_bipush (v := 60) C dX0_add_13 (by decide) ?_
  refine aw_nm2 hf (fun v1 hf => ?_)
  refine aw_irem C dX0_add_15 (by decide) ?_
  refine aw_iload_n C dX0_add_16 rfl 1 rfl ?_
  refine aw_nm2 hf (fun v2 hf => ?_)
  refine aw_iast C rfl rfl hf dX0_add_17 (fun hf => ?_)
  refine aw_nmH hf (fun h3 hf => ?_)
  refine aw_aload_n C dX0_add_18 rfl 0 rfl ?_
  refine aw_get C (kd_lt rfl (by decide)) (ce_0 rfl) rfl hinX0_add_0 2 (by decide) rfl (by decide +kernel) rfl dX0_add_19 ?_
  refine aw_bipush (v := 60) C dX0_add_22 (by decide) ?_
  refine aw_icmp_ge (tgt := 40) C dX0_add_24 (by decide) hf (fun hf => ?_) (fun hf => ?_)
  · refine aw_aload_n C dX0_add_40 rfl 0 rfl ?_
    refine aw_aload_n C dX0_add_41 rfl 0 rfl ?_
    refine aw_get C (kd_lt rfl (by decide)) (ce_0 rfl) rfl hinX0_add_0 1 (by decide) rfl (by decide +kernel) rfl dX0_add_42 ?_
    refine aw_iconst (v := 1) C dX0_add_45 (by decide) ?_
    refine aw_iadd C dX0_add_46 ?_
    refine aw_bipush (v := 60) C dX0_add_47 (by decide) ?_
    refine aw_nm2 hf (fun v4 hf => ?_)
    refine aw_irem C dX0_add_49 (by decide) ?_
    refine aw_put (ty := .int) C (kd_lt rfl (by decide)) (ce_0 rfl) rfl hinX0_add_0 tyX0 tyX0_ok nmX0 1 (by decide) rfl (by decide +kernel) rfl (by decide +kernel) rfl rfl (Nat.le_of_ble_eq_true rfl) (cs_0_1 rfl) dX0_add_50 ?_
    refine aw_nmH hf (fun h5 hf => ?_)
    exact aw_vret C dX0_add_53 hf
  refine aw_aload_n C dX0_add_27 rfl 0 rfl ?_
  refine aw_dup C dX0_add_28 rfl ?_
  refine aw_get C (kd_lt rfl (by decide)) (ce_0 rfl) rfl hinX0_add_0 2 (by decide) rfl (by decide +kernel) rfl dX0_add_29 ?_
  refine aw_iconst (v := 1) C dX0_add_32 (by decide) ?_
  refine aw_iadd C dX0_add_33 ?_
  refine aw_put (ty := .int) C (kd_lt rfl (by decide)) (ce_0 rfl) rfl hinX0_add_0 tyX0 tyX0_ok nmX0 2 (by decide) rfl (by decide +kernel) rfl (by decide +kernel) rfl rfl (Nat.le_of_ble_eq_true rfl) (cs_0_2 rfl) dX0_add_34 ?_
  refine aw_nmH hf (fun h6 hf => ?_)
  refine aw_goto (tgt := 53) C dX0_add_37 (by decide) ?_
  exact aw_vret C dX0_add_53 hf
theorem kX0_add {h : AH} {a1 : Int32} {h0 : AH} (hi : Inj ad) (hf : fX0_add h a1 = some h0) : Kv l yX0_add wsX0_add rmX0_add D ad cy tb [.ref (ad 11), .int a1] h h0 := met_v (lv := [(0, .ref (ad 11)), (1, .int a1)]) hi (by decide) rfl (Nat.le_of_ble_eq_true rfl) rfl rfl (fun _ _ _ _ _ _ _ _ C => tX0_add_0 C  hf)
set_option maxRecDepth 20000 in
theorem ggX5_mend_X5_isWord : GoodIn wsX5_mend wsX5_isWord := goodIn_r _ [8, 9, 10, 11, 7, 12, 1, 13, 14, 15, 51, 52, 53, 54, 55, 56, 57, 58, 59, 60, 61, 62] (by decide +kernel) (by decide +kernel)
set_option maxRecDepth 20000 in
theorem gX5_mend_X5_isWord : GoodIn wsX5_mend (wsV RX5 74 RX5 yX5_isWord wsX5_isWord) := goodIn_app (goodIn_of _ (by decide +kernel)) ggX5_mend_X5_isWord
set_option maxRecDepth 20000 in
theorem ggX5_mend_X4_isStalled : GoodIn wsX5_mend wsX4_isStalled := goodIn_r _ [20, 21, 22, 23, 19, 24, 25, 26, 27, 28, 29, 60, 61, 62] (by decide +kernel) (by decide +kernel)
set_option maxRecDepth 20000 in
theorem gX5_mend_X4_isStalled : GoodIn wsX5_mend (wsV RX5 170 RX4 yX4_isStalled wsX4_isStalled) := goodIn_app (goodIn_of _ (by decide +kernel)) ggX5_mend_X4_isStalled
set_option maxRecDepth 20000 in
theorem ggX5_mend_X4_placeToMend : GoodIn wsX5_mend wsX4_placeToMend := goodIn_r _ [33, 25, 34, 60, 61, 62] (by decide +kernel) (by decide +kernel)
set_option maxRecDepth 20000 in
theorem gX5_mend_X4_placeToMend : GoodIn wsX5_mend (wsV RX5 161 RX4 yX4_placeToMend wsX4_placeToMend) := goodIn_app (goodIn_of _ (by decide +kernel)) ggX5_mend_X4_placeToMend
set_option maxRecDepth 20000 in
theorem ggX5_mend_X5_bitAt : GoodIn wsX5_mend wsX5_bitAt := goodIn_r _ [37] (by decide +kernel) (by decide +kernel)
set_option maxRecDepth 20000 in
theorem gX5_mend_X5_bitAt : GoodIn wsX5_mend (va_wsS RX5 173 yX5_bitAt wsX5_bitAt) := goodIn_app (goodIn_of _ (by decide +kernel)) ggX5_mend_X5_bitAt
set_option maxRecDepth 20000 in
theorem ggX5_mend_X4_turnBit : GoodIn wsX5_mend wsX4_turnBit := goodIn_r _ [41, 42, 25, 34, 60, 61, 62] (by decide +kernel) (by decide +kernel)
set_option maxRecDepth 20000 in
theorem gX5_mend_X4_turnBit : GoodIn wsX5_mend (wsV RX5 176 RX4 yX4_turnBit wsX4_turnBit) := goodIn_app (goodIn_of _ (by decide +kernel)) ggX5_mend_X4_turnBit
set_option maxRecDepth 20000 in
theorem ggX5_mend_X0_add : GoodIn wsX5_mend wsX0_add := goodIn_r _ [47, 48, 49, 50, 63, 64, 65] (by decide +kernel) (by decide +kernel)
set_option maxRecDepth 20000 in
theorem gX5_mend_X0_add : GoodIn wsX5_mend (wsV RX5 179 RX0 yX0_add wsX0_add) := goodIn_app (goodIn_of _ (by decide +kernel)) ggX5_mend_X0_add
theorem dX5_mend_0 : decode cX5_mend 0 = .ok (.aload_n 0, 1) := by decide +kernel
theorem dX5_mend_1 : decode cX5_mend 1 = .ok (.iload_n 1, 1) := by decide +kernel
theorem dX5_mend_2 : decode cX5_mend 2 = .ok (.iload_n 2, 1) := by decide +kernel
theorem dX5_mend_3 : decode cX5_mend 3 = .ok (.invokevirtual 74, 3) := by decide +kernel
theorem dX5_mend_6 : decode cX5_mend 6 = .ok (.ifCond .ne 6, 3) := by decide +kernel
theorem dX5_mend_9 : decode cX5_mend 9 = .ok (.bipush (-2), 2) := by decide +kernel
theorem dX5_mend_11 : decode cX5_mend 11 = .ok (.ireturn, 1) := by decide +kernel
theorem dX5_mend_12 : decode cX5_mend 12 = .ok (.bipush 8, 2) := by decide +kernel
theorem dX5_mend_14 : decode cX5_mend 14 = .ok (.iload_n 1, 1) := by decide +kernel
theorem dX5_mend_15 : decode cX5_mend 15 = .ok (.imul, 1) := by decide +kernel
theorem dX5_mend_16 : decode cX5_mend 16 = .ok (.iload_n 2, 1) := by decide +kernel
theorem dX5_mend_17 : decode cX5_mend 17 = .ok (.iadd, 1) := by decide +kernel
theorem dX5_mend_18 : decode cX5_mend 18 = .ok (.istore_n 3, 1) := by decide +kernel
theorem dX5_mend_19 : decode cX5_mend 19 = .ok (.aload_n 0, 1) := by decide +kernel
theorem dX5_mend_20 : decode cX5_mend 20 = .ok (.getfield 12, 3) := by decide +kernel
theorem dX5_mend_23 : decode cX5_mend 23 = .ok (.iload_n 3, 1) := by decide +kernel
theorem dX5_mend_24 : decode cX5_mend 24 = .ok (.invokevirtual 170, 3) := by decide +kernel
theorem dX5_mend_27 : decode cX5_mend 27 = .ok (.ifCond .eq 6, 3) := by decide +kernel
theorem dX5_mend_30 : decode cX5_mend 30 = .ok (.bipush (-6), 2) := by decide +kernel
theorem dX5_mend_32 : decode cX5_mend 32 = .ok (.ireturn, 1) := by decide +kernel
theorem dX5_mend_33 : decode cX5_mend 33 = .ok (.aload_n 0, 1) := by decide +kernel
theorem dX5_mend_34 : decode cX5_mend 34 = .ok (.getfield 12, 3) := by decide +kernel
theorem dX5_mend_37 : decode cX5_mend 37 = .ok (.iload_n 3, 1) := by decide +kernel
theorem dX5_mend_38 : decode cX5_mend 38 = .ok (.aload_n 0, 1) := by decide +kernel
theorem dX5_mend_39 : decode cX5_mend 39 = .ok (.getfield 51, 3) := by decide +kernel
theorem dX5_mend_42 : decode cX5_mend 42 = .ok (.invokevirtual 161, 3) := by decide +kernel
theorem dX5_mend_45 : decode cX5_mend 45 = .ok (.istore 4, 2) := by decide +kernel
theorem dX5_mend_47 : decode cX5_mend 47 = .ok (.iload 4, 2) := by decide +kernel
theorem dX5_mend_49 : decode cX5_mend 49 = .ok (.ifCond .lt 29, 3) := by decide +kernel
theorem dX5_mend_52 : decode cX5_mend 52 = .ok (.iload_n 3, 1) := by decide +kernel
theorem dX5_mend_53 : decode cX5_mend 53 = .ok (.iload 4, 2) := by decide +kernel
theorem dX5_mend_55 : decode cX5_mend 55 = .ok (.invokestatic 173, 3) := by decide +kernel
theorem dX5_mend_58 : decode cX5_mend 58 = .ok (.istore 5, 2) := by decide +kernel
theorem dX5_mend_60 : decode cX5_mend 60 = .ok (.aload_n 0, 1) := by decide +kernel
theorem dX5_mend_61 : decode cX5_mend 61 = .ok (.getfield 12, 3) := by decide +kernel
theorem dX5_mend_64 : decode cX5_mend 64 = .ok (.iload 5, 2) := by decide +kernel
theorem dX5_mend_66 : decode cX5_mend 66 = .ok (.invokevirtual 176, 3) := by decide +kernel
theorem dX5_mend_69 : decode cX5_mend 69 = .ok (.aload_n 0, 1) := by decide +kernel
theorem dX5_mend_70 : decode cX5_mend 70 = .ok (.getfield 33, 3) := by decide +kernel
theorem dX5_mend_73 : decode cX5_mend 73 = .ok (.iload 5, 2) := by decide +kernel
theorem dX5_mend_75 : decode cX5_mend 75 = .ok (.invokevirtual 179, 3) := by decide +kernel
theorem dX5_mend_78 : decode cX5_mend 78 = .ok (.iload 4, 2) := by decide +kernel
theorem dX5_mend_80 : decode cX5_mend 80 = .ok (.ireturn, 1) := by decide +kernel
abbrev rmX5_mend : Room := { frames := 2, cells := 0, slots := 0, locals := 43 }
set_option maxRecDepth 100000 in
theorem hinX5_mend_5 : ∀ w ∈ wsX50, w ∈ wsX5_mend := by decide +kernel
set_option maxHeartbeats 4000000 in
set_option maxRecDepth 100000 in
theorem tX5_mend_0 {h : AH} {a1 : Int32} {a2 : Int32} {r0 : Int32} {h0 : AH} (C : Cx p rmX5_mend s m args meth c RX5 cX5_mend 6 (some .int) wsX5_mend D ad cy tb 0 0) (hf : fX5_mend h a1 a2 = some (r0, h0)) : AW p l e rmX5_mend s m args below meth c 6 D ad cy 0 0 (Qi D ad cy below args s r0 h0) 0 [(0, .ref (ad 0)), (1, .int a1), (2, .int a2)] [] h := by
  unfold fX5_mend at hf
  refine aw_aload_n C dX5_mend_0 rfl 0 rfl ?_
  refine aw_iload_n C dX5_mend_1 rfl 1 rfl ?_
  refine aw_iload_n C dX5_mend_2 rfl 2 rfl ?_
  obtain ⟨r1, hc, hf⟩ := bR_some hf
  refine aw_callVi (As := [.int a1, .int a2]) (rest := []) C rfl (by decide) rfl (kX5_isWord (l := l) (D := D) (ad := ad) (cy := cy) (tb := tb) C.2.2.2.2.2.2.2.2.1 hc) (fun ht _ => cwV 2 ht gX5_mend_X5_isWord rfl rfl rfl (by decide +kernel) ⟨Nat.le_of_ble_eq_true rfl, Nat.le_of_ble_eq_true rfl⟩) rfl rfl (Nat.le_of_ble_eq_true rfl) dX5_mend_3 ?_
  refine aw_if_ne (tgt := 12) C dX5_mend_6 (by decide) hf (fun hf => ?_) (fun hf => ?_)
  · refine aw_bipush (v := 8) C dX5_mend_12 (by decide) ?_
    refine aw_iload_n C dX5_mend_14 rfl 1 rfl ?_
    refine aw_imul C dX5_mend_15 ?_
    refine aw_iload_n C dX5_mend_16 rfl 2 rfl ?_
    refine aw_iadd C dX5_mend_17 ?_
    refine aw_nmI hf (fun v2 hf => ?_)
    refine aw_istore_n (lv1 := [(3, .int v2), (0, .ref (ad 0)), (1, .int a1), (2, .int a2)]) C dX5_mend_18 rfl (by decide) rfl ?_
    refine aw_aload_n C dX5_mend_19 rfl 1 rfl ?_
    refine aw_get C (kd_lt rfl (by decide)) (ce_5 rfl) rfl hinX5_mend_5 0 (by decide) rfl (by decide +kernel) rfl dX5_mend_20 ?_
    refine aw_iload_n C dX5_mend_23 rfl 0 rfl ?_
    obtain ⟨r3, hc, hf⟩ := bR_some hf
    refine aw_callVi (As := [.int v2]) (rest := []) C rfl (by decide) rfl (kX4_isStalled (l := l) (D := D) (ad := ad) (cy := cy) (tb := tb) C.2.2.2.2.2.2.2.2.1 rfl hc) (fun ht _ => cwV 1 ht gX5_mend_X4_isStalled rfl rfl rfl (by decide +kernel) ⟨Nat.le_of_ble_eq_true rfl, Nat.le_of_ble_eq_true rfl⟩) rfl rfl (Nat.le_of_ble_eq_true rfl) dX5_mend_24 ?_
    refine aw_if_eq (tgt := 33) C dX5_mend_27 (by decide) hf (fun hf => ?_) (fun hf => ?_)
    · refine aw_aload_n C dX5_mend_33 rfl 1 rfl ?_
      refine aw_get C (kd_lt rfl (by decide)) (ce_5 rfl) rfl hinX5_mend_5 0 (by decide) rfl (by decide +kernel) rfl dX5_mend_34 ?_
      refine aw_iload_n C dX5_mend_37 rfl 0 rfl ?_
      refine aw_aload_n C dX5_mend_38 rfl 1 rfl ?_
      refine aw_get C (kd_lt rfl (by decide)) (ce_5 rfl) rfl hinX5_mend_5 7 (by decide) rfl (by decide +kernel) rfl dX5_mend_39 ?_
      obtain ⟨r4, hc, hf⟩ := bR_some hf
      refine aw_callVi (As := [.int v2, .int (h.1 0 7)]) (rest := []) C rfl (by decide) rfl (kX4_placeToMend (l := l) (D := D) (ad := ad) (cy := cy) (tb := tb) C.2.2.2.2.2.2.2.2.1 rfl hc) (fun ht _ => cwV 2 ht gX5_mend_X4_placeToMend rfl rfl rfl (by decide +kernel) ⟨Nat.le_of_ble_eq_true rfl, Nat.le_of_ble_eq_true rfl⟩) rfl rfl (Nat.le_of_ble_eq_true rfl) dX5_mend_42 ?_
      refine aw_istore (lv1 := [(4, .int r4), (3, .int v2), (0, .ref (ad 0)), (1, .int a1), (2, .int a2)]) C dX5_mend_45 (by decide) rfl ?_
      refine aw_iload C dX5_mend_47 0 rfl ?_
      refine aw_if_lt (tgt := 78) C dX5_mend_49 (by decide) hf (fun hf => ?_) (fun hf => ?_)
      · refine aw_iload C dX5_mend_78 0 rfl ?_
        exact aw_iretW C dX5_mend_80 hf
      refine aw_iload_n C dX5_mend_52 rfl 1 rfl ?_
      refine aw_iload C dX5_mend_53 0 rfl ?_
      obtain ⟨r5, hc, hf⟩ := bR_some hf
      refine aw_callSi (As := [.int v2, .int r4]) (rest := []) C (kX5_bitAt (l := l) (D := D) (ad := ad) (cy := cy) (tb := tb) C.2.2.2.2.2.2.2.2.1 hc) (fun ht _ => va_cwS 2 ht gX5_mend_X5_bitAt rfl rfl rfl (by decide +kernel) ⟨Nat.le_of_ble_eq_true rfl, Nat.le_of_ble_eq_true rfl⟩) rfl rfl (Nat.le_of_ble_eq_true rfl) dX5_mend_55 ?_
      refine aw_istore (lv1 := [(5, .int r5), (4, .int r4), (3, .int v2), (0, .ref (ad 0)), (1, .int a1), (2, .int a2)]) C dX5_mend_58 (by decide) rfl ?_
      refine aw_aload_n C dX5_mend_60 rfl 3 rfl ?_
      refine aw_get C (kd_lt rfl (by decide)) (ce_5 rfl) rfl hinX5_mend_5 0 (by decide) rfl (by decide +kernel) rfl dX5_mend_61 ?_
      refine aw_iload C dX5_mend_64 0 rfl ?_
      obtain ⟨h6, hc, hf⟩ := bR_some hf
      refine aw_callVv (As := [.int r5]) (rest := []) C rfl (by decide) rfl (kX4_turnBit (l := l) (D := D) (ad := ad) (cy := cy) (tb := tb) C.2.2.2.2.2.2.2.2.1 rfl hc) (fun ht _ => cwV 1 ht gX5_mend_X4_turnBit rfl rfl rfl (by decide +kernel) ⟨Nat.le_of_ble_eq_true rfl, Nat.le_of_ble_eq_true rfl⟩) rfl rfl (Nat.le_of_ble_eq_true rfl) dX5_mend_66 ?_
      refine aw_aload_n C dX5_mend_69 rfl 3 rfl ?_
      refine aw_get C (kd_lt rfl (by decide)) (ce_5 rfl) rfl hinX5_mend_5 4 (by decide) rfl (by decide +kernel) rfl dX5_mend_70 ?_
      refine aw_iload C dX5_mend_73 0 rfl ?_
      obtain ⟨h7, hc, hf⟩ := bR_some hf
      refine aw_callVv (As := [.int r5]) (rest := []) C rfl (by decide) rfl (kX0_add (l := l) (D := D) (ad := ad) (cy := cy) (tb := tb) C.2.2.2.2.2.2.2.2.1 hc) (fun ht _ => cwV 1 ht gX5_mend_X0_add rfl rfl rfl (by decide +kernel) ⟨Nat.le_of_ble_eq_true rfl, Nat.le_of_ble_eq_true rfl⟩) rfl rfl (Nat.le_of_ble_eq_true rfl) dX5_mend_75 ?_
      refine aw_iload C dX5_mend_78 1 rfl ?_
      exact aw_iretW C dX5_mend_80 hf
    refine aw_bipush (v := (-6)) C dX5_mend_30 (by decide) ?_
    exact aw_iretW C dX5_mend_32 hf
  refine aw_bipush (v := (-2)) C dX5_mend_9 (by decide) ?_
  exact aw_iretW C dX5_mend_11 hf
theorem kX5_mend {h : AH} {a1 : Int32} {a2 : Int32} {r0 : Int32} {h0 : AH} (hi : Inj ad) (hf : fX5_mend h a1 a2 = some (r0, h0)) : Ki l yX5_mend wsX5_mend rmX5_mend D ad cy tb [.ref (ad 0), .int a1, .int a2] h r0 h0 := met_i (lv := [(0, .ref (ad 0)), (1, .int a1), (2, .int a2)]) hi (by decide) rfl (Nat.le_of_ble_eq_true rfl) rfl rfl (fun _ _ _ _ _ _ _ _ C => tX5_mend_0 C  hf)
theorem dX6_notes_0 : decode cX6_notes 0 = .ok (.aload_n 0, 1) := by decide +kernel
theorem dX6_notes_1 : decode cX6_notes 1 = .ok (.getfield 85, 3) := by decide +kernel
theorem dX6_notes_4 : decode cX6_notes 4 = .ok (.bipush 60, 2) := by decide +kernel
theorem dX6_notes_6 : decode cX6_notes 6 = .ok (.if_icmp .ne 41, 3) := by decide +kernel
theorem dX6_notes_9 : decode cX6_notes 9 = .ok (.iconst 1, 1) := by decide +kernel
theorem dX6_notes_10 : decode cX6_notes 10 = .ok (.istore_n 2, 1) := by decide +kernel
theorem dX6_notes_11 : decode cX6_notes 11 = .ok (.iload_n 2, 1) := by decide +kernel
theorem dX6_notes_12 : decode cX6_notes 12 = .ok (.bipush 60, 2) := by decide +kernel
theorem dX6_notes_14 : decode cX6_notes 14 = .ok (.if_icmp .ge 23, 3) := by decide +kernel
theorem dX6_notes_17 : decode cX6_notes 17 = .ok (.aload_n 0, 1) := by decide +kernel
theorem dX6_notes_18 : decode cX6_notes 18 = .ok (.getfield 27, 3) := by decide +kernel
theorem dX6_notes_21 : decode cX6_notes 21 = .ok (.iload_n 2, 1) := by decide +kernel
theorem dX6_notes_22 : decode cX6_notes 22 = .ok (.iconst 1, 1) := by decide +kernel
theorem dX6_notes_23 : decode cX6_notes 23 = .ok (.isub, 1) := by decide +kernel
theorem dX6_notes_24 : decode cX6_notes 24 = .ok (.aload_n 0, 1) := by decide +kernel
theorem dX6_notes_25 : decode cX6_notes 25 = .ok (.getfield 27, 3) := by decide +kernel
theorem dX6_notes_28 : decode cX6_notes 28 = .ok (.iload_n 2, 1) := by decide +kernel
theorem dX6_notes_29 : decode cX6_notes 29 = .ok (.iaload, 1) := by decide +kernel
theorem dX6_notes_30 : decode cX6_notes 30 = .ok (.iastore, 1) := by decide +kernel
theorem dX6_notes_31 : decode cX6_notes 31 = .ok (.iinc 2 1, 3) := by decide +kernel
theorem dX6_notes_34 : decode cX6_notes 34 = .ok (.goto (-23), 3) := by decide +kernel
theorem dX6_notes_37 : decode cX6_notes 37 = .ok (.aload_n 0, 1) := by decide +kernel
theorem dX6_notes_38 : decode cX6_notes 38 = .ok (.dup, 1) := by decide +kernel
theorem dX6_notes_39 : decode cX6_notes 39 = .ok (.getfield 85, 3) := by decide +kernel
theorem dX6_notes_42 : decode cX6_notes 42 = .ok (.iconst 1, 1) := by decide +kernel
theorem dX6_notes_43 : decode cX6_notes 43 = .ok (.isub, 1) := by decide +kernel
theorem dX6_notes_44 : decode cX6_notes 44 = .ok (.putfield 85, 3) := by decide +kernel
theorem dX6_notes_47 : decode cX6_notes 47 = .ok (.aload_n 0, 1) := by decide +kernel
theorem dX6_notes_48 : decode cX6_notes 48 = .ok (.getfield 27, 3) := by decide +kernel
theorem dX6_notes_51 : decode cX6_notes 51 = .ok (.aload_n 0, 1) := by decide +kernel
theorem dX6_notes_52 : decode cX6_notes 52 = .ok (.getfield 85, 3) := by decide +kernel
theorem dX6_notes_55 : decode cX6_notes 55 = .ok (.iload_n 1, 1) := by decide +kernel
theorem dX6_notes_56 : decode cX6_notes 56 = .ok (.iastore, 1) := by decide +kernel
theorem dX6_notes_57 : decode cX6_notes 57 = .ok (.aload_n 0, 1) := by decide +kernel
theorem dX6_notes_58 : decode cX6_notes 58 = .ok (.dup, 1) := by decide +kernel
theorem dX6_notes_59 : decode cX6_notes 59 = .ok (.getfield 85, 3) := by decide +kernel
theorem dX6_notes_62 : decode cX6_notes 62 = .ok (.iconst 1, 1) := by decide +kernel
theorem dX6_notes_63 : decode cX6_notes 63 = .ok (.iadd, 1) := by decide +kernel
theorem dX6_notes_64 : decode cX6_notes 64 = .ok (.putfield 85, 3) := by decide +kernel
theorem dX6_notes_67 : decode cX6_notes 67 = .ok (.return_, 1) := by decide +kernel
abbrev rmX6_notes : Room := { frames := 0, cells := 0, slots := 0, locals := 0 }
set_option maxRecDepth 100000 in
theorem hinX6_notes_6 : ∀ w ∈ wsX60, w ∈ wsX6_notes := by decide +kernel
set_option maxHeartbeats 4000000 in
set_option maxRecDepth 100000 in
theorem tX6_notes_47 {h : AH} {a1 : Int32} {h0 : AH} (C : Cx p rmX6_notes s m args meth c RX6 cX6_notes 3 none wsX6_notes D ad cy tb 0 0) (hf : fX6_notes_47 a1 h = some h0) : AW p l e rmX6_notes s m args below meth c 3 D ad cy 0 0 (Qv D ad cy below args s h0) 47 [(0, .ref (ad 29)), (1, .int a1)] [] h := by
  unfold fX6_notes_47 at hf
  refine aw_aload_n C dX6_notes_47 rfl 0 rfl ?_
  refine aw_get C (kd_lt rfl (by decide)) (ce_6 rfl) rfl hinX6_notes_6 6 (by decide) rfl (by decide +kernel) rfl dX6_notes_48 ?_
  refine aw_aload_n C dX6_notes_51 rfl 0 rfl ?_
  refine aw_get C (kd_lt rfl (by decide)) (ce_6 rfl) rfl hinX6_notes_6 7 (by decide) rfl (by decide +kernel) rfl dX6_notes_52 ?_
  refine aw_iload_n C dX6_notes_55 rfl 1 rfl ?_
  refine aw_nm2 hf (fun v1 hf => ?_)
  refine aw_iast C rfl rfl hf dX6_notes_56 (fun hf => ?_)
  refine aw_nmH hf (fun h2 hf => ?_)
  refine aw_aload_n C dX6_notes_57 rfl 0 rfl ?_
  refine aw_dup C dX6_notes_58 rfl ?_
  refine aw_get C (kd_lt rfl (by decide)) (ce_6 rfl) rfl hinX6_notes_6 7 (by decide) rfl (by decide +kernel) rfl dX6_notes_59 ?_
  refine aw_iconst (v := 1) C dX6_notes_62 (by decide) ?_
  refine aw_iadd C dX6_notes_63 ?_
  refine aw_put (ty := .int) C (kd_lt rfl (by decide)) (ce_6 rfl) rfl hinX6_notes_6 tyX6 tyX6_ok nmX6 7 (by decide) rfl (by decide +kernel) rfl (by decide +kernel) rfl rfl (Nat.le_of_ble_eq_true rfl) (cs_6_7 rfl) dX6_notes_64 ?_
  refine aw_nmH hf (fun h3 hf => ?_)
  exact aw_vret C dX6_notes_67 hf
set_option maxHeartbeats 4000000 in
set_option maxRecDepth 100000 in
theorem tX6_notes_11b {h : AH} {a1 : Int32} {k11 : AH → Int32 → Option AH} {x2 : Int32} {h0 : AH} (C : Cx p rmX6_notes s m args meth c RX6 cX6_notes 3 none wsX6_notes D ad cy tb 0 0) (H11 : ∀ (h : AH) (x2 : Int32), k11 h x2 = some h0 → AW p l e rmX6_notes s m args below meth c 3 D ad cy 0 0 (Qv D ad cy below args s h0) 11 [(0, .ref (ad 29)), (1, .int a1), (2, .int x2)] [] h) (hf : fX6_notes_11b k11 a1 h x2 = some h0) : AW p l e rmX6_notes s m args below meth c 3 D ad cy 0 0 (Qv D ad cy below args s h0) 11 [(0, .ref (ad 29)), (1, .int a1), (2, .int x2)] [] h := by
  unfold fX6_notes_11b at hf
  refine aw_iload_n C dX6_notes_11 rfl 2 rfl ?_
  refine aw_bipush (v := 60) C dX6_notes_12 (by decide) ?_
  refine aw_icmp_ge (tgt := 37) C dX6_notes_14 (by decide) hf (fun hf => ?_) (fun hf => ?_)
  · refine aw_aload_n C dX6_notes_37 rfl 0 rfl ?_
    refine aw_dup C dX6_notes_38 rfl ?_
    refine aw_get C (kd_lt rfl (by decide)) (ce_6 rfl) rfl hinX6_notes_6 7 (by decide) rfl (by decide +kernel) rfl dX6_notes_39 ?_
    refine aw_iconst (v := 1) C dX6_notes_42 (by decide) ?_
    refine aw_isub C dX6_notes_43 ?_
    refine aw_put (ty := .int) C (kd_lt rfl (by decide)) (ce_6 rfl) rfl hinX6_notes_6 tyX6 tyX6_ok nmX6 7 (by decide) rfl (by decide +kernel) rfl (by decide +kernel) rfl rfl (Nat.le_of_ble_eq_true rfl) (cs_6_7 rfl) dX6_notes_44 ?_
    refine aw_nmH hf (fun h1 hf => ?_)
    refine aw_sub [0, 1] rfl ?_
    exact tX6_notes_47 C   hf
  refine aw_aload_n C dX6_notes_17 rfl 0 rfl ?_
  refine aw_get C (kd_lt rfl (by decide)) (ce_6 rfl) rfl hinX6_notes_6 6 (by decide) rfl (by decide +kernel) rfl dX6_notes_18 ?_
  refine aw_iload_n C dX6_notes_21 rfl 2 rfl ?_
  refine aw_iconst (v := 1) C dX6_notes_22 (by decide) ?_
  refine aw_isub C dX6_notes_23 ?_
  refine aw_aload_n C dX6_notes_24 rfl 0 rfl ?_
  refine aw_get C (kd_lt rfl (by decide)) (ce_6 rfl) rfl hinX6_notes_6 6 (by decide) rfl (by decide +kernel) rfl dX6_notes_25 ?_
  refine aw_iload_n C dX6_notes_28 rfl 2 rfl ?_
  refine aw_iald C rfl rfl hf dX6_notes_29 (fun hf => ?_)
  refine aw_nm2 hf (fun v2 hf => ?_)
  refine aw_iast C rfl rfl hf dX6_notes_30 (fun hf => ?_)
  refine aw_nmH hf (fun h3 hf => ?_)
  obtain ⟨v4, hvv4, hf⟩ := nm_ex hf
  refine aw_iinc (j := 2) (v := v4) (lv1 := [(2, .int v4), (0, .ref (ad 29)), (1, .int a1)]) C dX6_notes_31 rfl hvv4 (by decide) rfl ?_
  refine aw_goto (tgt := 11) C dX6_notes_34 (by decide) ?_
  refine aw_sub [1, 2, 0] rfl ?_
  exact H11 h3 v4 hf
set_option maxHeartbeats 4000000 in
set_option maxRecDepth 100000 in
theorem tX6_notes_11  {a1 : Int32} {h0 : AH} (C : Cx p rmX6_notes s m args meth c RX6 cX6_notes 3 none wsX6_notes D ad cy tb 0 0) : ∀ (n : Nat) (h : AH) (x2 : Int32), fX6_notes_11 a1 n h x2 = some h0 → AW p l e rmX6_notes s m args below meth c 3 D ad cy 0 0 (Qv D ad cy below args s h0) 11 [(0, .ref (ad 29)), (1, .int a1), (2, .int x2)] [] h := by
  intro n
  induction n with
  | zero => intro h x2 hf; cases hf
  | succ n ih => intro h x2 hf; exact tX6_notes_11b C  ih  hf
set_option maxHeartbeats 4000000 in
set_option maxRecDepth 100000 in
theorem tX6_notes_0 {h : AH} {a1 : Int32} {h0 : AH} (C : Cx p rmX6_notes s m args meth c RX6 cX6_notes 3 none wsX6_notes D ad cy tb 0 0) (hf : fX6_notes h a1 = some h0) : AW p l e rmX6_notes s m args below meth c 3 D ad cy 0 0 (Qv D ad cy below args s h0) 0 [(0, .ref (ad 29)), (1, .int a1)] [] h := by
  unfold fX6_notes at hf
  refine aw_aload_n C dX6_notes_0 rfl 0 rfl ?_
  refine aw_get C (kd_lt rfl (by decide)) (ce_6 rfl) rfl hinX6_notes_6 7 (by decide) rfl (by decide +kernel) rfl dX6_notes_1 ?_
  refine aw_bipush (v := 60) C dX6_notes_4 (by decide) ?_
  refine aw_icmp_ne (tgt := 47) C dX6_notes_6 (by decide) hf (fun hf => ?_) (fun hf => ?_)
  · refine aw_sub [0, 1] rfl ?_
    exact tX6_notes_47 C   hf
  refine aw_iconst (v := 1) C dX6_notes_9 (by decide) ?_
  refine aw_istore_n (lv1 := [(2, .int 1), (0, .ref (ad 29)), (1, .int a1)]) C dX6_notes_10 rfl (by decide) rfl ?_
  refine aw_sub [1, 2, 0] rfl ?_
  exact tX6_notes_11 C   FU h 1 hf
theorem kX6_notes {h : AH} {a1 : Int32} {h0 : AH} (hi : Inj ad) (hf : fX6_notes h a1 = some h0) : Kv l yX6_notes wsX6_notes rmX6_notes D ad cy tb [.ref (ad 29), .int a1] h h0 := met_v (lv := [(0, .ref (ad 29)), (1, .int a1)]) hi (by decide) rfl (Nat.le_of_ble_eq_true rfl) rfl rfl (fun _ _ _ _ _ _ _ _ C => tX6_notes_0 C  hf)
set_option maxRecDepth 20000 in
theorem ggX6_mendOf_X6_stateOf : GoodIn wsX6_mendOf wsX6_stateOf := goodIn_r _ [6, 7, 8, 9, 5, 10, 1, 11, 12, 13, 14, 15, 16, 17, 18, 19, 20, 21, 22, 23, 24, 25, 26, 50, 51, 52, 53, 54, 55, 56, 57, 58, 59, 60, 61, 62, 63, 64, 65, 66, 67] (by decide +kernel) (by decide +kernel)
set_option maxRecDepth 20000 in
theorem gX6_mendOf_X6_stateOf : GoodIn wsX6_mendOf (wsV RX6 141 RX6 yX6_stateOf wsX6_stateOf) := goodIn_app (goodIn_of _ (by decide +kernel)) ggX6_mendOf_X6_stateOf
set_option maxRecDepth 20000 in
theorem ggX6_mendOf_X6_placeBy : GoodIn wsX6_mendOf wsX6_placeBy := goodIn_r _ [30, 31, 17, 18, 19, 5, 20, 1, 21, 22, 23, 14, 15, 16, 24, 25, 26, 32, 33, 34, 7, 8, 9, 10, 11, 12, 13, 35, 36, 37, 38, 39, 40, 41, 42, 43, 50, 51, 52, 53, 54, 55, 56, 57, 58, 59, 60, 61, 62, 63, 64, 65, 66, 67] (by decide +kernel) (by decide +kernel)
set_option maxRecDepth 20000 in
theorem gX6_mendOf_X6_placeBy : GoodIn wsX6_mendOf (wsV RX6 144 RX6 yX6_placeBy wsX6_placeBy) := goodIn_app (goodIn_of _ (by decide +kernel)) ggX6_mendOf_X6_placeBy
set_option maxRecDepth 20000 in
theorem ggX6_mendOf_X6_bitAt : GoodIn wsX6_mendOf wsX6_bitAt := goodIn_r _ [16] (by decide +kernel) (by decide +kernel)
set_option maxRecDepth 20000 in
theorem gX6_mendOf_X6_bitAt : GoodIn wsX6_mendOf (va_wsS RX6 61 yX6_bitAt wsX6_bitAt) := goodIn_app (goodIn_of _ (by decide +kernel)) ggX6_mendOf_X6_bitAt
set_option maxRecDepth 20000 in
theorem ggX6_mendOf_X6_notes : GoodIn wsX6_mendOf wsX6_notes := goodIn_r _ [47, 48, 49, 50, 51, 52, 53, 54, 55, 56, 57, 58, 59, 60, 61, 62, 63, 64, 65, 66, 67] (by decide +kernel) (by decide +kernel)
set_option maxRecDepth 20000 in
theorem gX6_mendOf_X6_notes : GoodIn wsX6_mendOf (wsV RX6 150 RX6 yX6_notes wsX6_notes) := goodIn_app (goodIn_of _ (by decide +kernel)) ggX6_mendOf_X6_notes
theorem dX6_mendOf_0 : decode cX6_mendOf 0 = .ok (.aload_n 0, 1) := by decide +kernel
theorem dX6_mendOf_1 : decode cX6_mendOf 1 = .ok (.iload_n 1, 1) := by decide +kernel
theorem dX6_mendOf_2 : decode cX6_mendOf 2 = .ok (.iload_n 2, 1) := by decide +kernel
theorem dX6_mendOf_3 : decode cX6_mendOf 3 = .ok (.invokevirtual 141, 3) := by decide +kernel
theorem dX6_mendOf_6 : decode cX6_mendOf 6 = .ok (.istore_n 3, 1) := by decide +kernel
theorem dX6_mendOf_7 : decode cX6_mendOf 7 = .ok (.iload_n 3, 1) := by decide +kernel
theorem dX6_mendOf_8 : decode cX6_mendOf 8 = .ok (.iconst 2, 1) := by decide +kernel
theorem dX6_mendOf_9 : decode cX6_mendOf 9 = .ok (.if_icmp .ge 14, 3) := by decide +kernel
theorem dX6_mendOf_12 : decode cX6_mendOf 12 = .ok (.iload_n 3, 1) := by decide +kernel
theorem dX6_mendOf_13 : decode cX6_mendOf 13 = .ok (.ifCond .ne 7, 3) := by decide +kernel
theorem dX6_mendOf_16 : decode cX6_mendOf 16 = .ok (.iconst (-1), 1) := by decide +kernel
theorem dX6_mendOf_17 : decode cX6_mendOf 17 = .ok (.goto 5, 3) := by decide +kernel
theorem dX6_mendOf_20 : decode cX6_mendOf 20 = .ok (.bipush (-6), 2) := by decide +kernel
theorem dX6_mendOf_22 : decode cX6_mendOf 22 = .ok (.ireturn, 1) := by decide +kernel
theorem dX6_mendOf_23 : decode cX6_mendOf 23 = .ok (.aload_n 0, 1) := by decide +kernel
theorem dX6_mendOf_24 : decode cX6_mendOf 24 = .ok (.iload_n 1, 1) := by decide +kernel
theorem dX6_mendOf_25 : decode cX6_mendOf 25 = .ok (.iload_n 2, 1) := by decide +kernel
theorem dX6_mendOf_26 : decode cX6_mendOf 26 = .ok (.invokevirtual 144, 3) := by decide +kernel
theorem dX6_mendOf_29 : decode cX6_mendOf 29 = .ok (.istore 4, 2) := by decide +kernel
theorem dX6_mendOf_31 : decode cX6_mendOf 31 = .ok (.iload 4, 2) := by decide +kernel
theorem dX6_mendOf_33 : decode cX6_mendOf 33 = .ok (.iconst (-1), 1) := by decide +kernel
theorem dX6_mendOf_34 : decode cX6_mendOf 34 = .ok (.if_icmp .ne 6, 3) := by decide +kernel
theorem dX6_mendOf_37 : decode cX6_mendOf 37 = .ok (.bipush (-5), 2) := by decide +kernel
theorem dX6_mendOf_39 : decode cX6_mendOf 39 = .ok (.ireturn, 1) := by decide +kernel
theorem dX6_mendOf_40 : decode cX6_mendOf 40 = .ok (.iload_n 1, 1) := by decide +kernel
theorem dX6_mendOf_41 : decode cX6_mendOf 41 = .ok (.iload_n 2, 1) := by decide +kernel
theorem dX6_mendOf_42 : decode cX6_mendOf 42 = .ok (.iload 4, 2) := by decide +kernel
theorem dX6_mendOf_44 : decode cX6_mendOf 44 = .ok (.invokestatic 61, 3) := by decide +kernel
theorem dX6_mendOf_47 : decode cX6_mendOf 47 = .ok (.istore 5, 2) := by decide +kernel
theorem dX6_mendOf_49 : decode cX6_mendOf 49 = .ok (.aload_n 0, 1) := by decide +kernel
theorem dX6_mendOf_50 : decode cX6_mendOf 50 = .ok (.getfield 21, 3) := by decide +kernel
theorem dX6_mendOf_53 : decode cX6_mendOf 53 = .ok (.iload 5, 2) := by decide +kernel
theorem dX6_mendOf_55 : decode cX6_mendOf 55 = .ok (.aload_n 0, 1) := by decide +kernel
theorem dX6_mendOf_56 : decode cX6_mendOf 56 = .ok (.getfield 21, 3) := by decide +kernel
theorem dX6_mendOf_59 : decode cX6_mendOf 59 = .ok (.iload 5, 2) := by decide +kernel
theorem dX6_mendOf_61 : decode cX6_mendOf 61 = .ok (.baload, 1) := by decide +kernel
theorem dX6_mendOf_62 : decode cX6_mendOf 62 = .ok (.ifCond .ne 7, 3) := by decide +kernel
theorem dX6_mendOf_65 : decode cX6_mendOf 65 = .ok (.iconst 1, 1) := by decide +kernel
theorem dX6_mendOf_66 : decode cX6_mendOf 66 = .ok (.goto 4, 3) := by decide +kernel
theorem dX6_mendOf_69 : decode cX6_mendOf 69 = .ok (.iconst 0, 1) := by decide +kernel
theorem dX6_mendOf_70 : decode cX6_mendOf 70 = .ok (.bastore, 1) := by decide +kernel
theorem dX6_mendOf_71 : decode cX6_mendOf 71 = .ok (.aload_n 0, 1) := by decide +kernel
theorem dX6_mendOf_72 : decode cX6_mendOf 72 = .ok (.iload 5, 2) := by decide +kernel
theorem dX6_mendOf_74 : decode cX6_mendOf 74 = .ok (.invokevirtual 150, 3) := by decide +kernel
theorem dX6_mendOf_77 : decode cX6_mendOf 77 = .ok (.iload 4, 2) := by decide +kernel
theorem dX6_mendOf_79 : decode cX6_mendOf 79 = .ok (.ireturn, 1) := by decide +kernel
abbrev rmX6_mendOf : Room := { frames := 6, cells := 0, slots := 0, locals := 145 }
set_option maxRecDepth 100000 in
theorem hinX6_mendOf_6 : ∀ w ∈ wsX60, w ∈ wsX6_mendOf := by decide +kernel
set_option maxHeartbeats 4000000 in
set_option maxRecDepth 100000 in
theorem tX6_mendOf_70 {h : AH} {a1 : Int32} {a2 : Int32} {x4 : Int32} {x5 : Int32} {s1 : Int32} {s2 : Int32} {r0 : Int32} {h0 : AH} (C : Cx p rmX6_mendOf s m args meth c RX6 cX6_mendOf 6 (some .int) wsX6_mendOf D ad cy tb 0 0) (hf : fX6_mendOf_70 a1 a2 h x4 x5 s1 s2 = some (r0, h0)) : AW p l e rmX6_mendOf s m args below meth c 6 D ad cy 0 0 (Qi D ad cy below args s r0 h0) 70 [(0, .ref (ad 29)), (1, .int a1), (2, .int a2), (4, .int x4), (5, .int x5)] [.int s2, .int s1, .ref (ad 32)] h := by
  unfold fX6_mendOf_70 at hf
  refine aw_zast C rfl rfl hf dX6_mendOf_70 (fun hf => ?_)
  refine aw_nmH hf (fun h1 hf => ?_)
  refine aw_aload_n C dX6_mendOf_71 rfl 0 rfl ?_
  refine aw_iload C dX6_mendOf_72 4 rfl ?_
  obtain ⟨h2, hc, hf⟩ := bR_some hf
  refine aw_callVv (As := [.int x5]) (rest := []) C rfl (by decide) rfl (kX6_notes (l := l) (D := D) (ad := ad) (cy := cy) (tb := tb) C.2.2.2.2.2.2.2.2.1 hc) (fun ht _ => cwV 1 ht gX6_mendOf_X6_notes rfl rfl rfl (by decide +kernel) ⟨Nat.le_of_ble_eq_true rfl, Nat.le_of_ble_eq_true rfl⟩) rfl rfl (Nat.le_of_ble_eq_true rfl) dX6_mendOf_74 ?_
  refine aw_iload C dX6_mendOf_77 3 rfl ?_
  exact aw_iretW C dX6_mendOf_79 hf
set_option maxHeartbeats 4000000 in
set_option maxRecDepth 100000 in
theorem tX6_mendOf_0 {h : AH} {a1 : Int32} {a2 : Int32} {r0 : Int32} {h0 : AH} (C : Cx p rmX6_mendOf s m args meth c RX6 cX6_mendOf 6 (some .int) wsX6_mendOf D ad cy tb 0 0) (hf : fX6_mendOf h a1 a2 = some (r0, h0)) : AW p l e rmX6_mendOf s m args below meth c 6 D ad cy 0 0 (Qi D ad cy below args s r0 h0) 0 [(0, .ref (ad 29)), (1, .int a1), (2, .int a2)] [] h := by
  unfold fX6_mendOf at hf
  refine aw_aload_n C dX6_mendOf_0 rfl 0 rfl ?_
  refine aw_iload_n C dX6_mendOf_1 rfl 1 rfl ?_
  refine aw_iload_n C dX6_mendOf_2 rfl 2 rfl ?_
  obtain ⟨r1, hc, hf⟩ := bR_some hf
  refine aw_callVi (As := [.int a1, .int a2]) (rest := []) C rfl (by decide) rfl (kX6_stateOf (l := l) (D := D) (ad := ad) (cy := cy) (tb := tb) C.2.2.2.2.2.2.2.2.1 hc) (fun ht _ => cwV 2 ht gX6_mendOf_X6_stateOf rfl rfl rfl (by decide +kernel) ⟨Nat.le_of_ble_eq_true rfl, Nat.le_of_ble_eq_true rfl⟩) rfl rfl (Nat.le_of_ble_eq_true rfl) dX6_mendOf_3 ?_
  refine aw_istore_n (lv1 := [(3, .int r1), (0, .ref (ad 29)), (1, .int a1), (2, .int a2)]) C dX6_mendOf_6 rfl (by decide) rfl ?_
  refine aw_iload_n C dX6_mendOf_7 rfl 0 rfl ?_
  refine aw_iconst (v := 2) C dX6_mendOf_8 (by decide) ?_
  refine aw_icmp_ge (tgt := 23) C dX6_mendOf_9 (by decide) hf (fun hf => ?_) (fun hf => ?_)
  · refine aw_aload_n C dX6_mendOf_23 rfl 1 rfl ?_
    refine aw_iload_n C dX6_mendOf_24 rfl 2 rfl ?_
    refine aw_iload_n C dX6_mendOf_25 rfl 3 rfl ?_
    obtain ⟨r2, hc, hf⟩ := bR_some hf
    refine aw_callVi (As := [.int a1, .int a2]) (rest := []) C rfl (by decide) rfl (kX6_placeBy (l := l) (D := D) (ad := ad) (cy := cy) (tb := tb) C.2.2.2.2.2.2.2.2.1 hc) (fun ht _ => cwV 2 ht gX6_mendOf_X6_placeBy rfl rfl rfl (by decide +kernel) ⟨Nat.le_of_ble_eq_true rfl, Nat.le_of_ble_eq_true rfl⟩) rfl rfl (Nat.le_of_ble_eq_true rfl) dX6_mendOf_26 ?_
    refine aw_istore (lv1 := [(4, .int r2), (3, .int r1), (0, .ref (ad 29)), (1, .int a1), (2, .int a2)]) C dX6_mendOf_29 (by decide) rfl ?_
    refine aw_iload C dX6_mendOf_31 0 rfl ?_
    refine aw_iconst (v := (-1)) C dX6_mendOf_33 (by decide) ?_
    refine aw_icmp_ne (tgt := 40) C dX6_mendOf_34 (by decide) hf (fun hf => ?_) (fun hf => ?_)
    · refine aw_iload_n C dX6_mendOf_40 rfl 3 rfl ?_
      refine aw_iload_n C dX6_mendOf_41 rfl 4 rfl ?_
      refine aw_iload C dX6_mendOf_42 0 rfl ?_
      obtain ⟨r3, hc, hf⟩ := bR_some hf
      refine aw_callSi (As := [.int a1, .int a2, .int r2]) (rest := []) C (kX6_bitAt (l := l) (D := D) (ad := ad) (cy := cy) (tb := tb) C.2.2.2.2.2.2.2.2.1 hc) (fun ht _ => va_cwS 3 ht gX6_mendOf_X6_bitAt rfl rfl rfl (by decide +kernel) ⟨Nat.le_of_ble_eq_true rfl, Nat.le_of_ble_eq_true rfl⟩) rfl rfl (Nat.le_of_ble_eq_true rfl) dX6_mendOf_44 ?_
      refine aw_istore (lv1 := [(5, .int r3), (4, .int r2), (3, .int r1), (0, .ref (ad 29)), (1, .int a1), (2, .int a2)]) C dX6_mendOf_47 (by decide) rfl ?_
      refine aw_aload_n C dX6_mendOf_49 rfl 3 rfl ?_
      refine aw_get C (kd_lt rfl (by decide)) (ce_6 rfl) rfl hinX6_mendOf_6 4 (by decide) rfl (by decide +kernel) rfl dX6_mendOf_50 ?_
      refine aw_iload C dX6_mendOf_53 0 rfl ?_
      refine aw_aload_n C dX6_mendOf_55 rfl 3 rfl ?_
      refine aw_get C (kd_lt rfl (by decide)) (ce_6 rfl) rfl hinX6_mendOf_6 4 (by decide) rfl (by decide +kernel) rfl dX6_mendOf_56 ?_
      refine aw_iload C dX6_mendOf_59 0 rfl ?_
      refine aw_zald C rfl rfl hf dX6_mendOf_61 (fun hf => ?_)
      refine aw_if_ne (tgt := 69) C dX6_mendOf_62 (by decide) hf (fun hf => ?_) (fun hf => ?_)
      · refine aw_iconst (v := 0) C dX6_mendOf_69 (by decide) ?_
        refine aw_sub [3, 4, 5, 1, 0] rfl ?_
        exact tX6_mendOf_70 C   hf
      refine aw_iconst (v := 1) C dX6_mendOf_65 (by decide) ?_
      refine aw_goto (tgt := 70) C dX6_mendOf_66 (by decide) ?_
      refine aw_sub [3, 4, 5, 1, 0] rfl ?_
      exact tX6_mendOf_70 C   hf
    refine aw_bipush (v := (-5)) C dX6_mendOf_37 (by decide) ?_
    exact aw_iretW C dX6_mendOf_39 hf
  refine aw_iload_n C dX6_mendOf_12 rfl 0 rfl ?_
  refine aw_if_ne (tgt := 20) C dX6_mendOf_13 (by decide) hf (fun hf => ?_) (fun hf => ?_)
  · refine aw_bipush (v := (-6)) C dX6_mendOf_20 (by decide) ?_
    exact aw_iretW C dX6_mendOf_22 hf
  refine aw_iconst (v := (-1)) C dX6_mendOf_16 (by decide) ?_
  refine aw_goto (tgt := 22) C dX6_mendOf_17 (by decide) ?_
  exact aw_iretW C dX6_mendOf_22 hf
theorem kX6_mendOf {h : AH} {a1 : Int32} {a2 : Int32} {r0 : Int32} {h0 : AH} (hi : Inj ad) (hf : fX6_mendOf h a1 a2 = some (r0, h0)) : Ki l yX6_mendOf wsX6_mendOf rmX6_mendOf D ad cy tb [.ref (ad 29), .int a1, .int a2] h r0 h0 := met_i (lv := [(0, .ref (ad 29)), (1, .int a1), (2, .int a2)]) hi (by decide) rfl (Nat.le_of_ble_eq_true rfl) rfl rfl (fun _ _ _ _ _ _ _ _ C => tX6_mendOf_0 C  hf)
set_option maxRecDepth 20000 in
theorem ggX6_mend_X6_isWord : GoodIn wsX6_mend wsX6_isWord := goodIn_r _ [5, 6, 7, 8, 4, 9, 10, 11, 12, 13, 65, 66, 67, 68, 69, 70, 71, 72, 73, 74, 75, 76, 77, 78, 79, 80, 81, 82] (by decide +kernel) (by decide +kernel)
set_option maxRecDepth 20000 in
theorem gX6_mend_X6_isWord : GoodIn wsX6_mend (wsV RX6 81 RX6 yX6_isWord wsX6_isWord) := goodIn_app (goodIn_of _ (by decide +kernel)) ggX6_mend_X6_isWord
set_option maxRecDepth 20000 in
theorem ggX6_mend_X6_mendOf : GoodIn wsX6_mend wsX6_mendOf := goodIn_r _ [17, 18, 19, 20, 21, 4, 22, 23, 24, 25, 26, 27, 28, 29, 30, 31, 32, 33, 34, 35, 36, 37, 38, 39, 40, 41, 42, 43, 44, 45, 46, 47, 48, 49, 50, 51, 52, 53, 54, 10, 55, 56, 57, 58, 59, 60, 61, 62, 63, 64, 65, 66, 67, 68, 69, 70, 71, 72, 73, 74, 75, 76, 77, 78, 79, 80, 81, 82] (by decide +kernel) (by decide +kernel)
set_option maxRecDepth 20000 in
theorem gX6_mend_X6_mendOf : GoodIn wsX6_mend (wsV RX6 153 RX6 yX6_mendOf wsX6_mendOf) := goodIn_app (goodIn_of _ (by decide +kernel)) ggX6_mend_X6_mendOf
theorem dX6_mend_0 : decode cX6_mend 0 = .ok (.aload_n 0, 1) := by decide +kernel
theorem dX6_mend_1 : decode cX6_mend 1 = .ok (.iload_n 1, 1) := by decide +kernel
theorem dX6_mend_2 : decode cX6_mend 2 = .ok (.iload_n 2, 1) := by decide +kernel
theorem dX6_mend_3 : decode cX6_mend 3 = .ok (.invokevirtual 81, 3) := by decide +kernel
theorem dX6_mend_6 : decode cX6_mend 6 = .ok (.ifCond .eq 12, 3) := by decide +kernel
theorem dX6_mend_9 : decode cX6_mend 9 = .ok (.aload_n 0, 1) := by decide +kernel
theorem dX6_mend_10 : decode cX6_mend 10 = .ok (.iload_n 1, 1) := by decide +kernel
theorem dX6_mend_11 : decode cX6_mend 11 = .ok (.iload_n 2, 1) := by decide +kernel
theorem dX6_mend_12 : decode cX6_mend 12 = .ok (.invokevirtual 153, 3) := by decide +kernel
theorem dX6_mend_15 : decode cX6_mend 15 = .ok (.goto 5, 3) := by decide +kernel
theorem dX6_mend_18 : decode cX6_mend 18 = .ok (.bipush (-2), 2) := by decide +kernel
theorem dX6_mend_20 : decode cX6_mend 20 = .ok (.ireturn, 1) := by decide +kernel
abbrev rmX6_mend : Room := { frames := 7, cells := 0, slots := 0, locals := 170 }
set_option maxHeartbeats 4000000 in
set_option maxRecDepth 100000 in
theorem tX6_mend_0 {h : AH} {a1 : Int32} {a2 : Int32} {r0 : Int32} {h0 : AH} (C : Cx p rmX6_mend s m args meth c RX6 cX6_mend 3 (some .int) wsX6_mend D ad cy tb 0 0) (hf : fX6_mend h a1 a2 = some (r0, h0)) : AW p l e rmX6_mend s m args below meth c 3 D ad cy 0 0 (Qi D ad cy below args s r0 h0) 0 [(0, .ref (ad 29)), (1, .int a1), (2, .int a2)] [] h := by
  unfold fX6_mend at hf
  refine aw_aload_n C dX6_mend_0 rfl 0 rfl ?_
  refine aw_iload_n C dX6_mend_1 rfl 1 rfl ?_
  refine aw_iload_n C dX6_mend_2 rfl 2 rfl ?_
  obtain ⟨r1, hc, hf⟩ := bR_some hf
  refine aw_callVi (As := [.int a1, .int a2]) (rest := []) C rfl (by decide) rfl (kX6_isWord (l := l) (D := D) (ad := ad) (cy := cy) (tb := tb) C.2.2.2.2.2.2.2.2.1 hc) (fun ht _ => cwV 2 ht gX6_mend_X6_isWord rfl rfl rfl (by decide +kernel) ⟨Nat.le_of_ble_eq_true rfl, Nat.le_of_ble_eq_true rfl⟩) rfl rfl (Nat.le_of_ble_eq_true rfl) dX6_mend_3 ?_
  refine aw_if_eq (tgt := 18) C dX6_mend_6 (by decide) hf (fun hf => ?_) (fun hf => ?_)
  · refine aw_bipush (v := (-2)) C dX6_mend_18 (by decide) ?_
    exact aw_iretW C dX6_mend_20 hf
  refine aw_aload_n C dX6_mend_9 rfl 0 rfl ?_
  refine aw_iload_n C dX6_mend_10 rfl 1 rfl ?_
  refine aw_iload_n C dX6_mend_11 rfl 2 rfl ?_
  obtain ⟨r3, h2, hc, hf⟩ := bW_some hf
  refine aw_callVi (As := [.int a1, .int a2]) (rest := []) C rfl (by decide) rfl (kX6_mendOf (l := l) (D := D) (ad := ad) (cy := cy) (tb := tb) C.2.2.2.2.2.2.2.2.1 hc) (fun ht _ => cwV 2 ht gX6_mend_X6_mendOf rfl rfl rfl (by decide +kernel) ⟨Nat.le_of_ble_eq_true rfl, Nat.le_of_ble_eq_true rfl⟩) rfl rfl (Nat.le_of_ble_eq_true rfl) dX6_mend_12 ?_
  refine aw_goto (tgt := 20) C dX6_mend_15 (by decide) ?_
  exact aw_iretW C dX6_mend_20 hf
theorem kX6_mend {h : AH} {a1 : Int32} {a2 : Int32} {r0 : Int32} {h0 : AH} (hi : Inj ad) (hf : fX6_mend h a1 a2 = some (r0, h0)) : Ki l yX6_mend wsX6_mend rmX6_mend D ad cy tb [.ref (ad 29), .int a1, .int a2] h r0 h0 := met_i (lv := [(0, .ref (ad 29)), (1, .int a1), (2, .int a2)]) hi (by decide) rfl (Nat.le_of_ble_eq_true rfl) rfl rfl (fun _ _ _ _ _ _ _ _ C => tX6_mend_0 C  hf)
set_option maxRecDepth 20000 in
theorem ggX4_takeTurn_X4_placeToMend : GoodIn wsX4_takeTurn wsX4_placeToMend := goodIn_r _ [5, 6, 7, 24, 25, 26] (by decide +kernel) (by decide +kernel)
set_option maxRecDepth 20000 in
theorem gX4_takeTurn_X4_placeToMend : GoodIn wsX4_takeTurn (wsV RX4 82 RX4 yX4_placeToMend wsX4_placeToMend) := goodIn_app (goodIn_of _ (by decide +kernel)) ggX4_takeTurn_X4_placeToMend
set_option maxRecDepth 20000 in
theorem ggX4_takeTurn_X5_bitAt : GoodIn wsX4_takeTurn wsX5_bitAt := goodIn_r _ [10] (by decide +kernel) (by decide +kernel)
set_option maxRecDepth 20000 in
theorem gX4_takeTurn_X5_bitAt_n86 : GoodIn wsX4_takeTurn (wsX5_bitAt) := ggX4_takeTurn_X5_bitAt
set_option maxRecDepth 20000 in
theorem ggX4_takeTurn_X4_turnBit : GoodIn wsX4_takeTurn wsX4_turnBit := goodIn_r _ [14, 15, 6, 7, 24, 25, 26] (by decide +kernel) (by decide +kernel)
set_option maxRecDepth 20000 in
theorem gX4_takeTurn_X4_turnBit : GoodIn wsX4_takeTurn (wsV RX4 89 RX4 yX4_turnBit wsX4_turnBit) := goodIn_app (goodIn_of _ (by decide +kernel)) ggX4_takeTurn_X4_turnBit
set_option maxRecDepth 20000 in
theorem ggX4_takeTurn_X0_add : GoodIn wsX4_takeTurn wsX0_add := goodIn_r _ [20, 21, 22, 23, 27, 28, 29] (by decide +kernel) (by decide +kernel)
set_option maxRecDepth 20000 in
theorem gX4_takeTurn_X0_add : GoodIn wsX4_takeTurn (wsV RX4 93 RX0 yX0_add wsX0_add) := goodIn_app (goodIn_of _ (by decide +kernel)) ggX4_takeTurn_X0_add
theorem dX4_takeTurn_0 : decode cX4_takeTurn 0 = .ok (.iconst 0, 1) := by decide +kernel
theorem dX4_takeTurn_1 : decode cX4_takeTurn 1 = .ok (.istore 5, 2) := by decide +kernel
theorem dX4_takeTurn_3 : decode cX4_takeTurn 3 = .ok (.iconst 1, 1) := by decide +kernel
theorem dX4_takeTurn_4 : decode cX4_takeTurn 4 = .ok (.istore 6, 2) := by decide +kernel
theorem dX4_takeTurn_6 : decode cX4_takeTurn 6 = .ok (.iload 6, 2) := by decide +kernel
theorem dX4_takeTurn_8 : decode cX4_takeTurn 8 = .ok (.ifCond .lt 91, 3) := by decide +kernel
theorem dX4_takeTurn_11 : decode cX4_takeTurn 11 = .ok (.bipush 8, 2) := by decide +kernel
theorem dX4_takeTurn_13 : decode cX4_takeTurn 13 = .ok (.iload_n 1, 1) := by decide +kernel
theorem dX4_takeTurn_14 : decode cX4_takeTurn 14 = .ok (.imul, 1) := by decide +kernel
theorem dX4_takeTurn_15 : decode cX4_takeTurn 15 = .ok (.istore 7, 2) := by decide +kernel
theorem dX4_takeTurn_17 : decode cX4_takeTurn 17 = .ok (.iload 7, 2) := by decide +kernel
theorem dX4_takeTurn_19 : decode cX4_takeTurn 19 = .ok (.bipush 8, 2) := by decide +kernel
theorem dX4_takeTurn_21 : decode cX4_takeTurn 21 = .ok (.iload_n 2, 1) := by decide +kernel
theorem dX4_takeTurn_22 : decode cX4_takeTurn 22 = .ok (.iconst 1, 1) := by decide +kernel
theorem dX4_takeTurn_23 : decode cX4_takeTurn 23 = .ok (.iadd, 1) := by decide +kernel
theorem dX4_takeTurn_24 : decode cX4_takeTurn 24 = .ok (.imul, 1) := by decide +kernel
theorem dX4_takeTurn_25 : decode cX4_takeTurn 25 = .ok (.if_icmp .ge 68, 3) := by decide +kernel
theorem dX4_takeTurn_28 : decode cX4_takeTurn 28 = .ok (.iload 7, 2) := by decide +kernel
theorem dX4_takeTurn_30 : decode cX4_takeTurn 30 = .ok (.iconst 3, 1) := by decide +kernel
theorem dX4_takeTurn_31 : decode cX4_takeTurn 31 = .ok (.ishr, 1) := by decide +kernel
theorem dX4_takeTurn_32 : decode cX4_takeTurn 32 = .ok (.iconst 1, 1) := by decide +kernel
theorem dX4_takeTurn_33 : decode cX4_takeTurn 33 = .ok (.iand, 1) := by decide +kernel
theorem dX4_takeTurn_34 : decode cX4_takeTurn 34 = .ok (.iload 6, 2) := by decide +kernel
theorem dX4_takeTurn_36 : decode cX4_takeTurn 36 = .ok (.if_icmp .ne 13, 3) := by decide +kernel
theorem dX4_takeTurn_39 : decode cX4_takeTurn 39 = .ok (.aload_n 0, 1) := by decide +kernel
theorem dX4_takeTurn_40 : decode cX4_takeTurn 40 = .ok (.iload 7, 2) := by decide +kernel
theorem dX4_takeTurn_42 : decode cX4_takeTurn 42 = .ok (.iload_n 3, 1) := by decide +kernel
theorem dX4_takeTurn_43 : decode cX4_takeTurn 43 = .ok (.invokevirtual 82, 3) := by decide +kernel
theorem dX4_takeTurn_46 : decode cX4_takeTurn 46 = .ok (.goto 4, 3) := by decide +kernel
theorem dX4_takeTurn_49 : decode cX4_takeTurn 49 = .ok (.iconst (-1), 1) := by decide +kernel
theorem dX4_takeTurn_50 : decode cX4_takeTurn 50 = .ok (.istore 8, 2) := by decide +kernel
theorem dX4_takeTurn_52 : decode cX4_takeTurn 52 = .ok (.iload 8, 2) := by decide +kernel
theorem dX4_takeTurn_54 : decode cX4_takeTurn 54 = .ok (.ifCond .lt 33, 3) := by decide +kernel
theorem dX4_takeTurn_57 : decode cX4_takeTurn 57 = .ok (.iload 7, 2) := by decide +kernel
theorem dX4_takeTurn_59 : decode cX4_takeTurn 59 = .ok (.iload 8, 2) := by decide +kernel
theorem dX4_takeTurn_61 : decode cX4_takeTurn 61 = .ok (.invokestatic 86, 3) := by decide +kernel
theorem dX4_takeTurn_64 : decode cX4_takeTurn 64 = .ok (.istore 9, 2) := by decide +kernel
theorem dX4_takeTurn_66 : decode cX4_takeTurn 66 = .ok (.aload_n 0, 1) := by decide +kernel
theorem dX4_takeTurn_67 : decode cX4_takeTurn 67 = .ok (.iload 9, 2) := by decide +kernel
theorem dX4_takeTurn_69 : decode cX4_takeTurn 69 = .ok (.invokevirtual 89, 3) := by decide +kernel
theorem dX4_takeTurn_72 : decode cX4_takeTurn 72 = .ok (.iinc 5 1, 3) := by decide +kernel
theorem dX4_takeTurn_75 : decode cX4_takeTurn 75 = .ok (.aload 4, 2) := by decide +kernel
theorem dX4_takeTurn_77 : decode cX4_takeTurn 77 = .ok (.ifnull 10, 3) := by decide +kernel
theorem dX4_takeTurn_80 : decode cX4_takeTurn 80 = .ok (.aload 4, 2) := by decide +kernel
theorem dX4_takeTurn_82 : decode cX4_takeTurn 82 = .ok (.iload 9, 2) := by decide +kernel
theorem dX4_takeTurn_84 : decode cX4_takeTurn 84 = .ok (.invokevirtual 93, 3) := by decide +kernel
theorem dX4_takeTurn_87 : decode cX4_takeTurn 87 = .ok (.iinc 7 1, 3) := by decide +kernel
theorem dX4_takeTurn_90 : decode cX4_takeTurn 90 = .ok (.goto (-73), 3) := by decide +kernel
theorem dX4_takeTurn_93 : decode cX4_takeTurn 93 = .ok (.iinc 6 (-1), 3) := by decide +kernel
theorem dX4_takeTurn_96 : decode cX4_takeTurn 96 = .ok (.goto (-90), 3) := by decide +kernel
theorem dX4_takeTurn_99 : decode cX4_takeTurn 99 = .ok (.iload 5, 2) := by decide +kernel
theorem dX4_takeTurn_101 : decode cX4_takeTurn 101 = .ok (.ireturn, 1) := by decide +kernel
abbrev rmX4_takeTurn : Room := { frames := 1, cells := 0, slots := 0, locals := 27 }
set_option maxHeartbeats 4000000 in
set_option maxRecDepth 100000 in
theorem tX4_takeTurn_87 {h : AH} {a0 : Nat} {a1 : Int32} {a2 : Int32} {a3 : Int32} {k6 : AH → Int32 → Int32 → Option (Int32 × AH)} {k17 : AH → Int32 → Int32 → Int32 → Option (Int32 × AH)} {x5 : Int32} {x6 : Int32} {x7 : Int32} {r0 : Int32} {h0 : AH} (C : Cx p rmX4_takeTurn s m args meth c RX4 cX4_takeTurn 10 (some .int) wsX4_takeTurn D ad cy tb 0 0) (hk0 : kd a0 = 4) (H6 : ∀ (h : AH) (x5 : Int32) (x6 : Int32), k6 h x5 x6 = some (r0, h0) → AW p l e rmX4_takeTurn s m args below meth c 10 D ad cy 0 0 (Qi D ad cy below args s r0 h0) 6 [(0, .ref (ad a0)), (1, .int a1), (2, .int a2), (3, .int a3), (4, .ref (ad 11)), (5, .int x5), (6, .int x6)] [] h) (H17 : ∀ (h : AH) (x5 : Int32) (x6 : Int32) (x7 : Int32), k17 h x5 x6 x7 = some (r0, h0) → AW p l e rmX4_takeTurn s m args below meth c 10 D ad cy 0 0 (Qi D ad cy below args s r0 h0) 17 [(0, .ref (ad a0)), (1, .int a1), (2, .int a2), (3, .int a3), (4, .ref (ad 11)), (5, .int x5), (6, .int x6), (7, .int x7)] [] h) (hf : fX4_takeTurn_87 k6 k17 a0 a1 a2 a3 h x5 x6 x7 = some (r0, h0)) : AW p l e rmX4_takeTurn s m args below meth c 10 D ad cy 0 0 (Qi D ad cy below args s r0 h0) 87 [(0, .ref (ad a0)), (1, .int a1), (2, .int a2), (3, .int a3), (4, .ref (ad 11)), (5, .int x5), (6, .int x6), (7, .int x7)] [] h := by
  unfold fX4_takeTurn_87 at hf
  obtain ⟨v1, hvv1, hf⟩ := nm_ex hf
  refine aw_iinc (j := 7) (v := v1) (lv1 := [(7, .int v1), (0, .ref (ad a0)), (1, .int a1), (2, .int a2), (3, .int a3), (4, .ref (ad 11)), (5, .int x5), (6, .int x6)]) C dX4_takeTurn_87 rfl hvv1 (by decide) rfl ?_
  refine aw_goto (tgt := 17) C dX4_takeTurn_90 (by decide) ?_
  refine aw_sub [1, 2, 3, 4, 5, 6, 7, 0] rfl ?_
  exact H17 h x5 x6 v1 hf
set_option maxHeartbeats 4000000 in
set_option maxRecDepth 100000 in
theorem tX4_takeTurn_50 {h : AH} {a0 : Nat} {a1 : Int32} {a2 : Int32} {a3 : Int32} {k6 : AH → Int32 → Int32 → Option (Int32 × AH)} {k17 : AH → Int32 → Int32 → Int32 → Option (Int32 × AH)} {x5 : Int32} {x6 : Int32} {x7 : Int32} {s0 : Int32} {r0 : Int32} {h0 : AH} (C : Cx p rmX4_takeTurn s m args meth c RX4 cX4_takeTurn 10 (some .int) wsX4_takeTurn D ad cy tb 0 0) (hk0 : kd a0 = 4) (H6 : ∀ (h : AH) (x5 : Int32) (x6 : Int32), k6 h x5 x6 = some (r0, h0) → AW p l e rmX4_takeTurn s m args below meth c 10 D ad cy 0 0 (Qi D ad cy below args s r0 h0) 6 [(0, .ref (ad a0)), (1, .int a1), (2, .int a2), (3, .int a3), (4, .ref (ad 11)), (5, .int x5), (6, .int x6)] [] h) (H17 : ∀ (h : AH) (x5 : Int32) (x6 : Int32) (x7 : Int32), k17 h x5 x6 x7 = some (r0, h0) → AW p l e rmX4_takeTurn s m args below meth c 10 D ad cy 0 0 (Qi D ad cy below args s r0 h0) 17 [(0, .ref (ad a0)), (1, .int a1), (2, .int a2), (3, .int a3), (4, .ref (ad 11)), (5, .int x5), (6, .int x6), (7, .int x7)] [] h) (hf : fX4_takeTurn_50 k6 k17 a0 a1 a2 a3 h x5 x6 x7 s0 = some (r0, h0)) : AW p l e rmX4_takeTurn s m args below meth c 10 D ad cy 0 0 (Qi D ad cy below args s r0 h0) 50 [(0, .ref (ad a0)), (1, .int a1), (2, .int a2), (3, .int a3), (4, .ref (ad 11)), (5, .int x5), (6, .int x6), (7, .int x7)] [.int s0] h := by
  unfold fX4_takeTurn_50 at hf
  refine aw_istore (lv1 := [(8, .int s0), (0, .ref (ad a0)), (1, .int a1), (2, .int a2), (3, .int a3), (4, .ref (ad 11)), (5, .int x5), (6, .int x6), (7, .int x7)]) C dX4_takeTurn_50 (by decide) rfl ?_
  refine aw_iload C dX4_takeTurn_52 0 rfl ?_
  refine aw_if_lt (tgt := 87) C dX4_takeTurn_54 (by decide) hf (fun hf => ?_) (fun hf => ?_)
  · refine aw_sub [1, 2, 3, 4, 5, 6, 7, 8] rfl ?_
    exact tX4_takeTurn_87 C hk0 H6 H17 hf
  refine aw_iload C dX4_takeTurn_57 8 rfl ?_
  refine aw_iload C dX4_takeTurn_59 0 rfl ?_
  obtain ⟨r1, hc, hf⟩ := bR_some hf
  refine aw_callSNi (As := [.int x7, .int s0]) (rest := []) C (kX5_bitAt (l := l) (D := D) (ad := ad) (cy := cy) (tb := tb) C.2.2.2.2.2.2.2.2.1 hc) (fun ht hn => ⟨va_cnB (host := "StairCodes") 2 ht gX4_takeTurn_X5_bitAt_n86 rfl rfl rfl (hn _ (by decide +kernel)) (ht _ (by decide +kernel)) (by decide +kernel) ⟨Nat.le_of_ble_eq_true rfl, Nat.le_of_ble_eq_true rfl⟩, ht _ (by decide +kernel), trivial⟩) rfl rfl (Nat.le_of_ble_eq_true rfl) dX4_takeTurn_61 ?_
  refine aw_istore (lv1 := [(9, .int r1), (8, .int s0), (0, .ref (ad a0)), (1, .int a1), (2, .int a2), (3, .int a3), (4, .ref (ad 11)), (5, .int x5), (6, .int x6), (7, .int x7)]) C dX4_takeTurn_64 (by decide) rfl ?_
  refine aw_aload_n C dX4_takeTurn_66 rfl 2 rfl ?_
  refine aw_iload C dX4_takeTurn_67 0 rfl ?_
  obtain ⟨h2, hc, hf⟩ := bR_some hf
  refine aw_callVv (As := [.int r1]) (rest := []) C hk0 (by decide) rfl (kX4_turnBit (l := l) (D := D) (ad := ad) (cy := cy) (tb := tb) C.2.2.2.2.2.2.2.2.1 hk0 hc) (fun ht _ => cwV 1 ht gX4_takeTurn_X4_turnBit rfl rfl rfl (by decide +kernel) ⟨Nat.le_of_ble_eq_true rfl, Nat.le_of_ble_eq_true rfl⟩) rfl rfl (Nat.le_of_ble_eq_true rfl) dX4_takeTurn_69 ?_
  obtain ⟨v3, hvv3, hf⟩ := nm_ex hf
  refine aw_iinc (j := 7) (v := v3) (lv1 := [(5, .int v3), (9, .int r1), (8, .int s0), (0, .ref (ad a0)), (1, .int a1), (2, .int a2), (3, .int a3), (4, .ref (ad 11)), (6, .int x6), (7, .int x7)]) C dX4_takeTurn_72 rfl hvv3 (by decide) rfl ?_
  refine aw_aload C dX4_takeTurn_75 7 rfl ?_
  refine aw_ifnull C dX4_takeTurn_77 ?_
  refine aw_aload C dX4_takeTurn_80 7 rfl ?_
  refine aw_iload C dX4_takeTurn_82 1 rfl ?_
  obtain ⟨h4, hc, hf⟩ := bR_some hf
  refine aw_callVv (As := [.int r1]) (rest := []) C rfl (by decide) rfl (kX0_add (l := l) (D := D) (ad := ad) (cy := cy) (tb := tb) C.2.2.2.2.2.2.2.2.1 hc) (fun ht _ => cwV 1 ht gX4_takeTurn_X0_add rfl rfl rfl (by decide +kernel) ⟨Nat.le_of_ble_eq_true rfl, Nat.le_of_ble_eq_true rfl⟩) rfl rfl (Nat.le_of_ble_eq_true rfl) dX4_takeTurn_84 ?_
  refine aw_sub [3, 4, 5, 6, 7, 0, 8, 9] rfl ?_
  exact tX4_takeTurn_87 C hk0 H6 H17 hf
set_option maxHeartbeats 4000000 in
set_option maxRecDepth 100000 in
theorem tX4_takeTurn_17b {h : AH} {a0 : Nat} {a1 : Int32} {a2 : Int32} {a3 : Int32} {k6 : AH → Int32 → Int32 → Option (Int32 × AH)} {k17 : AH → Int32 → Int32 → Int32 → Option (Int32 × AH)} {x5 : Int32} {x6 : Int32} {x7 : Int32} {r0 : Int32} {h0 : AH} (C : Cx p rmX4_takeTurn s m args meth c RX4 cX4_takeTurn 10 (some .int) wsX4_takeTurn D ad cy tb 0 0) (hk0 : kd a0 = 4) (H6 : ∀ (h : AH) (x5 : Int32) (x6 : Int32), k6 h x5 x6 = some (r0, h0) → AW p l e rmX4_takeTurn s m args below meth c 10 D ad cy 0 0 (Qi D ad cy below args s r0 h0) 6 [(0, .ref (ad a0)), (1, .int a1), (2, .int a2), (3, .int a3), (4, .ref (ad 11)), (5, .int x5), (6, .int x6)] [] h) (H17 : ∀ (h : AH) (x5 : Int32) (x6 : Int32) (x7 : Int32), k17 h x5 x6 x7 = some (r0, h0) → AW p l e rmX4_takeTurn s m args below meth c 10 D ad cy 0 0 (Qi D ad cy below args s r0 h0) 17 [(0, .ref (ad a0)), (1, .int a1), (2, .int a2), (3, .int a3), (4, .ref (ad 11)), (5, .int x5), (6, .int x6), (7, .int x7)] [] h) (hf : fX4_takeTurn_17b k6 k17 a0 a1 a2 a3 h x5 x6 x7 = some (r0, h0)) : AW p l e rmX4_takeTurn s m args below meth c 10 D ad cy 0 0 (Qi D ad cy below args s r0 h0) 17 [(0, .ref (ad a0)), (1, .int a1), (2, .int a2), (3, .int a3), (4, .ref (ad 11)), (5, .int x5), (6, .int x6), (7, .int x7)] [] h := by
  unfold fX4_takeTurn_17b at hf
  refine aw_iload C dX4_takeTurn_17 7 rfl ?_
  refine aw_bipush (v := 8) C dX4_takeTurn_19 (by decide) ?_
  refine aw_iload_n C dX4_takeTurn_21 rfl 2 rfl ?_
  refine aw_iconst (v := 1) C dX4_takeTurn_22 (by decide) ?_
  refine aw_iadd C dX4_takeTurn_23 ?_
  refine aw_imul C dX4_takeTurn_24 ?_
  refine aw_icmp_ge (tgt := 93) C dX4_takeTurn_25 (by decide) hf (fun hf => ?_) (fun hf => ?_)
  · obtain ⟨v1, hvv1, hf⟩ := nm_ex hf
    refine aw_iinc (j := 6) (v := v1) (lv1 := [(6, .int v1), (0, .ref (ad a0)), (1, .int a1), (2, .int a2), (3, .int a3), (4, .ref (ad 11)), (5, .int x5), (7, .int x7)]) C dX4_takeTurn_93 rfl hvv1 (by decide) rfl ?_
    refine aw_goto (tgt := 6) C dX4_takeTurn_96 (by decide) ?_
    refine aw_sub [1, 2, 3, 4, 5, 6, 0] rfl ?_
    exact H6 h x5 v1 hf
  refine aw_iload C dX4_takeTurn_28 7 rfl ?_
  refine aw_iconst (v := 3) C dX4_takeTurn_30 (by decide) ?_
  refine aw_ishr C dX4_takeTurn_31 ?_
  refine aw_iconst (v := 1) C dX4_takeTurn_32 (by decide) ?_
  refine aw_iand C dX4_takeTurn_33 ?_
  refine aw_iload C dX4_takeTurn_34 6 rfl ?_
  refine aw_icmp_ne (tgt := 49) C dX4_takeTurn_36 (by decide) hf (fun hf => ?_) (fun hf => ?_)
  · refine aw_iconst (v := (-1)) C dX4_takeTurn_49 (by decide) ?_
    refine aw_sub [0, 1, 2, 3, 4, 5, 6, 7] rfl ?_
    exact tX4_takeTurn_50 C hk0 H6 H17 hf
  refine aw_aload_n C dX4_takeTurn_39 rfl 0 rfl ?_
  refine aw_iload C dX4_takeTurn_40 7 rfl ?_
  refine aw_iload_n C dX4_takeTurn_42 rfl 3 rfl ?_
  obtain ⟨r2, hc, hf⟩ := bR_some hf
  refine aw_callVi (As := [.int x7, .int a3]) (rest := []) C hk0 (by decide) rfl (kX4_placeToMend (l := l) (D := D) (ad := ad) (cy := cy) (tb := tb) C.2.2.2.2.2.2.2.2.1 hk0 hc) (fun ht _ => cwV 2 ht gX4_takeTurn_X4_placeToMend rfl rfl rfl (by decide +kernel) ⟨Nat.le_of_ble_eq_true rfl, Nat.le_of_ble_eq_true rfl⟩) rfl rfl (Nat.le_of_ble_eq_true rfl) dX4_takeTurn_43 ?_
  refine aw_goto (tgt := 50) C dX4_takeTurn_46 (by decide) ?_
  refine aw_sub [0, 1, 2, 3, 4, 5, 6, 7] rfl ?_
  exact tX4_takeTurn_50 C hk0 H6 H17 hf
set_option maxHeartbeats 4000000 in
set_option maxRecDepth 100000 in
theorem tX4_takeTurn_17  {a0 : Nat} {a1 : Int32} {a2 : Int32} {a3 : Int32} {k6 : AH → Int32 → Int32 → Option (Int32 × AH)} {r0 : Int32} {h0 : AH} (C : Cx p rmX4_takeTurn s m args meth c RX4 cX4_takeTurn 10 (some .int) wsX4_takeTurn D ad cy tb 0 0) (hk0 : kd a0 = 4) (H6 : ∀ (h : AH) (x5 : Int32) (x6 : Int32), k6 h x5 x6 = some (r0, h0) → AW p l e rmX4_takeTurn s m args below meth c 10 D ad cy 0 0 (Qi D ad cy below args s r0 h0) 6 [(0, .ref (ad a0)), (1, .int a1), (2, .int a2), (3, .int a3), (4, .ref (ad 11)), (5, .int x5), (6, .int x6)] [] h) : ∀ (n : Nat) (h : AH) (x5 : Int32) (x6 : Int32) (x7 : Int32), fX4_takeTurn_17 k6 a0 a1 a2 a3 n h x5 x6 x7 = some (r0, h0) → AW p l e rmX4_takeTurn s m args below meth c 10 D ad cy 0 0 (Qi D ad cy below args s r0 h0) 17 [(0, .ref (ad a0)), (1, .int a1), (2, .int a2), (3, .int a3), (4, .ref (ad 11)), (5, .int x5), (6, .int x6), (7, .int x7)] [] h := by
  intro n
  induction n with
  | zero => intro h x5 x6 x7 hf; cases hf
  | succ n ih => intro h x5 x6 x7 hf; exact tX4_takeTurn_17b C hk0 H6 ih  hf
set_option maxHeartbeats 4000000 in
set_option maxRecDepth 100000 in
theorem tX4_takeTurn_6b {h : AH} {a0 : Nat} {a1 : Int32} {a2 : Int32} {a3 : Int32} {k6 : AH → Int32 → Int32 → Option (Int32 × AH)} {x5 : Int32} {x6 : Int32} {r0 : Int32} {h0 : AH} (C : Cx p rmX4_takeTurn s m args meth c RX4 cX4_takeTurn 10 (some .int) wsX4_takeTurn D ad cy tb 0 0) (hk0 : kd a0 = 4) (H6 : ∀ (h : AH) (x5 : Int32) (x6 : Int32), k6 h x5 x6 = some (r0, h0) → AW p l e rmX4_takeTurn s m args below meth c 10 D ad cy 0 0 (Qi D ad cy below args s r0 h0) 6 [(0, .ref (ad a0)), (1, .int a1), (2, .int a2), (3, .int a3), (4, .ref (ad 11)), (5, .int x5), (6, .int x6)] [] h) (hf : fX4_takeTurn_6b k6 a0 a1 a2 a3 h x5 x6 = some (r0, h0)) : AW p l e rmX4_takeTurn s m args below meth c 10 D ad cy 0 0 (Qi D ad cy below args s r0 h0) 6 [(0, .ref (ad a0)), (1, .int a1), (2, .int a2), (3, .int a3), (4, .ref (ad 11)), (5, .int x5), (6, .int x6)] [] h := by
  unfold fX4_takeTurn_6b at hf
  refine aw_iload C dX4_takeTurn_6 6 rfl ?_
  refine aw_if_lt (tgt := 99) C dX4_takeTurn_8 (by decide) hf (fun hf => ?_) (fun hf => ?_)
  · refine aw_iload C dX4_takeTurn_99 5 rfl ?_
    exact aw_iretW C dX4_takeTurn_101 hf
  refine aw_bipush (v := 8) C dX4_takeTurn_11 (by decide) ?_
  refine aw_iload_n C dX4_takeTurn_13 rfl 1 rfl ?_
  refine aw_imul C dX4_takeTurn_14 ?_
  refine aw_nmI hf (fun v1 hf => ?_)
  refine aw_istore (lv1 := [(7, .int v1), (0, .ref (ad a0)), (1, .int a1), (2, .int a2), (3, .int a3), (4, .ref (ad 11)), (5, .int x5), (6, .int x6)]) C dX4_takeTurn_15 (by decide) rfl ?_
  refine aw_sub [1, 2, 3, 4, 5, 6, 7, 0] rfl ?_
  exact tX4_takeTurn_17 C hk0 H6 FU h x5 x6 v1 hf
set_option maxHeartbeats 4000000 in
set_option maxRecDepth 100000 in
theorem tX4_takeTurn_6  {a0 : Nat} {a1 : Int32} {a2 : Int32} {a3 : Int32} {r0 : Int32} {h0 : AH} (C : Cx p rmX4_takeTurn s m args meth c RX4 cX4_takeTurn 10 (some .int) wsX4_takeTurn D ad cy tb 0 0) (hk0 : kd a0 = 4) : ∀ (n : Nat) (h : AH) (x5 : Int32) (x6 : Int32), fX4_takeTurn_6 a0 a1 a2 a3 n h x5 x6 = some (r0, h0) → AW p l e rmX4_takeTurn s m args below meth c 10 D ad cy 0 0 (Qi D ad cy below args s r0 h0) 6 [(0, .ref (ad a0)), (1, .int a1), (2, .int a2), (3, .int a3), (4, .ref (ad 11)), (5, .int x5), (6, .int x6)] [] h := by
  intro n
  induction n with
  | zero => intro h x5 x6 hf; cases hf
  | succ n ih => intro h x5 x6 hf; exact tX4_takeTurn_6b C hk0 ih  hf
set_option maxHeartbeats 4000000 in
set_option maxRecDepth 100000 in
theorem tX4_takeTurn_0 {h : AH} {a0 : Nat} {a1 : Int32} {a2 : Int32} {a3 : Int32} {r0 : Int32} {h0 : AH} (C : Cx p rmX4_takeTurn s m args meth c RX4 cX4_takeTurn 10 (some .int) wsX4_takeTurn D ad cy tb 0 0) (hk0 : kd a0 = 4) (hf : fX4_takeTurn h a0 a1 a2 a3 = some (r0, h0)) : AW p l e rmX4_takeTurn s m args below meth c 10 D ad cy 0 0 (Qi D ad cy below args s r0 h0) 0 [(0, .ref (ad a0)), (1, .int a1), (2, .int a2), (3, .int a3), (4, .ref (ad 11))] [] h := by
  unfold fX4_takeTurn at hf
  refine aw_iconst (v := 0) C dX4_takeTurn_0 (by decide) ?_
  refine aw_istore (lv1 := [(5, .int 0), (0, .ref (ad a0)), (1, .int a1), (2, .int a2), (3, .int a3), (4, .ref (ad 11))]) C dX4_takeTurn_1 (by decide) rfl ?_
  refine aw_iconst (v := 1) C dX4_takeTurn_3 (by decide) ?_
  refine aw_istore (lv1 := [(6, .int 1), (5, .int 0), (0, .ref (ad a0)), (1, .int a1), (2, .int a2), (3, .int a3), (4, .ref (ad 11))]) C dX4_takeTurn_4 (by decide) rfl ?_
  refine aw_sub [2, 3, 4, 5, 6, 1, 0] rfl ?_
  exact tX4_takeTurn_6 C hk0  FU h 0 1 hf
theorem kX4_takeTurn {h : AH} {a0 : Nat} {a1 : Int32} {a2 : Int32} {a3 : Int32} {r0 : Int32} {h0 : AH} (hi : Inj ad) (hk0 : kd a0 = 4) (hf : fX4_takeTurn h a0 a1 a2 a3 = some (r0, h0)) : Ki l yX4_takeTurn wsX4_takeTurn rmX4_takeTurn D ad cy tb [.ref (ad a0), .int a1, .int a2, .int a3, .ref (ad 11)] h r0 h0 := met_i (lv := [(0, .ref (ad a0)), (1, .int a1), (2, .int a2), (3, .int a3), (4, .ref (ad 11))]) hi (by decide) rfl (Nat.le_of_ble_eq_true rfl) rfl rfl (fun _ _ _ _ _ _ _ _ C => tX4_takeTurn_0 C hk0 hf)
set_option maxRecDepth 20000 in
theorem ggX5_turn_X5_isBlock : GoodIn wsX5_turn wsX5_isBlock := goodIn_r _ [8, 1, 35, 36, 37, 38, 39, 40, 41, 42, 43, 44, 45, 46] (by decide +kernel) (by decide +kernel)
set_option maxRecDepth 20000 in
theorem gX5_turn_X5_isBlock : GoodIn wsX5_turn (wsV RX5 106 RX5 yX5_isBlock wsX5_isBlock) := goodIn_app (goodIn_of _ (by decide +kernel)) ggX5_turn_X5_isBlock
set_option maxRecDepth 20000 in
theorem ggX5_turn_X4_takeTurn : GoodIn wsX5_turn wsX4_takeTurn := goodIn_r _ [13, 14, 15, 16, 12, 17, 18, 19, 20, 7, 21, 22, 23, 24, 25, 26, 27, 28, 29, 30, 31, 32, 33, 34, 44, 45, 46, 47, 48, 49] (by decide +kernel) (by decide +kernel)
set_option maxRecDepth 20000 in
theorem gX5_turn_X4_takeTurn : GoodIn wsX5_turn (wsV RX5 182 RX4 yX4_takeTurn wsX4_takeTurn) := goodIn_app (goodIn_of _ (by decide +kernel)) ggX5_turn_X4_takeTurn
theorem dX5_turn_0 : decode cX5_turn 0 = .ok (.aload_n 0, 1) := by decide +kernel
theorem dX5_turn_1 : decode cX5_turn 1 = .ok (.iload_n 1, 1) := by decide +kernel
theorem dX5_turn_2 : decode cX5_turn 2 = .ok (.invokevirtual 106, 3) := by decide +kernel
theorem dX5_turn_5 : decode cX5_turn 5 = .ok (.ifCond .eq 16, 3) := by decide +kernel
theorem dX5_turn_8 : decode cX5_turn 8 = .ok (.aload_n 0, 1) := by decide +kernel
theorem dX5_turn_9 : decode cX5_turn 9 = .ok (.iload_n 2, 1) := by decide +kernel
theorem dX5_turn_10 : decode cX5_turn 10 = .ok (.invokevirtual 106, 3) := by decide +kernel
theorem dX5_turn_13 : decode cX5_turn 13 = .ok (.ifCond .eq 8, 3) := by decide +kernel
theorem dX5_turn_16 : decode cX5_turn 16 = .ok (.iload_n 1, 1) := by decide +kernel
theorem dX5_turn_17 : decode cX5_turn 17 = .ok (.iload_n 2, 1) := by decide +kernel
theorem dX5_turn_18 : decode cX5_turn 18 = .ok (.if_icmp .le 6, 3) := by decide +kernel
theorem dX5_turn_21 : decode cX5_turn 21 = .ok (.bipush (-2), 2) := by decide +kernel
theorem dX5_turn_23 : decode cX5_turn 23 = .ok (.ireturn, 1) := by decide +kernel
theorem dX5_turn_24 : decode cX5_turn 24 = .ok (.aload_n 0, 1) := by decide +kernel
theorem dX5_turn_25 : decode cX5_turn 25 = .ok (.getfield 12, 3) := by decide +kernel
theorem dX5_turn_28 : decode cX5_turn 28 = .ok (.iload_n 1, 1) := by decide +kernel
theorem dX5_turn_29 : decode cX5_turn 29 = .ok (.iload_n 2, 1) := by decide +kernel
theorem dX5_turn_30 : decode cX5_turn 30 = .ok (.aload_n 0, 1) := by decide +kernel
theorem dX5_turn_31 : decode cX5_turn 31 = .ok (.getfield 51, 3) := by decide +kernel
theorem dX5_turn_34 : decode cX5_turn 34 = .ok (.aload_n 0, 1) := by decide +kernel
theorem dX5_turn_35 : decode cX5_turn 35 = .ok (.getfield 33, 3) := by decide +kernel
theorem dX5_turn_38 : decode cX5_turn 38 = .ok (.invokevirtual 182, 3) := by decide +kernel
theorem dX5_turn_41 : decode cX5_turn 41 = .ok (.ireturn, 1) := by decide +kernel
abbrev rmX5_turn : Room := { frames := 2, cells := 0, slots := 0, locals := 56 }
set_option maxRecDepth 100000 in
theorem hinX5_turn_5 : ∀ w ∈ wsX50, w ∈ wsX5_turn := by decide +kernel
set_option maxHeartbeats 4000000 in
set_option maxRecDepth 100000 in
theorem tX5_turn_0 {h : AH} {a1 : Int32} {a2 : Int32} {r0 : Int32} {h0 : AH} (C : Cx p rmX5_turn s m args meth c RX5 cX5_turn 3 (some .int) wsX5_turn D ad cy tb 0 0) (hf : fX5_turn h a1 a2 = some (r0, h0)) : AW p l e rmX5_turn s m args below meth c 3 D ad cy 0 0 (Qi D ad cy below args s r0 h0) 0 [(0, .ref (ad 0)), (1, .int a1), (2, .int a2)] [] h := by
  unfold fX5_turn at hf
  refine aw_aload_n C dX5_turn_0 rfl 0 rfl ?_
  refine aw_iload_n C dX5_turn_1 rfl 1 rfl ?_
  obtain ⟨r1, hc, hf⟩ := bR_some hf
  refine aw_callVi (As := [.int a1]) (rest := []) C rfl (by decide) rfl (kX5_isBlock (l := l) (D := D) (ad := ad) (cy := cy) (tb := tb) C.2.2.2.2.2.2.2.2.1 hc) (fun ht _ => cwV 1 ht gX5_turn_X5_isBlock rfl rfl rfl (by decide +kernel) ⟨Nat.le_of_ble_eq_true rfl, Nat.le_of_ble_eq_true rfl⟩) rfl rfl (Nat.le_of_ble_eq_true rfl) dX5_turn_2 ?_
  refine aw_if_eq (tgt := 21) C dX5_turn_5 (by decide) hf (fun hf => ?_) (fun hf => ?_)
  · refine aw_bipush (v := (-2)) C dX5_turn_21 (by decide) ?_
    exact aw_iretW C dX5_turn_23 hf
  refine aw_aload_n C dX5_turn_8 rfl 0 rfl ?_
  refine aw_iload_n C dX5_turn_9 rfl 2 rfl ?_
  obtain ⟨r2, hc, hf⟩ := bR_some hf
  refine aw_callVi (As := [.int a2]) (rest := []) C rfl (by decide) rfl (kX5_isBlock (l := l) (D := D) (ad := ad) (cy := cy) (tb := tb) C.2.2.2.2.2.2.2.2.1 hc) (fun ht _ => cwV 1 ht gX5_turn_X5_isBlock rfl rfl rfl (by decide +kernel) ⟨Nat.le_of_ble_eq_true rfl, Nat.le_of_ble_eq_true rfl⟩) rfl rfl (Nat.le_of_ble_eq_true rfl) dX5_turn_10 ?_
  refine aw_if_eq (tgt := 21) C dX5_turn_13 (by decide) hf (fun hf => ?_) (fun hf => ?_)
  · refine aw_bipush (v := (-2)) C dX5_turn_21 (by decide) ?_
    exact aw_iretW C dX5_turn_23 hf
  refine aw_iload_n C dX5_turn_16 rfl 1 rfl ?_
  refine aw_iload_n C dX5_turn_17 rfl 2 rfl ?_
  refine aw_icmp_le (tgt := 24) C dX5_turn_18 (by decide) hf (fun hf => ?_) (fun hf => ?_)
  · refine aw_aload_n C dX5_turn_24 rfl 0 rfl ?_
    refine aw_get C (kd_lt rfl (by decide)) (ce_5 rfl) rfl hinX5_turn_5 0 (by decide) rfl (by decide +kernel) rfl dX5_turn_25 ?_
    refine aw_iload_n C dX5_turn_28 rfl 1 rfl ?_
    refine aw_iload_n C dX5_turn_29 rfl 2 rfl ?_
    refine aw_aload_n C dX5_turn_30 rfl 0 rfl ?_
    refine aw_get C (kd_lt rfl (by decide)) (ce_5 rfl) rfl hinX5_turn_5 7 (by decide) rfl (by decide +kernel) rfl dX5_turn_31 ?_
    refine aw_aload_n C dX5_turn_34 rfl 0 rfl ?_
    refine aw_get C (kd_lt rfl (by decide)) (ce_5 rfl) rfl hinX5_turn_5 4 (by decide) rfl (by decide +kernel) rfl dX5_turn_35 ?_
    obtain ⟨r4, h3, hc, hf⟩ := bW_some hf
    refine aw_callVi (As := [.int a1, .int a2, .int (h.1 0 7), .ref (ad 11)]) (rest := []) C rfl (by decide) rfl (kX4_takeTurn (l := l) (D := D) (ad := ad) (cy := cy) (tb := tb) C.2.2.2.2.2.2.2.2.1 rfl hc) (fun ht _ => cwV 4 ht gX5_turn_X4_takeTurn rfl rfl rfl (by decide +kernel) ⟨Nat.le_of_ble_eq_true rfl, Nat.le_of_ble_eq_true rfl⟩) rfl rfl (Nat.le_of_ble_eq_true rfl) dX5_turn_38 ?_
    exact aw_iretW C dX5_turn_41 hf
  refine aw_bipush (v := (-2)) C dX5_turn_21 (by decide) ?_
  exact aw_iretW C dX5_turn_23 hf
theorem kX5_turn {h : AH} {a1 : Int32} {a2 : Int32} {r0 : Int32} {h0 : AH} (hi : Inj ad) (hf : fX5_turn h a1 a2 = some (r0, h0)) : Ki l yX5_turn wsX5_turn rmX5_turn D ad cy tb [.ref (ad 0), .int a1, .int a2] h r0 h0 := met_i (lv := [(0, .ref (ad 0)), (1, .int a1), (2, .int a2)]) hi (by decide) rfl (Nat.le_of_ble_eq_true rfl) rfl rfl (fun _ _ _ _ _ _ _ _ C => tX5_turn_0 C  hf)
set_option maxRecDepth 20000 in
theorem ggX6_turnOver_X6_mendOf : GoodIn wsX6_turnOver wsX6_mendOf := goodIn_r _ [5, 6, 7, 8, 9, 4, 10, 11, 12, 13, 14, 15, 16, 17, 18, 19, 20, 21, 22, 23, 24, 25, 26, 27, 28, 29, 30, 31, 32, 33, 34, 35, 36, 37, 38, 39, 40, 41, 42, 43, 44, 45, 46, 47, 48, 49, 50, 51, 52, 53, 54, 55, 56, 57, 58, 59, 60, 61, 62, 63, 64, 65, 66, 67, 68, 69, 70, 71] (by decide +kernel) (by decide +kernel)
set_option maxRecDepth 20000 in
theorem gX6_turnOver_X6_mendOf : GoodIn wsX6_turnOver (wsV RX6 153 RX6 yX6_mendOf wsX6_mendOf) := goodIn_app (goodIn_of _ (by decide +kernel)) ggX6_turnOver_X6_mendOf
theorem dX6_turnOver_0 : decode cX6_turnOver 0 = .ok (.iconst 0, 1) := by decide +kernel
theorem dX6_turnOver_1 : decode cX6_turnOver 1 = .ok (.istore_n 3, 1) := by decide +kernel
theorem dX6_turnOver_2 : decode cX6_turnOver 2 = .ok (.iconst 1, 1) := by decide +kernel
theorem dX6_turnOver_3 : decode cX6_turnOver 3 = .ok (.istore 4, 2) := by decide +kernel
theorem dX6_turnOver_5 : decode cX6_turnOver 5 = .ok (.iload 4, 2) := by decide +kernel
theorem dX6_turnOver_7 : decode cX6_turnOver 7 = .ok (.ifCond .lt 68, 3) := by decide +kernel
theorem dX6_turnOver_10 : decode cX6_turnOver 10 = .ok (.iload_n 1, 1) := by decide +kernel
theorem dX6_turnOver_11 : decode cX6_turnOver 11 = .ok (.istore 5, 2) := by decide +kernel
theorem dX6_turnOver_13 : decode cX6_turnOver 13 = .ok (.iload 5, 2) := by decide +kernel
theorem dX6_turnOver_15 : decode cX6_turnOver 15 = .ok (.iload_n 2, 1) := by decide +kernel
theorem dX6_turnOver_16 : decode cX6_turnOver 16 = .ok (.if_icmp .gt 53, 3) := by decide +kernel
theorem dX6_turnOver_19 : decode cX6_turnOver 19 = .ok (.iconst 0, 1) := by decide +kernel
theorem dX6_turnOver_20 : decode cX6_turnOver 20 = .ok (.istore 6, 2) := by decide +kernel
theorem dX6_turnOver_22 : decode cX6_turnOver 22 = .ok (.iload 6, 2) := by decide +kernel
theorem dX6_turnOver_24 : decode cX6_turnOver 24 = .ok (.bipush 8, 2) := by decide +kernel
theorem dX6_turnOver_26 : decode cX6_turnOver 26 = .ok (.if_icmp .ge 37, 3) := by decide +kernel
theorem dX6_turnOver_29 : decode cX6_turnOver 29 = .ok (.iload 5, 2) := by decide +kernel
theorem dX6_turnOver_31 : decode cX6_turnOver 31 = .ok (.iconst 2, 1) := by decide +kernel
theorem dX6_turnOver_32 : decode cX6_turnOver 32 = .ok (.irem, 1) := by decide +kernel
theorem dX6_turnOver_33 : decode cX6_turnOver 33 = .ok (.iload 4, 2) := by decide +kernel
theorem dX6_turnOver_35 : decode cX6_turnOver 35 = .ok (.if_icmp .ne 28, 3) := by decide +kernel
theorem dX6_turnOver_38 : decode cX6_turnOver 38 = .ok (.iload_n 3, 1) := by decide +kernel
theorem dX6_turnOver_39 : decode cX6_turnOver 39 = .ok (.aload_n 0, 1) := by decide +kernel
theorem dX6_turnOver_40 : decode cX6_turnOver 40 = .ok (.iload 5, 2) := by decide +kernel
theorem dX6_turnOver_42 : decode cX6_turnOver 42 = .ok (.iload 6, 2) := by decide +kernel
theorem dX6_turnOver_44 : decode cX6_turnOver 44 = .ok (.invokevirtual 153, 3) := by decide +kernel
theorem dX6_turnOver_47 : decode cX6_turnOver 47 = .ok (.ifCond .lt 7, 3) := by decide +kernel
theorem dX6_turnOver_50 : decode cX6_turnOver 50 = .ok (.iconst 1, 1) := by decide +kernel
theorem dX6_turnOver_51 : decode cX6_turnOver 51 = .ok (.goto 4, 3) := by decide +kernel
theorem dX6_turnOver_54 : decode cX6_turnOver 54 = .ok (.iconst 0, 1) := by decide +kernel
theorem dX6_turnOver_55 : decode cX6_turnOver 55 = .ok (.iadd, 1) := by decide +kernel
theorem dX6_turnOver_56 : decode cX6_turnOver 56 = .ok (.istore_n 3, 1) := by decide +kernel
theorem dX6_turnOver_57 : decode cX6_turnOver 57 = .ok (.iinc 6 1, 3) := by decide +kernel
theorem dX6_turnOver_60 : decode cX6_turnOver 60 = .ok (.goto (-38), 3) := by decide +kernel
theorem dX6_turnOver_63 : decode cX6_turnOver 63 = .ok (.iinc 5 1, 3) := by decide +kernel
theorem dX6_turnOver_66 : decode cX6_turnOver 66 = .ok (.goto (-53), 3) := by decide +kernel
theorem dX6_turnOver_69 : decode cX6_turnOver 69 = .ok (.iinc 4 (-1), 3) := by decide +kernel
theorem dX6_turnOver_72 : decode cX6_turnOver 72 = .ok (.goto (-67), 3) := by decide +kernel
theorem dX6_turnOver_75 : decode cX6_turnOver 75 = .ok (.iload_n 3, 1) := by decide +kernel
theorem dX6_turnOver_76 : decode cX6_turnOver 76 = .ok (.ireturn, 1) := by decide +kernel
abbrev rmX6_turnOver : Room := { frames := 7, cells := 0, slots := 0, locals := 170 }
set_option maxHeartbeats 4000000 in
set_option maxRecDepth 100000 in
theorem tX6_turnOver_55 {h : AH} {a1 : Int32} {a2 : Int32} {k5 : AH → Int32 → Int32 → Option (Int32 × AH)} {k13 : AH → Int32 → Int32 → Int32 → Option (Int32 × AH)} {k22 : AH → Int32 → Int32 → Int32 → Int32 → Option (Int32 × AH)} {x4 : Int32} {x5 : Int32} {x6 : Int32} {s0 : Int32} {s1 : Int32} {r0 : Int32} {h0 : AH} (C : Cx p rmX6_turnOver s m args meth c RX6 cX6_turnOver 7 (some .int) wsX6_turnOver D ad cy tb 0 0) (H5 : ∀ (h : AH) (x3 : Int32) (x4 : Int32), k5 h x3 x4 = some (r0, h0) → AW p l e rmX6_turnOver s m args below meth c 7 D ad cy 0 0 (Qi D ad cy below args s r0 h0) 5 [(0, .ref (ad 29)), (1, .int a1), (2, .int a2), (3, .int x3), (4, .int x4)] [] h) (H13 : ∀ (h : AH) (x3 : Int32) (x4 : Int32) (x5 : Int32), k13 h x3 x4 x5 = some (r0, h0) → AW p l e rmX6_turnOver s m args below meth c 7 D ad cy 0 0 (Qi D ad cy below args s r0 h0) 13 [(0, .ref (ad 29)), (1, .int a1), (2, .int a2), (3, .int x3), (4, .int x4), (5, .int x5)] [] h) (H22 : ∀ (h : AH) (x3 : Int32) (x4 : Int32) (x5 : Int32) (x6 : Int32), k22 h x3 x4 x5 x6 = some (r0, h0) → AW p l e rmX6_turnOver s m args below meth c 7 D ad cy 0 0 (Qi D ad cy below args s r0 h0) 22 [(0, .ref (ad 29)), (1, .int a1), (2, .int a2), (3, .int x3), (4, .int x4), (5, .int x5), (6, .int x6)] [] h) (hf : fX6_turnOver_55 k5 k13 k22 a1 a2 h x4 x5 x6 s0 s1 = some (r0, h0)) : AW p l e rmX6_turnOver s m args below meth c 7 D ad cy 0 0 (Qi D ad cy below args s r0 h0) 55 [(0, .ref (ad 29)), (1, .int a1), (2, .int a2), (4, .int x4), (5, .int x5), (6, .int x6)] [.int s1, .int s0] h := by
  unfold fX6_turnOver_55 at hf
  refine aw_iadd C dX6_turnOver_55 ?_
  refine aw_nmI hf (fun v1 hf => ?_)
  refine aw_istore_n (lv1 := [(3, .int v1), (0, .ref (ad 29)), (1, .int a1), (2, .int a2), (4, .int x4), (5, .int x5), (6, .int x6)]) C dX6_turnOver_56 rfl (by decide) rfl ?_
  obtain ⟨v2, hvv2, hf⟩ := nm_ex hf
  refine aw_iinc (j := 6) (v := v2) (lv1 := [(6, .int v2), (3, .int v1), (0, .ref (ad 29)), (1, .int a1), (2, .int a2), (4, .int x4), (5, .int x5)]) C dX6_turnOver_57 rfl hvv2 (by decide) rfl ?_
  refine aw_goto (tgt := 22) C dX6_turnOver_60 (by decide) ?_
  refine aw_sub [2, 3, 4, 1, 5, 6, 0] rfl ?_
  exact H22 h v1 x4 x5 v2 hf
set_option maxHeartbeats 4000000 in
set_option maxRecDepth 100000 in
theorem tX6_turnOver_63 {h : AH} {a1 : Int32} {a2 : Int32} {k5 : AH → Int32 → Int32 → Option (Int32 × AH)} {k13 : AH → Int32 → Int32 → Int32 → Option (Int32 × AH)} {x3 : Int32} {x4 : Int32} {x5 : Int32} {r0 : Int32} {h0 : AH} (C : Cx p rmX6_turnOver s m args meth c RX6 cX6_turnOver 7 (some .int) wsX6_turnOver D ad cy tb 0 0) (H5 : ∀ (h : AH) (x3 : Int32) (x4 : Int32), k5 h x3 x4 = some (r0, h0) → AW p l e rmX6_turnOver s m args below meth c 7 D ad cy 0 0 (Qi D ad cy below args s r0 h0) 5 [(0, .ref (ad 29)), (1, .int a1), (2, .int a2), (3, .int x3), (4, .int x4)] [] h) (H13 : ∀ (h : AH) (x3 : Int32) (x4 : Int32) (x5 : Int32), k13 h x3 x4 x5 = some (r0, h0) → AW p l e rmX6_turnOver s m args below meth c 7 D ad cy 0 0 (Qi D ad cy below args s r0 h0) 13 [(0, .ref (ad 29)), (1, .int a1), (2, .int a2), (3, .int x3), (4, .int x4), (5, .int x5)] [] h) (hf : fX6_turnOver_63 k5 k13 a1 a2 h x3 x4 x5 = some (r0, h0)) : AW p l e rmX6_turnOver s m args below meth c 7 D ad cy 0 0 (Qi D ad cy below args s r0 h0) 63 [(0, .ref (ad 29)), (1, .int a1), (2, .int a2), (3, .int x3), (4, .int x4), (5, .int x5)] [] h := by
  unfold fX6_turnOver_63 at hf
  obtain ⟨v1, hvv1, hf⟩ := nm_ex hf
  refine aw_iinc (j := 5) (v := v1) (lv1 := [(5, .int v1), (0, .ref (ad 29)), (1, .int a1), (2, .int a2), (3, .int x3), (4, .int x4)]) C dX6_turnOver_63 rfl hvv1 (by decide) rfl ?_
  refine aw_goto (tgt := 13) C dX6_turnOver_66 (by decide) ?_
  refine aw_sub [1, 2, 3, 4, 5, 0] rfl ?_
  exact H13 h x3 x4 v1 hf
set_option maxHeartbeats 4000000 in
set_option maxRecDepth 100000 in
theorem tX6_turnOver_22b {h : AH} {a1 : Int32} {a2 : Int32} {k5 : AH → Int32 → Int32 → Option (Int32 × AH)} {k13 : AH → Int32 → Int32 → Int32 → Option (Int32 × AH)} {k22 : AH → Int32 → Int32 → Int32 → Int32 → Option (Int32 × AH)} {x3 : Int32} {x4 : Int32} {x5 : Int32} {x6 : Int32} {r0 : Int32} {h0 : AH} (C : Cx p rmX6_turnOver s m args meth c RX6 cX6_turnOver 7 (some .int) wsX6_turnOver D ad cy tb 0 0) (H5 : ∀ (h : AH) (x3 : Int32) (x4 : Int32), k5 h x3 x4 = some (r0, h0) → AW p l e rmX6_turnOver s m args below meth c 7 D ad cy 0 0 (Qi D ad cy below args s r0 h0) 5 [(0, .ref (ad 29)), (1, .int a1), (2, .int a2), (3, .int x3), (4, .int x4)] [] h) (H13 : ∀ (h : AH) (x3 : Int32) (x4 : Int32) (x5 : Int32), k13 h x3 x4 x5 = some (r0, h0) → AW p l e rmX6_turnOver s m args below meth c 7 D ad cy 0 0 (Qi D ad cy below args s r0 h0) 13 [(0, .ref (ad 29)), (1, .int a1), (2, .int a2), (3, .int x3), (4, .int x4), (5, .int x5)] [] h) (H22 : ∀ (h : AH) (x3 : Int32) (x4 : Int32) (x5 : Int32) (x6 : Int32), k22 h x3 x4 x5 x6 = some (r0, h0) → AW p l e rmX6_turnOver s m args below meth c 7 D ad cy 0 0 (Qi D ad cy below args s r0 h0) 22 [(0, .ref (ad 29)), (1, .int a1), (2, .int a2), (3, .int x3), (4, .int x4), (5, .int x5), (6, .int x6)] [] h) (hf : fX6_turnOver_22b k5 k13 k22 a1 a2 h x3 x4 x5 x6 = some (r0, h0)) : AW p l e rmX6_turnOver s m args below meth c 7 D ad cy 0 0 (Qi D ad cy below args s r0 h0) 22 [(0, .ref (ad 29)), (1, .int a1), (2, .int a2), (3, .int x3), (4, .int x4), (5, .int x5), (6, .int x6)] [] h := by
  unfold fX6_turnOver_22b at hf
  refine aw_iload C dX6_turnOver_22 6 rfl ?_
  refine aw_bipush (v := 8) C dX6_turnOver_24 (by decide) ?_
  refine aw_icmp_ge (tgt := 63) C dX6_turnOver_26 (by decide) hf (fun hf => ?_) (fun hf => ?_)
  · refine aw_sub [0, 1, 2, 3, 4, 5] rfl ?_
    exact tX6_turnOver_63 C  H5 H13 hf
  refine aw_iload C dX6_turnOver_29 5 rfl ?_
  refine aw_iconst (v := 2) C dX6_turnOver_31 (by decide) ?_
  refine aw_irem C dX6_turnOver_32 (by decide) ?_
  refine aw_iload C dX6_turnOver_33 4 rfl ?_
  refine aw_icmp_ne (tgt := 63) C dX6_turnOver_35 (by decide) hf (fun hf => ?_) (fun hf => ?_)
  · refine aw_sub [0, 1, 2, 3, 4, 5] rfl ?_
    exact tX6_turnOver_63 C  H5 H13 hf
  refine aw_iload_n C dX6_turnOver_38 rfl 3 rfl ?_
  refine aw_aload_n C dX6_turnOver_39 rfl 0 rfl ?_
  refine aw_iload C dX6_turnOver_40 5 rfl ?_
  refine aw_iload C dX6_turnOver_42 6 rfl ?_
  obtain ⟨r2, h1, hc, hf⟩ := bW_some hf
  refine aw_callVi (As := [.int x5, .int x6]) (rest := [.int x3]) C rfl (by decide) rfl (kX6_mendOf (l := l) (D := D) (ad := ad) (cy := cy) (tb := tb) C.2.2.2.2.2.2.2.2.1 hc) (fun ht _ => cwV 2 ht gX6_turnOver_X6_mendOf rfl rfl rfl (by decide +kernel) ⟨Nat.le_of_ble_eq_true rfl, Nat.le_of_ble_eq_true rfl⟩) rfl rfl (Nat.le_of_ble_eq_true rfl) dX6_turnOver_44 ?_
  refine aw_if_lt (tgt := 54) C dX6_turnOver_47 (by decide) hf (fun hf => ?_) (fun hf => ?_)
  · refine aw_iconst (v := 0) C dX6_turnOver_54 (by decide) ?_
    refine aw_sub [0, 1, 2, 4, 5, 6] rfl ?_
    exact tX6_turnOver_55 C  H5 H13 H22 hf
  refine aw_iconst (v := 1) C dX6_turnOver_50 (by decide) ?_
  refine aw_goto (tgt := 55) C dX6_turnOver_51 (by decide) ?_
  refine aw_sub [0, 1, 2, 4, 5, 6] rfl ?_
  exact tX6_turnOver_55 C  H5 H13 H22 hf
set_option maxHeartbeats 4000000 in
set_option maxRecDepth 100000 in
theorem tX6_turnOver_22  {a1 : Int32} {a2 : Int32} {k5 : AH → Int32 → Int32 → Option (Int32 × AH)} {k13 : AH → Int32 → Int32 → Int32 → Option (Int32 × AH)} {r0 : Int32} {h0 : AH} (C : Cx p rmX6_turnOver s m args meth c RX6 cX6_turnOver 7 (some .int) wsX6_turnOver D ad cy tb 0 0) (H5 : ∀ (h : AH) (x3 : Int32) (x4 : Int32), k5 h x3 x4 = some (r0, h0) → AW p l e rmX6_turnOver s m args below meth c 7 D ad cy 0 0 (Qi D ad cy below args s r0 h0) 5 [(0, .ref (ad 29)), (1, .int a1), (2, .int a2), (3, .int x3), (4, .int x4)] [] h) (H13 : ∀ (h : AH) (x3 : Int32) (x4 : Int32) (x5 : Int32), k13 h x3 x4 x5 = some (r0, h0) → AW p l e rmX6_turnOver s m args below meth c 7 D ad cy 0 0 (Qi D ad cy below args s r0 h0) 13 [(0, .ref (ad 29)), (1, .int a1), (2, .int a2), (3, .int x3), (4, .int x4), (5, .int x5)] [] h) : ∀ (n : Nat) (h : AH) (x3 : Int32) (x4 : Int32) (x5 : Int32) (x6 : Int32), fX6_turnOver_22 k5 k13 a1 a2 n h x3 x4 x5 x6 = some (r0, h0) → AW p l e rmX6_turnOver s m args below meth c 7 D ad cy 0 0 (Qi D ad cy below args s r0 h0) 22 [(0, .ref (ad 29)), (1, .int a1), (2, .int a2), (3, .int x3), (4, .int x4), (5, .int x5), (6, .int x6)] [] h := by
  intro n
  induction n with
  | zero => intro h x3 x4 x5 x6 hf; cases hf
  | succ n ih => intro h x3 x4 x5 x6 hf; exact tX6_turnOver_22b C  H5 H13 ih  hf
set_option maxHeartbeats 4000000 in
set_option maxRecDepth 100000 in
theorem tX6_turnOver_13b {h : AH} {a1 : Int32} {a2 : Int32} {k5 : AH → Int32 → Int32 → Option (Int32 × AH)} {k13 : AH → Int32 → Int32 → Int32 → Option (Int32 × AH)} {x3 : Int32} {x4 : Int32} {x5 : Int32} {r0 : Int32} {h0 : AH} (C : Cx p rmX6_turnOver s m args meth c RX6 cX6_turnOver 7 (some .int) wsX6_turnOver D ad cy tb 0 0) (H5 : ∀ (h : AH) (x3 : Int32) (x4 : Int32), k5 h x3 x4 = some (r0, h0) → AW p l e rmX6_turnOver s m args below meth c 7 D ad cy 0 0 (Qi D ad cy below args s r0 h0) 5 [(0, .ref (ad 29)), (1, .int a1), (2, .int a2), (3, .int x3), (4, .int x4)] [] h) (H13 : ∀ (h : AH) (x3 : Int32) (x4 : Int32) (x5 : Int32), k13 h x3 x4 x5 = some (r0, h0) → AW p l e rmX6_turnOver s m args below meth c 7 D ad cy 0 0 (Qi D ad cy below args s r0 h0) 13 [(0, .ref (ad 29)), (1, .int a1), (2, .int a2), (3, .int x3), (4, .int x4), (5, .int x5)] [] h) (hf : fX6_turnOver_13b k5 k13 a1 a2 h x3 x4 x5 = some (r0, h0)) : AW p l e rmX6_turnOver s m args below meth c 7 D ad cy 0 0 (Qi D ad cy below args s r0 h0) 13 [(0, .ref (ad 29)), (1, .int a1), (2, .int a2), (3, .int x3), (4, .int x4), (5, .int x5)] [] h := by
  unfold fX6_turnOver_13b at hf
  refine aw_iload C dX6_turnOver_13 5 rfl ?_
  refine aw_iload_n C dX6_turnOver_15 rfl 2 rfl ?_
  refine aw_icmp_gt (tgt := 69) C dX6_turnOver_16 (by decide) hf (fun hf => ?_) (fun hf => ?_)
  · obtain ⟨v1, hvv1, hf⟩ := nm_ex hf
    refine aw_iinc (j := 4) (v := v1) (lv1 := [(4, .int v1), (0, .ref (ad 29)), (1, .int a1), (2, .int a2), (3, .int x3), (5, .int x5)]) C dX6_turnOver_69 rfl hvv1 (by decide) rfl ?_
    refine aw_goto (tgt := 5) C dX6_turnOver_72 (by decide) ?_
    refine aw_sub [1, 2, 3, 4, 0] rfl ?_
    exact H5 h x3 v1 hf
  refine aw_iconst (v := 0) C dX6_turnOver_19 (by decide) ?_
  refine aw_istore (lv1 := [(6, .int 0), (0, .ref (ad 29)), (1, .int a1), (2, .int a2), (3, .int x3), (4, .int x4), (5, .int x5)]) C dX6_turnOver_20 (by decide) rfl ?_
  refine aw_sub [1, 2, 3, 4, 5, 6, 0] rfl ?_
  exact tX6_turnOver_22 C  H5 H13 FU h x3 x4 x5 0 hf
set_option maxHeartbeats 4000000 in
set_option maxRecDepth 100000 in
theorem tX6_turnOver_13  {a1 : Int32} {a2 : Int32} {k5 : AH → Int32 → Int32 → Option (Int32 × AH)} {r0 : Int32} {h0 : AH} (C : Cx p rmX6_turnOver s m args meth c RX6 cX6_turnOver 7 (some .int) wsX6_turnOver D ad cy tb 0 0) (H5 : ∀ (h : AH) (x3 : Int32) (x4 : Int32), k5 h x3 x4 = some (r0, h0) → AW p l e rmX6_turnOver s m args below meth c 7 D ad cy 0 0 (Qi D ad cy below args s r0 h0) 5 [(0, .ref (ad 29)), (1, .int a1), (2, .int a2), (3, .int x3), (4, .int x4)] [] h) : ∀ (n : Nat) (h : AH) (x3 : Int32) (x4 : Int32) (x5 : Int32), fX6_turnOver_13 k5 a1 a2 n h x3 x4 x5 = some (r0, h0) → AW p l e rmX6_turnOver s m args below meth c 7 D ad cy 0 0 (Qi D ad cy below args s r0 h0) 13 [(0, .ref (ad 29)), (1, .int a1), (2, .int a2), (3, .int x3), (4, .int x4), (5, .int x5)] [] h := by
  intro n
  induction n with
  | zero => intro h x3 x4 x5 hf; cases hf
  | succ n ih => intro h x3 x4 x5 hf; exact tX6_turnOver_13b C  H5 ih  hf
set_option maxHeartbeats 4000000 in
set_option maxRecDepth 100000 in
theorem tX6_turnOver_5b {h : AH} {a1 : Int32} {a2 : Int32} {k5 : AH → Int32 → Int32 → Option (Int32 × AH)} {x3 : Int32} {x4 : Int32} {r0 : Int32} {h0 : AH} (C : Cx p rmX6_turnOver s m args meth c RX6 cX6_turnOver 7 (some .int) wsX6_turnOver D ad cy tb 0 0) (H5 : ∀ (h : AH) (x3 : Int32) (x4 : Int32), k5 h x3 x4 = some (r0, h0) → AW p l e rmX6_turnOver s m args below meth c 7 D ad cy 0 0 (Qi D ad cy below args s r0 h0) 5 [(0, .ref (ad 29)), (1, .int a1), (2, .int a2), (3, .int x3), (4, .int x4)] [] h) (hf : fX6_turnOver_5b k5 a1 a2 h x3 x4 = some (r0, h0)) : AW p l e rmX6_turnOver s m args below meth c 7 D ad cy 0 0 (Qi D ad cy below args s r0 h0) 5 [(0, .ref (ad 29)), (1, .int a1), (2, .int a2), (3, .int x3), (4, .int x4)] [] h := by
  unfold fX6_turnOver_5b at hf
  refine aw_iload C dX6_turnOver_5 4 rfl ?_
  refine aw_if_lt (tgt := 75) C dX6_turnOver_7 (by decide) hf (fun hf => ?_) (fun hf => ?_)
  · refine aw_iload_n C dX6_turnOver_75 rfl 3 rfl ?_
    exact aw_iretW C dX6_turnOver_76 hf
  refine aw_iload_n C dX6_turnOver_10 rfl 1 rfl ?_
  refine aw_istore (lv1 := [(5, .int a1), (0, .ref (ad 29)), (1, .int a1), (2, .int a2), (3, .int x3), (4, .int x4)]) C dX6_turnOver_11 (by decide) rfl ?_
  refine aw_sub [1, 2, 3, 4, 5, 0] rfl ?_
  exact tX6_turnOver_13 C  H5 FU h x3 x4 a1 hf
set_option maxHeartbeats 4000000 in
set_option maxRecDepth 100000 in
theorem tX6_turnOver_5  {a1 : Int32} {a2 : Int32} {r0 : Int32} {h0 : AH} (C : Cx p rmX6_turnOver s m args meth c RX6 cX6_turnOver 7 (some .int) wsX6_turnOver D ad cy tb 0 0) : ∀ (n : Nat) (h : AH) (x3 : Int32) (x4 : Int32), fX6_turnOver_5 a1 a2 n h x3 x4 = some (r0, h0) → AW p l e rmX6_turnOver s m args below meth c 7 D ad cy 0 0 (Qi D ad cy below args s r0 h0) 5 [(0, .ref (ad 29)), (1, .int a1), (2, .int a2), (3, .int x3), (4, .int x4)] [] h := by
  intro n
  induction n with
  | zero => intro h x3 x4 hf; cases hf
  | succ n ih => intro h x3 x4 hf; exact tX6_turnOver_5b C  ih  hf
set_option maxHeartbeats 4000000 in
set_option maxRecDepth 100000 in
theorem tX6_turnOver_0 {h : AH} {a1 : Int32} {a2 : Int32} {r0 : Int32} {h0 : AH} (C : Cx p rmX6_turnOver s m args meth c RX6 cX6_turnOver 7 (some .int) wsX6_turnOver D ad cy tb 0 0) (hf : fX6_turnOver h a1 a2 = some (r0, h0)) : AW p l e rmX6_turnOver s m args below meth c 7 D ad cy 0 0 (Qi D ad cy below args s r0 h0) 0 [(0, .ref (ad 29)), (1, .int a1), (2, .int a2)] [] h := by
  unfold fX6_turnOver at hf
  refine aw_iconst (v := 0) C dX6_turnOver_0 (by decide) ?_
  refine aw_istore_n (lv1 := [(3, .int 0), (0, .ref (ad 29)), (1, .int a1), (2, .int a2)]) C dX6_turnOver_1 rfl (by decide) rfl ?_
  refine aw_iconst (v := 1) C dX6_turnOver_2 (by decide) ?_
  refine aw_istore (lv1 := [(4, .int 1), (3, .int 0), (0, .ref (ad 29)), (1, .int a1), (2, .int a2)]) C dX6_turnOver_3 (by decide) rfl ?_
  refine aw_sub [2, 3, 4, 1, 0] rfl ?_
  exact tX6_turnOver_5 C   FU h 0 1 hf
theorem kX6_turnOver {h : AH} {a1 : Int32} {a2 : Int32} {r0 : Int32} {h0 : AH} (hi : Inj ad) (hf : fX6_turnOver h a1 a2 = some (r0, h0)) : Ki l yX6_turnOver wsX6_turnOver rmX6_turnOver D ad cy tb [.ref (ad 29), .int a1, .int a2] h r0 h0 := met_i (lv := [(0, .ref (ad 29)), (1, .int a1), (2, .int a2)]) hi (by decide) rfl (Nat.le_of_ble_eq_true rfl) rfl rfl (fun _ _ _ _ _ _ _ _ C => tX6_turnOver_0 C  hf)
