variable {p : Program} {l : Launch} {e : Env} {s : State} {m : MethodId} {args : Array Value} {below : List Frame} {meth : Method} {c : Code} {D : va_G} {ad : Nat → Nat} {cy : Nat → ClassId} {tb : Nat → Nat}
set_option maxRecDepth 20000 in
theorem ggX6_put_X6_isSheet : GoodIn wsX6_put wsX6_isSheet := goodIn_r _ [7, 8, 9, 6, 10] (by decide +kernel) (by decide +kernel)
set_option maxRecDepth 20000 in
theorem gX6_put_X6_isSheet : GoodIn wsX6_put (va_wsS RX6 103 yX6_isSheet wsX6_isSheet) := goodIn_app (goodIn_of _ (by decide +kernel)) ggX6_put_X6_isSheet
set_option maxRecDepth 20000 in
theorem ggX6_put_X6_in : GoodIn wsX6_put wsX6_in := goodIn_r _ [10] (by decide +kernel) (by decide +kernel)
set_option maxRecDepth 20000 in
theorem gX6_put_X6_in : GoodIn wsX6_put (va_wsS RX6 73 yX6_in wsX6_in) := goodIn_app (goodIn_of _ (by decide +kernel)) ggX6_put_X6_in
set_option maxRecDepth 20000 in
theorem ggX6_put_X6_meets : GoodIn wsX6_put wsX6_meets := goodIn_r _ [14, 15, 16, 17, 18, 19, 20, 21, 22, 23, 24, 25, 26, 27, 28, 29, 30, 31, 32, 33] (by decide +kernel) (by decide +kernel)
set_option maxRecDepth 20000 in
theorem gX6_put_X6_meets : GoodIn wsX6_put (wsV RX6 106 RX6 yX6_meets wsX6_meets) := goodIn_app (goodIn_of _ (by decide +kernel)) ggX6_put_X6_meets
theorem dX6_put_0 : decode cX6_put 0 = .ok (.iload_n 1, 1) := by decide +kernel
theorem dX6_put_1 : decode cX6_put 1 = .ok (.invokestatic 103, 3) := by decide +kernel
theorem dX6_put_4 : decode cX6_put 4 = .ok (.ifCond .eq 12, 3) := by decide +kernel
theorem dX6_put_7 : decode cX6_put 7 = .ok (.iload_n 2, 1) := by decide +kernel
theorem dX6_put_8 : decode cX6_put 8 = .ok (.iconst 0, 1) := by decide +kernel
theorem dX6_put_9 : decode cX6_put 9 = .ok (.iconst 2, 1) := by decide +kernel
theorem dX6_put_10 : decode cX6_put 10 = .ok (.invokestatic 73, 3) := by decide +kernel
theorem dX6_put_13 : decode cX6_put 13 = .ok (.ifCond .ne 6, 3) := by decide +kernel
theorem dX6_put_16 : decode cX6_put 16 = .ok (.bipush (-2), 2) := by decide +kernel
theorem dX6_put_18 : decode cX6_put 18 = .ok (.ireturn, 1) := by decide +kernel
theorem dX6_put_19 : decode cX6_put 19 = .ok (.aload_n 0, 1) := by decide +kernel
theorem dX6_put_20 : decode cX6_put 20 = .ok (.getfield 42, 3) := by decide +kernel
theorem dX6_put_23 : decode cX6_put 23 = .ok (.iload_n 1, 1) := by decide +kernel
theorem dX6_put_24 : decode cX6_put 24 = .ok (.iaload, 1) := by decide +kernel
theorem dX6_put_25 : decode cX6_put 25 = .ok (.iconst (-1), 1) := by decide +kernel
theorem dX6_put_26 : decode cX6_put 26 = .ok (.if_icmp .ne 7, 3) := by decide +kernel
theorem dX6_put_29 : decode cX6_put 29 = .ok (.iconst 1, 1) := by decide +kernel
theorem dX6_put_30 : decode cX6_put 30 = .ok (.goto 38, 3) := by decide +kernel
theorem dX6_put_33 : decode cX6_put 33 = .ok (.aload_n 0, 1) := by decide +kernel
theorem dX6_put_34 : decode cX6_put 34 = .ok (.getfield 42, 3) := by decide +kernel
theorem dX6_put_37 : decode cX6_put 37 = .ok (.iload_n 1, 1) := by decide +kernel
theorem dX6_put_38 : decode cX6_put 38 = .ok (.iaload, 1) := by decide +kernel
theorem dX6_put_39 : decode cX6_put 39 = .ok (.iload_n 2, 1) := by decide +kernel
theorem dX6_put_40 : decode cX6_put 40 = .ok (.if_icmp .eq 7, 3) := by decide +kernel
theorem dX6_put_43 : decode cX6_put 43 = .ok (.iconst 3, 1) := by decide +kernel
theorem dX6_put_44 : decode cX6_put 44 = .ok (.goto 24, 3) := by decide +kernel
theorem dX6_put_47 : decode cX6_put 47 = .ok (.iload_n 3, 1) := by decide +kernel
theorem dX6_put_48 : decode cX6_put 48 = .ok (.iconst 0, 1) := by decide +kernel
theorem dX6_put_49 : decode cX6_put 49 = .ok (.aload_n 0, 1) := by decide +kernel
theorem dX6_put_50 : decode cX6_put 50 = .ok (.getfield 45, 3) := by decide +kernel
theorem dX6_put_53 : decode cX6_put 53 = .ok (.iload_n 1, 1) := by decide +kernel
theorem dX6_put_54 : decode cX6_put 54 = .ok (.iaload, 1) := by decide +kernel
theorem dX6_put_55 : decode cX6_put 55 = .ok (.iconst 1, 1) := by decide +kernel
theorem dX6_put_56 : decode cX6_put 56 = .ok (.isub, 1) := by decide +kernel
theorem dX6_put_57 : decode cX6_put 57 = .ok (.invokestatic 73, 3) := by decide +kernel
theorem dX6_put_60 : decode cX6_put 60 = .ok (.ifCond .eq 7, 3) := by decide +kernel
theorem dX6_put_63 : decode cX6_put 63 = .ok (.iconst 0, 1) := by decide +kernel
theorem dX6_put_64 : decode cX6_put 64 = .ok (.goto 4, 3) := by decide +kernel
theorem dX6_put_67 : decode cX6_put 67 = .ok (.iconst 2, 1) := by decide +kernel
theorem dX6_put_68 : decode cX6_put 68 = .ok (.istore 5, 2) := by decide +kernel
theorem dX6_put_70 : decode cX6_put 70 = .ok (.iload 5, 2) := by decide +kernel
theorem dX6_put_72 : decode cX6_put 72 = .ok (.ifCond .le 10, 3) := by decide +kernel
theorem dX6_put_75 : decode cX6_put 75 = .ok (.aload_n 0, 1) := by decide +kernel
theorem dX6_put_76 : decode cX6_put 76 = .ok (.iload 5, 2) := by decide +kernel
theorem dX6_put_78 : decode cX6_put 78 = .ok (.invokevirtual 106, 3) := by decide +kernel
theorem dX6_put_81 : decode cX6_put 81 = .ok (.ireturn, 1) := by decide +kernel
theorem dX6_put_82 : decode cX6_put 82 = .ok (.aload_n 0, 1) := by decide +kernel
theorem dX6_put_83 : decode cX6_put 83 = .ok (.getfield 48, 3) := by decide +kernel
theorem dX6_put_86 : decode cX6_put 86 = .ok (.bipush 64, 2) := by decide +kernel
theorem dX6_put_88 : decode cX6_put 88 = .ok (.iload_n 1, 1) := by decide +kernel
theorem dX6_put_89 : decode cX6_put 89 = .ok (.imul, 1) := by decide +kernel
theorem dX6_put_90 : decode cX6_put 90 = .ok (.iload_n 3, 1) := by decide +kernel
theorem dX6_put_91 : decode cX6_put 91 = .ok (.iadd, 1) := by decide +kernel
theorem dX6_put_92 : decode cX6_put 92 = .ok (.iload_n 2, 1) := by decide +kernel
theorem dX6_put_93 : decode cX6_put 93 = .ok (.ifCond .ne 11, 3) := by decide +kernel
theorem dX6_put_96 : decode cX6_put 96 = .ok (.iload 4, 2) := by decide +kernel
theorem dX6_put_98 : decode cX6_put 98 = .ok (.iconst 1, 1) := by decide +kernel
theorem dX6_put_99 : decode cX6_put 99 = .ok (.iand, 1) := by decide +kernel
theorem dX6_put_100 : decode cX6_put 100 = .ok (.i2l, 1) := by decide +kernel
theorem dX6_put_101 : decode cX6_put 101 = .ok (.goto 6, 3) := by decide +kernel
theorem dX6_put_104 : decode cX6_put 104 = .ok (.iload 4, 2) := by decide +kernel
theorem dX6_put_106 : decode cX6_put 106 = .ok (.i2l, 1) := by decide +kernel
theorem dX6_put_107 : decode cX6_put 107 = .ok (.lastore, 1) := by decide +kernel
theorem dX6_put_108 : decode cX6_put 108 = .ok (.iconst 1, 1) := by decide +kernel
theorem dX6_put_109 : decode cX6_put 109 = .ok (.ireturn, 1) := by decide +kernel
abbrev rmX6_put : Room := { frames := 2, cells := 0, slots := 0, locals := 42 }
set_option maxRecDepth 100000 in
theorem hinX6_put_6 : ∀ w ∈ wsX60, w ∈ wsX6_put := by decide +kernel
set_option maxHeartbeats 4000000 in
set_option maxRecDepth 100000 in
theorem tX6_put_107 {h : AH} {a1 : Int32} {a2 : Int32} {a3 : Int32} {a4 : Int32} {s1 : Int32} {s2 : Int64} {r0 : Int32} {h0 : AH} (C : Cx p rmX6_put s m args meth c RX6 cX6_put 6 (some .int) wsX6_put D ad cy tb 0 0) (hf : fX6_put_107 a1 a2 a3 a4 h s1 s2 = some (r0, h0)) : AW p l e rmX6_put s m args below meth c 6 D ad cy 0 0 (Qi D ad cy below args s r0 h0) 107 [(0, .ref (ad 29)), (1, .int a1), (2, .int a2), (3, .int a3), (4, .int a4)] [.long s2, .int s1, .ref (ad 41)] h := by
  unfold fX6_put_107 at hf
  refine aw_last C rfl rfl hf dX6_put_107 (fun hf => ?_)
  refine aw_nmH hf (fun h1 hf => ?_)
  refine aw_iconst (v := 1) C dX6_put_108 (by decide) ?_
  exact aw_iretW C dX6_put_109 hf
set_option maxHeartbeats 4000000 in
set_option maxRecDepth 100000 in
theorem tX6_put_68 {h : AH} {a1 : Int32} {a2 : Int32} {a3 : Int32} {a4 : Int32} {s0 : Int32} {r0 : Int32} {h0 : AH} (C : Cx p rmX6_put s m args meth c RX6 cX6_put 6 (some .int) wsX6_put D ad cy tb 0 0) (hf : fX6_put_68 a1 a2 a3 a4 h s0 = some (r0, h0)) : AW p l e rmX6_put s m args below meth c 6 D ad cy 0 0 (Qi D ad cy below args s r0 h0) 68 [(0, .ref (ad 29)), (1, .int a1), (2, .int a2), (3, .int a3), (4, .int a4)] [.int s0] h := by
  unfold fX6_put_68 at hf
  refine aw_istore (lv1 := [(5, .int s0), (0, .ref (ad 29)), (1, .int a1), (2, .int a2), (3, .int a3), (4, .int a4)]) C dX6_put_68 (by decide) rfl ?_
  refine aw_iload C dX6_put_70 0 rfl ?_
  refine aw_if_le (tgt := 82) C dX6_put_72 (by decide) hf (fun hf => ?_) (fun hf => ?_)
  · refine aw_aload_n C dX6_put_82 rfl 1 rfl ?_
    refine aw_get C (kd_lt rfl (by decide)) (ce_6 rfl) rfl hinX6_put_6 15 (by decide) rfl (by decide +kernel) rfl dX6_put_83 ?_
    refine aw_bipush (v := 64) C dX6_put_86 (by decide) ?_
    refine aw_iload_n C dX6_put_88 rfl 2 rfl ?_
    refine aw_imul C dX6_put_89 ?_
    refine aw_iload_n C dX6_put_90 rfl 4 rfl ?_
    refine aw_iadd C dX6_put_91 ?_
    refine aw_iload_n C dX6_put_92 rfl 3 rfl ?_
    refine aw_if_ne (tgt := 104) C dX6_put_93 (by decide) hf (fun hf => ?_) (fun hf => ?_)
    · refine aw_iload C dX6_put_104 5 rfl ?_
      refine aw_i2l C dX6_put_106 ?_
      refine aw_sub [1, 2, 3, 4, 5] rfl ?_
      exact tX6_put_107 C   hf
    refine aw_iload C dX6_put_96 5 rfl ?_
    refine aw_iconst (v := 1) C dX6_put_98 (by decide) ?_
    refine aw_iand C dX6_put_99 ?_
    refine aw_i2l C dX6_put_100 ?_
    refine aw_goto (tgt := 107) C dX6_put_101 (by decide) ?_
    refine aw_sub [1, 2, 3, 4, 5] rfl ?_
    exact tX6_put_107 C   hf
  refine aw_aload_n C dX6_put_75 rfl 1 rfl ?_
  refine aw_iload C dX6_put_76 0 rfl ?_
  obtain ⟨r2, h1, hc, hf⟩ := bW_some hf
  refine aw_callVi (As := [.int s0]) (rest := []) C rfl (by decide) rfl (kX6_meets (l := l) (D := D) (ad := ad) (cy := cy) (tb := tb) C.2.2.2.2.2.2.2.2.1 hc) (fun ht _ => cwV 1 ht gX6_put_X6_meets rfl rfl rfl (by decide +kernel) ⟨Nat.le_of_ble_eq_true rfl, Nat.le_of_ble_eq_true rfl⟩) rfl rfl (Nat.le_of_ble_eq_true rfl) dX6_put_78 ?_
  exact aw_iretW C dX6_put_81 hf
set_option maxHeartbeats 4000000 in
set_option maxRecDepth 100000 in
theorem tX6_put_0 {h : AH} {a1 : Int32} {a2 : Int32} {a3 : Int32} {a4 : Int32} {r0 : Int32} {h0 : AH} (C : Cx p rmX6_put s m args meth c RX6 cX6_put 6 (some .int) wsX6_put D ad cy tb 0 0) (hf : fX6_put h a1 a2 a3 a4 = some (r0, h0)) : AW p l e rmX6_put s m args below meth c 6 D ad cy 0 0 (Qi D ad cy below args s r0 h0) 0 [(0, .ref (ad 29)), (1, .int a1), (2, .int a2), (3, .int a3), (4, .int a4)] [] h := by
  unfold fX6_put at hf
  refine aw_iload_n C dX6_put_0 rfl 1 rfl ?_
  obtain ⟨r1, hc, hf⟩ := bR_some hf
  refine aw_callSi (As := [.int a1]) (rest := []) C (kX6_isSheet (l := l) (D := D) (ad := ad) (cy := cy) (tb := tb) C.2.2.2.2.2.2.2.2.1 hc) (fun ht _ => va_cwS 1 ht gX6_put_X6_isSheet rfl rfl rfl (by decide +kernel) ⟨Nat.le_of_ble_eq_true rfl, Nat.le_of_ble_eq_true rfl⟩) rfl rfl (Nat.le_of_ble_eq_true rfl) dX6_put_1 ?_
  refine aw_if_eq (tgt := 16) C dX6_put_4 (by decide) hf (fun hf => ?_) (fun hf => ?_)
  · refine aw_bipush (v := (-2)) C dX6_put_16 (by decide) ?_
    exact aw_iretW C dX6_put_18 hf
  refine aw_iload_n C dX6_put_7 rfl 2 rfl ?_
  refine aw_iconst (v := 0) C dX6_put_8 (by decide) ?_
  refine aw_iconst (v := 2) C dX6_put_9 (by decide) ?_
  obtain ⟨r2, hc, hf⟩ := bR_some hf
  refine aw_callSi (As := [.int a2, .int 0, .int 2]) (rest := []) C (kX6_in (l := l) (D := D) (ad := ad) (cy := cy) (tb := tb) C.2.2.2.2.2.2.2.2.1 hc) (fun ht _ => va_cwS 3 ht gX6_put_X6_in rfl rfl rfl (by decide +kernel) ⟨Nat.le_of_ble_eq_true rfl, Nat.le_of_ble_eq_true rfl⟩) rfl rfl (Nat.le_of_ble_eq_true rfl) dX6_put_10 ?_
  refine aw_if_ne (tgt := 19) C dX6_put_13 (by decide) hf (fun hf => ?_) (fun hf => ?_)
  · refine aw_aload_n C dX6_put_19 rfl 0 rfl ?_
    refine aw_get C (kd_lt rfl (by decide)) (ce_6 rfl) rfl hinX6_put_6 13 (by decide) rfl (by decide +kernel) rfl dX6_put_20 ?_
    refine aw_iload_n C dX6_put_23 rfl 1 rfl ?_
    refine aw_iald C rfl rfl hf dX6_put_24 (fun hf => ?_)
    refine aw_iconst (v := (-1)) C dX6_put_25 (by decide) ?_
    refine aw_icmp_ne (tgt := 33) C dX6_put_26 (by decide) hf (fun hf => ?_) (fun hf => ?_)
    · refine aw_aload_n C dX6_put_33 rfl 0 rfl ?_
      refine aw_get C (kd_lt rfl (by decide)) (ce_6 rfl) rfl hinX6_put_6 13 (by decide) rfl (by decide +kernel) rfl dX6_put_34 ?_
      refine aw_iload_n C dX6_put_37 rfl 1 rfl ?_
      refine aw_iald C rfl rfl hf dX6_put_38 (fun hf => ?_)
      refine aw_iload_n C dX6_put_39 rfl 2 rfl ?_
      refine aw_icmp_eq (tgt := 47) C dX6_put_40 (by decide) hf (fun hf => ?_) (fun hf => ?_)
      · refine aw_iload_n C dX6_put_47 rfl 3 rfl ?_
        refine aw_iconst (v := 0) C dX6_put_48 (by decide) ?_
        refine aw_aload_n C dX6_put_49 rfl 0 rfl ?_
        refine aw_get C (kd_lt rfl (by decide)) (ce_6 rfl) rfl hinX6_put_6 14 (by decide) rfl (by decide +kernel) rfl dX6_put_50 ?_
        refine aw_iload_n C dX6_put_53 rfl 1 rfl ?_
        refine aw_iald C rfl rfl hf dX6_put_54 (fun hf => ?_)
        refine aw_iconst (v := 1) C dX6_put_55 (by decide) ?_
        refine aw_isub C dX6_put_56 ?_
        obtain ⟨r3, hc, hf⟩ := bR_some hf
        refine aw_callSi (As := [.int a3, .int 0, .int ((h.1 40 a1.toNatClampNeg) - 1)]) (rest := []) C (kX6_in (l := l) (D := D) (ad := ad) (cy := cy) (tb := tb) C.2.2.2.2.2.2.2.2.1 hc) (fun ht _ => va_cwS 3 ht gX6_put_X6_in rfl rfl rfl (by decide +kernel) ⟨Nat.le_of_ble_eq_true rfl, Nat.le_of_ble_eq_true rfl⟩) rfl rfl (Nat.le_of_ble_eq_true rfl) dX6_put_57 ?_
        refine aw_if_eq (tgt := 67) C dX6_put_60 (by decide) hf (fun hf => ?_) (fun hf => ?_)
        · refine aw_iconst (v := 2) C dX6_put_67 (by decide) ?_
          refine aw_sub [0, 1, 2, 3, 4] rfl ?_
          exact tX6_put_68 C   hf
        refine aw_iconst (v := 0) C dX6_put_63 (by decide) ?_
        refine aw_goto (tgt := 68) C dX6_put_64 (by decide) ?_
        refine aw_sub [0, 1, 2, 3, 4] rfl ?_
        exact tX6_put_68 C   hf
      refine aw_iconst (v := 3) C dX6_put_43 (by decide) ?_
      refine aw_goto (tgt := 68) C dX6_put_44 (by decide) ?_
      refine aw_sub [0, 1, 2, 3, 4] rfl ?_
      exact tX6_put_68 C   hf
    refine aw_iconst (v := 1) C dX6_put_29 (by decide) ?_
    refine aw_goto (tgt := 68) C dX6_put_30 (by decide) ?_
    refine aw_sub [0, 1, 2, 3, 4] rfl ?_
    exact tX6_put_68 C   hf
  refine aw_bipush (v := (-2)) C dX6_put_16 (by decide) ?_
  exact aw_iretW C dX6_put_18 hf
theorem kX6_put {h : AH} {a1 : Int32} {a2 : Int32} {a3 : Int32} {a4 : Int32} {r0 : Int32} {h0 : AH} (hi : Inj ad) (hf : fX6_put h a1 a2 a3 a4 = some (r0, h0)) : Ki l yX6_put wsX6_put rmX6_put D ad cy tb [.ref (ad 29), .int a1, .int a2, .int a3, .int a4] h r0 h0 := met_i (lv := [(0, .ref (ad 29)), (1, .int a1), (2, .int a2), (3, .int a3), (4, .int a4)]) hi (by decide) rfl (Nat.le_of_ble_eq_true rfl) rfl rfl (fun _ _ _ _ _ _ _ _ C => tX6_put_0 C  hf)
theorem dX5_longRefusal_0 : decode cX5_longRefusal 0 = .ok (.ldc2_w 297, 3) := by decide +kernel
theorem dX5_longRefusal_3 : decode cX5_longRefusal 3 = .ok (.iload_n 0, 1) := by decide +kernel
theorem dX5_longRefusal_4 : decode cX5_longRefusal 4 = .ok (.i2l, 1) := by decide +kernel
theorem dX5_longRefusal_5 : decode cX5_longRefusal 5 = .ok (.lsub, 1) := by decide +kernel
theorem dX5_longRefusal_6 : decode cX5_longRefusal 6 = .ok (.lreturn, 1) := by decide +kernel
abbrev rmX5_longRefusal : Room := { frames := 0, cells := 0, slots := 0, locals := 0 }
set_option maxHeartbeats 4000000 in
set_option maxRecDepth 100000 in
theorem tX5_longRefusal_0 {h : AH} {a0 : Int32} {r0 : Int64} (C : Cx p rmX5_longRefusal s m args meth c RX5 cX5_longRefusal 1 (some .long) wsX5_longRefusal D ad cy tb 0 0) (hf : fX5_longRefusal h a0 = some r0) : AW p l e rmX5_longRefusal s m args below meth c 1 D ad cy 0 0 (Ql D ad cy below args s r0 h) 0 [(0, .int a0)] [] h := by
  unfold fX5_longRefusal at hf
  refine aw_ldc2 (v := (-9223372036854775808)) C (by decide +kernel) dX5_longRefusal_0 ?_
  refine aw_iload_n C dX5_longRefusal_3 rfl 0 rfl ?_
  refine aw_i2l C dX5_longRefusal_4 ?_
  refine aw_lsub C dX5_longRefusal_5 ?_
  exact aw_lretR C dX5_longRefusal_6 hf
theorem kX5_longRefusal {h : AH} {a0 : Int32} {r0 : Int64} (hi : Inj ad) (hf : fX5_longRefusal h a0 = some r0) : Kl l yX5_longRefusal wsX5_longRefusal rmX5_longRefusal D ad cy tb [.int a0] h r0 h := met_l (lv := [(0, .int a0)]) hi (by decide) rfl (Nat.le_of_ble_eq_true rfl) rfl rfl (fun _ _ _ _ _ _ _ _ C => tX5_longRefusal_0 C  hf)
set_option maxRecDepth 20000 in
theorem ggX5_get_X5_isSheet : GoodIn wsX5_get wsX5_isSheet := goodIn_r _ [5] (by decide +kernel) (by decide +kernel)
set_option maxRecDepth 20000 in
theorem gX5_get_X5_isSheet : GoodIn wsX5_get (va_wsS RX5 109 yX5_isSheet wsX5_isSheet) := goodIn_app (goodIn_of _ (by decide +kernel)) ggX5_get_X5_isSheet
set_option maxRecDepth 20000 in
theorem ggX5_get_X5_longRefusal : GoodIn wsX5_get wsX5_longRefusal := goodIn_r _ [8, 9] (by decide +kernel) (by decide +kernel)
set_option maxRecDepth 20000 in
theorem gX5_get_X5_longRefusal : GoodIn wsX5_get (va_wsS RX5 242 yX5_longRefusal wsX5_longRefusal) := goodIn_app (goodIn_of _ (by decide +kernel)) ggX5_get_X5_longRefusal
set_option maxRecDepth 20000 in
theorem ggX5_get_X5_finding : GoodIn wsX5_get wsX5_finding := goodIn_r _ [13, 14, 21, 22, 23, 24, 25, 26, 27, 28, 29] (by decide +kernel) (by decide +kernel)
set_option maxRecDepth 20000 in
theorem gX5_get_X5_finding : GoodIn wsX5_get (wsV RX5 116 RX5 yX5_finding wsX5_finding) := goodIn_app (goodIn_of _ (by decide +kernel)) ggX5_get_X5_finding
set_option maxRecDepth 20000 in
theorem ggX5_get_X3_hasItem : GoodIn wsX5_get wsX3_hasItem := goodIn_r _ [19, 20, 30, 31, 32, 33] (by decide +kernel) (by decide +kernel)
set_option maxRecDepth 20000 in
theorem gX5_get_X3_hasItem : GoodIn wsX5_get (wsV RX5 239 RX3 yX3_hasItem wsX3_hasItem) := goodIn_app (goodIn_of _ (by decide +kernel)) ggX5_get_X3_hasItem
theorem dX5_get_0 : decode cX5_get 0 = .ok (.iload_n 1, 1) := by decide +kernel
theorem dX5_get_1 : decode cX5_get 1 = .ok (.invokestatic 109, 3) := by decide +kernel
theorem dX5_get_4 : decode cX5_get 4 = .ok (.ifCond .ne 9, 3) := by decide +kernel
theorem dX5_get_7 : decode cX5_get 7 = .ok (.bipush (-2), 2) := by decide +kernel
theorem dX5_get_9 : decode cX5_get 9 = .ok (.invokestatic 242, 3) := by decide +kernel
theorem dX5_get_12 : decode cX5_get 12 = .ok (.lreturn, 1) := by decide +kernel
theorem dX5_get_13 : decode cX5_get 13 = .ok (.aload_n 0, 1) := by decide +kernel
theorem dX5_get_14 : decode cX5_get 14 = .ok (.getfield 46, 3) := by decide +kernel
theorem dX5_get_17 : decode cX5_get 17 = .ok (.iload_n 1, 1) := by decide +kernel
theorem dX5_get_18 : decode cX5_get 18 = .ok (.aaload, 1) := by decide +kernel
theorem dX5_get_19 : decode cX5_get 19 = .ok (.astore_n 3, 1) := by decide +kernel
theorem dX5_get_20 : decode cX5_get 20 = .ok (.aload_n 3, 1) := by decide +kernel
theorem dX5_get_21 : decode cX5_get 21 = .ok (.getfield 112, 3) := by decide +kernel
theorem dX5_get_24 : decode cX5_get 24 = .ok (.ifCond .eq 13, 3) := by decide +kernel
theorem dX5_get_27 : decode cX5_get 27 = .ok (.aload_n 0, 1) := by decide +kernel
theorem dX5_get_28 : decode cX5_get 28 = .ok (.bipush (-11), 2) := by decide +kernel
theorem dX5_get_30 : decode cX5_get 30 = .ok (.invokevirtual 116, 3) := by decide +kernel
theorem dX5_get_33 : decode cX5_get 33 = .ok (.invokestatic 242, 3) := by decide +kernel
theorem dX5_get_36 : decode cX5_get 36 = .ok (.lreturn, 1) := by decide +kernel
theorem dX5_get_37 : decode cX5_get 37 = .ok (.aload_n 3, 1) := by decide +kernel
theorem dX5_get_38 : decode cX5_get 38 = .ok (.iload_n 2, 1) := by decide +kernel
theorem dX5_get_39 : decode cX5_get 39 = .ok (.invokevirtual 239, 3) := by decide +kernel
theorem dX5_get_42 : decode cX5_get 42 = .ok (.ifCond .ne 13, 3) := by decide +kernel
theorem dX5_get_45 : decode cX5_get 45 = .ok (.aload_n 0, 1) := by decide +kernel
theorem dX5_get_46 : decode cX5_get 46 = .ok (.bipush (-12), 2) := by decide +kernel
theorem dX5_get_48 : decode cX5_get 48 = .ok (.invokevirtual 116, 3) := by decide +kernel
theorem dX5_get_51 : decode cX5_get 51 = .ok (.invokestatic 242, 3) := by decide +kernel
theorem dX5_get_54 : decode cX5_get 54 = .ok (.lreturn, 1) := by decide +kernel
theorem dX5_get_55 : decode cX5_get 55 = .ok (.aload_n 3, 1) := by decide +kernel
theorem dX5_get_56 : decode cX5_get 56 = .ok (.getfield 123, 3) := by decide +kernel
theorem dX5_get_59 : decode cX5_get 59 = .ok (.iload_n 2, 1) := by decide +kernel
theorem dX5_get_60 : decode cX5_get 60 = .ok (.laload, 1) := by decide +kernel
theorem dX5_get_61 : decode cX5_get 61 = .ok (.lreturn, 1) := by decide +kernel
abbrev rmX5_get : Room := { frames := 1, cells := 0, slots := 0, locals := 21 }
set_option maxRecDepth 100000 in
theorem hinX5_get_5 : ∀ w ∈ wsX50, w ∈ wsX5_get := by decide +kernel
set_option maxRecDepth 100000 in
theorem hinX5_get_3 : ∀ w ∈ wsX30, w ∈ wsX5_get := by decide +kernel
set_option maxHeartbeats 4000000 in
set_option maxRecDepth 100000 in
theorem tX5_get_0 {h : AH} {a1 : Int32} {a2 : Int32} {r0 : Int64} {h0 : AH} (C : Cx p rmX5_get s m args meth c RX5 cX5_get 4 (some .long) wsX5_get D ad cy tb 0 0) (hf : fX5_get h a1 a2 = some (r0, h0)) : AW p l e rmX5_get s m args below meth c 4 D ad cy 0 0 (Ql D ad cy below args s r0 h0) 0 [(0, .ref (ad 0)), (1, .int a1), (2, .int a2)] [] h := by
  unfold fX5_get at hf
  refine aw_iload_n C dX5_get_0 rfl 1 rfl ?_
  obtain ⟨r1, hc, hf⟩ := bR_some hf
  refine aw_callSi (As := [.int a1]) (rest := []) C (kX5_isSheet (l := l) (D := D) (ad := ad) (cy := cy) (tb := tb) C.2.2.2.2.2.2.2.2.1 hc) (fun ht _ => va_cwS 1 ht gX5_get_X5_isSheet rfl rfl rfl (by decide +kernel) ⟨Nat.le_of_ble_eq_true rfl, Nat.le_of_ble_eq_true rfl⟩) rfl rfl (Nat.le_of_ble_eq_true rfl) dX5_get_1 ?_
  refine aw_if_ne (tgt := 13) C dX5_get_4 (by decide) hf (fun hf => ?_) (fun hf => ?_)
  · refine aw_aload_n C dX5_get_13 rfl 0 rfl ?_
    refine aw_get C (kd_lt rfl (by decide)) (ce_5 rfl) rfl hinX5_get_5 6 (by decide) rfl (by decide +kernel) rfl dX5_get_14 ?_
    refine aw_iload_n C dX5_get_17 rfl 1 rfl ?_
    refine aw_aald C hf dX5_get_18 (fun r2 hkr2 hf => ?_)
    refine aw_astore_n (lv1 := [(3, .ref (ad r2)), (0, .ref (ad 0)), (1, .int a1), (2, .int a2)]) C dX5_get_19 rfl (by decide) rfl ?_
    refine aw_aload_n C dX5_get_20 rfl 0 rfl ?_
    refine aw_getN (host := "StairCodes") C (kd_lt hkr2 (by decide)) (ce_3 hkr2) rfl hinX5_get_3 0 (by decide) rfl (by decide +kernel) rfl dX5_get_21 ?_
    refine aw_if_eq (tgt := 37) C dX5_get_24 (by decide) hf (fun hf => ?_) (fun hf => ?_)
    · refine aw_aload_n C dX5_get_37 rfl 0 rfl ?_
      refine aw_iload_n C dX5_get_38 rfl 3 rfl ?_
      obtain ⟨r3, hc, hf⟩ := bR_some hf
      refine aw_callVi (As := [.int a2]) (rest := []) C hkr2 (by decide) rfl (kX3_hasItem (l := l) (D := D) (ad := ad) (cy := cy) (tb := tb) C.2.2.2.2.2.2.2.2.1 hkr2 hc) (fun ht _ => cwV 1 ht gX5_get_X3_hasItem rfl rfl rfl (by decide +kernel) ⟨Nat.le_of_ble_eq_true rfl, Nat.le_of_ble_eq_true rfl⟩) rfl rfl (Nat.le_of_ble_eq_true rfl) dX5_get_39 ?_
      refine aw_if_ne (tgt := 55) C dX5_get_42 (by decide) hf (fun hf => ?_) (fun hf => ?_)
      · refine aw_aload_n C dX5_get_55 rfl 0 rfl ?_
        refine aw_getN (host := "StairCodes") C (kd_lt hkr2 (by decide)) (ce_3 hkr2) rfl hinX5_get_3 3 (by decide) rfl (by decide +kernel) rfl dX5_get_56 ?_
        refine aw_iload_n C dX5_get_59 rfl 3 rfl ?_
        refine aw_lald C (kd3a hkr2) (ln3a hkr2) hf dX5_get_60 (fun hf => ?_)
        exact aw_lretW C dX5_get_61 hf
      refine aw_aload_n C dX5_get_45 rfl 1 rfl ?_
      refine aw_bipush (v := (-12)) C dX5_get_46 (by decide) ?_
      obtain ⟨r5, h4, hc, hf⟩ := bW_some hf
      refine aw_callVi (As := [.int (-12)]) (rest := []) C rfl (by decide) rfl (kX5_finding (l := l) (D := D) (ad := ad) (cy := cy) (tb := tb) C.2.2.2.2.2.2.2.2.1 hc) (fun ht _ => cwV 1 ht gX5_get_X5_finding rfl rfl rfl (by decide +kernel) ⟨Nat.le_of_ble_eq_true rfl, Nat.le_of_ble_eq_true rfl⟩) rfl rfl (Nat.le_of_ble_eq_true rfl) dX5_get_48 ?_
      obtain ⟨r6, hc, hf⟩ := bR_some hf
      refine aw_callSl (As := [.int r5]) (rest := []) C (kX5_longRefusal (l := l) (D := D) (ad := ad) (cy := cy) (tb := tb) C.2.2.2.2.2.2.2.2.1 hc) (fun ht _ => va_cwS 1 ht gX5_get_X5_longRefusal rfl rfl rfl (by decide +kernel) ⟨Nat.le_of_ble_eq_true rfl, Nat.le_of_ble_eq_true rfl⟩) rfl rfl (Nat.le_of_ble_eq_true rfl) dX5_get_51 ?_
      exact aw_lretW C dX5_get_54 hf
    refine aw_aload_n C dX5_get_27 rfl 1 rfl ?_
    refine aw_bipush (v := (-11)) C dX5_get_28 (by decide) ?_
    obtain ⟨r8, h7, hc, hf⟩ := bW_some hf
    refine aw_callVi (As := [.int (-11)]) (rest := []) C rfl (by decide) rfl (kX5_finding (l := l) (D := D) (ad := ad) (cy := cy) (tb := tb) C.2.2.2.2.2.2.2.2.1 hc) (fun ht _ => cwV 1 ht gX5_get_X5_finding rfl rfl rfl (by decide +kernel) ⟨Nat.le_of_ble_eq_true rfl, Nat.le_of_ble_eq_true rfl⟩) rfl rfl (Nat.le_of_ble_eq_true rfl) dX5_get_30 ?_
    obtain ⟨r9, hc, hf⟩ := bR_some hf
    refine aw_callSl (As := [.int r8]) (rest := []) C (kX5_longRefusal (l := l) (D := D) (ad := ad) (cy := cy) (tb := tb) C.2.2.2.2.2.2.2.2.1 hc) (fun ht _ => va_cwS 1 ht gX5_get_X5_longRefusal rfl rfl rfl (by decide +kernel) ⟨Nat.le_of_ble_eq_true rfl, Nat.le_of_ble_eq_true rfl⟩) rfl rfl (Nat.le_of_ble_eq_true rfl) dX5_get_33 ?_
    exact aw_lretW C dX5_get_36 hf
  refine aw_bipush (v := (-2)) C dX5_get_7 (by decide) ?_
  obtain ⟨r10, hc, hf⟩ := bR_some hf
  refine aw_callSl (As := [.int (-2)]) (rest := []) C (kX5_longRefusal (l := l) (D := D) (ad := ad) (cy := cy) (tb := tb) C.2.2.2.2.2.2.2.2.1 hc) (fun ht _ => va_cwS 1 ht gX5_get_X5_longRefusal rfl rfl rfl (by decide +kernel) ⟨Nat.le_of_ble_eq_true rfl, Nat.le_of_ble_eq_true rfl⟩) rfl rfl (Nat.le_of_ble_eq_true rfl) dX5_get_9 ?_
  exact aw_lretW C dX5_get_12 hf
theorem kX5_get {h : AH} {a1 : Int32} {a2 : Int32} {r0 : Int64} {h0 : AH} (hi : Inj ad) (hf : fX5_get h a1 a2 = some (r0, h0)) : Kl l yX5_get wsX5_get rmX5_get D ad cy tb [.ref (ad 0), .int a1, .int a2] h r0 h0 := met_l (lv := [(0, .ref (ad 0)), (1, .int a1), (2, .int a2)]) hi (by decide) rfl (Nat.le_of_ble_eq_true rfl) rfl rfl (fun _ _ _ _ _ _ _ _ C => tX5_get_0 C  hf)
theorem dX6_no_0 : decode cX6_no 0 = .ok (.ldc2_w 55, 3) := by decide +kernel
theorem dX6_no_3 : decode cX6_no 3 = .ok (.iload_n 0, 1) := by decide +kernel
theorem dX6_no_4 : decode cX6_no 4 = .ok (.i2l, 1) := by decide +kernel
theorem dX6_no_5 : decode cX6_no 5 = .ok (.lsub, 1) := by decide +kernel
theorem dX6_no_6 : decode cX6_no 6 = .ok (.lreturn, 1) := by decide +kernel
abbrev rmX6_no : Room := { frames := 0, cells := 0, slots := 0, locals := 0 }
set_option maxHeartbeats 4000000 in
set_option maxRecDepth 100000 in
theorem tX6_no_0 {h : AH} {a0 : Int32} {r0 : Int64} (C : Cx p rmX6_no s m args meth c RX6 cX6_no 1 (some .long) wsX6_no D ad cy tb 0 0) (hf : fX6_no h a0 = some r0) : AW p l e rmX6_no s m args below meth c 1 D ad cy 0 0 (Ql D ad cy below args s r0 h) 0 [(0, .int a0)] [] h := by
  unfold fX6_no at hf
  refine aw_ldc2 (v := (-9223372036854775808)) C (by decide +kernel) dX6_no_0 ?_
  refine aw_iload_n C dX6_no_3 rfl 0 rfl ?_
  refine aw_i2l C dX6_no_4 ?_
  refine aw_lsub C dX6_no_5 ?_
  exact aw_lretR C dX6_no_6 hf
theorem kX6_no {h : AH} {a0 : Int32} {r0 : Int64} (hi : Inj ad) (hf : fX6_no h a0 = some r0) : Kl l yX6_no wsX6_no rmX6_no D ad cy tb [.int a0] h r0 h := met_l (lv := [(0, .int a0)]) hi (by decide) rfl (Nat.le_of_ble_eq_true rfl) rfl rfl (fun _ _ _ _ _ _ _ _ C => tX6_no_0 C  hf)
set_option maxRecDepth 20000 in
theorem ggX6_get_X6_isSheet : GoodIn wsX6_get wsX6_isSheet := goodIn_r _ [7, 8, 9, 6, 10] (by decide +kernel) (by decide +kernel)
set_option maxRecDepth 20000 in
theorem gX6_get_X6_isSheet : GoodIn wsX6_get (va_wsS RX6 103 yX6_isSheet wsX6_isSheet) := goodIn_app (goodIn_of _ (by decide +kernel)) ggX6_get_X6_isSheet
set_option maxRecDepth 20000 in
theorem ggX6_get_X6_no : GoodIn wsX6_get wsX6_no := goodIn_r _ [13, 14] (by decide +kernel) (by decide +kernel)
set_option maxRecDepth 20000 in
theorem gX6_get_X6_no : GoodIn wsX6_get (va_wsS RX6 202 yX6_no wsX6_no) := goodIn_app (goodIn_of _ (by decide +kernel)) ggX6_get_X6_no
set_option maxRecDepth 20000 in
theorem ggX6_get_X6_in : GoodIn wsX6_get wsX6_in := goodIn_r _ [10] (by decide +kernel) (by decide +kernel)
set_option maxRecDepth 20000 in
theorem gX6_get_X6_in : GoodIn wsX6_get (va_wsS RX6 73 yX6_in wsX6_in) := goodIn_app (goodIn_of _ (by decide +kernel)) ggX6_get_X6_in
set_option maxRecDepth 20000 in
theorem ggX6_get_X6_meets : GoodIn wsX6_get wsX6_meets := goodIn_r _ [18, 19, 20, 21, 22, 23, 24, 25, 26, 27, 28, 29, 30, 31, 32, 33, 34, 35, 36, 37] (by decide +kernel) (by decide +kernel)
set_option maxRecDepth 20000 in
theorem gX6_get_X6_meets : GoodIn wsX6_get (wsV RX6 106 RX6 yX6_meets wsX6_meets) := goodIn_app (goodIn_of _ (by decide +kernel)) ggX6_get_X6_meets
theorem dX6_get_0 : decode cX6_get 0 = .ok (.iload_n 1, 1) := by decide +kernel
theorem dX6_get_1 : decode cX6_get 1 = .ok (.invokestatic 103, 3) := by decide +kernel
theorem dX6_get_4 : decode cX6_get 4 = .ok (.ifCond .ne 9, 3) := by decide +kernel
theorem dX6_get_7 : decode cX6_get 7 = .ok (.bipush (-2), 2) := by decide +kernel
theorem dX6_get_9 : decode cX6_get 9 = .ok (.invokestatic 202, 3) := by decide +kernel
theorem dX6_get_12 : decode cX6_get 12 = .ok (.lreturn, 1) := by decide +kernel
theorem dX6_get_13 : decode cX6_get 13 = .ok (.aload_n 0, 1) := by decide +kernel
theorem dX6_get_14 : decode cX6_get 14 = .ok (.getfield 42, 3) := by decide +kernel
theorem dX6_get_17 : decode cX6_get 17 = .ok (.iload_n 1, 1) := by decide +kernel
theorem dX6_get_18 : decode cX6_get 18 = .ok (.iaload, 1) := by decide +kernel
theorem dX6_get_19 : decode cX6_get 19 = .ok (.iconst (-1), 1) := by decide +kernel
theorem dX6_get_20 : decode cX6_get 20 = .ok (.if_icmp .ne 7, 3) := by decide +kernel
theorem dX6_get_23 : decode cX6_get 23 = .ok (.iconst 1, 1) := by decide +kernel
theorem dX6_get_24 : decode cX6_get 24 = .ok (.goto 24, 3) := by decide +kernel
theorem dX6_get_27 : decode cX6_get 27 = .ok (.iload_n 2, 1) := by decide +kernel
theorem dX6_get_28 : decode cX6_get 28 = .ok (.iconst 0, 1) := by decide +kernel
theorem dX6_get_29 : decode cX6_get 29 = .ok (.aload_n 0, 1) := by decide +kernel
theorem dX6_get_30 : decode cX6_get 30 = .ok (.getfield 45, 3) := by decide +kernel
theorem dX6_get_33 : decode cX6_get 33 = .ok (.iload_n 1, 1) := by decide +kernel
theorem dX6_get_34 : decode cX6_get 34 = .ok (.iaload, 1) := by decide +kernel
theorem dX6_get_35 : decode cX6_get 35 = .ok (.iconst 1, 1) := by decide +kernel
theorem dX6_get_36 : decode cX6_get 36 = .ok (.isub, 1) := by decide +kernel
theorem dX6_get_37 : decode cX6_get 37 = .ok (.invokestatic 73, 3) := by decide +kernel
theorem dX6_get_40 : decode cX6_get 40 = .ok (.ifCond .eq 7, 3) := by decide +kernel
theorem dX6_get_43 : decode cX6_get 43 = .ok (.iconst 0, 1) := by decide +kernel
theorem dX6_get_44 : decode cX6_get 44 = .ok (.goto 4, 3) := by decide +kernel
theorem dX6_get_47 : decode cX6_get 47 = .ok (.iconst 2, 1) := by decide +kernel
theorem dX6_get_48 : decode cX6_get 48 = .ok (.istore_n 3, 1) := by decide +kernel
theorem dX6_get_49 : decode cX6_get 49 = .ok (.iload_n 3, 1) := by decide +kernel
theorem dX6_get_50 : decode cX6_get 50 = .ok (.ifCond .le 14, 3) := by decide +kernel
theorem dX6_get_53 : decode cX6_get 53 = .ok (.aload_n 0, 1) := by decide +kernel
theorem dX6_get_54 : decode cX6_get 54 = .ok (.iload_n 3, 1) := by decide +kernel
theorem dX6_get_55 : decode cX6_get 55 = .ok (.invokevirtual 106, 3) := by decide +kernel
theorem dX6_get_58 : decode cX6_get 58 = .ok (.invokestatic 202, 3) := by decide +kernel
theorem dX6_get_61 : decode cX6_get 61 = .ok (.goto 14, 3) := by decide +kernel
theorem dX6_get_64 : decode cX6_get 64 = .ok (.aload_n 0, 1) := by decide +kernel
theorem dX6_get_65 : decode cX6_get 65 = .ok (.getfield 48, 3) := by decide +kernel
theorem dX6_get_68 : decode cX6_get 68 = .ok (.bipush 64, 2) := by decide +kernel
theorem dX6_get_70 : decode cX6_get 70 = .ok (.iload_n 1, 1) := by decide +kernel
theorem dX6_get_71 : decode cX6_get 71 = .ok (.imul, 1) := by decide +kernel
theorem dX6_get_72 : decode cX6_get 72 = .ok (.iload_n 2, 1) := by decide +kernel
theorem dX6_get_73 : decode cX6_get 73 = .ok (.iadd, 1) := by decide +kernel
theorem dX6_get_74 : decode cX6_get 74 = .ok (.laload, 1) := by decide +kernel
theorem dX6_get_75 : decode cX6_get 75 = .ok (.lreturn, 1) := by decide +kernel
abbrev rmX6_get : Room := { frames := 2, cells := 0, slots := 0, locals := 42 }
set_option maxRecDepth 100000 in
theorem hinX6_get_6 : ∀ w ∈ wsX60, w ∈ wsX6_get := by decide +kernel
set_option maxHeartbeats 4000000 in
set_option maxRecDepth 100000 in
theorem tX6_get_48 {h : AH} {a1 : Int32} {a2 : Int32} {s0 : Int32} {r0 : Int64} {h0 : AH} (C : Cx p rmX6_get s m args meth c RX6 cX6_get 4 (some .long) wsX6_get D ad cy tb 0 0) (hf : fX6_get_48 a1 a2 h s0 = some (r0, h0)) : AW p l e rmX6_get s m args below meth c 4 D ad cy 0 0 (Ql D ad cy below args s r0 h0) 48 [(0, .ref (ad 29)), (1, .int a1), (2, .int a2)] [.int s0] h := by
  unfold fX6_get_48 at hf
  refine aw_istore_n (lv1 := [(3, .int s0), (0, .ref (ad 29)), (1, .int a1), (2, .int a2)]) C dX6_get_48 rfl (by decide) rfl ?_
  refine aw_iload_n C dX6_get_49 rfl 0 rfl ?_
  refine aw_if_le (tgt := 64) C dX6_get_50 (by decide) hf (fun hf => ?_) (fun hf => ?_)
  · refine aw_aload_n C dX6_get_64 rfl 1 rfl ?_
    refine aw_get C (kd_lt rfl (by decide)) (ce_6 rfl) rfl hinX6_get_6 15 (by decide) rfl (by decide +kernel) rfl dX6_get_65 ?_
    refine aw_bipush (v := 64) C dX6_get_68 (by decide) ?_
    refine aw_iload_n C dX6_get_70 rfl 2 rfl ?_
    refine aw_imul C dX6_get_71 ?_
    refine aw_iload_n C dX6_get_72 rfl 3 rfl ?_
    refine aw_iadd C dX6_get_73 ?_
    refine aw_nmI hf (fun v1 hf => ?_)
    refine aw_lald C rfl rfl hf dX6_get_74 (fun hf => ?_)
    exact aw_lretW C dX6_get_75 hf
  refine aw_aload_n C dX6_get_53 rfl 1 rfl ?_
  refine aw_iload_n C dX6_get_54 rfl 0 rfl ?_
  obtain ⟨r3, h2, hc, hf⟩ := bW_some hf
  refine aw_callVi (As := [.int s0]) (rest := []) C rfl (by decide) rfl (kX6_meets (l := l) (D := D) (ad := ad) (cy := cy) (tb := tb) C.2.2.2.2.2.2.2.2.1 hc) (fun ht _ => cwV 1 ht gX6_get_X6_meets rfl rfl rfl (by decide +kernel) ⟨Nat.le_of_ble_eq_true rfl, Nat.le_of_ble_eq_true rfl⟩) rfl rfl (Nat.le_of_ble_eq_true rfl) dX6_get_55 ?_
  obtain ⟨r4, hc, hf⟩ := bR_some hf
  refine aw_callSl (As := [.int r3]) (rest := []) C (kX6_no (l := l) (D := D) (ad := ad) (cy := cy) (tb := tb) C.2.2.2.2.2.2.2.2.1 hc) (fun ht _ => va_cwS 1 ht gX6_get_X6_no rfl rfl rfl (by decide +kernel) ⟨Nat.le_of_ble_eq_true rfl, Nat.le_of_ble_eq_true rfl⟩) rfl rfl (Nat.le_of_ble_eq_true rfl) dX6_get_58 ?_
  refine aw_goto (tgt := 75) C dX6_get_61 (by decide) ?_
  exact aw_lretW C dX6_get_75 hf
set_option maxHeartbeats 4000000 in
set_option maxRecDepth 100000 in
theorem tX6_get_0 {h : AH} {a1 : Int32} {a2 : Int32} {r0 : Int64} {h0 : AH} (C : Cx p rmX6_get s m args meth c RX6 cX6_get 4 (some .long) wsX6_get D ad cy tb 0 0) (hf : fX6_get h a1 a2 = some (r0, h0)) : AW p l e rmX6_get s m args below meth c 4 D ad cy 0 0 (Ql D ad cy below args s r0 h0) 0 [(0, .ref (ad 29)), (1, .int a1), (2, .int a2)] [] h := by
  unfold fX6_get at hf
  refine aw_iload_n C dX6_get_0 rfl 1 rfl ?_
  obtain ⟨r1, hc, hf⟩ := bR_some hf
  refine aw_callSi (As := [.int a1]) (rest := []) C (kX6_isSheet (l := l) (D := D) (ad := ad) (cy := cy) (tb := tb) C.2.2.2.2.2.2.2.2.1 hc) (fun ht _ => va_cwS 1 ht gX6_get_X6_isSheet rfl rfl rfl (by decide +kernel) ⟨Nat.le_of_ble_eq_true rfl, Nat.le_of_ble_eq_true rfl⟩) rfl rfl (Nat.le_of_ble_eq_true rfl) dX6_get_1 ?_
  refine aw_if_ne (tgt := 13) C dX6_get_4 (by decide) hf (fun hf => ?_) (fun hf => ?_)
  · refine aw_aload_n C dX6_get_13 rfl 0 rfl ?_
    refine aw_get C (kd_lt rfl (by decide)) (ce_6 rfl) rfl hinX6_get_6 13 (by decide) rfl (by decide +kernel) rfl dX6_get_14 ?_
    refine aw_iload_n C dX6_get_17 rfl 1 rfl ?_
    refine aw_iald C rfl rfl hf dX6_get_18 (fun hf => ?_)
    refine aw_iconst (v := (-1)) C dX6_get_19 (by decide) ?_
    refine aw_icmp_ne (tgt := 27) C dX6_get_20 (by decide) hf (fun hf => ?_) (fun hf => ?_)
    · refine aw_iload_n C dX6_get_27 rfl 2 rfl ?_
      refine aw_iconst (v := 0) C dX6_get_28 (by decide) ?_
      refine aw_aload_n C dX6_get_29 rfl 0 rfl ?_
      refine aw_get C (kd_lt rfl (by decide)) (ce_6 rfl) rfl hinX6_get_6 14 (by decide) rfl (by decide +kernel) rfl dX6_get_30 ?_
      refine aw_iload_n C dX6_get_33 rfl 1 rfl ?_
      refine aw_iald C rfl rfl hf dX6_get_34 (fun hf => ?_)
      refine aw_iconst (v := 1) C dX6_get_35 (by decide) ?_
      refine aw_isub C dX6_get_36 ?_
      obtain ⟨r2, hc, hf⟩ := bR_some hf
      refine aw_callSi (As := [.int a2, .int 0, .int ((h.1 40 a1.toNatClampNeg) - 1)]) (rest := []) C (kX6_in (l := l) (D := D) (ad := ad) (cy := cy) (tb := tb) C.2.2.2.2.2.2.2.2.1 hc) (fun ht _ => va_cwS 3 ht gX6_get_X6_in rfl rfl rfl (by decide +kernel) ⟨Nat.le_of_ble_eq_true rfl, Nat.le_of_ble_eq_true rfl⟩) rfl rfl (Nat.le_of_ble_eq_true rfl) dX6_get_37 ?_
      refine aw_if_eq (tgt := 47) C dX6_get_40 (by decide) hf (fun hf => ?_) (fun hf => ?_)
      · refine aw_iconst (v := 2) C dX6_get_47 (by decide) ?_
        refine aw_sub [0, 1, 2] rfl ?_
        exact tX6_get_48 C   hf
      refine aw_iconst (v := 0) C dX6_get_43 (by decide) ?_
      refine aw_goto (tgt := 48) C dX6_get_44 (by decide) ?_
      refine aw_sub [0, 1, 2] rfl ?_
      exact tX6_get_48 C   hf
    refine aw_iconst (v := 1) C dX6_get_23 (by decide) ?_
    refine aw_goto (tgt := 48) C dX6_get_24 (by decide) ?_
    refine aw_sub [0, 1, 2] rfl ?_
    exact tX6_get_48 C   hf
  refine aw_bipush (v := (-2)) C dX6_get_7 (by decide) ?_
  obtain ⟨r3, hc, hf⟩ := bR_some hf
  refine aw_callSl (As := [.int (-2)]) (rest := []) C (kX6_no (l := l) (D := D) (ad := ad) (cy := cy) (tb := tb) C.2.2.2.2.2.2.2.2.1 hc) (fun ht _ => va_cwS 1 ht gX6_get_X6_no rfl rfl rfl (by decide +kernel) ⟨Nat.le_of_ble_eq_true rfl, Nat.le_of_ble_eq_true rfl⟩) rfl rfl (Nat.le_of_ble_eq_true rfl) dX6_get_9 ?_
  exact aw_lretW C dX6_get_12 hf
theorem kX6_get {h : AH} {a1 : Int32} {a2 : Int32} {r0 : Int64} {h0 : AH} (hi : Inj ad) (hf : fX6_get h a1 a2 = some (r0, h0)) : Kl l yX6_get wsX6_get rmX6_get D ad cy tb [.ref (ad 29), .int a1, .int a2] h r0 h0 := met_l (lv := [(0, .ref (ad 29)), (1, .int a1), (2, .int a2)]) hi (by decide) rfl (Nat.le_of_ble_eq_true rfl) rfl rfl (fun _ _ _ _ _ _ _ _ C => tX6_get_0 C  hf)
theorem dX3_hasItems_0 : decode cX3_hasItems 0 = .ok (.iload_n 1, 1) := by decide +kernel
theorem dX3_hasItems_1 : decode cX3_hasItems 1 = .ok (.ifCond .lt 21, 3) := by decide +kernel
theorem dX3_hasItems_4 : decode cX3_hasItems 4 = .ok (.iload_n 2, 1) := by decide +kernel
theorem dX3_hasItems_5 : decode cX3_hasItems 5 = .ok (.ifCond .lt 17, 3) := by decide +kernel
theorem dX3_hasItems_8 : decode cX3_hasItems 8 = .ok (.iload_n 1, 1) := by decide +kernel
theorem dX3_hasItems_9 : decode cX3_hasItems 9 = .ok (.aload_n 0, 1) := by decide +kernel
theorem dX3_hasItems_10 : decode cX3_hasItems 10 = .ok (.getfield 23, 3) := by decide +kernel
theorem dX3_hasItems_13 : decode cX3_hasItems 13 = .ok (.iload_n 2, 1) := by decide +kernel
theorem dX3_hasItems_14 : decode cX3_hasItems 14 = .ok (.isub, 1) := by decide +kernel
theorem dX3_hasItems_15 : decode cX3_hasItems 15 = .ok (.if_icmp .gt 7, 3) := by decide +kernel
theorem dX3_hasItems_18 : decode cX3_hasItems 18 = .ok (.iconst 1, 1) := by decide +kernel
theorem dX3_hasItems_19 : decode cX3_hasItems 19 = .ok (.goto 4, 3) := by decide +kernel
theorem dX3_hasItems_22 : decode cX3_hasItems 22 = .ok (.iconst 0, 1) := by decide +kernel
theorem dX3_hasItems_23 : decode cX3_hasItems 23 = .ok (.ireturn, 1) := by decide +kernel
abbrev rmX3_hasItems : Room := { frames := 0, cells := 0, slots := 0, locals := 0 }
set_option maxRecDepth 100000 in
theorem hinX3_hasItems_3 : ∀ w ∈ wsX30, w ∈ wsX3_hasItems := by decide +kernel
set_option maxHeartbeats 4000000 in
set_option maxRecDepth 100000 in
theorem tX3_hasItems_0 {h : AH} {a0 : Nat} {a1 : Int32} {a2 : Int32} {r0 : Int32} (C : Cx p rmX3_hasItems s m args meth c RX3 cX3_hasItems 3 (some .boolean) wsX3_hasItems D ad cy tb 0 0) (hk0 : kd a0 = 3) (hf : fX3_hasItems h a0 a1 a2 = some r0) : AW p l e rmX3_hasItems s m args below meth c 3 D ad cy 0 0 (Qi D ad cy below args s r0 h) 0 [(0, .ref (ad a0)), (1, .int a1), (2, .int a2)] [] h := by
  unfold fX3_hasItems at hf
  refine aw_iload_n C dX3_hasItems_0 rfl 1 rfl ?_
  refine aw_if_lt (tgt := 22) C dX3_hasItems_1 (by decide) hf (fun hf => ?_) (fun hf => ?_)
  · refine aw_iconst (v := 0) C dX3_hasItems_22 (by decide) ?_
    exact aw_zretR C (by decide) dX3_hasItems_23 hf
  refine aw_iload_n C dX3_hasItems_4 rfl 2 rfl ?_
  refine aw_if_lt (tgt := 22) C dX3_hasItems_5 (by decide) hf (fun hf => ?_) (fun hf => ?_)
  · refine aw_iconst (v := 0) C dX3_hasItems_22 (by decide) ?_
    exact aw_zretR C (by decide) dX3_hasItems_23 hf
  refine aw_iload_n C dX3_hasItems_8 rfl 1 rfl ?_
  refine aw_aload_n C dX3_hasItems_9 rfl 0 rfl ?_
  refine aw_get C (kd_lt hk0 (by decide)) (ce_3 hk0) rfl hinX3_hasItems_3 2 (by decide) rfl (by decide +kernel) rfl dX3_hasItems_10 ?_
  refine aw_iload_n C dX3_hasItems_13 rfl 2 rfl ?_
  refine aw_isub C dX3_hasItems_14 ?_
  refine aw_icmp_gt (tgt := 22) C dX3_hasItems_15 (by decide) hf (fun hf => ?_) (fun hf => ?_)
  · refine aw_iconst (v := 0) C dX3_hasItems_22 (by decide) ?_
    exact aw_zretR C (by decide) dX3_hasItems_23 hf
  refine aw_iconst (v := 1) C dX3_hasItems_18 (by decide) ?_
  refine aw_goto (tgt := 23) C dX3_hasItems_19 (by decide) ?_
  exact aw_zretR C (by decide) dX3_hasItems_23 hf
theorem kX3_hasItems {h : AH} {a0 : Nat} {a1 : Int32} {a2 : Int32} {r0 : Int32} (hi : Inj ad) (hk0 : kd a0 = 3) (hf : fX3_hasItems h a0 a1 a2 = some r0) : Ki l yX3_hasItems wsX3_hasItems rmX3_hasItems D ad cy tb [.ref (ad a0), .int a1, .int a2] h r0 h := met_i (lv := [(0, .ref (ad a0)), (1, .int a1), (2, .int a2)]) hi (by decide) rfl (Nat.le_of_ble_eq_true rfl) rfl rfl (fun _ _ _ _ _ _ _ _ C => tX3_hasItems_0 C hk0 hf)
set_option maxRecDepth 20000 in
theorem ggX5_copy_X5_isSheet : GoodIn wsX5_copy wsX5_isSheet := goodIn_r _ [9] (by decide +kernel) (by decide +kernel)
set_option maxRecDepth 20000 in
theorem gX5_copy_X5_isSheet : GoodIn wsX5_copy (va_wsS RX5 109 yX5_isSheet wsX5_isSheet) := goodIn_app (goodIn_of _ (by decide +kernel)) ggX5_copy_X5_isSheet
set_option maxRecDepth 20000 in
theorem ggX5_copy_X5_finding : GoodIn wsX5_copy wsX5_finding := goodIn_r _ [13, 14, 21, 22, 23, 24, 25, 26, 27, 28, 29] (by decide +kernel) (by decide +kernel)
set_option maxRecDepth 20000 in
theorem gX5_copy_X5_finding : GoodIn wsX5_copy (wsV RX5 116 RX5 yX5_finding wsX5_finding) := goodIn_app (goodIn_of _ (by decide +kernel)) ggX5_copy_X5_finding
set_option maxRecDepth 20000 in
theorem ggX5_copy_X3_hasItems : GoodIn wsX5_copy wsX3_hasItems := goodIn_r _ [19, 20, 30, 31, 32, 33] (by decide +kernel) (by decide +kernel)
set_option maxRecDepth 20000 in
theorem gX5_copy_X3_hasItems : GoodIn wsX5_copy (wsV RX5 245 RX3 yX3_hasItems wsX3_hasItems) := goodIn_app (goodIn_of _ (by decide +kernel)) ggX5_copy_X3_hasItems
theorem dX5_copy_0 : decode cX5_copy 0 = .ok (.iload_n 1, 1) := by decide +kernel
theorem dX5_copy_1 : decode cX5_copy 1 = .ok (.invokestatic 109, 3) := by decide +kernel
theorem dX5_copy_4 : decode cX5_copy 4 = .ok (.ifCond .eq 10, 3) := by decide +kernel
theorem dX5_copy_7 : decode cX5_copy 7 = .ok (.iload_n 3, 1) := by decide +kernel
theorem dX5_copy_8 : decode cX5_copy 8 = .ok (.invokestatic 109, 3) := by decide +kernel
theorem dX5_copy_11 : decode cX5_copy 11 = .ok (.ifCond .ne 6, 3) := by decide +kernel
theorem dX5_copy_14 : decode cX5_copy 14 = .ok (.bipush (-2), 2) := by decide +kernel
theorem dX5_copy_16 : decode cX5_copy 16 = .ok (.ireturn, 1) := by decide +kernel
theorem dX5_copy_17 : decode cX5_copy 17 = .ok (.aload_n 0, 1) := by decide +kernel
theorem dX5_copy_18 : decode cX5_copy 18 = .ok (.getfield 46, 3) := by decide +kernel
theorem dX5_copy_21 : decode cX5_copy 21 = .ok (.iload_n 1, 1) := by decide +kernel
theorem dX5_copy_22 : decode cX5_copy 22 = .ok (.aaload, 1) := by decide +kernel
theorem dX5_copy_23 : decode cX5_copy 23 = .ok (.astore 6, 2) := by decide +kernel
theorem dX5_copy_25 : decode cX5_copy 25 = .ok (.aload_n 0, 1) := by decide +kernel
theorem dX5_copy_26 : decode cX5_copy 26 = .ok (.getfield 46, 3) := by decide +kernel
theorem dX5_copy_29 : decode cX5_copy 29 = .ok (.iload_n 3, 1) := by decide +kernel
theorem dX5_copy_30 : decode cX5_copy 30 = .ok (.aaload, 1) := by decide +kernel
theorem dX5_copy_31 : decode cX5_copy 31 = .ok (.astore 7, 2) := by decide +kernel
theorem dX5_copy_33 : decode cX5_copy 33 = .ok (.aload 6, 2) := by decide +kernel
theorem dX5_copy_35 : decode cX5_copy 35 = .ok (.getfield 112, 3) := by decide +kernel
theorem dX5_copy_38 : decode cX5_copy 38 = .ok (.ifCond .ne 11, 3) := by decide +kernel
theorem dX5_copy_41 : decode cX5_copy 41 = .ok (.aload 7, 2) := by decide +kernel
theorem dX5_copy_43 : decode cX5_copy 43 = .ok (.getfield 112, 3) := by decide +kernel
theorem dX5_copy_46 : decode cX5_copy 46 = .ok (.ifCond .eq 10, 3) := by decide +kernel
theorem dX5_copy_49 : decode cX5_copy 49 = .ok (.aload_n 0, 1) := by decide +kernel
theorem dX5_copy_50 : decode cX5_copy 50 = .ok (.bipush (-11), 2) := by decide +kernel
theorem dX5_copy_52 : decode cX5_copy 52 = .ok (.invokevirtual 116, 3) := by decide +kernel
theorem dX5_copy_55 : decode cX5_copy 55 = .ok (.ireturn, 1) := by decide +kernel
theorem dX5_copy_56 : decode cX5_copy 56 = .ok (.aload 6, 2) := by decide +kernel
theorem dX5_copy_58 : decode cX5_copy 58 = .ok (.getfield 236, 3) := by decide +kernel
theorem dX5_copy_61 : decode cX5_copy 61 = .ok (.aload 7, 2) := by decide +kernel
theorem dX5_copy_63 : decode cX5_copy 63 = .ok (.getfield 236, 3) := by decide +kernel
theorem dX5_copy_66 : decode cX5_copy 66 = .ok (.if_icmp .eq 10, 3) := by decide +kernel
theorem dX5_copy_69 : decode cX5_copy 69 = .ok (.aload_n 0, 1) := by decide +kernel
theorem dX5_copy_70 : decode cX5_copy 70 = .ok (.bipush (-14), 2) := by decide +kernel
theorem dX5_copy_72 : decode cX5_copy 72 = .ok (.invokevirtual 116, 3) := by decide +kernel
theorem dX5_copy_75 : decode cX5_copy 75 = .ok (.ireturn, 1) := by decide +kernel
theorem dX5_copy_76 : decode cX5_copy 76 = .ok (.aload 6, 2) := by decide +kernel
theorem dX5_copy_78 : decode cX5_copy 78 = .ok (.iload_n 2, 1) := by decide +kernel
theorem dX5_copy_79 : decode cX5_copy 79 = .ok (.iload 5, 2) := by decide +kernel
theorem dX5_copy_81 : decode cX5_copy 81 = .ok (.invokevirtual 245, 3) := by decide +kernel
theorem dX5_copy_84 : decode cX5_copy 84 = .ok (.ifCond .eq 15, 3) := by decide +kernel
theorem dX5_copy_87 : decode cX5_copy 87 = .ok (.aload 7, 2) := by decide +kernel
theorem dX5_copy_89 : decode cX5_copy 89 = .ok (.iload 4, 2) := by decide +kernel
theorem dX5_copy_91 : decode cX5_copy 91 = .ok (.iload 5, 2) := by decide +kernel
theorem dX5_copy_93 : decode cX5_copy 93 = .ok (.invokevirtual 245, 3) := by decide +kernel
theorem dX5_copy_96 : decode cX5_copy 96 = .ok (.ifCond .ne 10, 3) := by decide +kernel
theorem dX5_copy_99 : decode cX5_copy 99 = .ok (.aload_n 0, 1) := by decide +kernel
theorem dX5_copy_100 : decode cX5_copy 100 = .ok (.bipush (-12), 2) := by decide +kernel
theorem dX5_copy_102 : decode cX5_copy 102 = .ok (.invokevirtual 116, 3) := by decide +kernel
theorem dX5_copy_105 : decode cX5_copy 105 = .ok (.ireturn, 1) := by decide +kernel
theorem dX5_copy_106 : decode cX5_copy 106 = .ok (.aload 6, 2) := by decide +kernel
theorem dX5_copy_108 : decode cX5_copy 108 = .ok (.getfield 123, 3) := by decide +kernel
theorem dX5_copy_111 : decode cX5_copy 111 = .ok (.iload_n 2, 1) := by decide +kernel
theorem dX5_copy_112 : decode cX5_copy 112 = .ok (.aload 7, 2) := by decide +kernel
theorem dX5_copy_114 : decode cX5_copy 114 = .ok (.getfield 123, 3) := by decide +kernel
theorem dX5_copy_117 : decode cX5_copy 117 = .ok (.iload 4, 2) := by decide +kernel
theorem dX5_copy_119 : decode cX5_copy 119 = .ok (.iload 5, 2) := by decide +kernel
theorem dX5_copy_121 : decode cX5_copy 121 = .ok (.invokestatic 248, 3) := by decide +kernel
theorem dX5_copy_124 : decode cX5_copy 124 = .ok (.iconst 1, 1) := by decide +kernel
theorem dX5_copy_125 : decode cX5_copy 125 = .ok (.ireturn, 1) := by decide +kernel
abbrev rmX5_copy : Room := { frames := 1, cells := 0, slots := 0, locals := 60 }
set_option maxRecDepth 100000 in
theorem hinX5_copy_5 : ∀ w ∈ wsX50, w ∈ wsX5_copy := by decide +kernel
set_option maxRecDepth 100000 in
theorem hinX5_copy_3 : ∀ w ∈ wsX30, w ∈ wsX5_copy := by decide +kernel
set_option maxHeartbeats 4000000 in
set_option maxRecDepth 100000 in
theorem tX5_copy_49 {h : AH} {a1 : Int32} {a2 : Int32} {a3 : Int32} {a4 : Int32} {a5 : Int32} {r0 : Int32} {h0 : AH} (C : Cx p rmX5_copy s m args meth c RX5 cX5_copy 8 (some .int) wsX5_copy D ad cy tb 0 0) (hf : fX5_copy_49 a1 a2 a3 a4 a5 h = some (r0, h0)) : AW p l e rmX5_copy s m args below meth c 8 D ad cy 0 0 (Qi D ad cy below args s r0 h0) 49 [(0, .ref (ad 0)), (1, .int a1), (2, .int a2), (3, .int a3), (4, .int a4), (5, .int a5)] [] h := by
  unfold fX5_copy_49 at hf
  refine aw_aload_n C dX5_copy_49 rfl 0 rfl ?_
  refine aw_bipush (v := (-11)) C dX5_copy_50 (by decide) ?_
  obtain ⟨r2, h1, hc, hf⟩ := bW_some hf
  refine aw_callVi (As := [.int (-11)]) (rest := []) C rfl (by decide) rfl (kX5_finding (l := l) (D := D) (ad := ad) (cy := cy) (tb := tb) C.2.2.2.2.2.2.2.2.1 hc) (fun ht _ => cwV 1 ht gX5_copy_X5_finding rfl rfl rfl (by decide +kernel) ⟨Nat.le_of_ble_eq_true rfl, Nat.le_of_ble_eq_true rfl⟩) rfl rfl (Nat.le_of_ble_eq_true rfl) dX5_copy_52 ?_
  exact aw_iretW C dX5_copy_55 hf
set_option maxHeartbeats 4000000 in
set_option maxRecDepth 100000 in
theorem tX5_copy_99 {h : AH} {a1 : Int32} {a2 : Int32} {a3 : Int32} {a4 : Int32} {a5 : Int32} {r0 : Int32} {h0 : AH} (C : Cx p rmX5_copy s m args meth c RX5 cX5_copy 8 (some .int) wsX5_copy D ad cy tb 0 0) (hf : fX5_copy_99 a1 a2 a3 a4 a5 h = some (r0, h0)) : AW p l e rmX5_copy s m args below meth c 8 D ad cy 0 0 (Qi D ad cy below args s r0 h0) 99 [(0, .ref (ad 0)), (1, .int a1), (2, .int a2), (3, .int a3), (4, .int a4), (5, .int a5)] [] h := by
  unfold fX5_copy_99 at hf
  refine aw_aload_n C dX5_copy_99 rfl 0 rfl ?_
  refine aw_bipush (v := (-12)) C dX5_copy_100 (by decide) ?_
  obtain ⟨r2, h1, hc, hf⟩ := bW_some hf
  refine aw_callVi (As := [.int (-12)]) (rest := []) C rfl (by decide) rfl (kX5_finding (l := l) (D := D) (ad := ad) (cy := cy) (tb := tb) C.2.2.2.2.2.2.2.2.1 hc) (fun ht _ => cwV 1 ht gX5_copy_X5_finding rfl rfl rfl (by decide +kernel) ⟨Nat.le_of_ble_eq_true rfl, Nat.le_of_ble_eq_true rfl⟩) rfl rfl (Nat.le_of_ble_eq_true rfl) dX5_copy_102 ?_
  exact aw_iretW C dX5_copy_105 hf
set_option maxHeartbeats 4000000 in
set_option maxRecDepth 100000 in
theorem tX5_copy_0 {h : AH} {a1 : Int32} {a2 : Int32} {a3 : Int32} {a4 : Int32} {a5 : Int32} {r0 : Int32} {h0 : AH} (C : Cx p rmX5_copy s m args meth c RX5 cX5_copy 8 (some .int) wsX5_copy D ad cy tb 0 0) (hf : fX5_copy h a1 a2 a3 a4 a5 = some (r0, h0)) : AW p l e rmX5_copy s m args below meth c 8 D ad cy 0 0 (Qi D ad cy below args s r0 h0) 0 [(0, .ref (ad 0)), (1, .int a1), (2, .int a2), (3, .int a3), (4, .int a4), (5, .int a5)] [] h := by
  unfold fX5_copy at hf
  refine aw_iload_n C dX5_copy_0 rfl 1 rfl ?_
  obtain ⟨r1, hc, hf⟩ := bR_some hf
  refine aw_callSi (As := [.int a1]) (rest := []) C (kX5_isSheet (l := l) (D := D) (ad := ad) (cy := cy) (tb := tb) C.2.2.2.2.2.2.2.2.1 hc) (fun ht _ => va_cwS 1 ht gX5_copy_X5_isSheet rfl rfl rfl (by decide +kernel) ⟨Nat.le_of_ble_eq_true rfl, Nat.le_of_ble_eq_true rfl⟩) rfl rfl (Nat.le_of_ble_eq_true rfl) dX5_copy_1 ?_
  refine aw_if_eq (tgt := 14) C dX5_copy_4 (by decide) hf (fun hf => ?_) (fun hf => ?_)
  · refine aw_bipush (v := (-2)) C dX5_copy_14 (by decide) ?_
    exact aw_iretW C dX5_copy_16 hf
  refine aw_iload_n C dX5_copy_7 rfl 3 rfl ?_
  obtain ⟨r2, hc, hf⟩ := bR_some hf
  refine aw_callSi (As := [.int a3]) (rest := []) C (kX5_isSheet (l := l) (D := D) (ad := ad) (cy := cy) (tb := tb) C.2.2.2.2.2.2.2.2.1 hc) (fun ht _ => va_cwS 1 ht gX5_copy_X5_isSheet rfl rfl rfl (by decide +kernel) ⟨Nat.le_of_ble_eq_true rfl, Nat.le_of_ble_eq_true rfl⟩) rfl rfl (Nat.le_of_ble_eq_true rfl) dX5_copy_8 ?_
  refine aw_if_ne (tgt := 17) C dX5_copy_11 (by decide) hf (fun hf => ?_) (fun hf => ?_)
  · refine aw_aload_n C dX5_copy_17 rfl 0 rfl ?_
    refine aw_get C (kd_lt rfl (by decide)) (ce_5 rfl) rfl hinX5_copy_5 6 (by decide) rfl (by decide +kernel) rfl dX5_copy_18 ?_
    refine aw_iload_n C dX5_copy_21 rfl 1 rfl ?_
    refine aw_aald C hf dX5_copy_22 (fun r3 hkr3 hf => ?_)
    refine aw_astore (lv1 := [(6, .ref (ad r3)), (0, .ref (ad 0)), (1, .int a1), (2, .int a2), (3, .int a3), (4, .int a4), (5, .int a5)]) C dX5_copy_23 (by decide) rfl ?_
    refine aw_aload_n C dX5_copy_25 rfl 1 rfl ?_
    refine aw_get C (kd_lt rfl (by decide)) (ce_5 rfl) rfl hinX5_copy_5 6 (by decide) rfl (by decide +kernel) rfl dX5_copy_26 ?_
    refine aw_iload_n C dX5_copy_29 rfl 4 rfl ?_
    refine aw_aald C hf dX5_copy_30 (fun r4 hkr4 hf => ?_)
    refine aw_astore (lv1 := [(7, .ref (ad r4)), (6, .ref (ad r3)), (0, .ref (ad 0)), (1, .int a1), (2, .int a2), (3, .int a3), (4, .int a4), (5, .int a5)]) C dX5_copy_31 (by decide) rfl ?_
    refine aw_aload C dX5_copy_33 1 rfl ?_
    refine aw_getN (host := "StairCodes") C (kd_lt hkr3 (by decide)) (ce_3 hkr3) rfl hinX5_copy_3 0 (by decide) rfl (by decide +kernel) rfl dX5_copy_35 ?_
    refine aw_if_ne (tgt := 49) C dX5_copy_38 (by decide) hf (fun hf => ?_) (fun hf => ?_)
    · refine aw_sub [2, 3, 4, 5, 6, 7] rfl ?_
      exact tX5_copy_49 C   hf
    refine aw_aload C dX5_copy_41 0 rfl ?_
    refine aw_getN (host := "StairCodes") C (kd_lt hkr4 (by decide)) (ce_3 hkr4) rfl hinX5_copy_3 0 (by decide) rfl (by decide +kernel) rfl dX5_copy_43 ?_
    refine aw_if_eq (tgt := 56) C dX5_copy_46 (by decide) hf (fun hf => ?_) (fun hf => ?_)
    · refine aw_aload C dX5_copy_56 1 rfl ?_
      refine aw_getN (host := "StairCodes") C (kd_lt hkr3 (by decide)) (ce_3 hkr3) rfl hinX5_copy_3 1 (by decide) rfl (by decide +kernel) rfl dX5_copy_58 ?_
      refine aw_aload C dX5_copy_61 0 rfl ?_
      refine aw_getN (host := "StairCodes") C (kd_lt hkr4 (by decide)) (ce_3 hkr4) rfl hinX5_copy_3 1 (by decide) rfl (by decide +kernel) rfl dX5_copy_63 ?_
      refine aw_icmp_eq (tgt := 76) C dX5_copy_66 (by decide) hf (fun hf => ?_) (fun hf => ?_)
      · refine aw_aload C dX5_copy_76 1 rfl ?_
        refine aw_iload_n C dX5_copy_78 rfl 4 rfl ?_
        refine aw_iload C dX5_copy_79 7 rfl ?_
        obtain ⟨r5, hc, hf⟩ := bR_some hf
        refine aw_callVi (As := [.int a2, .int a5]) (rest := []) C hkr3 (by decide) rfl (kX3_hasItems (l := l) (D := D) (ad := ad) (cy := cy) (tb := tb) C.2.2.2.2.2.2.2.2.1 hkr3 hc) (fun ht _ => cwV 2 ht gX5_copy_X3_hasItems rfl rfl rfl (by decide +kernel) ⟨Nat.le_of_ble_eq_true rfl, Nat.le_of_ble_eq_true rfl⟩) rfl rfl (Nat.le_of_ble_eq_true rfl) dX5_copy_81 ?_
        refine aw_if_eq (tgt := 99) C dX5_copy_84 (by decide) hf (fun hf => ?_) (fun hf => ?_)
        · refine aw_sub [2, 3, 4, 5, 6, 7] rfl ?_
          exact tX5_copy_99 C   hf
        refine aw_aload C dX5_copy_87 0 rfl ?_
        refine aw_iload C dX5_copy_89 6 rfl ?_
        refine aw_iload C dX5_copy_91 7 rfl ?_
        obtain ⟨r6, hc, hf⟩ := bR_some hf
        refine aw_callVi (As := [.int a4, .int a5]) (rest := []) C hkr4 (by decide) rfl (kX3_hasItems (l := l) (D := D) (ad := ad) (cy := cy) (tb := tb) C.2.2.2.2.2.2.2.2.1 hkr4 hc) (fun ht _ => cwV 2 ht gX5_copy_X3_hasItems rfl rfl rfl (by decide +kernel) ⟨Nat.le_of_ble_eq_true rfl, Nat.le_of_ble_eq_true rfl⟩) rfl rfl (Nat.le_of_ble_eq_true rfl) dX5_copy_93 ?_
        refine aw_if_ne (tgt := 106) C dX5_copy_96 (by decide) hf (fun hf => ?_) (fun hf => ?_)
        · refine aw_aload C dX5_copy_106 1 rfl ?_
          refine aw_getN (host := "StairCodes") C (kd_lt hkr3 (by decide)) (ce_3 hkr3) rfl hinX5_copy_3 3 (by decide) rfl (by decide +kernel) rfl dX5_copy_108 ?_
          refine aw_iload_n C dX5_copy_111 rfl 4 rfl ?_
          refine aw_aload C dX5_copy_112 0 rfl ?_
          refine aw_getN (host := "StairCodes") C (kd_lt hkr4 (by decide)) (ce_3 hkr4) rfl hinX5_copy_3 3 (by decide) rfl (by decide +kernel) rfl dX5_copy_114 ?_
          refine aw_iload C dX5_copy_117 6 rfl ?_
          refine aw_iload C dX5_copy_119 7 rfl ?_
          refine aw_copyL C (kd3a hkr3) (ln3a hkr3) (kd3a hkr4) (ln3a hkr4) hf (by decide +kernel) (by decide +kernel) (by decide +kernel) (by decide +kernel) (Nat.le_of_ble_eq_true rfl) (Nat.le_of_ble_eq_true rfl) dX5_copy_121 (fun hf => ?_)
          refine aw_nmH hf (fun h7 hf => ?_)
          refine aw_iconst (v := 1) C dX5_copy_124 (by decide) ?_
          exact aw_iretW C dX5_copy_125 hf
        refine aw_sub [2, 3, 4, 5, 6, 7] rfl ?_
        exact tX5_copy_99 C   hf
      refine aw_aload_n C dX5_copy_69 rfl 2 rfl ?_
      refine aw_bipush (v := (-14)) C dX5_copy_70 (by decide) ?_
      obtain ⟨r9, h8, hc, hf⟩ := bW_some hf
      refine aw_callVi (As := [.int (-14)]) (rest := []) C rfl (by decide) rfl (kX5_finding (l := l) (D := D) (ad := ad) (cy := cy) (tb := tb) C.2.2.2.2.2.2.2.2.1 hc) (fun ht _ => cwV 1 ht gX5_copy_X5_finding rfl rfl rfl (by decide +kernel) ⟨Nat.le_of_ble_eq_true rfl, Nat.le_of_ble_eq_true rfl⟩) rfl rfl (Nat.le_of_ble_eq_true rfl) dX5_copy_72 ?_
      exact aw_iretW C dX5_copy_75 hf
    refine aw_sub [2, 3, 4, 5, 6, 7] rfl ?_
    exact tX5_copy_49 C   hf
  refine aw_bipush (v := (-2)) C dX5_copy_14 (by decide) ?_
  exact aw_iretW C dX5_copy_16 hf
theorem kX5_copy {h : AH} {a1 : Int32} {a2 : Int32} {a3 : Int32} {a4 : Int32} {a5 : Int32} {r0 : Int32} {h0 : AH} (hi : Inj ad) (hf : fX5_copy h a1 a2 a3 a4 a5 = some (r0, h0)) : Ki l yX5_copy wsX5_copy rmX5_copy D ad cy tb [.ref (ad 0), .int a1, .int a2, .int a3, .int a4, .int a5] h r0 h0 := met_i (lv := [(0, .ref (ad 0)), (1, .int a1), (2, .int a2), (3, .int a3), (4, .int a4), (5, .int a5)]) hi (by decide) rfl (Nat.le_of_ble_eq_true rfl) rfl rfl (fun _ _ _ _ _ _ _ _ C => tX5_copy_0 C  hf)
set_option maxRecDepth 20000 in
theorem ggX6_copy_X6_isSheet : GoodIn wsX6_copy wsX6_isSheet := goodIn_r _ [8, 9, 10, 7, 11] (by decide +kernel) (by decide +kernel)
set_option maxRecDepth 20000 in
theorem gX6_copy_X6_isSheet : GoodIn wsX6_copy (va_wsS RX6 103 yX6_isSheet wsX6_isSheet) := goodIn_app (goodIn_of _ (by decide +kernel)) ggX6_copy_X6_isSheet
set_option maxRecDepth 20000 in
theorem ggX6_copy_X6_meets : GoodIn wsX6_copy wsX6_meets := goodIn_r _ [15, 16, 17, 18, 19, 20, 21, 22, 23, 24, 25, 26, 27, 28, 29, 30, 31, 32, 33, 34] (by decide +kernel) (by decide +kernel)
set_option maxRecDepth 20000 in
theorem gX6_copy_X6_meets : GoodIn wsX6_copy (wsV RX6 106 RX6 yX6_meets wsX6_meets) := goodIn_app (goodIn_of _ (by decide +kernel)) ggX6_copy_X6_meets
theorem dX6_copy_0 : decode cX6_copy 0 = .ok (.iload_n 1, 1) := by decide +kernel
theorem dX6_copy_1 : decode cX6_copy 1 = .ok (.invokestatic 103, 3) := by decide +kernel
theorem dX6_copy_4 : decode cX6_copy 4 = .ok (.ifCond .eq 10, 3) := by decide +kernel
theorem dX6_copy_7 : decode cX6_copy 7 = .ok (.iload_n 3, 1) := by decide +kernel
theorem dX6_copy_8 : decode cX6_copy 8 = .ok (.invokestatic 103, 3) := by decide +kernel
theorem dX6_copy_11 : decode cX6_copy 11 = .ok (.ifCond .ne 6, 3) := by decide +kernel
theorem dX6_copy_14 : decode cX6_copy 14 = .ok (.bipush (-2), 2) := by decide +kernel
theorem dX6_copy_16 : decode cX6_copy 16 = .ok (.ireturn, 1) := by decide +kernel
theorem dX6_copy_17 : decode cX6_copy 17 = .ok (.aload_n 0, 1) := by decide +kernel
theorem dX6_copy_18 : decode cX6_copy 18 = .ok (.getfield 42, 3) := by decide +kernel
theorem dX6_copy_21 : decode cX6_copy 21 = .ok (.iload_n 1, 1) := by decide +kernel
theorem dX6_copy_22 : decode cX6_copy 22 = .ok (.iaload, 1) := by decide +kernel
theorem dX6_copy_23 : decode cX6_copy 23 = .ok (.iconst (-1), 1) := by decide +kernel
theorem dX6_copy_24 : decode cX6_copy 24 = .ok (.if_icmp .eq 13, 3) := by decide +kernel
theorem dX6_copy_27 : decode cX6_copy 27 = .ok (.aload_n 0, 1) := by decide +kernel
theorem dX6_copy_28 : decode cX6_copy 28 = .ok (.getfield 42, 3) := by decide +kernel
theorem dX6_copy_31 : decode cX6_copy 31 = .ok (.iload_n 3, 1) := by decide +kernel
theorem dX6_copy_32 : decode cX6_copy 32 = .ok (.iaload, 1) := by decide +kernel
theorem dX6_copy_33 : decode cX6_copy 33 = .ok (.iconst (-1), 1) := by decide +kernel
theorem dX6_copy_34 : decode cX6_copy 34 = .ok (.if_icmp .ne 9, 3) := by decide +kernel
theorem dX6_copy_37 : decode cX6_copy 37 = .ok (.aload_n 0, 1) := by decide +kernel
theorem dX6_copy_38 : decode cX6_copy 38 = .ok (.iconst 1, 1) := by decide +kernel
theorem dX6_copy_39 : decode cX6_copy 39 = .ok (.invokevirtual 106, 3) := by decide +kernel
theorem dX6_copy_42 : decode cX6_copy 42 = .ok (.ireturn, 1) := by decide +kernel
theorem dX6_copy_43 : decode cX6_copy 43 = .ok (.aload_n 0, 1) := by decide +kernel
theorem dX6_copy_44 : decode cX6_copy 44 = .ok (.getfield 42, 3) := by decide +kernel
theorem dX6_copy_47 : decode cX6_copy 47 = .ok (.iload_n 1, 1) := by decide +kernel
theorem dX6_copy_48 : decode cX6_copy 48 = .ok (.iaload, 1) := by decide +kernel
theorem dX6_copy_49 : decode cX6_copy 49 = .ok (.aload_n 0, 1) := by decide +kernel
theorem dX6_copy_50 : decode cX6_copy 50 = .ok (.getfield 42, 3) := by decide +kernel
theorem dX6_copy_53 : decode cX6_copy 53 = .ok (.iload_n 3, 1) := by decide +kernel
theorem dX6_copy_54 : decode cX6_copy 54 = .ok (.iaload, 1) := by decide +kernel
theorem dX6_copy_55 : decode cX6_copy 55 = .ok (.if_icmp .eq 9, 3) := by decide +kernel
theorem dX6_copy_58 : decode cX6_copy 58 = .ok (.aload_n 0, 1) := by decide +kernel
theorem dX6_copy_59 : decode cX6_copy 59 = .ok (.iconst 4, 1) := by decide +kernel
theorem dX6_copy_60 : decode cX6_copy 60 = .ok (.invokevirtual 106, 3) := by decide +kernel
theorem dX6_copy_63 : decode cX6_copy 63 = .ok (.ireturn, 1) := by decide +kernel
theorem dX6_copy_64 : decode cX6_copy 64 = .ok (.iload_n 2, 1) := by decide +kernel
theorem dX6_copy_65 : decode cX6_copy 65 = .ok (.ifCond .lt 48, 3) := by decide +kernel
theorem dX6_copy_68 : decode cX6_copy 68 = .ok (.iload 4, 2) := by decide +kernel
theorem dX6_copy_70 : decode cX6_copy 70 = .ok (.ifCond .lt 43, 3) := by decide +kernel
theorem dX6_copy_73 : decode cX6_copy 73 = .ok (.iload 5, 2) := by decide +kernel
theorem dX6_copy_75 : decode cX6_copy 75 = .ok (.ifCond .lt 38, 3) := by decide +kernel
theorem dX6_copy_78 : decode cX6_copy 78 = .ok (.iload_n 2, 1) := by decide +kernel
theorem dX6_copy_79 : decode cX6_copy 79 = .ok (.i2l, 1) := by decide +kernel
theorem dX6_copy_80 : decode cX6_copy 80 = .ok (.iload 5, 2) := by decide +kernel
theorem dX6_copy_82 : decode cX6_copy 82 = .ok (.i2l, 1) := by decide +kernel
theorem dX6_copy_83 : decode cX6_copy 83 = .ok (.ladd, 1) := by decide +kernel
theorem dX6_copy_84 : decode cX6_copy 84 = .ok (.aload_n 0, 1) := by decide +kernel
theorem dX6_copy_85 : decode cX6_copy 85 = .ok (.getfield 45, 3) := by decide +kernel
theorem dX6_copy_88 : decode cX6_copy 88 = .ok (.iload_n 1, 1) := by decide +kernel
theorem dX6_copy_89 : decode cX6_copy 89 = .ok (.iaload, 1) := by decide +kernel
theorem dX6_copy_90 : decode cX6_copy 90 = .ok (.i2l, 1) := by decide +kernel
theorem dX6_copy_91 : decode cX6_copy 91 = .ok (.lcmp, 1) := by decide +kernel
theorem dX6_copy_92 : decode cX6_copy 92 = .ok (.ifCond .gt 21, 3) := by decide +kernel
theorem dX6_copy_95 : decode cX6_copy 95 = .ok (.iload 4, 2) := by decide +kernel
theorem dX6_copy_97 : decode cX6_copy 97 = .ok (.i2l, 1) := by decide +kernel
theorem dX6_copy_98 : decode cX6_copy 98 = .ok (.iload 5, 2) := by decide +kernel
theorem dX6_copy_100 : decode cX6_copy 100 = .ok (.i2l, 1) := by decide +kernel
theorem dX6_copy_101 : decode cX6_copy 101 = .ok (.ladd, 1) := by decide +kernel
theorem dX6_copy_102 : decode cX6_copy 102 = .ok (.aload_n 0, 1) := by decide +kernel
theorem dX6_copy_103 : decode cX6_copy 103 = .ok (.getfield 45, 3) := by decide +kernel
theorem dX6_copy_106 : decode cX6_copy 106 = .ok (.iload_n 3, 1) := by decide +kernel
theorem dX6_copy_107 : decode cX6_copy 107 = .ok (.iaload, 1) := by decide +kernel
theorem dX6_copy_108 : decode cX6_copy 108 = .ok (.i2l, 1) := by decide +kernel
theorem dX6_copy_109 : decode cX6_copy 109 = .ok (.lcmp, 1) := by decide +kernel
theorem dX6_copy_110 : decode cX6_copy 110 = .ok (.ifCond .le 9, 3) := by decide +kernel
theorem dX6_copy_113 : decode cX6_copy 113 = .ok (.aload_n 0, 1) := by decide +kernel
theorem dX6_copy_114 : decode cX6_copy 114 = .ok (.iconst 2, 1) := by decide +kernel
theorem dX6_copy_115 : decode cX6_copy 115 = .ok (.invokevirtual 106, 3) := by decide +kernel
theorem dX6_copy_118 : decode cX6_copy 118 = .ok (.ireturn, 1) := by decide +kernel
theorem dX6_copy_119 : decode cX6_copy 119 = .ok (.iconst 0, 1) := by decide +kernel
theorem dX6_copy_120 : decode cX6_copy 120 = .ok (.istore 6, 2) := by decide +kernel
theorem dX6_copy_122 : decode cX6_copy 122 = .ok (.iload 6, 2) := by decide +kernel
theorem dX6_copy_124 : decode cX6_copy 124 = .ok (.iload 5, 2) := by decide +kernel
theorem dX6_copy_126 : decode cX6_copy 126 = .ok (.if_icmp .ge 30, 3) := by decide +kernel
theorem dX6_copy_129 : decode cX6_copy 129 = .ok (.aload_n 0, 1) := by decide +kernel
theorem dX6_copy_130 : decode cX6_copy 130 = .ok (.getfield 52, 3) := by decide +kernel
theorem dX6_copy_133 : decode cX6_copy 133 = .ok (.iload 6, 2) := by decide +kernel
theorem dX6_copy_135 : decode cX6_copy 135 = .ok (.aload_n 0, 1) := by decide +kernel
theorem dX6_copy_136 : decode cX6_copy 136 = .ok (.getfield 48, 3) := by decide +kernel
theorem dX6_copy_139 : decode cX6_copy 139 = .ok (.bipush 64, 2) := by decide +kernel
theorem dX6_copy_141 : decode cX6_copy 141 = .ok (.iload_n 1, 1) := by decide +kernel
theorem dX6_copy_142 : decode cX6_copy 142 = .ok (.imul, 1) := by decide +kernel
theorem dX6_copy_143 : decode cX6_copy 143 = .ok (.iload_n 2, 1) := by decide +kernel
theorem dX6_copy_144 : decode cX6_copy 144 = .ok (.iadd, 1) := by decide +kernel
theorem dX6_copy_145 : decode cX6_copy 145 = .ok (.iload 6, 2) := by decide +kernel
theorem dX6_copy_147 : decode cX6_copy 147 = .ok (.iadd, 1) := by decide +kernel
theorem dX6_copy_148 : decode cX6_copy 148 = .ok (.laload, 1) := by decide +kernel
theorem dX6_copy_149 : decode cX6_copy 149 = .ok (.lastore, 1) := by decide +kernel
theorem dX6_copy_150 : decode cX6_copy 150 = .ok (.iinc 6 1, 3) := by decide +kernel
theorem dX6_copy_153 : decode cX6_copy 153 = .ok (.goto (-31), 3) := by decide +kernel
theorem dX6_copy_156 : decode cX6_copy 156 = .ok (.iconst 0, 1) := by decide +kernel
theorem dX6_copy_157 : decode cX6_copy 157 = .ok (.istore 6, 2) := by decide +kernel
theorem dX6_copy_159 : decode cX6_copy 159 = .ok (.iload 6, 2) := by decide +kernel
theorem dX6_copy_161 : decode cX6_copy 161 = .ok (.iload 5, 2) := by decide +kernel
theorem dX6_copy_163 : decode cX6_copy 163 = .ok (.if_icmp .ge 31, 3) := by decide +kernel
theorem dX6_copy_166 : decode cX6_copy 166 = .ok (.aload_n 0, 1) := by decide +kernel
theorem dX6_copy_167 : decode cX6_copy 167 = .ok (.getfield 48, 3) := by decide +kernel
theorem dX6_copy_170 : decode cX6_copy 170 = .ok (.bipush 64, 2) := by decide +kernel
theorem dX6_copy_172 : decode cX6_copy 172 = .ok (.iload_n 3, 1) := by decide +kernel
theorem dX6_copy_173 : decode cX6_copy 173 = .ok (.imul, 1) := by decide +kernel
theorem dX6_copy_174 : decode cX6_copy 174 = .ok (.iload 4, 2) := by decide +kernel
theorem dX6_copy_176 : decode cX6_copy 176 = .ok (.iadd, 1) := by decide +kernel
theorem dX6_copy_177 : decode cX6_copy 177 = .ok (.iload 6, 2) := by decide +kernel
theorem dX6_copy_179 : decode cX6_copy 179 = .ok (.iadd, 1) := by decide +kernel
theorem dX6_copy_180 : decode cX6_copy 180 = .ok (.aload_n 0, 1) := by decide +kernel
theorem dX6_copy_181 : decode cX6_copy 181 = .ok (.getfield 52, 3) := by decide +kernel
theorem dX6_copy_184 : decode cX6_copy 184 = .ok (.iload 6, 2) := by decide +kernel
theorem dX6_copy_186 : decode cX6_copy 186 = .ok (.laload, 1) := by decide +kernel
theorem dX6_copy_187 : decode cX6_copy 187 = .ok (.lastore, 1) := by decide +kernel
theorem dX6_copy_188 : decode cX6_copy 188 = .ok (.iinc 6 1, 3) := by decide +kernel
theorem dX6_copy_191 : decode cX6_copy 191 = .ok (.goto (-32), 3) := by decide +kernel
theorem dX6_copy_194 : decode cX6_copy 194 = .ok (.iconst 1, 1) := by decide +kernel
theorem dX6_copy_195 : decode cX6_copy 195 = .ok (.ireturn, 1) := by decide +kernel
abbrev rmX6_copy : Room := { frames := 2, cells := 0, slots := 0, locals := 42 }
set_option maxRecDepth 100000 in
theorem hinX6_copy_6 : ∀ w ∈ wsX60, w ∈ wsX6_copy := by decide +kernel
set_option maxHeartbeats 4000000 in
set_option maxRecDepth 100000 in
theorem tX6_copy_37 {h : AH} {a1 : Int32} {a2 : Int32} {a3 : Int32} {a4 : Int32} {a5 : Int32} {r0 : Int32} {h0 : AH} (C : Cx p rmX6_copy s m args meth c RX6 cX6_copy 7 (some .int) wsX6_copy D ad cy tb 0 0) (hf : fX6_copy_37 a1 a2 a3 a4 a5 h = some (r0, h0)) : AW p l e rmX6_copy s m args below meth c 7 D ad cy 0 0 (Qi D ad cy below args s r0 h0) 37 [(0, .ref (ad 29)), (1, .int a1), (2, .int a2), (3, .int a3), (4, .int a4), (5, .int a5)] [] h := by
  unfold fX6_copy_37 at hf
  refine aw_aload_n C dX6_copy_37 rfl 0 rfl ?_
  refine aw_iconst (v := 1) C dX6_copy_38 (by decide) ?_
  obtain ⟨r2, h1, hc, hf⟩ := bW_some hf
  refine aw_callVi (As := [.int 1]) (rest := []) C rfl (by decide) rfl (kX6_meets (l := l) (D := D) (ad := ad) (cy := cy) (tb := tb) C.2.2.2.2.2.2.2.2.1 hc) (fun ht _ => cwV 1 ht gX6_copy_X6_meets rfl rfl rfl (by decide +kernel) ⟨Nat.le_of_ble_eq_true rfl, Nat.le_of_ble_eq_true rfl⟩) rfl rfl (Nat.le_of_ble_eq_true rfl) dX6_copy_39 ?_
  exact aw_iretW C dX6_copy_42 hf
set_option maxHeartbeats 4000000 in
set_option maxRecDepth 100000 in
theorem tX6_copy_113 {h : AH} {a1 : Int32} {a2 : Int32} {a3 : Int32} {a4 : Int32} {a5 : Int32} {r0 : Int32} {h0 : AH} (C : Cx p rmX6_copy s m args meth c RX6 cX6_copy 7 (some .int) wsX6_copy D ad cy tb 0 0) (hf : fX6_copy_113 a1 a2 a3 a4 a5 h = some (r0, h0)) : AW p l e rmX6_copy s m args below meth c 7 D ad cy 0 0 (Qi D ad cy below args s r0 h0) 113 [(0, .ref (ad 29)), (1, .int a1), (2, .int a2), (3, .int a3), (4, .int a4), (5, .int a5)] [] h := by
  unfold fX6_copy_113 at hf
  refine aw_aload_n C dX6_copy_113 rfl 0 rfl ?_
  refine aw_iconst (v := 2) C dX6_copy_114 (by decide) ?_
  obtain ⟨r2, h1, hc, hf⟩ := bW_some hf
  refine aw_callVi (As := [.int 2]) (rest := []) C rfl (by decide) rfl (kX6_meets (l := l) (D := D) (ad := ad) (cy := cy) (tb := tb) C.2.2.2.2.2.2.2.2.1 hc) (fun ht _ => cwV 1 ht gX6_copy_X6_meets rfl rfl rfl (by decide +kernel) ⟨Nat.le_of_ble_eq_true rfl, Nat.le_of_ble_eq_true rfl⟩) rfl rfl (Nat.le_of_ble_eq_true rfl) dX6_copy_115 ?_
  exact aw_iretW C dX6_copy_118 hf
set_option maxHeartbeats 4000000 in
set_option maxRecDepth 100000 in
theorem tX6_copy_159b {h : AH} {a1 : Int32} {a2 : Int32} {a3 : Int32} {a4 : Int32} {a5 : Int32} {k159 : AH → Int32 → Option (Int32 × AH)} {x6 : Int32} {r0 : Int32} {h0 : AH} (C : Cx p rmX6_copy s m args meth c RX6 cX6_copy 7 (some .int) wsX6_copy D ad cy tb 0 0) (H159 : ∀ (h : AH) (x6 : Int32), k159 h x6 = some (r0, h0) → AW p l e rmX6_copy s m args below meth c 7 D ad cy 0 0 (Qi D ad cy below args s r0 h0) 159 [(0, .ref (ad 29)), (1, .int a1), (2, .int a2), (3, .int a3), (4, .int a4), (5, .int a5), (6, .int x6)] [] h) (hf : fX6_copy_159b k159 a1 a2 a3 a4 a5 h x6 = some (r0, h0)) : AW p l e rmX6_copy s m args below meth c 7 D ad cy 0 0 (Qi D ad cy below args s r0 h0) 159 [(0, .ref (ad 29)), (1, .int a1), (2, .int a2), (3, .int a3), (4, .int a4), (5, .int a5), (6, .int x6)] [] h := by
  unfold fX6_copy_159b at hf
  refine aw_iload C dX6_copy_159 6 rfl ?_
  refine aw_iload C dX6_copy_161 5 rfl ?_
  refine aw_icmp_ge (tgt := 194) C dX6_copy_163 (by decide) hf (fun hf => ?_) (fun hf => ?_)
  · refine aw_iconst (v := 1) C dX6_copy_194 (by decide) ?_
    exact aw_iretW C dX6_copy_195 hf
  refine aw_aload_n C dX6_copy_166 rfl 0 rfl ?_
  refine aw_get C (kd_lt rfl (by decide)) (ce_6 rfl) rfl hinX6_copy_6 15 (by decide) rfl (by decide +kernel) rfl dX6_copy_167 ?_
  refine aw_bipush (v := 64) C dX6_copy_170 (by decide) ?_
  refine aw_iload_n C dX6_copy_172 rfl 3 rfl ?_
  refine aw_imul C dX6_copy_173 ?_
  refine aw_iload C dX6_copy_174 4 rfl ?_
  refine aw_iadd C dX6_copy_176 ?_
  refine aw_iload C dX6_copy_177 6 rfl ?_
  refine aw_iadd C dX6_copy_179 ?_
  refine aw_aload_n C dX6_copy_180 rfl 0 rfl ?_
  refine aw_get C (kd_lt rfl (by decide)) (ce_6 rfl) rfl hinX6_copy_6 16 (by decide) rfl (by decide +kernel) rfl dX6_copy_181 ?_
  refine aw_iload C dX6_copy_184 6 rfl ?_
  refine aw_lald C rfl rfl hf dX6_copy_186 (fun hf => ?_)
  refine aw_nm2 hf (fun v1 hf => ?_)
  refine aw_last C rfl rfl hf dX6_copy_187 (fun hf => ?_)
  refine aw_nmH hf (fun h2 hf => ?_)
  obtain ⟨v3, hvv3, hf⟩ := nm_ex hf
  refine aw_iinc (j := 6) (v := v3) (lv1 := [(6, .int v3), (0, .ref (ad 29)), (1, .int a1), (2, .int a2), (3, .int a3), (4, .int a4), (5, .int a5)]) C dX6_copy_188 rfl hvv3 (by decide) rfl ?_
  refine aw_goto (tgt := 159) C dX6_copy_191 (by decide) ?_
  refine aw_sub [1, 2, 3, 4, 5, 6, 0] rfl ?_
  exact H159 h2 v3 hf
set_option maxHeartbeats 4000000 in
set_option maxRecDepth 100000 in
theorem tX6_copy_159  {a1 : Int32} {a2 : Int32} {a3 : Int32} {a4 : Int32} {a5 : Int32} {r0 : Int32} {h0 : AH} (C : Cx p rmX6_copy s m args meth c RX6 cX6_copy 7 (some .int) wsX6_copy D ad cy tb 0 0) : ∀ (n : Nat) (h : AH) (x6 : Int32), fX6_copy_159 a1 a2 a3 a4 a5 n h x6 = some (r0, h0) → AW p l e rmX6_copy s m args below meth c 7 D ad cy 0 0 (Qi D ad cy below args s r0 h0) 159 [(0, .ref (ad 29)), (1, .int a1), (2, .int a2), (3, .int a3), (4, .int a4), (5, .int a5), (6, .int x6)] [] h := by
  intro n
  induction n with
  | zero => intro h x6 hf; cases hf
  | succ n ih => intro h x6 hf; exact tX6_copy_159b C  ih  hf
set_option maxHeartbeats 4000000 in
set_option maxRecDepth 100000 in
theorem tX6_copy_122b {h : AH} {a1 : Int32} {a2 : Int32} {a3 : Int32} {a4 : Int32} {a5 : Int32} {k122 : AH → Int32 → Option (Int32 × AH)} {x6 : Int32} {r0 : Int32} {h0 : AH} (C : Cx p rmX6_copy s m args meth c RX6 cX6_copy 7 (some .int) wsX6_copy D ad cy tb 0 0) (H122 : ∀ (h : AH) (x6 : Int32), k122 h x6 = some (r0, h0) → AW p l e rmX6_copy s m args below meth c 7 D ad cy 0 0 (Qi D ad cy below args s r0 h0) 122 [(0, .ref (ad 29)), (1, .int a1), (2, .int a2), (3, .int a3), (4, .int a4), (5, .int a5), (6, .int x6)] [] h) (hf : fX6_copy_122b k122 a1 a2 a3 a4 a5 h x6 = some (r0, h0)) : AW p l e rmX6_copy s m args below meth c 7 D ad cy 0 0 (Qi D ad cy below args s r0 h0) 122 [(0, .ref (ad 29)), (1, .int a1), (2, .int a2), (3, .int a3), (4, .int a4), (5, .int a5), (6, .int x6)] [] h := by
  unfold fX6_copy_122b at hf
  refine aw_iload C dX6_copy_122 6 rfl ?_
  refine aw_iload C dX6_copy_124 5 rfl ?_
  refine aw_icmp_ge (tgt := 156) C dX6_copy_126 (by decide) hf (fun hf => ?_) (fun hf => ?_)
  · refine aw_iconst (v := 0) C dX6_copy_156 (by decide) ?_
    refine aw_istore (lv1 := [(6, .int 0), (0, .ref (ad 29)), (1, .int a1), (2, .int a2), (3, .int a3), (4, .int a4), (5, .int a5)]) C dX6_copy_157 (by decide) rfl ?_
    refine aw_sub [1, 2, 3, 4, 5, 6, 0] rfl ?_
    exact tX6_copy_159 C   FU h 0 hf
  refine aw_aload_n C dX6_copy_129 rfl 0 rfl ?_
  refine aw_get C (kd_lt rfl (by decide)) (ce_6 rfl) rfl hinX6_copy_6 16 (by decide) rfl (by decide +kernel) rfl dX6_copy_130 ?_
  refine aw_iload C dX6_copy_133 6 rfl ?_
  refine aw_aload_n C dX6_copy_135 rfl 0 rfl ?_
  refine aw_get C (kd_lt rfl (by decide)) (ce_6 rfl) rfl hinX6_copy_6 15 (by decide) rfl (by decide +kernel) rfl dX6_copy_136 ?_
  refine aw_bipush (v := 64) C dX6_copy_139 (by decide) ?_
  refine aw_iload_n C dX6_copy_141 rfl 1 rfl ?_
  refine aw_imul C dX6_copy_142 ?_
  refine aw_iload_n C dX6_copy_143 rfl 2 rfl ?_
  refine aw_iadd C dX6_copy_144 ?_
  refine aw_iload C dX6_copy_145 6 rfl ?_
  refine aw_iadd C dX6_copy_147 ?_
  refine aw_nmI hf (fun v1 hf => ?_)
  refine aw_lald C rfl rfl hf dX6_copy_148 (fun hf => ?_)
  refine aw_last C rfl rfl hf dX6_copy_149 (fun hf => ?_)
  refine aw_nmH hf (fun h2 hf => ?_)
  obtain ⟨v3, hvv3, hf⟩ := nm_ex hf
  refine aw_iinc (j := 6) (v := v3) (lv1 := [(6, .int v3), (0, .ref (ad 29)), (1, .int a1), (2, .int a2), (3, .int a3), (4, .int a4), (5, .int a5)]) C dX6_copy_150 rfl hvv3 (by decide) rfl ?_
  refine aw_goto (tgt := 122) C dX6_copy_153 (by decide) ?_
  refine aw_sub [1, 2, 3, 4, 5, 6, 0] rfl ?_
  exact H122 h2 v3 hf
set_option maxHeartbeats 4000000 in
set_option maxRecDepth 100000 in
theorem tX6_copy_122  {a1 : Int32} {a2 : Int32} {a3 : Int32} {a4 : Int32} {a5 : Int32} {r0 : Int32} {h0 : AH} (C : Cx p rmX6_copy s m args meth c RX6 cX6_copy 7 (some .int) wsX6_copy D ad cy tb 0 0) : ∀ (n : Nat) (h : AH) (x6 : Int32), fX6_copy_122 a1 a2 a3 a4 a5 n h x6 = some (r0, h0) → AW p l e rmX6_copy s m args below meth c 7 D ad cy 0 0 (Qi D ad cy below args s r0 h0) 122 [(0, .ref (ad 29)), (1, .int a1), (2, .int a2), (3, .int a3), (4, .int a4), (5, .int a5), (6, .int x6)] [] h := by
  intro n
  induction n with
  | zero => intro h x6 hf; cases hf
  | succ n ih => intro h x6 hf; exact tX6_copy_122b C  ih  hf
set_option maxHeartbeats 4000000 in
set_option maxRecDepth 100000 in
theorem tX6_copy_0 {h : AH} {a1 : Int32} {a2 : Int32} {a3 : Int32} {a4 : Int32} {a5 : Int32} {r0 : Int32} {h0 : AH} (C : Cx p rmX6_copy s m args meth c RX6 cX6_copy 7 (some .int) wsX6_copy D ad cy tb 0 0) (hf : fX6_copy h a1 a2 a3 a4 a5 = some (r0, h0)) : AW p l e rmX6_copy s m args below meth c 7 D ad cy 0 0 (Qi D ad cy below args s r0 h0) 0 [(0, .ref (ad 29)), (1, .int a1), (2, .int a2), (3, .int a3), (4, .int a4), (5, .int a5)] [] h := by
  unfold fX6_copy at hf
  refine aw_iload_n C dX6_copy_0 rfl 1 rfl ?_
  obtain ⟨r1, hc, hf⟩ := bR_some hf
  refine aw_callSi (As := [.int a1]) (rest := []) C (kX6_isSheet (l := l) (D := D) (ad := ad) (cy := cy) (tb := tb) C.2.2.2.2.2.2.2.2.1 hc) (fun ht _ => va_cwS 1 ht gX6_copy_X6_isSheet rfl rfl rfl (by decide +kernel) ⟨Nat.le_of_ble_eq_true rfl, Nat.le_of_ble_eq_true rfl⟩) rfl rfl (Nat.le_of_ble_eq_true rfl) dX6_copy_1 ?_
  refine aw_if_eq (tgt := 14) C dX6_copy_4 (by decide) hf (fun hf => ?_) (fun hf => ?_)
  · refine aw_bipush (v := (-2)) C dX6_copy_14 (by decide) ?_
    exact aw_iretW C dX6_copy_16 hf
  refine aw_iload_n C dX6_copy_7 rfl 3 rfl ?_
  obtain ⟨r2, hc, hf⟩ := bR_some hf
  refine aw_callSi (As := [.int a3]) (rest := []) C (kX6_isSheet (l := l) (D := D) (ad := ad) (cy := cy) (tb := tb) C.2.2.2.2.2.2.2.2.1 hc) (fun ht _ => va_cwS 1 ht gX6_copy_X6_isSheet rfl rfl rfl (by decide +kernel) ⟨Nat.le_of_ble_eq_true rfl, Nat.le_of_ble_eq_true rfl⟩) rfl rfl (Nat.le_of_ble_eq_true rfl) dX6_copy_8 ?_
  refine aw_if_ne (tgt := 17) C dX6_copy_11 (by decide) hf (fun hf => ?_) (fun hf => ?_)
  · refine aw_aload_n C dX6_copy_17 rfl 0 rfl ?_
    refine aw_get C (kd_lt rfl (by decide)) (ce_6 rfl) rfl hinX6_copy_6 13 (by decide) rfl (by decide +kernel) rfl dX6_copy_18 ?_
    refine aw_iload_n C dX6_copy_21 rfl 1 rfl ?_
    refine aw_iald C rfl rfl hf dX6_copy_22 (fun hf => ?_)
    refine aw_iconst (v := (-1)) C dX6_copy_23 (by decide) ?_
    refine aw_icmp_eq (tgt := 37) C dX6_copy_24 (by decide) hf (fun hf => ?_) (fun hf => ?_)
    · refine aw_sub [0, 1, 2, 3, 4, 5] rfl ?_
      exact tX6_copy_37 C   hf
    refine aw_aload_n C dX6_copy_27 rfl 0 rfl ?_
    refine aw_get C (kd_lt rfl (by decide)) (ce_6 rfl) rfl hinX6_copy_6 13 (by decide) rfl (by decide +kernel) rfl dX6_copy_28 ?_
    refine aw_iload_n C dX6_copy_31 rfl 3 rfl ?_
    refine aw_iald C rfl rfl hf dX6_copy_32 (fun hf => ?_)
    refine aw_iconst (v := (-1)) C dX6_copy_33 (by decide) ?_
    refine aw_icmp_ne (tgt := 43) C dX6_copy_34 (by decide) hf (fun hf => ?_) (fun hf => ?_)
    · refine aw_aload_n C dX6_copy_43 rfl 0 rfl ?_
      refine aw_get C (kd_lt rfl (by decide)) (ce_6 rfl) rfl hinX6_copy_6 13 (by decide) rfl (by decide +kernel) rfl dX6_copy_44 ?_
      refine aw_iload_n C dX6_copy_47 rfl 1 rfl ?_
      refine aw_iald C rfl rfl hf dX6_copy_48 (fun hf => ?_)
      refine aw_aload_n C dX6_copy_49 rfl 0 rfl ?_
      refine aw_get C (kd_lt rfl (by decide)) (ce_6 rfl) rfl hinX6_copy_6 13 (by decide) rfl (by decide +kernel) rfl dX6_copy_50 ?_
      refine aw_iload_n C dX6_copy_53 rfl 3 rfl ?_
      refine aw_iald C rfl rfl hf dX6_copy_54 (fun hf => ?_)
      refine aw_icmp_eq (tgt := 64) C dX6_copy_55 (by decide) hf (fun hf => ?_) (fun hf => ?_)
      · refine aw_iload_n C dX6_copy_64 rfl 2 rfl ?_
        refine aw_if_lt (tgt := 113) C dX6_copy_65 (by decide) hf (fun hf => ?_) (fun hf => ?_)
        · refine aw_sub [0, 1, 2, 3, 4, 5] rfl ?_
          exact tX6_copy_113 C   hf
        refine aw_iload C dX6_copy_68 4 rfl ?_
        refine aw_if_lt (tgt := 113) C dX6_copy_70 (by decide) hf (fun hf => ?_) (fun hf => ?_)
        · refine aw_sub [0, 1, 2, 3, 4, 5] rfl ?_
          exact tX6_copy_113 C   hf
        refine aw_iload C dX6_copy_73 5 rfl ?_
        refine aw_if_lt (tgt := 113) C dX6_copy_75 (by decide) hf (fun hf => ?_) (fun hf => ?_)
        · refine aw_sub [0, 1, 2, 3, 4, 5] rfl ?_
          exact tX6_copy_113 C   hf
        refine aw_iload_n C dX6_copy_78 rfl 2 rfl ?_
        refine aw_i2l C dX6_copy_79 ?_
        refine aw_iload C dX6_copy_80 5 rfl ?_
        refine aw_i2l C dX6_copy_82 ?_
        refine aw_ladd C dX6_copy_83 ?_
        refine aw_aload_n C dX6_copy_84 rfl 0 rfl ?_
        refine aw_get C (kd_lt rfl (by decide)) (ce_6 rfl) rfl hinX6_copy_6 14 (by decide) rfl (by decide +kernel) rfl dX6_copy_85 ?_
        refine aw_iload_n C dX6_copy_88 rfl 1 rfl ?_
        refine aw_iald C rfl rfl hf dX6_copy_89 (fun hf => ?_)
        refine aw_i2l C dX6_copy_90 ?_
        refine aw_lcmp C dX6_copy_91 ?_
        refine aw_if_gt (tgt := 113) C dX6_copy_92 (by decide) hf (fun hf => ?_) (fun hf => ?_)
        · refine aw_sub [0, 1, 2, 3, 4, 5] rfl ?_
          exact tX6_copy_113 C   hf
        refine aw_iload C dX6_copy_95 4 rfl ?_
        refine aw_i2l C dX6_copy_97 ?_
        refine aw_iload C dX6_copy_98 5 rfl ?_
        refine aw_i2l C dX6_copy_100 ?_
        refine aw_ladd C dX6_copy_101 ?_
        refine aw_aload_n C dX6_copy_102 rfl 0 rfl ?_
        refine aw_get C (kd_lt rfl (by decide)) (ce_6 rfl) rfl hinX6_copy_6 14 (by decide) rfl (by decide +kernel) rfl dX6_copy_103 ?_
        refine aw_iload_n C dX6_copy_106 rfl 3 rfl ?_
        refine aw_iald C rfl rfl hf dX6_copy_107 (fun hf => ?_)
        refine aw_i2l C dX6_copy_108 ?_
        refine aw_lcmp C dX6_copy_109 ?_
        refine aw_if_le (tgt := 119) C dX6_copy_110 (by decide) hf (fun hf => ?_) (fun hf => ?_)
        · refine aw_iconst (v := 0) C dX6_copy_119 (by decide) ?_
          refine aw_istore (lv1 := [(6, .int 0), (0, .ref (ad 29)), (1, .int a1), (2, .int a2), (3, .int a3), (4, .int a4), (5, .int a5)]) C dX6_copy_120 (by decide) rfl ?_
          refine aw_sub [1, 2, 3, 4, 5, 6, 0] rfl ?_
          exact tX6_copy_122 C   FU h 0 hf
        refine aw_sub [0, 1, 2, 3, 4, 5] rfl ?_
        exact tX6_copy_113 C   hf
      refine aw_aload_n C dX6_copy_58 rfl 0 rfl ?_
      refine aw_iconst (v := 4) C dX6_copy_59 (by decide) ?_
      obtain ⟨r4, h3, hc, hf⟩ := bW_some hf
      refine aw_callVi (As := [.int 4]) (rest := []) C rfl (by decide) rfl (kX6_meets (l := l) (D := D) (ad := ad) (cy := cy) (tb := tb) C.2.2.2.2.2.2.2.2.1 hc) (fun ht _ => cwV 1 ht gX6_copy_X6_meets rfl rfl rfl (by decide +kernel) ⟨Nat.le_of_ble_eq_true rfl, Nat.le_of_ble_eq_true rfl⟩) rfl rfl (Nat.le_of_ble_eq_true rfl) dX6_copy_60 ?_
      exact aw_iretW C dX6_copy_63 hf
    refine aw_sub [0, 1, 2, 3, 4, 5] rfl ?_
    exact tX6_copy_37 C   hf
  refine aw_bipush (v := (-2)) C dX6_copy_14 (by decide) ?_
  exact aw_iretW C dX6_copy_16 hf
theorem kX6_copy {h : AH} {a1 : Int32} {a2 : Int32} {a3 : Int32} {a4 : Int32} {a5 : Int32} {r0 : Int32} {h0 : AH} (hi : Inj ad) (hf : fX6_copy h a1 a2 a3 a4 a5 = some (r0, h0)) : Ki l yX6_copy wsX6_copy rmX6_copy D ad cy tb [.ref (ad 29), .int a1, .int a2, .int a3, .int a4, .int a5] h r0 h0 := met_i (lv := [(0, .ref (ad 29)), (1, .int a1), (2, .int a2), (3, .int a3), (4, .int a4), (5, .int a5)]) hi (by decide) rfl (Nat.le_of_ble_eq_true rfl) rfl rfl (fun _ _ _ _ _ _ _ _ C => tX6_copy_0 C  hf)
set_option maxRecDepth 20000 in
theorem ggX5_write_X5_isBlock : GoodIn wsX5_write wsX5_isBlock := goodIn_r _ [6, 7, 24, 25, 26, 27, 28, 29, 30, 31, 32, 37, 38, 39] (by decide +kernel) (by decide +kernel)
set_option maxRecDepth 20000 in
theorem gX5_write_X5_isBlock : GoodIn wsX5_write (wsV RX5 106 RX5 yX5_isBlock wsX5_isBlock) := goodIn_app (goodIn_of _ (by decide +kernel)) ggX5_write_X5_isBlock
set_option maxRecDepth 20000 in
theorem ggX5_write_X5_isSheet : GoodIn wsX5_write wsX5_isSheet := goodIn_r _ [10] (by decide +kernel) (by decide +kernel)
set_option maxRecDepth 20000 in
theorem gX5_write_X5_isSheet : GoodIn wsX5_write (va_wsS RX5 109 yX5_isSheet wsX5_isSheet) := goodIn_app (goodIn_of _ (by decide +kernel)) ggX5_write_X5_isSheet
set_option maxRecDepth 20000 in
theorem ggX5_write_X5_finding : GoodIn wsX5_write wsX5_finding := goodIn_r _ [14, 15, 24, 25, 26, 27, 28, 29, 30, 31, 32] (by decide +kernel) (by decide +kernel)
set_option maxRecDepth 20000 in
theorem gX5_write_X5_finding : GoodIn wsX5_write (wsV RX5 116 RX5 yX5_finding wsX5_finding) := goodIn_app (goodIn_of _ (by decide +kernel)) ggX5_write_X5_finding
set_option maxRecDepth 20000 in
theorem ggX5_write_X5_now : GoodIn wsX5_write wsX5_now := goodIn_r _ [19, 20, 7, 24, 25, 26, 27, 28, 29, 30, 31, 32, 40, 41, 37, 38, 39] (by decide +kernel) (by decide +kernel)
set_option maxRecDepth 20000 in
theorem gX5_write_X5_now : GoodIn wsX5_write (wsV RX5 129 RX5 yX5_now wsX5_now) := goodIn_app (goodIn_of _ (by decide +kernel)) ggX5_write_X5_now
set_option maxRecDepth 20000 in
theorem ggX5_write_X5_bitOf : GoodIn wsX5_write wsX5_bitOf := goodIn_r _ [23] (by decide +kernel) (by decide +kernel)
set_option maxRecDepth 20000 in
theorem gX5_write_X5_bitOf : GoodIn wsX5_write (va_wsS RX5 133 yX5_bitOf wsX5_bitOf) := goodIn_app (goodIn_of _ (by decide +kernel)) ggX5_write_X5_bitOf
theorem dX5_write_0 : decode cX5_write 0 = .ok (.aload_n 0, 1) := by decide +kernel
theorem dX5_write_1 : decode cX5_write 1 = .ok (.iload_n 1, 1) := by decide +kernel
theorem dX5_write_2 : decode cX5_write 2 = .ok (.invokevirtual 106, 3) := by decide +kernel
theorem dX5_write_5 : decode cX5_write 5 = .ok (.ifCond .eq 10, 3) := by decide +kernel
theorem dX5_write_8 : decode cX5_write 8 = .ok (.iload_n 2, 1) := by decide +kernel
theorem dX5_write_9 : decode cX5_write 9 = .ok (.invokestatic 109, 3) := by decide +kernel
theorem dX5_write_12 : decode cX5_write 12 = .ok (.ifCond .ne 6, 3) := by decide +kernel
theorem dX5_write_15 : decode cX5_write 15 = .ok (.bipush (-2), 2) := by decide +kernel
theorem dX5_write_17 : decode cX5_write 17 = .ok (.ireturn, 1) := by decide +kernel
theorem dX5_write_18 : decode cX5_write 18 = .ok (.aload_n 0, 1) := by decide +kernel
theorem dX5_write_19 : decode cX5_write 19 = .ok (.getfield 46, 3) := by decide +kernel
theorem dX5_write_22 : decode cX5_write 22 = .ok (.iload_n 2, 1) := by decide +kernel
theorem dX5_write_23 : decode cX5_write 23 = .ok (.aaload, 1) := by decide +kernel
theorem dX5_write_24 : decode cX5_write 24 = .ok (.astore_n 3, 1) := by decide +kernel
theorem dX5_write_25 : decode cX5_write 25 = .ok (.aload_n 3, 1) := by decide +kernel
theorem dX5_write_26 : decode cX5_write 26 = .ok (.getfield 112, 3) := by decide +kernel
theorem dX5_write_29 : decode cX5_write 29 = .ok (.ifCond .eq 10, 3) := by decide +kernel
theorem dX5_write_32 : decode cX5_write 32 = .ok (.aload_n 0, 1) := by decide +kernel
theorem dX5_write_33 : decode cX5_write 33 = .ok (.bipush (-11), 2) := by decide +kernel
theorem dX5_write_35 : decode cX5_write 35 = .ok (.invokevirtual 116, 3) := by decide +kernel
theorem dX5_write_38 : decode cX5_write 38 = .ok (.ireturn, 1) := by decide +kernel
theorem dX5_write_39 : decode cX5_write 39 = .ok (.aload_n 0, 1) := by decide +kernel
theorem dX5_write_40 : decode cX5_write 40 = .ok (.iload_n 1, 1) := by decide +kernel
theorem dX5_write_41 : decode cX5_write 41 = .ok (.invokevirtual 129, 3) := by decide +kernel
theorem dX5_write_44 : decode cX5_write 44 = .ok (.lstore 4, 2) := by decide +kernel
theorem dX5_write_46 : decode cX5_write 46 = .ok (.aload_n 3, 1) := by decide +kernel
theorem dX5_write_47 : decode cX5_write 47 = .ok (.getfield 236, 3) := by decide +kernel
theorem dX5_write_50 : decode cX5_write 50 = .ok (.iconst 1, 1) := by decide +kernel
theorem dX5_write_51 : decode cX5_write 51 = .ok (.if_icmp .ne 22, 3) := by decide +kernel
theorem dX5_write_54 : decode cX5_write 54 = .ok (.aload_n 3, 1) := by decide +kernel
theorem dX5_write_55 : decode cX5_write 55 = .ok (.getfield 120, 3) := by decide +kernel
theorem dX5_write_58 : decode cX5_write 58 = .ok (.ifCond .ne 5, 3) := by decide +kernel
theorem dX5_write_61 : decode cX5_write 61 = .ok (.iconst 0, 1) := by decide +kernel
theorem dX5_write_62 : decode cX5_write 62 = .ok (.ireturn, 1) := by decide +kernel
theorem dX5_write_63 : decode cX5_write 63 = .ok (.aload_n 3, 1) := by decide +kernel
theorem dX5_write_64 : decode cX5_write 64 = .ok (.getfield 123, 3) := by decide +kernel
theorem dX5_write_67 : decode cX5_write 67 = .ok (.iconst 0, 1) := by decide +kernel
theorem dX5_write_68 : decode cX5_write 68 = .ok (.lload 4, 2) := by decide +kernel
theorem dX5_write_70 : decode cX5_write 70 = .ok (.lastore, 1) := by decide +kernel
theorem dX5_write_71 : decode cX5_write 71 = .ok (.iconst 1, 1) := by decide +kernel
theorem dX5_write_72 : decode cX5_write 72 = .ok (.ireturn, 1) := by decide +kernel
theorem dX5_write_73 : decode cX5_write 73 = .ok (.iconst 0, 1) := by decide +kernel
theorem dX5_write_74 : decode cX5_write 74 = .ok (.istore 6, 2) := by decide +kernel
theorem dX5_write_76 : decode cX5_write 76 = .ok (.iload 6, 2) := by decide +kernel
theorem dX5_write_78 : decode cX5_write 78 = .ok (.aload_n 3, 1) := by decide +kernel
theorem dX5_write_79 : decode cX5_write 79 = .ok (.getfield 120, 3) := by decide +kernel
theorem dX5_write_82 : decode cX5_write 82 = .ok (.if_icmp .ge 24, 3) := by decide +kernel
theorem dX5_write_85 : decode cX5_write 85 = .ok (.aload_n 3, 1) := by decide +kernel
theorem dX5_write_86 : decode cX5_write 86 = .ok (.getfield 123, 3) := by decide +kernel
theorem dX5_write_89 : decode cX5_write 89 = .ok (.iload 6, 2) := by decide +kernel
theorem dX5_write_91 : decode cX5_write 91 = .ok (.lload 4, 2) := by decide +kernel
theorem dX5_write_93 : decode cX5_write 93 = .ok (.iload 6, 2) := by decide +kernel
theorem dX5_write_95 : decode cX5_write 95 = .ok (.invokestatic 133, 3) := by decide +kernel
theorem dX5_write_98 : decode cX5_write 98 = .ok (.i2l, 1) := by decide +kernel
theorem dX5_write_99 : decode cX5_write 99 = .ok (.lastore, 1) := by decide +kernel
theorem dX5_write_100 : decode cX5_write 100 = .ok (.iinc 6 1, 3) := by decide +kernel
theorem dX5_write_103 : decode cX5_write 103 = .ok (.goto (-27), 3) := by decide +kernel
theorem dX5_write_106 : decode cX5_write 106 = .ok (.aload_n 3, 1) := by decide +kernel
theorem dX5_write_107 : decode cX5_write 107 = .ok (.getfield 120, 3) := by decide +kernel
theorem dX5_write_110 : decode cX5_write 110 = .ok (.ireturn, 1) := by decide +kernel
abbrev rmX5_write : Room := { frames := 1, cells := 0, slots := 0, locals := 22 }
set_option maxRecDepth 100000 in
theorem hinX5_write_5 : ∀ w ∈ wsX50, w ∈ wsX5_write := by decide +kernel
set_option maxRecDepth 100000 in
theorem hinX5_write_3 : ∀ w ∈ wsX30, w ∈ wsX5_write := by decide +kernel
set_option maxHeartbeats 4000000 in
set_option maxRecDepth 100000 in
theorem tX5_write_76b {h : AH} {a1 : Int32} {a2 : Int32} {k76 : AH → Nat → Int64 → Int32 → Option (Int32 × AH)} {x3 : Nat} {x4 : Int64} {x6 : Int32} {r0 : Int32} {h0 : AH} (C : Cx p rmX5_write s m args meth c RX5 cX5_write 7 (some .int) wsX5_write D ad cy tb 0 0) (H76 : ∀ (h : AH) (x3 : Nat) (x4 : Int64) (x6 : Int32), kd x3 = 3 → k76 h x3 x4 x6 = some (r0, h0) → AW p l e rmX5_write s m args below meth c 7 D ad cy 0 0 (Qi D ad cy below args s r0 h0) 76 [(0, .ref (ad 0)), (1, .int a1), (2, .int a2), (3, .ref (ad x3)), (4, .long x4), (6, .int x6)] [] h) (hk_x3 : kd x3 = 3) (hf : fX5_write_76b k76 a1 a2 h x3 x4 x6 = some (r0, h0)) : AW p l e rmX5_write s m args below meth c 7 D ad cy 0 0 (Qi D ad cy below args s r0 h0) 76 [(0, .ref (ad 0)), (1, .int a1), (2, .int a2), (3, .ref (ad x3)), (4, .long x4), (6, .int x6)] [] h := by
  unfold fX5_write_76b at hf
  refine aw_iload C dX5_write_76 5 rfl ?_
  refine aw_aload_n C dX5_write_78 rfl 3 rfl ?_
  refine aw_getN (host := "StairCodes") C (kd_lt hk_x3 (by decide)) (ce_3 hk_x3) rfl hinX5_write_3 2 (by decide) rfl (by decide +kernel) rfl dX5_write_79 ?_
  refine aw_icmp_ge (tgt := 106) C dX5_write_82 (by decide) hf (fun hf => ?_) (fun hf => ?_)
  · refine aw_aload_n C dX5_write_106 rfl 3 rfl ?_
    refine aw_getN (host := "StairCodes") C (kd_lt hk_x3 (by decide)) (ce_3 hk_x3) rfl hinX5_write_3 2 (by decide) rfl (by decide +kernel) rfl dX5_write_107 ?_
    exact aw_iretW C dX5_write_110 hf
  refine aw_aload_n C dX5_write_85 rfl 3 rfl ?_
  refine aw_getN (host := "StairCodes") C (kd_lt hk_x3 (by decide)) (ce_3 hk_x3) rfl hinX5_write_3 3 (by decide) rfl (by decide +kernel) rfl dX5_write_86 ?_
  refine aw_iload C dX5_write_89 5 rfl ?_
  refine aw_lload C dX5_write_91 4 rfl ?_
  refine aw_iload C dX5_write_93 5 rfl ?_
  obtain ⟨r1, hc, hf⟩ := bR_some hf
  refine aw_callSi (As := [.long x4, .int x6]) (rest := [.int x6, .ref (ad (x3 + 4))]) C (kX5_bitOf (l := l) (D := D) (ad := ad) (cy := cy) (tb := tb) C.2.2.2.2.2.2.2.2.1 hc) (fun ht _ => va_cwS 2 ht gX5_write_X5_bitOf rfl rfl rfl (by decide +kernel) ⟨Nat.le_of_ble_eq_true rfl, Nat.le_of_ble_eq_true rfl⟩) rfl rfl (Nat.le_of_ble_eq_true rfl) dX5_write_95 ?_
  refine aw_i2l C dX5_write_98 ?_
  refine aw_last C (kd3a hk_x3) (ln3a hk_x3) hf dX5_write_99 (fun hf => ?_)
  refine aw_nmH hf (fun h2 hf => ?_)
  obtain ⟨v3, hvv3, hf⟩ := nm_ex hf
  refine aw_iinc (j := 5) (v := v3) (lv1 := [(6, .int v3), (0, .ref (ad 0)), (1, .int a1), (2, .int a2), (3, .ref (ad x3)), (4, .long x4)]) C dX5_write_100 rfl hvv3 (by decide) rfl ?_
  refine aw_goto (tgt := 76) C dX5_write_103 (by decide) ?_
  refine aw_sub [1, 2, 3, 4, 5, 0] rfl ?_
  exact H76 h2 x3 x4 v3 hk_x3 hf
set_option maxHeartbeats 4000000 in
set_option maxRecDepth 100000 in
theorem tX5_write_76  {a1 : Int32} {a2 : Int32} {r0 : Int32} {h0 : AH} (C : Cx p rmX5_write s m args meth c RX5 cX5_write 7 (some .int) wsX5_write D ad cy tb 0 0) : ∀ (n : Nat) (h : AH) (x3 : Nat) (x4 : Int64) (x6 : Int32), kd x3 = 3 → fX5_write_76 a1 a2 n h x3 x4 x6 = some (r0, h0) → AW p l e rmX5_write s m args below meth c 7 D ad cy 0 0 (Qi D ad cy below args s r0 h0) 76 [(0, .ref (ad 0)), (1, .int a1), (2, .int a2), (3, .ref (ad x3)), (4, .long x4), (6, .int x6)] [] h := by
  intro n
  induction n with
  | zero => intro h x3 x4 x6 hk_x3 hf; cases hf
  | succ n ih => intro h x3 x4 x6 hk_x3 hf; exact tX5_write_76b C  ih hk_x3 hf
set_option maxHeartbeats 4000000 in
set_option maxRecDepth 100000 in
theorem tX5_write_0 {h : AH} {a1 : Int32} {a2 : Int32} {r0 : Int32} {h0 : AH} (C : Cx p rmX5_write s m args meth c RX5 cX5_write 7 (some .int) wsX5_write D ad cy tb 0 0) (hf : fX5_write h a1 a2 = some (r0, h0)) : AW p l e rmX5_write s m args below meth c 7 D ad cy 0 0 (Qi D ad cy below args s r0 h0) 0 [(0, .ref (ad 0)), (1, .int a1), (2, .int a2)] [] h := by
  unfold fX5_write at hf
  refine aw_aload_n C dX5_write_0 rfl 0 rfl ?_
  refine aw_iload_n C dX5_write_1 rfl 1 rfl ?_
  obtain ⟨r1, hc, hf⟩ := bR_some hf
  refine aw_callVi (As := [.int a1]) (rest := []) C rfl (by decide) rfl (kX5_isBlock (l := l) (D := D) (ad := ad) (cy := cy) (tb := tb) C.2.2.2.2.2.2.2.2.1 hc) (fun ht _ => cwV 1 ht gX5_write_X5_isBlock rfl rfl rfl (by decide +kernel) ⟨Nat.le_of_ble_eq_true rfl, Nat.le_of_ble_eq_true rfl⟩) rfl rfl (Nat.le_of_ble_eq_true rfl) dX5_write_2 ?_
  refine aw_if_eq (tgt := 15) C dX5_write_5 (by decide) hf (fun hf => ?_) (fun hf => ?_)
  · refine aw_bipush (v := (-2)) C dX5_write_15 (by decide) ?_
    exact aw_iretW C dX5_write_17 hf
  refine aw_iload_n C dX5_write_8 rfl 2 rfl ?_
  obtain ⟨r2, hc, hf⟩ := bR_some hf
  refine aw_callSi (As := [.int a2]) (rest := []) C (kX5_isSheet (l := l) (D := D) (ad := ad) (cy := cy) (tb := tb) C.2.2.2.2.2.2.2.2.1 hc) (fun ht _ => va_cwS 1 ht gX5_write_X5_isSheet rfl rfl rfl (by decide +kernel) ⟨Nat.le_of_ble_eq_true rfl, Nat.le_of_ble_eq_true rfl⟩) rfl rfl (Nat.le_of_ble_eq_true rfl) dX5_write_9 ?_
  refine aw_if_ne (tgt := 18) C dX5_write_12 (by decide) hf (fun hf => ?_) (fun hf => ?_)
  · refine aw_aload_n C dX5_write_18 rfl 0 rfl ?_
    refine aw_get C (kd_lt rfl (by decide)) (ce_5 rfl) rfl hinX5_write_5 6 (by decide) rfl (by decide +kernel) rfl dX5_write_19 ?_
    refine aw_iload_n C dX5_write_22 rfl 2 rfl ?_
    refine aw_aald C hf dX5_write_23 (fun r3 hkr3 hf => ?_)
    refine aw_astore_n (lv1 := [(3, .ref (ad r3)), (0, .ref (ad 0)), (1, .int a1), (2, .int a2)]) C dX5_write_24 rfl (by decide) rfl ?_
    refine aw_aload_n C dX5_write_25 rfl 0 rfl ?_
    refine aw_getN (host := "StairCodes") C (kd_lt hkr3 (by decide)) (ce_3 hkr3) rfl hinX5_write_3 0 (by decide) rfl (by decide +kernel) rfl dX5_write_26 ?_
    refine aw_if_eq (tgt := 39) C dX5_write_29 (by decide) hf (fun hf => ?_) (fun hf => ?_)
    · refine aw_aload_n C dX5_write_39 rfl 1 rfl ?_
      refine aw_iload_n C dX5_write_40 rfl 2 rfl ?_
      obtain ⟨r4, hc, hf⟩ := bR_some hf
      refine aw_callVl (As := [.int a1]) (rest := []) C rfl (by decide) rfl (kX5_now (l := l) (D := D) (ad := ad) (cy := cy) (tb := tb) C.2.2.2.2.2.2.2.2.1 hc) (fun ht _ => cwV 1 ht gX5_write_X5_now rfl rfl rfl (by decide +kernel) ⟨Nat.le_of_ble_eq_true rfl, Nat.le_of_ble_eq_true rfl⟩) rfl rfl (Nat.le_of_ble_eq_true rfl) dX5_write_41 ?_
      refine aw_lstore (lv1 := [(4, .long r4), (3, .ref (ad r3)), (0, .ref (ad 0)), (1, .int a1), (2, .int a2)]) C dX5_write_44 (by decide) rfl ?_
      refine aw_aload_n C dX5_write_46 rfl 1 rfl ?_
      refine aw_getN (host := "StairCodes") C (kd_lt hkr3 (by decide)) (ce_3 hkr3) rfl hinX5_write_3 1 (by decide) rfl (by decide +kernel) rfl dX5_write_47 ?_
      refine aw_iconst (v := 1) C dX5_write_50 (by decide) ?_
      refine aw_icmp_ne (tgt := 73) C dX5_write_51 (by decide) hf (fun hf => ?_) (fun hf => ?_)
      · refine aw_iconst (v := 0) C dX5_write_73 (by decide) ?_
        refine aw_istore (lv1 := [(6, .int 0), (4, .long r4), (3, .ref (ad r3)), (0, .ref (ad 0)), (1, .int a1), (2, .int a2)]) C dX5_write_74 (by decide) rfl ?_
        refine aw_sub [3, 4, 5, 2, 1, 0] rfl ?_
        exact tX5_write_76 C   FU h r3 r4 0 hkr3 hf
      refine aw_aload_n C dX5_write_54 rfl 1 rfl ?_
      refine aw_getN (host := "StairCodes") C (kd_lt hkr3 (by decide)) (ce_3 hkr3) rfl hinX5_write_3 2 (by decide) rfl (by decide +kernel) rfl dX5_write_55 ?_
      refine aw_if_ne (tgt := 63) C dX5_write_58 (by decide) hf (fun hf => ?_) (fun hf => ?_)
      · refine aw_aload_n C dX5_write_63 rfl 1 rfl ?_
        refine aw_getN (host := "StairCodes") C (kd_lt hkr3 (by decide)) (ce_3 hkr3) rfl hinX5_write_3 3 (by decide) rfl (by decide +kernel) rfl dX5_write_64 ?_
        refine aw_iconst (v := 0) C dX5_write_67 (by decide) ?_
        refine aw_lload C dX5_write_68 0 rfl ?_
        refine aw_last C (kd3a hkr3) (ln3a hkr3) hf dX5_write_70 (fun hf => ?_)
        refine aw_nmH hf (fun h5 hf => ?_)
        refine aw_iconst (v := 1) C dX5_write_71 (by decide) ?_
        exact aw_iretW C dX5_write_72 hf
      refine aw_iconst (v := 0) C dX5_write_61 (by decide) ?_
      exact aw_iretW C dX5_write_62 hf
    refine aw_aload_n C dX5_write_32 rfl 1 rfl ?_
    refine aw_bipush (v := (-11)) C dX5_write_33 (by decide) ?_
    obtain ⟨r7, h6, hc, hf⟩ := bW_some hf
    refine aw_callVi (As := [.int (-11)]) (rest := []) C rfl (by decide) rfl (kX5_finding (l := l) (D := D) (ad := ad) (cy := cy) (tb := tb) C.2.2.2.2.2.2.2.2.1 hc) (fun ht _ => cwV 1 ht gX5_write_X5_finding rfl rfl rfl (by decide +kernel) ⟨Nat.le_of_ble_eq_true rfl, Nat.le_of_ble_eq_true rfl⟩) rfl rfl (Nat.le_of_ble_eq_true rfl) dX5_write_35 ?_
    exact aw_iretW C dX5_write_38 hf
  refine aw_bipush (v := (-2)) C dX5_write_15 (by decide) ?_
  exact aw_iretW C dX5_write_17 hf
theorem kX5_write {h : AH} {a1 : Int32} {a2 : Int32} {r0 : Int32} {h0 : AH} (hi : Inj ad) (hf : fX5_write h a1 a2 = some (r0, h0)) : Ki l yX5_write wsX5_write rmX5_write D ad cy tb [.ref (ad 0), .int a1, .int a2] h r0 h0 := met_i (lv := [(0, .ref (ad 0)), (1, .int a1), (2, .int a2)]) hi (by decide) rfl (Nat.le_of_ble_eq_true rfl) rfl rfl (fun _ _ _ _ _ _ _ _ C => tX5_write_0 C  hf)
