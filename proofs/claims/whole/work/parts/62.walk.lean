variable {p : Program} {l : Launch} {e : Env} {s : State} {m : MethodId} {args : Array Value} {below : List Frame} {meth : Method} {c : Code} {D : va_G} {ad : Nat → Nat} {cy : Nat → ClassId} {tb : Nat → Nat}
set_option maxRecDepth 20000 in
theorem ggX6_stallOf_X6_stateOf : GoodIn wsX6_stallOf wsX6_stateOf := goodIn_r _ [6, 7, 8, 9, 5, 10, 11, 12, 13, 14, 15, 16, 17, 18, 19, 20, 21, 22, 23, 24, 25, 26, 27, 28, 29, 30, 31, 32, 33, 34, 35, 36, 37, 38, 39, 40, 41, 42, 43, 44, 45] (by decide +kernel) (by decide +kernel)
set_option maxRecDepth 20000 in
theorem gX6_stallOf_X6_stateOf : GoodIn wsX6_stallOf (wsV RX6 141 RX6 yX6_stateOf wsX6_stateOf) := goodIn_app (goodIn_of _ (by decide +kernel)) ggX6_stallOf_X6_stateOf
theorem dX6_stallOf_0 : decode cX6_stallOf 0 = .ok (.iload_n 1, 1) := by decide +kernel
theorem dX6_stallOf_1 : decode cX6_stallOf 1 = .ok (.istore_n 2, 1) := by decide +kernel
theorem dX6_stallOf_2 : decode cX6_stallOf 2 = .ok (.bipush (-2), 2) := by decide +kernel
theorem dX6_stallOf_4 : decode cX6_stallOf 4 = .ok (.istore_n 3, 1) := by decide +kernel
theorem dX6_stallOf_5 : decode cX6_stallOf 5 = .ok (.iconst 1, 1) := by decide +kernel
theorem dX6_stallOf_6 : decode cX6_stallOf 6 = .ok (.istore 4, 2) := by decide +kernel
theorem dX6_stallOf_8 : decode cX6_stallOf 8 = .ok (.iload 4, 2) := by decide +kernel
theorem dX6_stallOf_10 : decode cX6_stallOf 10 = .ok (.aload_n 0, 1) := by decide +kernel
theorem dX6_stallOf_11 : decode cX6_stallOf 11 = .ok (.getfield 7, 3) := by decide +kernel
theorem dX6_stallOf_14 : decode cX6_stallOf 14 = .ok (.if_icmp .gt 79, 3) := by decide +kernel
theorem dX6_stallOf_17 : decode cX6_stallOf 17 = .ok (.iconst 0, 1) := by decide +kernel
theorem dX6_stallOf_18 : decode cX6_stallOf 18 = .ok (.istore 5, 2) := by decide +kernel
theorem dX6_stallOf_20 : decode cX6_stallOf 20 = .ok (.iload 5, 2) := by decide +kernel
theorem dX6_stallOf_22 : decode cX6_stallOf 22 = .ok (.bipush 8, 2) := by decide +kernel
theorem dX6_stallOf_24 : decode cX6_stallOf 24 = .ok (.if_icmp .ge 63, 3) := by decide +kernel
theorem dX6_stallOf_27 : decode cX6_stallOf 27 = .ok (.aload_n 0, 1) := by decide +kernel
theorem dX6_stallOf_28 : decode cX6_stallOf 28 = .ok (.iload 4, 2) := by decide +kernel
theorem dX6_stallOf_30 : decode cX6_stallOf 30 = .ok (.iload 5, 2) := by decide +kernel
theorem dX6_stallOf_32 : decode cX6_stallOf 32 = .ok (.invokevirtual 141, 3) := by decide +kernel
theorem dX6_stallOf_35 : decode cX6_stallOf 35 = .ok (.iconst 1, 1) := by decide +kernel
theorem dX6_stallOf_36 : decode cX6_stallOf 36 = .ok (.if_icmp .ne 7, 3) := by decide +kernel
theorem dX6_stallOf_39 : decode cX6_stallOf 39 = .ok (.iconst 1, 1) := by decide +kernel
theorem dX6_stallOf_40 : decode cX6_stallOf 40 = .ok (.goto 4, 3) := by decide +kernel
theorem dX6_stallOf_43 : decode cX6_stallOf 43 = .ok (.iconst 0, 1) := by decide +kernel
theorem dX6_stallOf_44 : decode cX6_stallOf 44 = .ok (.istore 6, 2) := by decide +kernel
theorem dX6_stallOf_46 : decode cX6_stallOf 46 = .ok (.iload 6, 2) := by decide +kernel
theorem dX6_stallOf_48 : decode cX6_stallOf 48 = .ok (.ifCond .eq 18, 3) := by decide +kernel
theorem dX6_stallOf_51 : decode cX6_stallOf 51 = .ok (.iload_n 2, 1) := by decide +kernel
theorem dX6_stallOf_52 : decode cX6_stallOf 52 = .ok (.ifCond .ne 14, 3) := by decide +kernel
theorem dX6_stallOf_55 : decode cX6_stallOf 55 = .ok (.bipush 8, 2) := by decide +kernel
theorem dX6_stallOf_57 : decode cX6_stallOf 57 = .ok (.iload 4, 2) := by decide +kernel
theorem dX6_stallOf_59 : decode cX6_stallOf 59 = .ok (.imul, 1) := by decide +kernel
theorem dX6_stallOf_60 : decode cX6_stallOf 60 = .ok (.iload 5, 2) := by decide +kernel
theorem dX6_stallOf_62 : decode cX6_stallOf 62 = .ok (.iadd, 1) := by decide +kernel
theorem dX6_stallOf_63 : decode cX6_stallOf 63 = .ok (.goto 4, 3) := by decide +kernel
theorem dX6_stallOf_66 : decode cX6_stallOf 66 = .ok (.iload_n 3, 1) := by decide +kernel
theorem dX6_stallOf_67 : decode cX6_stallOf 67 = .ok (.istore_n 3, 1) := by decide +kernel
theorem dX6_stallOf_68 : decode cX6_stallOf 68 = .ok (.iload_n 2, 1) := by decide +kernel
theorem dX6_stallOf_69 : decode cX6_stallOf 69 = .ok (.iload 6, 2) := by decide +kernel
theorem dX6_stallOf_71 : decode cX6_stallOf 71 = .ok (.ifCond .eq 7, 3) := by decide +kernel
theorem dX6_stallOf_74 : decode cX6_stallOf 74 = .ok (.iconst 1, 1) := by decide +kernel
theorem dX6_stallOf_75 : decode cX6_stallOf 75 = .ok (.goto 4, 3) := by decide +kernel
theorem dX6_stallOf_78 : decode cX6_stallOf 78 = .ok (.iconst 0, 1) := by decide +kernel
theorem dX6_stallOf_79 : decode cX6_stallOf 79 = .ok (.isub, 1) := by decide +kernel
theorem dX6_stallOf_80 : decode cX6_stallOf 80 = .ok (.istore_n 2, 1) := by decide +kernel
theorem dX6_stallOf_81 : decode cX6_stallOf 81 = .ok (.iinc 5 1, 3) := by decide +kernel
theorem dX6_stallOf_84 : decode cX6_stallOf 84 = .ok (.goto (-64), 3) := by decide +kernel
theorem dX6_stallOf_87 : decode cX6_stallOf 87 = .ok (.iinc 4 1, 3) := by decide +kernel
theorem dX6_stallOf_90 : decode cX6_stallOf 90 = .ok (.goto (-82), 3) := by decide +kernel
theorem dX6_stallOf_93 : decode cX6_stallOf 93 = .ok (.iload_n 3, 1) := by decide +kernel
theorem dX6_stallOf_94 : decode cX6_stallOf 94 = .ok (.ireturn, 1) := by decide +kernel
abbrev rmX6_stallOf : Room := { frames := 4, cells := 0, slots := 0, locals := 92 }
set_option maxRecDepth 100000 in
theorem hinX6_stallOf_6 : ∀ w ∈ wsX60, w ∈ wsX6_stallOf := by decide +kernel
set_option maxHeartbeats 4000000 in
set_option maxRecDepth 100000 in
theorem tX6_stallOf_79 {h : AH} {a1 : Int32} {k8 : Int32 → Int32 → Int32 → Option Int32} {k20 : Int32 → Int32 → Int32 → Int32 → Option Int32} {x3 : Int32} {x4 : Int32} {x5 : Int32} {s0 : Int32} {s1 : Int32} {r0 : Int32} (C : Cx p rmX6_stallOf s m args meth c RX6 cX6_stallOf 7 (some .int) wsX6_stallOf D ad cy tb 0 0) (H8 : ∀ (x2 : Int32) (x3 : Int32) (x4 : Int32), k8 x2 x3 x4 = some r0 → AW p l e rmX6_stallOf s m args below meth c 7 D ad cy 0 0 (Qi D ad cy below args s r0 h) 8 [(0, .ref (ad 29)), (1, .int a1), (2, .int x2), (3, .int x3), (4, .int x4)] [] h) (H20 : ∀ (x2 : Int32) (x3 : Int32) (x4 : Int32) (x5 : Int32), k20 x2 x3 x4 x5 = some r0 → AW p l e rmX6_stallOf s m args below meth c 7 D ad cy 0 0 (Qi D ad cy below args s r0 h) 20 [(0, .ref (ad 29)), (1, .int a1), (2, .int x2), (3, .int x3), (4, .int x4), (5, .int x5)] [] h) (hf : fX6_stallOf_79 k8 k20 h a1 x3 x4 x5 s0 s1 = some r0) : AW p l e rmX6_stallOf s m args below meth c 7 D ad cy 0 0 (Qi D ad cy below args s r0 h) 79 [(0, .ref (ad 29)), (1, .int a1), (3, .int x3), (4, .int x4), (5, .int x5)] [.int s1, .int s0] h := by
  unfold fX6_stallOf_79 at hf
  refine aw_isub C dX6_stallOf_79 ?_
  refine aw_nmI hf (fun v1 hf => ?_)
  refine aw_istore_n (lv1 := [(2, .int v1), (0, .ref (ad 29)), (1, .int a1), (3, .int x3), (4, .int x4), (5, .int x5)]) C dX6_stallOf_80 rfl (by decide) rfl ?_
  obtain ⟨v2, hvv2, hf⟩ := nm_ex hf
  refine aw_iinc (j := 5) (v := v2) (lv1 := [(5, .int v2), (2, .int v1), (0, .ref (ad 29)), (1, .int a1), (3, .int x3), (4, .int x4)]) C dX6_stallOf_81 rfl hvv2 (by decide) rfl ?_
  refine aw_goto (tgt := 20) C dX6_stallOf_84 (by decide) ?_
  refine aw_sub [2, 3, 1, 4, 5, 0] rfl ?_
  exact H20 v1 x3 x4 v2 hf
set_option maxHeartbeats 4000000 in
set_option maxRecDepth 100000 in
theorem tX6_stallOf_67 {h : AH} {a1 : Int32} {k8 : Int32 → Int32 → Int32 → Option Int32} {k20 : Int32 → Int32 → Int32 → Int32 → Option Int32} {x2 : Int32} {x4 : Int32} {x5 : Int32} {x6 : Int32} {s0 : Int32} {r0 : Int32} (C : Cx p rmX6_stallOf s m args meth c RX6 cX6_stallOf 7 (some .int) wsX6_stallOf D ad cy tb 0 0) (H8 : ∀ (x2 : Int32) (x3 : Int32) (x4 : Int32), k8 x2 x3 x4 = some r0 → AW p l e rmX6_stallOf s m args below meth c 7 D ad cy 0 0 (Qi D ad cy below args s r0 h) 8 [(0, .ref (ad 29)), (1, .int a1), (2, .int x2), (3, .int x3), (4, .int x4)] [] h) (H20 : ∀ (x2 : Int32) (x3 : Int32) (x4 : Int32) (x5 : Int32), k20 x2 x3 x4 x5 = some r0 → AW p l e rmX6_stallOf s m args below meth c 7 D ad cy 0 0 (Qi D ad cy below args s r0 h) 20 [(0, .ref (ad 29)), (1, .int a1), (2, .int x2), (3, .int x3), (4, .int x4), (5, .int x5)] [] h) (hf : fX6_stallOf_67 k8 k20 h a1 x2 x4 x5 x6 s0 = some r0) : AW p l e rmX6_stallOf s m args below meth c 7 D ad cy 0 0 (Qi D ad cy below args s r0 h) 67 [(0, .ref (ad 29)), (1, .int a1), (2, .int x2), (4, .int x4), (5, .int x5), (6, .int x6)] [.int s0] h := by
  unfold fX6_stallOf_67 at hf
  refine aw_istore_n (lv1 := [(3, .int s0), (0, .ref (ad 29)), (1, .int a1), (2, .int x2), (4, .int x4), (5, .int x5), (6, .int x6)]) C dX6_stallOf_67 rfl (by decide) rfl ?_
  refine aw_iload_n C dX6_stallOf_68 rfl 3 rfl ?_
  refine aw_iload C dX6_stallOf_69 6 rfl ?_
  refine aw_if_eq (tgt := 78) C dX6_stallOf_71 (by decide) hf (fun hf => ?_) (fun hf => ?_)
  · refine aw_iconst (v := 0) C dX6_stallOf_78 (by decide) ?_
    refine aw_sub [1, 2, 0, 4, 5] rfl ?_
    exact tX6_stallOf_79 C  H8 H20 hf
  refine aw_iconst (v := 1) C dX6_stallOf_74 (by decide) ?_
  refine aw_goto (tgt := 79) C dX6_stallOf_75 (by decide) ?_
  refine aw_sub [1, 2, 0, 4, 5] rfl ?_
  exact tX6_stallOf_79 C  H8 H20 hf
set_option maxHeartbeats 4000000 in
set_option maxRecDepth 100000 in
theorem tX6_stallOf_66 {h : AH} {a1 : Int32} {k8 : Int32 → Int32 → Int32 → Option Int32} {k20 : Int32 → Int32 → Int32 → Int32 → Option Int32} {x2 : Int32} {x3 : Int32} {x4 : Int32} {x5 : Int32} {x6 : Int32} {r0 : Int32} (C : Cx p rmX6_stallOf s m args meth c RX6 cX6_stallOf 7 (some .int) wsX6_stallOf D ad cy tb 0 0) (H8 : ∀ (x2 : Int32) (x3 : Int32) (x4 : Int32), k8 x2 x3 x4 = some r0 → AW p l e rmX6_stallOf s m args below meth c 7 D ad cy 0 0 (Qi D ad cy below args s r0 h) 8 [(0, .ref (ad 29)), (1, .int a1), (2, .int x2), (3, .int x3), (4, .int x4)] [] h) (H20 : ∀ (x2 : Int32) (x3 : Int32) (x4 : Int32) (x5 : Int32), k20 x2 x3 x4 x5 = some r0 → AW p l e rmX6_stallOf s m args below meth c 7 D ad cy 0 0 (Qi D ad cy below args s r0 h) 20 [(0, .ref (ad 29)), (1, .int a1), (2, .int x2), (3, .int x3), (4, .int x4), (5, .int x5)] [] h) (hf : fX6_stallOf_66 k8 k20 h a1 x2 x3 x4 x5 x6 = some r0) : AW p l e rmX6_stallOf s m args below meth c 7 D ad cy 0 0 (Qi D ad cy below args s r0 h) 66 [(0, .ref (ad 29)), (1, .int a1), (2, .int x2), (3, .int x3), (4, .int x4), (5, .int x5), (6, .int x6)] [] h := by
  unfold fX6_stallOf_66 at hf
  refine aw_iload_n C dX6_stallOf_66 rfl 3 rfl ?_
  refine aw_sub [0, 1, 2, 4, 5, 6] rfl ?_
  exact tX6_stallOf_67 C  H8 H20 hf
set_option maxHeartbeats 4000000 in
set_option maxRecDepth 100000 in
theorem tX6_stallOf_44 {h : AH} {a1 : Int32} {k8 : Int32 → Int32 → Int32 → Option Int32} {k20 : Int32 → Int32 → Int32 → Int32 → Option Int32} {x2 : Int32} {x3 : Int32} {x4 : Int32} {x5 : Int32} {s0 : Int32} {r0 : Int32} (C : Cx p rmX6_stallOf s m args meth c RX6 cX6_stallOf 7 (some .int) wsX6_stallOf D ad cy tb 0 0) (H8 : ∀ (x2 : Int32) (x3 : Int32) (x4 : Int32), k8 x2 x3 x4 = some r0 → AW p l e rmX6_stallOf s m args below meth c 7 D ad cy 0 0 (Qi D ad cy below args s r0 h) 8 [(0, .ref (ad 29)), (1, .int a1), (2, .int x2), (3, .int x3), (4, .int x4)] [] h) (H20 : ∀ (x2 : Int32) (x3 : Int32) (x4 : Int32) (x5 : Int32), k20 x2 x3 x4 x5 = some r0 → AW p l e rmX6_stallOf s m args below meth c 7 D ad cy 0 0 (Qi D ad cy below args s r0 h) 20 [(0, .ref (ad 29)), (1, .int a1), (2, .int x2), (3, .int x3), (4, .int x4), (5, .int x5)] [] h) (hf : fX6_stallOf_44 k8 k20 h a1 x2 x3 x4 x5 s0 = some r0) : AW p l e rmX6_stallOf s m args below meth c 7 D ad cy 0 0 (Qi D ad cy below args s r0 h) 44 [(0, .ref (ad 29)), (1, .int a1), (2, .int x2), (3, .int x3), (4, .int x4), (5, .int x5)] [.int s0] h := by
  unfold fX6_stallOf_44 at hf
  refine aw_istore (lv1 := [(6, .int s0), (0, .ref (ad 29)), (1, .int a1), (2, .int x2), (3, .int x3), (4, .int x4), (5, .int x5)]) C dX6_stallOf_44 (by decide) rfl ?_
  refine aw_iload C dX6_stallOf_46 0 rfl ?_
  refine aw_if_eq (tgt := 66) C dX6_stallOf_48 (by decide) hf (fun hf => ?_) (fun hf => ?_)
  · refine aw_sub [1, 2, 3, 4, 5, 6, 0] rfl ?_
    exact tX6_stallOf_66 C  H8 H20 hf
  refine aw_iload_n C dX6_stallOf_51 rfl 3 rfl ?_
  refine aw_if_ne (tgt := 66) C dX6_stallOf_52 (by decide) hf (fun hf => ?_) (fun hf => ?_)
  · refine aw_sub [1, 2, 3, 4, 5, 6, 0] rfl ?_
    exact tX6_stallOf_66 C  H8 H20 hf
  refine aw_bipush (v := 8) C dX6_stallOf_55 (by decide) ?_
  refine aw_iload C dX6_stallOf_57 5 rfl ?_
  refine aw_imul C dX6_stallOf_59 ?_
  refine aw_iload C dX6_stallOf_60 6 rfl ?_
  refine aw_iadd C dX6_stallOf_62 ?_
  refine aw_goto (tgt := 67) C dX6_stallOf_63 (by decide) ?_
  refine aw_sub [1, 2, 3, 5, 6, 0] rfl ?_
  exact tX6_stallOf_67 C  H8 H20 hf
set_option maxHeartbeats 4000000 in
set_option maxRecDepth 100000 in
theorem tX6_stallOf_20b {h : AH} {a1 : Int32} {k8 : Int32 → Int32 → Int32 → Option Int32} {k20 : Int32 → Int32 → Int32 → Int32 → Option Int32} {x2 : Int32} {x3 : Int32} {x4 : Int32} {x5 : Int32} {r0 : Int32} (C : Cx p rmX6_stallOf s m args meth c RX6 cX6_stallOf 7 (some .int) wsX6_stallOf D ad cy tb 0 0) (H8 : ∀ (x2 : Int32) (x3 : Int32) (x4 : Int32), k8 x2 x3 x4 = some r0 → AW p l e rmX6_stallOf s m args below meth c 7 D ad cy 0 0 (Qi D ad cy below args s r0 h) 8 [(0, .ref (ad 29)), (1, .int a1), (2, .int x2), (3, .int x3), (4, .int x4)] [] h) (H20 : ∀ (x2 : Int32) (x3 : Int32) (x4 : Int32) (x5 : Int32), k20 x2 x3 x4 x5 = some r0 → AW p l e rmX6_stallOf s m args below meth c 7 D ad cy 0 0 (Qi D ad cy below args s r0 h) 20 [(0, .ref (ad 29)), (1, .int a1), (2, .int x2), (3, .int x3), (4, .int x4), (5, .int x5)] [] h) (hf : fX6_stallOf_20b k8 k20 h a1 x2 x3 x4 x5 = some r0) : AW p l e rmX6_stallOf s m args below meth c 7 D ad cy 0 0 (Qi D ad cy below args s r0 h) 20 [(0, .ref (ad 29)), (1, .int a1), (2, .int x2), (3, .int x3), (4, .int x4), (5, .int x5)] [] h := by
  unfold fX6_stallOf_20b at hf
  refine aw_iload C dX6_stallOf_20 5 rfl ?_
  refine aw_bipush (v := 8) C dX6_stallOf_22 (by decide) ?_
  refine aw_icmp_ge (tgt := 87) C dX6_stallOf_24 (by decide) hf (fun hf => ?_) (fun hf => ?_)
  · obtain ⟨v1, hvv1, hf⟩ := nm_ex hf
    refine aw_iinc (j := 4) (v := v1) (lv1 := [(4, .int v1), (0, .ref (ad 29)), (1, .int a1), (2, .int x2), (3, .int x3), (5, .int x5)]) C dX6_stallOf_87 rfl hvv1 (by decide) rfl ?_
    refine aw_goto (tgt := 8) C dX6_stallOf_90 (by decide) ?_
    refine aw_sub [1, 2, 3, 4, 0] rfl ?_
    exact H8 x2 x3 v1 hf
  refine aw_aload_n C dX6_stallOf_27 rfl 0 rfl ?_
  refine aw_iload C dX6_stallOf_28 4 rfl ?_
  refine aw_iload C dX6_stallOf_30 5 rfl ?_
  obtain ⟨r2, hc, hf⟩ := bR_some hf
  refine aw_callVi (As := [.int x4, .int x5]) (rest := []) C rfl (by decide) rfl (kX6_stateOf (l := l) (D := D) (ad := ad) (cy := cy) (tb := tb) C.2.2.2.2.2.2.2.2.1 hc) (fun ht _ => cwV 2 ht gX6_stallOf_X6_stateOf rfl rfl rfl (by decide +kernel) ⟨Nat.le_of_ble_eq_true rfl, Nat.le_of_ble_eq_true rfl⟩) rfl rfl (Nat.le_of_ble_eq_true rfl) dX6_stallOf_32 ?_
  refine aw_iconst (v := 1) C dX6_stallOf_35 (by decide) ?_
  refine aw_icmp_ne (tgt := 43) C dX6_stallOf_36 (by decide) hf (fun hf => ?_) (fun hf => ?_)
  · refine aw_iconst (v := 0) C dX6_stallOf_43 (by decide) ?_
    refine aw_sub [0, 1, 2, 3, 4, 5] rfl ?_
    exact tX6_stallOf_44 C  H8 H20 hf
  refine aw_iconst (v := 1) C dX6_stallOf_39 (by decide) ?_
  refine aw_goto (tgt := 44) C dX6_stallOf_40 (by decide) ?_
  refine aw_sub [0, 1, 2, 3, 4, 5] rfl ?_
  exact tX6_stallOf_44 C  H8 H20 hf
set_option maxHeartbeats 4000000 in
set_option maxRecDepth 100000 in
theorem tX6_stallOf_20 {h : AH} {a1 : Int32} {k8 : Int32 → Int32 → Int32 → Option Int32} {r0 : Int32} (C : Cx p rmX6_stallOf s m args meth c RX6 cX6_stallOf 7 (some .int) wsX6_stallOf D ad cy tb 0 0) (H8 : ∀ (x2 : Int32) (x3 : Int32) (x4 : Int32), k8 x2 x3 x4 = some r0 → AW p l e rmX6_stallOf s m args below meth c 7 D ad cy 0 0 (Qi D ad cy below args s r0 h) 8 [(0, .ref (ad 29)), (1, .int a1), (2, .int x2), (3, .int x3), (4, .int x4)] [] h) : ∀ (n : Nat) (x2 : Int32) (x3 : Int32) (x4 : Int32) (x5 : Int32), fX6_stallOf_20 k8 h a1 n x2 x3 x4 x5 = some r0 → AW p l e rmX6_stallOf s m args below meth c 7 D ad cy 0 0 (Qi D ad cy below args s r0 h) 20 [(0, .ref (ad 29)), (1, .int a1), (2, .int x2), (3, .int x3), (4, .int x4), (5, .int x5)] [] h := by
  intro n
  induction n with
  | zero => intro x2 x3 x4 x5 hf; cases hf
  | succ n ih => intro x2 x3 x4 x5 hf; exact tX6_stallOf_20b C  H8 ih  hf
set_option maxHeartbeats 4000000 in
set_option maxRecDepth 100000 in
theorem tX6_stallOf_8b {h : AH} {a1 : Int32} {k8 : Int32 → Int32 → Int32 → Option Int32} {x2 : Int32} {x3 : Int32} {x4 : Int32} {r0 : Int32} (C : Cx p rmX6_stallOf s m args meth c RX6 cX6_stallOf 7 (some .int) wsX6_stallOf D ad cy tb 0 0) (H8 : ∀ (x2 : Int32) (x3 : Int32) (x4 : Int32), k8 x2 x3 x4 = some r0 → AW p l e rmX6_stallOf s m args below meth c 7 D ad cy 0 0 (Qi D ad cy below args s r0 h) 8 [(0, .ref (ad 29)), (1, .int a1), (2, .int x2), (3, .int x3), (4, .int x4)] [] h) (hf : fX6_stallOf_8b k8 h a1 x2 x3 x4 = some r0) : AW p l e rmX6_stallOf s m args below meth c 7 D ad cy 0 0 (Qi D ad cy below args s r0 h) 8 [(0, .ref (ad 29)), (1, .int a1), (2, .int x2), (3, .int x3), (4, .int x4)] [] h := by
  unfold fX6_stallOf_8b at hf
  refine aw_iload C dX6_stallOf_8 4 rfl ?_
  refine aw_aload_n C dX6_stallOf_10 rfl 0 rfl ?_
  refine aw_get C (kd_lt rfl (by decide)) (ce_6 rfl) rfl hinX6_stallOf_6 0 (by decide) rfl (by decide +kernel) rfl dX6_stallOf_11 ?_
  refine aw_icmp_gt (tgt := 93) C dX6_stallOf_14 (by decide) hf (fun hf => ?_) (fun hf => ?_)
  · refine aw_iload_n C dX6_stallOf_93 rfl 3 rfl ?_
    exact aw_iretR C dX6_stallOf_94 hf
  refine aw_iconst (v := 0) C dX6_stallOf_17 (by decide) ?_
  refine aw_istore (lv1 := [(5, .int 0), (0, .ref (ad 29)), (1, .int a1), (2, .int x2), (3, .int x3), (4, .int x4)]) C dX6_stallOf_18 (by decide) rfl ?_
  refine aw_sub [1, 2, 3, 4, 5, 0] rfl ?_
  exact tX6_stallOf_20 C  H8 FU x2 x3 x4 0 hf
set_option maxHeartbeats 4000000 in
set_option maxRecDepth 100000 in
theorem tX6_stallOf_8 {h : AH} {a1 : Int32} {r0 : Int32} (C : Cx p rmX6_stallOf s m args meth c RX6 cX6_stallOf 7 (some .int) wsX6_stallOf D ad cy tb 0 0) : ∀ (n : Nat) (x2 : Int32) (x3 : Int32) (x4 : Int32), fX6_stallOf_8 h a1 n x2 x3 x4 = some r0 → AW p l e rmX6_stallOf s m args below meth c 7 D ad cy 0 0 (Qi D ad cy below args s r0 h) 8 [(0, .ref (ad 29)), (1, .int a1), (2, .int x2), (3, .int x3), (4, .int x4)] [] h := by
  intro n
  induction n with
  | zero => intro x2 x3 x4 hf; cases hf
  | succ n ih => intro x2 x3 x4 hf; exact tX6_stallOf_8b C  ih  hf
set_option maxHeartbeats 4000000 in
set_option maxRecDepth 100000 in
theorem tX6_stallOf_0 {h : AH} {a1 : Int32} {r0 : Int32} (C : Cx p rmX6_stallOf s m args meth c RX6 cX6_stallOf 7 (some .int) wsX6_stallOf D ad cy tb 0 0) (hf : fX6_stallOf h a1 = some r0) : AW p l e rmX6_stallOf s m args below meth c 7 D ad cy 0 0 (Qi D ad cy below args s r0 h) 0 [(0, .ref (ad 29)), (1, .int a1)] [] h := by
  unfold fX6_stallOf at hf
  refine aw_iload_n C dX6_stallOf_0 rfl 1 rfl ?_
  refine aw_istore_n (lv1 := [(2, .int a1), (0, .ref (ad 29)), (1, .int a1)]) C dX6_stallOf_1 rfl (by decide) rfl ?_
  refine aw_bipush (v := (-2)) C dX6_stallOf_2 (by decide) ?_
  refine aw_nmI hf (fun v1 hf => ?_)
  refine aw_istore_n (lv1 := [(3, .int v1), (2, .int a1), (0, .ref (ad 29)), (1, .int a1)]) C dX6_stallOf_4 rfl (by decide) rfl ?_
  refine aw_iconst (v := 1) C dX6_stallOf_5 (by decide) ?_
  refine aw_istore (lv1 := [(4, .int 1), (3, .int v1), (2, .int a1), (0, .ref (ad 29)), (1, .int a1)]) C dX6_stallOf_6 (by decide) rfl ?_
  refine aw_sub [3, 4, 2, 1, 0] rfl ?_
  exact tX6_stallOf_8 C   FU a1 v1 1 hf
theorem kX6_stallOf {h : AH} {a1 : Int32} {r0 : Int32} (hi : Inj ad) (hf : fX6_stallOf h a1 = some r0) : Ki l yX6_stallOf wsX6_stallOf rmX6_stallOf D ad cy tb [.ref (ad 29), .int a1] h r0 h := met_i (lv := [(0, .ref (ad 29)), (1, .int a1)]) hi (by decide) rfl (Nat.le_of_ble_eq_true rfl) rfl rfl (fun _ _ _ _ _ _ _ _ C => tX6_stallOf_0 C  hf)
set_option maxRecDepth 20000 in
theorem ggX6_stall_X6_stallOf : GoodIn wsX6_stall wsX6_stallOf := goodIn_r _ [5, 6, 7, 8, 9, 4, 10, 11, 12, 13, 14, 15, 16, 17, 18, 19, 20, 21, 22, 23, 24, 25, 26, 27, 28, 29, 30, 31, 32, 33, 34, 35, 36, 37, 38, 39, 40, 41, 42, 43, 44, 45, 46, 47, 48, 49] (by decide +kernel) (by decide +kernel)
set_option maxRecDepth 20000 in
theorem gX6_stall_X6_stallOf : GoodIn wsX6_stall (wsV RX6 169 RX6 yX6_stallOf wsX6_stallOf) := goodIn_app (goodIn_of _ (by decide +kernel)) ggX6_stall_X6_stallOf
theorem dX6_stall_0 : decode cX6_stall 0 = .ok (.iload_n 1, 1) := by decide +kernel
theorem dX6_stall_1 : decode cX6_stall 1 = .ok (.ifCond .ge 8, 3) := by decide +kernel
theorem dX6_stall_4 : decode cX6_stall 4 = .ok (.bipush (-2), 2) := by decide +kernel
theorem dX6_stall_6 : decode cX6_stall 6 = .ok (.goto 8, 3) := by decide +kernel
theorem dX6_stall_9 : decode cX6_stall 9 = .ok (.aload_n 0, 1) := by decide +kernel
theorem dX6_stall_10 : decode cX6_stall 10 = .ok (.iload_n 1, 1) := by decide +kernel
theorem dX6_stall_11 : decode cX6_stall 11 = .ok (.invokevirtual 169, 3) := by decide +kernel
theorem dX6_stall_14 : decode cX6_stall 14 = .ok (.ireturn, 1) := by decide +kernel
abbrev rmX6_stall : Room := { frames := 5, cells := 0, slots := 0, locals := 118 }
set_option maxHeartbeats 4000000 in
set_option maxRecDepth 100000 in
theorem tX6_stall_0 {h : AH} {a1 : Int32} {r0 : Int32} (C : Cx p rmX6_stall s m args meth c RX6 cX6_stall 2 (some .int) wsX6_stall D ad cy tb 0 0) (hf : fX6_stall h a1 = some r0) : AW p l e rmX6_stall s m args below meth c 2 D ad cy 0 0 (Qi D ad cy below args s r0 h) 0 [(0, .ref (ad 29)), (1, .int a1)] [] h := by
  unfold fX6_stall at hf
  refine aw_iload_n C dX6_stall_0 rfl 1 rfl ?_
  refine aw_if_ge (tgt := 9) C dX6_stall_1 (by decide) hf (fun hf => ?_) (fun hf => ?_)
  · refine aw_aload_n C dX6_stall_9 rfl 0 rfl ?_
    refine aw_iload_n C dX6_stall_10 rfl 1 rfl ?_
    obtain ⟨r1, hc, hf⟩ := bR_some hf
    refine aw_callVi (As := [.int a1]) (rest := []) C rfl (by decide) rfl (kX6_stallOf (l := l) (D := D) (ad := ad) (cy := cy) (tb := tb) C.2.2.2.2.2.2.2.2.1 hc) (fun ht _ => cwV 1 ht gX6_stall_X6_stallOf rfl rfl rfl (by decide +kernel) ⟨Nat.le_of_ble_eq_true rfl, Nat.le_of_ble_eq_true rfl⟩) rfl rfl (Nat.le_of_ble_eq_true rfl) dX6_stall_11 ?_
    exact aw_iretR C dX6_stall_14 hf
  refine aw_bipush (v := (-2)) C dX6_stall_4 (by decide) ?_
  refine aw_goto (tgt := 14) C dX6_stall_6 (by decide) ?_
  exact aw_iretR C dX6_stall_14 hf
theorem kX6_stall {h : AH} {a1 : Int32} {r0 : Int32} (hi : Inj ad) (hf : fX6_stall h a1 = some r0) : Ki l yX6_stall wsX6_stall rmX6_stall D ad cy tb [.ref (ad 29), .int a1] h r0 h := met_i (lv := [(0, .ref (ad 29)), (1, .int a1)]) hi (by decide) rfl (Nat.le_of_ble_eq_true rfl) rfl rfl (fun _ _ _ _ _ _ _ _ C => tX6_stall_0 C  hf)
theorem dX1_reach_0 : decode cX1_reach 0 = .ok (.aload_n 0, 1) := by decide +kernel
theorem dX1_reach_1 : decode cX1_reach 1 = .ok (.getfield 24, 3) := by decide +kernel
theorem dX1_reach_4 : decode cX1_reach 4 = .ok (.iload_n 1, 1) := by decide +kernel
theorem dX1_reach_5 : decode cX1_reach 5 = .ok (.baload, 1) := by decide +kernel
theorem dX1_reach_6 : decode cX1_reach 6 = .ok (.ifCond .ne 30, 3) := by decide +kernel
theorem dX1_reach_9 : decode cX1_reach 9 = .ok (.aload_n 0, 1) := by decide +kernel
theorem dX1_reach_10 : decode cX1_reach 10 = .ok (.getfield 24, 3) := by decide +kernel
theorem dX1_reach_13 : decode cX1_reach 13 = .ok (.iload_n 1, 1) := by decide +kernel
theorem dX1_reach_14 : decode cX1_reach 14 = .ok (.iconst 1, 1) := by decide +kernel
theorem dX1_reach_15 : decode cX1_reach 15 = .ok (.bastore, 1) := by decide +kernel
theorem dX1_reach_16 : decode cX1_reach 16 = .ok (.aload_n 0, 1) := by decide +kernel
theorem dX1_reach_17 : decode cX1_reach 17 = .ok (.getfield 28, 3) := by decide +kernel
theorem dX1_reach_20 : decode cX1_reach 20 = .ok (.aload_n 0, 1) := by decide +kernel
theorem dX1_reach_21 : decode cX1_reach 21 = .ok (.getfield 54, 3) := by decide +kernel
theorem dX1_reach_24 : decode cX1_reach 24 = .ok (.iload_n 1, 1) := by decide +kernel
theorem dX1_reach_25 : decode cX1_reach 25 = .ok (.iastore, 1) := by decide +kernel
theorem dX1_reach_26 : decode cX1_reach 26 = .ok (.aload_n 0, 1) := by decide +kernel
theorem dX1_reach_27 : decode cX1_reach 27 = .ok (.dup, 1) := by decide +kernel
theorem dX1_reach_28 : decode cX1_reach 28 = .ok (.getfield 54, 3) := by decide +kernel
theorem dX1_reach_31 : decode cX1_reach 31 = .ok (.iconst 1, 1) := by decide +kernel
theorem dX1_reach_32 : decode cX1_reach 32 = .ok (.iadd, 1) := by decide +kernel
theorem dX1_reach_33 : decode cX1_reach 33 = .ok (.putfield 54, 3) := by decide +kernel
theorem dX1_reach_36 : decode cX1_reach 36 = .ok (.return_, 1) := by decide +kernel
abbrev rmX1_reach : Room := { frames := 0, cells := 0, slots := 0, locals := 0 }
set_option maxRecDepth 100000 in
theorem hinX1_reach_1 : ∀ w ∈ wsX10, w ∈ wsX1_reach := by decide +kernel
set_option maxHeartbeats 4000000 in
set_option maxRecDepth 100000 in
theorem tX1_reach_0 {h : AH} {a1 : Int32} {h0 : AH} (C : Cx p rmX1_reach s m args meth c RX1 cX1_reach 2 none wsX1_reach D ad cy tb 0 0) (hf : fX1_reach h a1 = some h0) : AW p l e rmX1_reach s m args below meth c 2 D ad cy 0 0 (Qv D ad cy below args s h0) 0 [(0, .ref (ad 13)), (1, .int a1)] [] h := by
  unfold fX1_reach at hf
  refine aw_aload_n C dX1_reach_0 rfl 0 rfl ?_
  refine aw_get C (kd_lt rfl (by decide)) (ce_1 rfl) rfl hinX1_reach_1 5 (by decide) rfl (by decide +kernel) rfl dX1_reach_1 ?_
  refine aw_iload_n C dX1_reach_4 rfl 1 rfl ?_
  refine aw_zald C rfl rfl hf dX1_reach_5 (fun hf => ?_)
  refine aw_if_ne (tgt := 36) C dX1_reach_6 (by decide) hf (fun hf => ?_) (fun hf => ?_)
  · exact aw_vret C dX1_reach_36 hf
  refine aw_aload_n C dX1_reach_9 rfl 0 rfl ?_
  refine aw_get C (kd_lt rfl (by decide)) (ce_1 rfl) rfl hinX1_reach_1 5 (by decide) rfl (by decide +kernel) rfl dX1_reach_10 ?_
  refine aw_iload_n C dX1_reach_13 rfl 1 rfl ?_
  refine aw_iconst (v := 1) C dX1_reach_14 (by decide) ?_
  refine aw_zast C rfl rfl hf dX1_reach_15 (fun hf => ?_)
  refine aw_nmH hf (fun h1 hf => ?_)
  refine aw_aload_n C dX1_reach_16 rfl 0 rfl ?_
  refine aw_get C (kd_lt rfl (by decide)) (ce_1 rfl) rfl hinX1_reach_1 6 (by decide) rfl (by decide +kernel) rfl dX1_reach_17 ?_
  refine aw_aload_n C dX1_reach_20 rfl 0 rfl ?_
  refine aw_get C (kd_lt rfl (by decide)) (ce_1 rfl) rfl hinX1_reach_1 7 (by decide) rfl (by decide +kernel) rfl dX1_reach_21 ?_
  refine aw_iload_n C dX1_reach_24 rfl 1 rfl ?_
  refine aw_nm2 hf (fun v2 hf => ?_)
  refine aw_iast C rfl rfl hf dX1_reach_25 (fun hf => ?_)
  refine aw_nmH hf (fun h3 hf => ?_)
  refine aw_aload_n C dX1_reach_26 rfl 0 rfl ?_
  refine aw_dup C dX1_reach_27 rfl ?_
  refine aw_get C (kd_lt rfl (by decide)) (ce_1 rfl) rfl hinX1_reach_1 7 (by decide) rfl (by decide +kernel) rfl dX1_reach_28 ?_
  refine aw_iconst (v := 1) C dX1_reach_31 (by decide) ?_
  refine aw_iadd C dX1_reach_32 ?_
  refine aw_put (ty := .int) C (kd_lt rfl (by decide)) (ce_1 rfl) rfl hinX1_reach_1 tyX1 tyX1_ok nmX1 7 (by decide) rfl (by decide +kernel) rfl (by decide +kernel) rfl rfl (Nat.le_of_ble_eq_true rfl) (cs_1_7 rfl) dX1_reach_33 ?_
  refine aw_nmH hf (fun h4 hf => ?_)
  exact aw_vret C dX1_reach_36 hf
theorem kX1_reach {h : AH} {a1 : Int32} {h0 : AH} (hi : Inj ad) (hf : fX1_reach h a1 = some h0) : Kv l yX1_reach wsX1_reach rmX1_reach D ad cy tb [.ref (ad 13), .int a1] h h0 := met_v (lv := [(0, .ref (ad 13)), (1, .int a1)]) hi (by decide) rfl (Nat.le_of_ble_eq_true rfl) rfl rfl (fun _ _ _ _ _ _ _ _ C => tX1_reach_0 C  hf)
set_option maxRecDepth 20000 in
theorem ggX1_reachNeighbours_X4_wrongRow : GoodIn wsX1_reachNeighbours wsX4_wrongRow := goodIn_r _ [5, 6, 7, 8, 9, 25, 26, 27] (by decide +kernel) (by decide +kernel)
set_option maxRecDepth 20000 in
theorem gX1_reachNeighbours_X4_wrongRow : GoodIn wsX1_reachNeighbours (wsV RX1 41 RX4 yX4_wrongRow wsX4_wrongRow) := goodIn_app (goodIn_of _ (by decide +kernel)) ggX1_reachNeighbours_X4_wrongRow
set_option maxRecDepth 20000 in
theorem ggX1_reachNeighbours_X4_wrongColumn : GoodIn wsX1_reachNeighbours wsX4_wrongColumn := goodIn_r _ [13, 6, 14, 25, 26, 27] (by decide +kernel) (by decide +kernel)
set_option maxRecDepth 20000 in
theorem gX1_reachNeighbours_X4_wrongColumn : GoodIn wsX1_reachNeighbours (wsV RX1 70 RX4 yX4_wrongColumn wsX4_wrongColumn) := goodIn_app (goodIn_of _ (by decide +kernel)) ggX1_reachNeighbours_X4_wrongColumn
set_option maxRecDepth 20000 in
theorem ggX1_reachNeighbours_X1_reach : GoodIn wsX1_reachNeighbours wsX1_reach := goodIn_r _ [19, 20, 21, 22, 28, 29, 30, 31, 32, 33, 34, 35] (by decide +kernel) (by decide +kernel)
set_option maxRecDepth 20000 in
theorem gX1_reachNeighbours_X1_reach : GoodIn wsX1_reachNeighbours (wsV RX1 57 RX1 yX1_reach wsX1_reach) := goodIn_app (goodIn_of _ (by decide +kernel)) ggX1_reachNeighbours_X1_reach
set_option maxRecDepth 20000 in
theorem ggX1_reachNeighbours_X5_bitOf : GoodIn wsX1_reachNeighbours wsX5_bitOf := goodIn_r _ [24] (by decide +kernel) (by decide +kernel)
set_option maxRecDepth 20000 in
theorem gX1_reachNeighbours_X5_bitOf_n74 : GoodIn wsX1_reachNeighbours (wsX5_bitOf) := ggX1_reachNeighbours_X5_bitOf
theorem dX1_reachNeighbours_0 : decode cX1_reachNeighbours 0 = .ok (.iload_n 2, 1) := by decide +kernel
theorem dX1_reachNeighbours_1 : decode cX1_reachNeighbours 1 = .ok (.iconst 3, 1) := by decide +kernel
theorem dX1_reachNeighbours_2 : decode cX1_reachNeighbours 2 = .ok (.ishr, 1) := by decide +kernel
theorem dX1_reachNeighbours_3 : decode cX1_reachNeighbours 3 = .ok (.istore_n 3, 1) := by decide +kernel
theorem dX1_reachNeighbours_4 : decode cX1_reachNeighbours 4 = .ok (.iload_n 3, 1) := by decide +kernel
theorem dX1_reachNeighbours_5 : decode cX1_reachNeighbours 5 = .ok (.aload_n 1, 1) := by decide +kernel
theorem dX1_reachNeighbours_6 : decode cX1_reachNeighbours 6 = .ok (.getfield 67, 3) := by decide +kernel
theorem dX1_reachNeighbours_9 : decode cX1_reachNeighbours 9 = .ok (.if_icmp .ge 11, 3) := by decide +kernel
theorem dX1_reachNeighbours_12 : decode cX1_reachNeighbours 12 = .ok (.aload_n 1, 1) := by decide +kernel
theorem dX1_reachNeighbours_13 : decode cX1_reachNeighbours 13 = .ok (.iload_n 2, 1) := by decide +kernel
theorem dX1_reachNeighbours_14 : decode cX1_reachNeighbours 14 = .ok (.invokevirtual 41, 3) := by decide +kernel
theorem dX1_reachNeighbours_17 : decode cX1_reachNeighbours 17 = .ok (.goto 4, 3) := by decide +kernel
theorem dX1_reachNeighbours_20 : decode cX1_reachNeighbours 20 = .ok (.iconst 0, 1) := by decide +kernel
theorem dX1_reachNeighbours_21 : decode cX1_reachNeighbours 21 = .ok (.istore 4, 2) := by decide +kernel
theorem dX1_reachNeighbours_23 : decode cX1_reachNeighbours 23 = .ok (.aload_n 1, 1) := by decide +kernel
theorem dX1_reachNeighbours_24 : decode cX1_reachNeighbours 24 = .ok (.iload_n 2, 1) := by decide +kernel
theorem dX1_reachNeighbours_25 : decode cX1_reachNeighbours 25 = .ok (.invokevirtual 70, 3) := by decide +kernel
theorem dX1_reachNeighbours_28 : decode cX1_reachNeighbours 28 = .ok (.iload_n 2, 1) := by decide +kernel
theorem dX1_reachNeighbours_29 : decode cX1_reachNeighbours 29 = .ok (.bipush 7, 2) := by decide +kernel
theorem dX1_reachNeighbours_31 : decode cX1_reachNeighbours 31 = .ok (.iand, 1) := by decide +kernel
theorem dX1_reachNeighbours_32 : decode cX1_reachNeighbours 32 = .ok (.lushr, 1) := by decide +kernel
theorem dX1_reachNeighbours_33 : decode cX1_reachNeighbours 33 = .ok (.lstore 5, 2) := by decide +kernel
theorem dX1_reachNeighbours_35 : decode cX1_reachNeighbours 35 = .ok (.iconst 0, 1) := by decide +kernel
theorem dX1_reachNeighbours_36 : decode cX1_reachNeighbours 36 = .ok (.istore 7, 2) := by decide +kernel
theorem dX1_reachNeighbours_38 : decode cX1_reachNeighbours 38 = .ok (.iload 7, 2) := by decide +kernel
theorem dX1_reachNeighbours_40 : decode cX1_reachNeighbours 40 = .ok (.bipush 8, 2) := by decide +kernel
theorem dX1_reachNeighbours_42 : decode cX1_reachNeighbours 42 = .ok (.if_icmp .ge 58, 3) := by decide +kernel
theorem dX1_reachNeighbours_45 : decode cX1_reachNeighbours 45 = .ok (.iload 4, 2) := by decide +kernel
theorem dX1_reachNeighbours_47 : decode cX1_reachNeighbours 47 = .ok (.iload 7, 2) := by decide +kernel
theorem dX1_reachNeighbours_49 : decode cX1_reachNeighbours 49 = .ok (.ishr, 1) := by decide +kernel
theorem dX1_reachNeighbours_50 : decode cX1_reachNeighbours 50 = .ok (.iconst 1, 1) := by decide +kernel
theorem dX1_reachNeighbours_51 : decode cX1_reachNeighbours 51 = .ok (.iand, 1) := by decide +kernel
theorem dX1_reachNeighbours_52 : decode cX1_reachNeighbours 52 = .ok (.ifCond .eq 16, 3) := by decide +kernel
theorem dX1_reachNeighbours_55 : decode cX1_reachNeighbours 55 = .ok (.aload_n 0, 1) := by decide +kernel
theorem dX1_reachNeighbours_56 : decode cX1_reachNeighbours 56 = .ok (.bipush 8, 2) := by decide +kernel
theorem dX1_reachNeighbours_58 : decode cX1_reachNeighbours 58 = .ok (.iload_n 3, 1) := by decide +kernel
theorem dX1_reachNeighbours_59 : decode cX1_reachNeighbours 59 = .ok (.iconst 1, 1) := by decide +kernel
theorem dX1_reachNeighbours_60 : decode cX1_reachNeighbours 60 = .ok (.iadd, 1) := by decide +kernel
theorem dX1_reachNeighbours_61 : decode cX1_reachNeighbours 61 = .ok (.imul, 1) := by decide +kernel
theorem dX1_reachNeighbours_62 : decode cX1_reachNeighbours 62 = .ok (.iload 7, 2) := by decide +kernel
theorem dX1_reachNeighbours_64 : decode cX1_reachNeighbours 64 = .ok (.iadd, 1) := by decide +kernel
theorem dX1_reachNeighbours_65 : decode cX1_reachNeighbours 65 = .ok (.invokevirtual 57, 3) := by decide +kernel
theorem dX1_reachNeighbours_68 : decode cX1_reachNeighbours 68 = .ok (.lload 5, 2) := by decide +kernel
theorem dX1_reachNeighbours_70 : decode cX1_reachNeighbours 70 = .ok (.bipush 8, 2) := by decide +kernel
theorem dX1_reachNeighbours_72 : decode cX1_reachNeighbours 72 = .ok (.iload 7, 2) := by decide +kernel
theorem dX1_reachNeighbours_74 : decode cX1_reachNeighbours 74 = .ok (.imul, 1) := by decide +kernel
theorem dX1_reachNeighbours_75 : decode cX1_reachNeighbours 75 = .ok (.invokestatic 74, 3) := by decide +kernel
theorem dX1_reachNeighbours_78 : decode cX1_reachNeighbours 78 = .ok (.ifCond .eq 16, 3) := by decide +kernel
theorem dX1_reachNeighbours_81 : decode cX1_reachNeighbours 81 = .ok (.aload_n 0, 1) := by decide +kernel
theorem dX1_reachNeighbours_82 : decode cX1_reachNeighbours 82 = .ok (.bipush 8, 2) := by decide +kernel
theorem dX1_reachNeighbours_84 : decode cX1_reachNeighbours 84 = .ok (.iload_n 3, 1) := by decide +kernel
theorem dX1_reachNeighbours_85 : decode cX1_reachNeighbours 85 = .ok (.iconst 1, 1) := by decide +kernel
theorem dX1_reachNeighbours_86 : decode cX1_reachNeighbours 86 = .ok (.isub, 1) := by decide +kernel
theorem dX1_reachNeighbours_87 : decode cX1_reachNeighbours 87 = .ok (.imul, 1) := by decide +kernel
theorem dX1_reachNeighbours_88 : decode cX1_reachNeighbours 88 = .ok (.iload 7, 2) := by decide +kernel
theorem dX1_reachNeighbours_90 : decode cX1_reachNeighbours 90 = .ok (.iadd, 1) := by decide +kernel
theorem dX1_reachNeighbours_91 : decode cX1_reachNeighbours 91 = .ok (.invokevirtual 57, 3) := by decide +kernel
theorem dX1_reachNeighbours_94 : decode cX1_reachNeighbours 94 = .ok (.iinc 7 1, 3) := by decide +kernel
theorem dX1_reachNeighbours_97 : decode cX1_reachNeighbours 97 = .ok (.goto (-59), 3) := by decide +kernel
theorem dX1_reachNeighbours_100 : decode cX1_reachNeighbours 100 = .ok (.return_, 1) := by decide +kernel
abbrev rmX1_reachNeighbours : Room := { frames := 2, cells := 0, slots := 0, locals := 43 }
set_option maxRecDepth 100000 in
theorem hinX1_reachNeighbours_4 : ∀ w ∈ wsX40, w ∈ wsX1_reachNeighbours := by decide +kernel
set_option maxHeartbeats 4000000 in
set_option maxRecDepth 100000 in
theorem tX1_reachNeighbours_94 {h : AH} {a1 : Nat} {a2 : Int32} {k38 : AH → Int32 → Int32 → Int64 → Int32 → Option AH} {x3 : Int32} {x4 : Int32} {x5 : Int64} {x7 : Int32} {h0 : AH} (C : Cx p rmX1_reachNeighbours s m args meth c RX1 cX1_reachNeighbours 8 none wsX1_reachNeighbours D ad cy tb 0 0) (hk1 : kd a1 = 4) (H38 : ∀ (h : AH) (x3 : Int32) (x4 : Int32) (x5 : Int64) (x7 : Int32), k38 h x3 x4 x5 x7 = some h0 → AW p l e rmX1_reachNeighbours s m args below meth c 8 D ad cy 0 0 (Qv D ad cy below args s h0) 38 [(0, .ref (ad 13)), (1, .ref (ad a1)), (2, .int a2), (3, .int x3), (4, .int x4), (5, .long x5), (7, .int x7)] [] h) (hf : fX1_reachNeighbours_94 k38 a1 a2 h x3 x4 x5 x7 = some h0) : AW p l e rmX1_reachNeighbours s m args below meth c 8 D ad cy 0 0 (Qv D ad cy below args s h0) 94 [(0, .ref (ad 13)), (1, .ref (ad a1)), (2, .int a2), (3, .int x3), (4, .int x4), (5, .long x5), (7, .int x7)] [] h := by
  unfold fX1_reachNeighbours_94 at hf
  obtain ⟨v1, hvv1, hf⟩ := nm_ex hf
  refine aw_iinc (j := 6) (v := v1) (lv1 := [(7, .int v1), (0, .ref (ad 13)), (1, .ref (ad a1)), (2, .int a2), (3, .int x3), (4, .int x4), (5, .long x5)]) C dX1_reachNeighbours_94 rfl hvv1 (by decide) rfl ?_
  refine aw_goto (tgt := 38) C dX1_reachNeighbours_97 (by decide) ?_
  refine aw_sub [1, 2, 3, 4, 5, 6, 0] rfl ?_
  exact H38 h x3 x4 x5 v1 hf
set_option maxHeartbeats 4000000 in
set_option maxRecDepth 100000 in
theorem tX1_reachNeighbours_68 {h : AH} {a1 : Nat} {a2 : Int32} {k38 : AH → Int32 → Int32 → Int64 → Int32 → Option AH} {x3 : Int32} {x4 : Int32} {x5 : Int64} {x7 : Int32} {h0 : AH} (C : Cx p rmX1_reachNeighbours s m args meth c RX1 cX1_reachNeighbours 8 none wsX1_reachNeighbours D ad cy tb 0 0) (hk1 : kd a1 = 4) (H38 : ∀ (h : AH) (x3 : Int32) (x4 : Int32) (x5 : Int64) (x7 : Int32), k38 h x3 x4 x5 x7 = some h0 → AW p l e rmX1_reachNeighbours s m args below meth c 8 D ad cy 0 0 (Qv D ad cy below args s h0) 38 [(0, .ref (ad 13)), (1, .ref (ad a1)), (2, .int a2), (3, .int x3), (4, .int x4), (5, .long x5), (7, .int x7)] [] h) (hf : fX1_reachNeighbours_68 k38 a1 a2 h x3 x4 x5 x7 = some h0) : AW p l e rmX1_reachNeighbours s m args below meth c 8 D ad cy 0 0 (Qv D ad cy below args s h0) 68 [(0, .ref (ad 13)), (1, .ref (ad a1)), (2, .int a2), (3, .int x3), (4, .int x4), (5, .long x5), (7, .int x7)] [] h := by
  unfold fX1_reachNeighbours_68 at hf
  refine aw_lload C dX1_reachNeighbours_68 5 rfl ?_
  refine aw_bipush (v := 8) C dX1_reachNeighbours_70 (by decide) ?_
  refine aw_iload C dX1_reachNeighbours_72 6 rfl ?_
  refine aw_imul C dX1_reachNeighbours_74 ?_
  obtain ⟨r1, hc, hf⟩ := bR_some hf
  refine aw_callSNi (As := [.long x5, .int (8 * x7)]) (rest := []) C (kX5_bitOf (l := l) (D := D) (ad := ad) (cy := cy) (tb := tb) C.2.2.2.2.2.2.2.2.1 hc) (fun ht hn => ⟨va_cnB (host := "StairCodes") 2 ht gX1_reachNeighbours_X5_bitOf_n74 rfl rfl rfl (hn _ (by decide +kernel)) (ht _ (by decide +kernel)) (by decide +kernel) ⟨Nat.le_of_ble_eq_true rfl, Nat.le_of_ble_eq_true rfl⟩, ht _ (by decide +kernel), trivial⟩) rfl rfl (Nat.le_of_ble_eq_true rfl) dX1_reachNeighbours_75 ?_
  refine aw_if_eq (tgt := 94) C dX1_reachNeighbours_78 (by decide) hf (fun hf => ?_) (fun hf => ?_)
  · refine aw_sub [0, 1, 2, 3, 4, 5, 6] rfl ?_
    exact tX1_reachNeighbours_94 C hk1 H38 hf
  refine aw_aload_n C dX1_reachNeighbours_81 rfl 0 rfl ?_
  refine aw_bipush (v := 8) C dX1_reachNeighbours_82 (by decide) ?_
  refine aw_iload_n C dX1_reachNeighbours_84 rfl 3 rfl ?_
  refine aw_iconst (v := 1) C dX1_reachNeighbours_85 (by decide) ?_
  refine aw_isub C dX1_reachNeighbours_86 ?_
  refine aw_imul C dX1_reachNeighbours_87 ?_
  refine aw_iload C dX1_reachNeighbours_88 6 rfl ?_
  refine aw_iadd C dX1_reachNeighbours_90 ?_
  obtain ⟨h2, hc, hf⟩ := bR_some hf
  refine aw_callVv (As := [.int ((8 * (x3 - 1)) + x7)]) (rest := []) C rfl (by decide) rfl (kX1_reach (l := l) (D := D) (ad := ad) (cy := cy) (tb := tb) C.2.2.2.2.2.2.2.2.1 hc) (fun ht _ => cwV 1 ht gX1_reachNeighbours_X1_reach rfl rfl rfl (by decide +kernel) ⟨Nat.le_of_ble_eq_true rfl, Nat.le_of_ble_eq_true rfl⟩) rfl rfl (Nat.le_of_ble_eq_true rfl) dX1_reachNeighbours_91 ?_
  refine aw_sub [0, 1, 2, 3, 4, 5, 6] rfl ?_
  exact tX1_reachNeighbours_94 C hk1 H38 hf
set_option maxHeartbeats 4000000 in
set_option maxRecDepth 100000 in
theorem tX1_reachNeighbours_38b {h : AH} {a1 : Nat} {a2 : Int32} {k38 : AH → Int32 → Int32 → Int64 → Int32 → Option AH} {x3 : Int32} {x4 : Int32} {x5 : Int64} {x7 : Int32} {h0 : AH} (C : Cx p rmX1_reachNeighbours s m args meth c RX1 cX1_reachNeighbours 8 none wsX1_reachNeighbours D ad cy tb 0 0) (hk1 : kd a1 = 4) (H38 : ∀ (h : AH) (x3 : Int32) (x4 : Int32) (x5 : Int64) (x7 : Int32), k38 h x3 x4 x5 x7 = some h0 → AW p l e rmX1_reachNeighbours s m args below meth c 8 D ad cy 0 0 (Qv D ad cy below args s h0) 38 [(0, .ref (ad 13)), (1, .ref (ad a1)), (2, .int a2), (3, .int x3), (4, .int x4), (5, .long x5), (7, .int x7)] [] h) (hf : fX1_reachNeighbours_38b k38 a1 a2 h x3 x4 x5 x7 = some h0) : AW p l e rmX1_reachNeighbours s m args below meth c 8 D ad cy 0 0 (Qv D ad cy below args s h0) 38 [(0, .ref (ad 13)), (1, .ref (ad a1)), (2, .int a2), (3, .int x3), (4, .int x4), (5, .long x5), (7, .int x7)] [] h := by
  unfold fX1_reachNeighbours_38b at hf
  refine aw_iload C dX1_reachNeighbours_38 6 rfl ?_
  refine aw_bipush (v := 8) C dX1_reachNeighbours_40 (by decide) ?_
  refine aw_icmp_ge (tgt := 100) C dX1_reachNeighbours_42 (by decide) hf (fun hf => ?_) (fun hf => ?_)
  · exact aw_vret C dX1_reachNeighbours_100 hf
  refine aw_iload C dX1_reachNeighbours_45 4 rfl ?_
  refine aw_iload C dX1_reachNeighbours_47 6 rfl ?_
  refine aw_ishr C dX1_reachNeighbours_49 ?_
  refine aw_iconst (v := 1) C dX1_reachNeighbours_50 (by decide) ?_
  refine aw_iand C dX1_reachNeighbours_51 ?_
  refine aw_if_eq (tgt := 68) C dX1_reachNeighbours_52 (by decide) hf (fun hf => ?_) (fun hf => ?_)
  · refine aw_sub [0, 1, 2, 3, 4, 5, 6] rfl ?_
    exact tX1_reachNeighbours_68 C hk1 H38 hf
  refine aw_aload_n C dX1_reachNeighbours_55 rfl 0 rfl ?_
  refine aw_bipush (v := 8) C dX1_reachNeighbours_56 (by decide) ?_
  refine aw_iload_n C dX1_reachNeighbours_58 rfl 3 rfl ?_
  refine aw_iconst (v := 1) C dX1_reachNeighbours_59 (by decide) ?_
  refine aw_iadd C dX1_reachNeighbours_60 ?_
  refine aw_imul C dX1_reachNeighbours_61 ?_
  refine aw_iload C dX1_reachNeighbours_62 6 rfl ?_
  refine aw_iadd C dX1_reachNeighbours_64 ?_
  obtain ⟨h1, hc, hf⟩ := bR_some hf
  refine aw_callVv (As := [.int ((8 * (x3 + 1)) + x7)]) (rest := []) C rfl (by decide) rfl (kX1_reach (l := l) (D := D) (ad := ad) (cy := cy) (tb := tb) C.2.2.2.2.2.2.2.2.1 hc) (fun ht _ => cwV 1 ht gX1_reachNeighbours_X1_reach rfl rfl rfl (by decide +kernel) ⟨Nat.le_of_ble_eq_true rfl, Nat.le_of_ble_eq_true rfl⟩) rfl rfl (Nat.le_of_ble_eq_true rfl) dX1_reachNeighbours_65 ?_
  refine aw_sub [0, 1, 2, 3, 4, 5, 6] rfl ?_
  exact tX1_reachNeighbours_68 C hk1 H38 hf
set_option maxHeartbeats 4000000 in
set_option maxRecDepth 100000 in
theorem tX1_reachNeighbours_38  {a1 : Nat} {a2 : Int32} {h0 : AH} (C : Cx p rmX1_reachNeighbours s m args meth c RX1 cX1_reachNeighbours 8 none wsX1_reachNeighbours D ad cy tb 0 0) (hk1 : kd a1 = 4) : ∀ (n : Nat) (h : AH) (x3 : Int32) (x4 : Int32) (x5 : Int64) (x7 : Int32), fX1_reachNeighbours_38 a1 a2 n h x3 x4 x5 x7 = some h0 → AW p l e rmX1_reachNeighbours s m args below meth c 8 D ad cy 0 0 (Qv D ad cy below args s h0) 38 [(0, .ref (ad 13)), (1, .ref (ad a1)), (2, .int a2), (3, .int x3), (4, .int x4), (5, .long x5), (7, .int x7)] [] h := by
  intro n
  induction n with
  | zero => intro h x3 x4 x5 x7 hf; cases hf
  | succ n ih => intro h x3 x4 x5 x7 hf; exact tX1_reachNeighbours_38b C hk1 ih  hf
set_option maxHeartbeats 4000000 in
set_option maxRecDepth 100000 in
theorem tX1_reachNeighbours_21 {h : AH} {a1 : Nat} {a2 : Int32} {x3 : Int32} {s0 : Int32} {h0 : AH} (C : Cx p rmX1_reachNeighbours s m args meth c RX1 cX1_reachNeighbours 8 none wsX1_reachNeighbours D ad cy tb 0 0) (hk1 : kd a1 = 4) (hf : fX1_reachNeighbours_21 a1 a2 h x3 s0 = some h0) : AW p l e rmX1_reachNeighbours s m args below meth c 8 D ad cy 0 0 (Qv D ad cy below args s h0) 21 [(0, .ref (ad 13)), (1, .ref (ad a1)), (2, .int a2), (3, .int x3)] [.int s0] h := by
  unfold fX1_reachNeighbours_21 at hf
  refine aw_istore (lv1 := [(4, .int s0), (0, .ref (ad 13)), (1, .ref (ad a1)), (2, .int a2), (3, .int x3)]) C dX1_reachNeighbours_21 (by decide) rfl ?_
  refine aw_aload_n C dX1_reachNeighbours_23 rfl 2 rfl ?_
  refine aw_iload_n C dX1_reachNeighbours_24 rfl 3 rfl ?_
  obtain ⟨r1, hc, hf⟩ := bR_some hf
  refine aw_callVl (As := [.int a2]) (rest := []) C hk1 (by decide) rfl (kX4_wrongColumn (l := l) (D := D) (ad := ad) (cy := cy) (tb := tb) C.2.2.2.2.2.2.2.2.1 hk1 hc) (fun ht _ => cwV 1 ht gX1_reachNeighbours_X4_wrongColumn rfl rfl rfl (by decide +kernel) ⟨Nat.le_of_ble_eq_true rfl, Nat.le_of_ble_eq_true rfl⟩) rfl rfl (Nat.le_of_ble_eq_true rfl) dX1_reachNeighbours_25 ?_
  refine aw_iload_n C dX1_reachNeighbours_28 rfl 3 rfl ?_
  refine aw_bipush (v := 7) C dX1_reachNeighbours_29 (by decide) ?_
  refine aw_iand C dX1_reachNeighbours_31 ?_
  refine aw_lushr C dX1_reachNeighbours_32 ?_
  refine aw_nmL hf (fun v2 hf => ?_)
  refine aw_lstore (lv1 := [(5, .long v2), (4, .int s0), (0, .ref (ad 13)), (1, .ref (ad a1)), (2, .int a2), (3, .int x3)]) C dX1_reachNeighbours_33 (by decide) rfl ?_
  refine aw_iconst (v := 0) C dX1_reachNeighbours_35 (by decide) ?_
  refine aw_istore (lv1 := [(7, .int 0), (5, .long v2), (4, .int s0), (0, .ref (ad 13)), (1, .ref (ad a1)), (2, .int a2), (3, .int x3)]) C dX1_reachNeighbours_36 (by decide) rfl ?_
  refine aw_sub [3, 4, 5, 6, 2, 1, 0] rfl ?_
  exact tX1_reachNeighbours_38 C hk1  FU h x3 s0 v2 0 hf
set_option maxHeartbeats 4000000 in
set_option maxRecDepth 100000 in
theorem tX1_reachNeighbours_0 {h : AH} {a1 : Nat} {a2 : Int32} {h0 : AH} (C : Cx p rmX1_reachNeighbours s m args meth c RX1 cX1_reachNeighbours 8 none wsX1_reachNeighbours D ad cy tb 0 0) (hk1 : kd a1 = 4) (hf : fX1_reachNeighbours h a1 a2 = some h0) : AW p l e rmX1_reachNeighbours s m args below meth c 8 D ad cy 0 0 (Qv D ad cy below args s h0) 0 [(0, .ref (ad 13)), (1, .ref (ad a1)), (2, .int a2)] [] h := by
  unfold fX1_reachNeighbours at hf
  refine aw_iload_n C dX1_reachNeighbours_0 rfl 2 rfl ?_
  refine aw_iconst (v := 3) C dX1_reachNeighbours_1 (by decide) ?_
  refine aw_ishr C dX1_reachNeighbours_2 ?_
  refine aw_nmI hf (fun v1 hf => ?_)
  refine aw_istore_n (lv1 := [(3, .int v1), (0, .ref (ad 13)), (1, .ref (ad a1)), (2, .int a2)]) C dX1_reachNeighbours_3 rfl (by decide) rfl ?_
  refine aw_iload_n C dX1_reachNeighbours_4 rfl 0 rfl ?_
  refine aw_aload_n C dX1_reachNeighbours_5 rfl 2 rfl ?_
  refine aw_getN (host := "StairCodes") C (kd_lt hk1 (by decide)) (ce_4 hk1) rfl hinX1_reachNeighbours_4 0 (by decide) rfl (by decide +kernel) rfl dX1_reachNeighbours_6 ?_
  refine aw_icmp_ge (tgt := 20) C dX1_reachNeighbours_9 (by decide) hf (fun hf => ?_) (fun hf => ?_)
  · refine aw_iconst (v := 0) C dX1_reachNeighbours_20 (by decide) ?_
    refine aw_sub [1, 2, 3, 0] rfl ?_
    exact tX1_reachNeighbours_21 C hk1  hf
  refine aw_aload_n C dX1_reachNeighbours_12 rfl 2 rfl ?_
  refine aw_iload_n C dX1_reachNeighbours_13 rfl 3 rfl ?_
  obtain ⟨r2, hc, hf⟩ := bR_some hf
  refine aw_callVi (As := [.int a2]) (rest := []) C hk1 (by decide) rfl (kX4_wrongRow (l := l) (D := D) (ad := ad) (cy := cy) (tb := tb) C.2.2.2.2.2.2.2.2.1 hk1 hc) (fun ht _ => cwV 1 ht gX1_reachNeighbours_X4_wrongRow rfl rfl rfl (by decide +kernel) ⟨Nat.le_of_ble_eq_true rfl, Nat.le_of_ble_eq_true rfl⟩) rfl rfl (Nat.le_of_ble_eq_true rfl) dX1_reachNeighbours_14 ?_
  refine aw_goto (tgt := 21) C dX1_reachNeighbours_17 (by decide) ?_
  refine aw_sub [1, 2, 3, 0] rfl ?_
  exact tX1_reachNeighbours_21 C hk1  hf
theorem kX1_reachNeighbours {h : AH} {a1 : Nat} {a2 : Int32} {h0 : AH} (hi : Inj ad) (hk1 : kd a1 = 4) (hf : fX1_reachNeighbours h a1 a2 = some h0) : Kv l yX1_reachNeighbours wsX1_reachNeighbours rmX1_reachNeighbours D ad cy tb [.ref (ad 13), .ref (ad a1), .int a2] h h0 := met_v (lv := [(0, .ref (ad 13)), (1, .ref (ad a1)), (2, .int a2)]) hi (by decide) rfl (Nat.le_of_ble_eq_true rfl) rfl rfl (fun _ _ _ _ _ _ _ _ C => tX1_reachNeighbours_0 C hk1 hf)
set_option maxRecDepth 20000 in
theorem ggX1_spread_X1_reach : GoodIn wsX1_spread wsX1_reach := goodIn_r _ [11, 12, 2, 1, 54, 55, 56, 57, 58, 59, 60, 61] (by decide +kernel) (by decide +kernel)
set_option maxRecDepth 20000 in
theorem gX1_spread_X1_reach : GoodIn wsX1_spread (wsV RX1 57 RX1 yX1_reach wsX1_reach) := goodIn_app (goodIn_of _ (by decide +kernel)) ggX1_spread_X1_reach
set_option maxRecDepth 20000 in
theorem ggX1_spread_X4_wrongRow : GoodIn wsX1_spread wsX4_wrongRow := goodIn_r _ [17, 18, 19, 20, 21, 62, 63, 64] (by decide +kernel) (by decide +kernel)
set_option maxRecDepth 20000 in
theorem gX1_spread_X4_wrongRow : GoodIn wsX1_spread (wsV RX1 41 RX4 yX4_wrongRow wsX4_wrongRow) := goodIn_app (goodIn_of _ (by decide +kernel)) ggX1_spread_X4_wrongRow
set_option maxRecDepth 20000 in
theorem ggX1_spread_J6_bitCount_0f7a4 : GoodIn wsX1_spread wsJ6_bitCount_0f7a4 := goodIn_r _ [25, 26, 27, 28] (by decide +kernel) (by decide +kernel)
set_option maxRecDepth 20000 in
theorem gX1_spread_J6_bitCount_0f7a4 : GoodIn wsX1_spread (va_wsS RX1 45 yJ6_bitCount_0f7a4 wsJ6_bitCount_0f7a4) := goodIn_app (goodIn_of _ (by decide +kernel)) ggX1_spread_J6_bitCount_0f7a4
set_option maxRecDepth 20000 in
theorem ggX1_spread_X4_wrongBitsOf : GoodIn wsX1_spread wsX4_wrongBitsOf := goodIn_r _ [32, 33, 14, 15, 16, 17, 18, 19, 20, 21, 34, 23, 24, 25, 26, 27, 28, 35, 36, 37, 38, 39, 40, 41, 42, 43, 44, 45, 46, 62, 63, 64] (by decide +kernel) (by decide +kernel)
set_option maxRecDepth 20000 in
theorem gX1_spread_X4_wrongBitsOf : GoodIn wsX1_spread (wsV RX1 61 RX4 yX4_wrongBitsOf wsX4_wrongBitsOf) := goodIn_app (goodIn_of _ (by decide +kernel)) ggX1_spread_X4_wrongBitsOf
set_option maxRecDepth 20000 in
theorem ggX1_spread_X1_reachNeighbours : GoodIn wsX1_spread wsX1_reachNeighbours := goodIn_r _ [50, 13, 14, 15, 16, 17, 18, 19, 20, 21, 51, 36, 37, 38, 39, 7, 8, 9, 10, 11, 12, 2, 1, 52, 53, 62, 63, 64, 54, 55, 56, 57, 58, 59, 60, 61] (by decide +kernel) (by decide +kernel)
set_option maxRecDepth 20000 in
theorem gX1_spread_X1_reachNeighbours : GoodIn wsX1_spread (wsV RX1 64 RX1 yX1_reachNeighbours wsX1_reachNeighbours) := goodIn_app (goodIn_of _ (by decide +kernel)) ggX1_spread_X1_reachNeighbours
theorem dX1_spread_0 : decode cX1_spread 0 = .ok (.iconst 0, 1) := by decide +kernel
theorem dX1_spread_1 : decode cX1_spread 1 = .ok (.istore_n 3, 1) := by decide +kernel
theorem dX1_spread_2 : decode cX1_spread 2 = .ok (.iconst 1, 1) := by decide +kernel
theorem dX1_spread_3 : decode cX1_spread 3 = .ok (.istore 4, 2) := by decide +kernel
theorem dX1_spread_5 : decode cX1_spread 5 = .ok (.aload_n 0, 1) := by decide +kernel
theorem dX1_spread_6 : decode cX1_spread 6 = .ok (.iconst 0, 1) := by decide +kernel
theorem dX1_spread_7 : decode cX1_spread 7 = .ok (.putfield 54, 3) := by decide +kernel
theorem dX1_spread_10 : decode cX1_spread 10 = .ok (.aload_n 0, 1) := by decide +kernel
theorem dX1_spread_11 : decode cX1_spread 11 = .ok (.iload_n 2, 1) := by decide +kernel
theorem dX1_spread_12 : decode cX1_spread 12 = .ok (.invokevirtual 57, 3) := by decide +kernel
theorem dX1_spread_15 : decode cX1_spread 15 = .ok (.iconst 0, 1) := by decide +kernel
theorem dX1_spread_16 : decode cX1_spread 16 = .ok (.istore 5, 2) := by decide +kernel
theorem dX1_spread_18 : decode cX1_spread 18 = .ok (.iload 5, 2) := by decide +kernel
theorem dX1_spread_20 : decode cX1_spread 20 = .ok (.aload_n 0, 1) := by decide +kernel
theorem dX1_spread_21 : decode cX1_spread 21 = .ok (.getfield 54, 3) := by decide +kernel
theorem dX1_spread_24 : decode cX1_spread 24 = .ok (.if_icmp .ge 57, 3) := by decide +kernel
theorem dX1_spread_27 : decode cX1_spread 27 = .ok (.iload 5, 2) := by decide +kernel
theorem dX1_spread_29 : decode cX1_spread 29 = .ok (.bipush 56, 2) := by decide +kernel
theorem dX1_spread_31 : decode cX1_spread 31 = .ok (.if_icmp .ge 50, 3) := by decide +kernel
theorem dX1_spread_34 : decode cX1_spread 34 = .ok (.aload_n 0, 1) := by decide +kernel
theorem dX1_spread_35 : decode cX1_spread 35 = .ok (.getfield 28, 3) := by decide +kernel
theorem dX1_spread_38 : decode cX1_spread 38 = .ok (.iload 5, 2) := by decide +kernel
theorem dX1_spread_40 : decode cX1_spread 40 = .ok (.iaload, 1) := by decide +kernel
theorem dX1_spread_41 : decode cX1_spread 41 = .ok (.istore 6, 2) := by decide +kernel
theorem dX1_spread_43 : decode cX1_spread 43 = .ok (.iload_n 3, 1) := by decide +kernel
theorem dX1_spread_44 : decode cX1_spread 44 = .ok (.aload_n 1, 1) := by decide +kernel
theorem dX1_spread_45 : decode cX1_spread 45 = .ok (.iload 6, 2) := by decide +kernel
theorem dX1_spread_47 : decode cX1_spread 47 = .ok (.invokevirtual 41, 3) := by decide +kernel
theorem dX1_spread_50 : decode cX1_spread 50 = .ok (.invokestatic 45, 3) := by decide +kernel
theorem dX1_spread_53 : decode cX1_spread 53 = .ok (.iadd, 1) := by decide +kernel
theorem dX1_spread_54 : decode cX1_spread 54 = .ok (.istore_n 3, 1) := by decide +kernel
theorem dX1_spread_55 : decode cX1_spread 55 = .ok (.aload_n 1, 1) := by decide +kernel
theorem dX1_spread_56 : decode cX1_spread 56 = .ok (.iload 6, 2) := by decide +kernel
theorem dX1_spread_58 : decode cX1_spread 58 = .ok (.invokevirtual 61, 3) := by decide +kernel
theorem dX1_spread_61 : decode cX1_spread 61 = .ok (.iconst 2, 1) := by decide +kernel
theorem dX1_spread_62 : decode cX1_spread 62 = .ok (.if_icmp .ge 6, 3) := by decide +kernel
theorem dX1_spread_65 : decode cX1_spread 65 = .ok (.iconst 0, 1) := by decide +kernel
theorem dX1_spread_66 : decode cX1_spread 66 = .ok (.istore 4, 2) := by decide +kernel
theorem dX1_spread_68 : decode cX1_spread 68 = .ok (.aload_n 0, 1) := by decide +kernel
theorem dX1_spread_69 : decode cX1_spread 69 = .ok (.aload_n 1, 1) := by decide +kernel
theorem dX1_spread_70 : decode cX1_spread 70 = .ok (.iload 6, 2) := by decide +kernel
theorem dX1_spread_72 : decode cX1_spread 72 = .ok (.invokevirtual 64, 3) := by decide +kernel
theorem dX1_spread_75 : decode cX1_spread 75 = .ok (.iinc 5 1, 3) := by decide +kernel
theorem dX1_spread_78 : decode cX1_spread 78 = .ok (.goto (-60), 3) := by decide +kernel
theorem dX1_spread_81 : decode cX1_spread 81 = .ok (.aload_n 0, 1) := by decide +kernel
theorem dX1_spread_82 : decode cX1_spread 82 = .ok (.getfield 9, 3) := by decide +kernel
theorem dX1_spread_85 : decode cX1_spread 85 = .ok (.aload_n 0, 1) := by decide +kernel
theorem dX1_spread_86 : decode cX1_spread 86 = .ok (.getfield 31, 3) := by decide +kernel
theorem dX1_spread_89 : decode cX1_spread 89 = .ok (.iload_n 3, 1) := by decide +kernel
theorem dX1_spread_90 : decode cX1_spread 90 = .ok (.iastore, 1) := by decide +kernel
theorem dX1_spread_91 : decode cX1_spread 91 = .ok (.aload_n 0, 1) := by decide +kernel
theorem dX1_spread_92 : decode cX1_spread 92 = .ok (.getfield 15, 3) := by decide +kernel
theorem dX1_spread_95 : decode cX1_spread 95 = .ok (.aload_n 0, 1) := by decide +kernel
theorem dX1_spread_96 : decode cX1_spread 96 = .ok (.getfield 31, 3) := by decide +kernel
theorem dX1_spread_99 : decode cX1_spread 99 = .ok (.aload_n 0, 1) := by decide +kernel
theorem dX1_spread_100 : decode cX1_spread 100 = .ok (.getfield 54, 3) := by decide +kernel
theorem dX1_spread_103 : decode cX1_spread 103 = .ok (.iastore, 1) := by decide +kernel
theorem dX1_spread_104 : decode cX1_spread 104 = .ok (.aload_n 0, 1) := by decide +kernel
theorem dX1_spread_105 : decode cX1_spread 105 = .ok (.getfield 18, 3) := by decide +kernel
theorem dX1_spread_108 : decode cX1_spread 108 = .ok (.aload_n 0, 1) := by decide +kernel
theorem dX1_spread_109 : decode cX1_spread 109 = .ok (.getfield 31, 3) := by decide +kernel
theorem dX1_spread_112 : decode cX1_spread 112 = .ok (.iload 4, 2) := by decide +kernel
theorem dX1_spread_114 : decode cX1_spread 114 = .ok (.iastore, 1) := by decide +kernel
theorem dX1_spread_115 : decode cX1_spread 115 = .ok (.return_, 1) := by decide +kernel
abbrev rmX1_spread : Room := { frames := 3, cells := 0, slots := 0, locals := 70 }
set_option maxRecDepth 100000 in
theorem hinX1_spread_1 : ∀ w ∈ wsX10, w ∈ wsX1_spread := by decide +kernel
set_option maxHeartbeats 4000000 in
set_option maxRecDepth 100000 in
theorem tX1_spread_68 {h : AH} {a1 : Nat} {a2 : Int32} {k18 : AH → Int32 → Int32 → Int32 → Option AH} {x3 : Int32} {x4 : Int32} {x5 : Int32} {x6 : Int32} {h0 : AH} (C : Cx p rmX1_spread s m args meth c RX1 cX1_spread 7 none wsX1_spread D ad cy tb 0 0) (hk1 : kd a1 = 4) (H18 : ∀ (h : AH) (x3 : Int32) (x4 : Int32) (x5 : Int32), k18 h x3 x4 x5 = some h0 → AW p l e rmX1_spread s m args below meth c 7 D ad cy 0 0 (Qv D ad cy below args s h0) 18 [(0, .ref (ad 13)), (1, .ref (ad a1)), (2, .int a2), (3, .int x3), (4, .int x4), (5, .int x5)] [] h) (hf : fX1_spread_68 k18 a1 a2 h x3 x4 x5 x6 = some h0) : AW p l e rmX1_spread s m args below meth c 7 D ad cy 0 0 (Qv D ad cy below args s h0) 68 [(0, .ref (ad 13)), (1, .ref (ad a1)), (2, .int a2), (3, .int x3), (4, .int x4), (5, .int x5), (6, .int x6)] [] h := by
  unfold fX1_spread_68 at hf
  refine aw_aload_n C dX1_spread_68 rfl 0 rfl ?_
  refine aw_aload_n C dX1_spread_69 rfl 1 rfl ?_
  refine aw_iload C dX1_spread_70 6 rfl ?_
  obtain ⟨h1, hc, hf⟩ := bR_some hf
  refine aw_callVv (As := [.ref (ad a1), .int x6]) (rest := []) C rfl (by decide) rfl (kX1_reachNeighbours (l := l) (D := D) (ad := ad) (cy := cy) (tb := tb) C.2.2.2.2.2.2.2.2.1 hk1 hc) (fun ht _ => cwV 2 ht gX1_spread_X1_reachNeighbours rfl rfl rfl (by decide +kernel) ⟨Nat.le_of_ble_eq_true rfl, Nat.le_of_ble_eq_true rfl⟩) rfl rfl (Nat.le_of_ble_eq_true rfl) dX1_spread_72 ?_
  obtain ⟨v2, hvv2, hf⟩ := nm_ex hf
  refine aw_iinc (j := 5) (v := v2) (lv1 := [(5, .int v2), (0, .ref (ad 13)), (1, .ref (ad a1)), (2, .int a2), (3, .int x3), (4, .int x4), (6, .int x6)]) C dX1_spread_75 rfl hvv2 (by decide) rfl ?_
  refine aw_goto (tgt := 18) C dX1_spread_78 (by decide) ?_
  refine aw_sub [1, 2, 3, 4, 5, 0] rfl ?_
  exact H18 h1 x3 x4 v2 hf
set_option maxHeartbeats 4000000 in
set_option maxRecDepth 100000 in
theorem tX1_spread_81 {h : AH} {a1 : Nat} {a2 : Int32} {x3 : Int32} {x4 : Int32} {h0 : AH} (C : Cx p rmX1_spread s m args meth c RX1 cX1_spread 7 none wsX1_spread D ad cy tb 0 0) (hk1 : kd a1 = 4) (hf : fX1_spread_81 a1 a2 h x3 x4 = some h0) : AW p l e rmX1_spread s m args below meth c 7 D ad cy 0 0 (Qv D ad cy below args s h0) 81 [(0, .ref (ad 13)), (1, .ref (ad a1)), (2, .int a2), (3, .int x3), (4, .int x4)] [] h := by
  unfold fX1_spread_81 at hf
  refine aw_aload_n C dX1_spread_81 rfl 0 rfl ?_
  refine aw_get C (kd_lt rfl (by decide)) (ce_1 rfl) rfl hinX1_spread_1 1 (by decide) rfl (by decide +kernel) rfl dX1_spread_82 ?_
  refine aw_aload_n C dX1_spread_85 rfl 0 rfl ?_
  refine aw_get C (kd_lt rfl (by decide)) (ce_1 rfl) rfl hinX1_spread_1 0 (by decide) rfl (by decide +kernel) rfl dX1_spread_86 ?_
  refine aw_iload_n C dX1_spread_89 rfl 3 rfl ?_
  refine aw_nm2 hf (fun v1 hf => ?_)
  refine aw_iast C rfl rfl hf dX1_spread_90 (fun hf => ?_)
  refine aw_nmH hf (fun h2 hf => ?_)
  refine aw_aload_n C dX1_spread_91 rfl 0 rfl ?_
  refine aw_get C (kd_lt rfl (by decide)) (ce_1 rfl) rfl hinX1_spread_1 2 (by decide) rfl (by decide +kernel) rfl dX1_spread_92 ?_
  refine aw_aload_n C dX1_spread_95 rfl 0 rfl ?_
  refine aw_get C (kd_lt rfl (by decide)) (ce_1 rfl) rfl hinX1_spread_1 0 (by decide) rfl (by decide +kernel) rfl dX1_spread_96 ?_
  refine aw_aload_n C dX1_spread_99 rfl 0 rfl ?_
  refine aw_get C (kd_lt rfl (by decide)) (ce_1 rfl) rfl hinX1_spread_1 7 (by decide) rfl (by decide +kernel) rfl dX1_spread_100 ?_
  refine aw_nm2 hf (fun v3 hf => ?_)
  refine aw_iast C rfl rfl hf dX1_spread_103 (fun hf => ?_)
  refine aw_nmH hf (fun h4 hf => ?_)
  refine aw_aload_n C dX1_spread_104 rfl 0 rfl ?_
  refine aw_get C (kd_lt rfl (by decide)) (ce_1 rfl) rfl hinX1_spread_1 3 (by decide) rfl (by decide +kernel) rfl dX1_spread_105 ?_
  refine aw_aload_n C dX1_spread_108 rfl 0 rfl ?_
  refine aw_get C (kd_lt rfl (by decide)) (ce_1 rfl) rfl hinX1_spread_1 0 (by decide) rfl (by decide +kernel) rfl dX1_spread_109 ?_
  refine aw_iload C dX1_spread_112 4 rfl ?_
  refine aw_nm2 hf (fun v5 hf => ?_)
  refine aw_iast C rfl rfl hf dX1_spread_114 (fun hf => ?_)
  refine aw_nmH hf (fun h6 hf => ?_)
  exact aw_vret C dX1_spread_115 hf
set_option maxHeartbeats 4000000 in
set_option maxRecDepth 100000 in
theorem tX1_spread_18b {h : AH} {a1 : Nat} {a2 : Int32} {k18 : AH → Int32 → Int32 → Int32 → Option AH} {x3 : Int32} {x4 : Int32} {x5 : Int32} {h0 : AH} (C : Cx p rmX1_spread s m args meth c RX1 cX1_spread 7 none wsX1_spread D ad cy tb 0 0) (hk1 : kd a1 = 4) (H18 : ∀ (h : AH) (x3 : Int32) (x4 : Int32) (x5 : Int32), k18 h x3 x4 x5 = some h0 → AW p l e rmX1_spread s m args below meth c 7 D ad cy 0 0 (Qv D ad cy below args s h0) 18 [(0, .ref (ad 13)), (1, .ref (ad a1)), (2, .int a2), (3, .int x3), (4, .int x4), (5, .int x5)] [] h) (hf : fX1_spread_18b k18 a1 a2 h x3 x4 x5 = some h0) : AW p l e rmX1_spread s m args below meth c 7 D ad cy 0 0 (Qv D ad cy below args s h0) 18 [(0, .ref (ad 13)), (1, .ref (ad a1)), (2, .int a2), (3, .int x3), (4, .int x4), (5, .int x5)] [] h := by
  unfold fX1_spread_18b at hf
  refine aw_iload C dX1_spread_18 5 rfl ?_
  refine aw_aload_n C dX1_spread_20 rfl 0 rfl ?_
  refine aw_get C (kd_lt rfl (by decide)) (ce_1 rfl) rfl hinX1_spread_1 7 (by decide) rfl (by decide +kernel) rfl dX1_spread_21 ?_
  refine aw_icmp_ge (tgt := 81) C dX1_spread_24 (by decide) hf (fun hf => ?_) (fun hf => ?_)
  · refine aw_sub [0, 1, 2, 3, 4] rfl ?_
    exact tX1_spread_81 C hk1  hf
  refine aw_iload C dX1_spread_27 5 rfl ?_
  refine aw_bipush (v := 56) C dX1_spread_29 (by decide) ?_
  refine aw_icmp_ge (tgt := 81) C dX1_spread_31 (by decide) hf (fun hf => ?_) (fun hf => ?_)
  · refine aw_sub [0, 1, 2, 3, 4] rfl ?_
    exact tX1_spread_81 C hk1  hf
  refine aw_aload_n C dX1_spread_34 rfl 0 rfl ?_
  refine aw_get C (kd_lt rfl (by decide)) (ce_1 rfl) rfl hinX1_spread_1 6 (by decide) rfl (by decide +kernel) rfl dX1_spread_35 ?_
  refine aw_iload C dX1_spread_38 5 rfl ?_
  refine aw_iald C rfl rfl hf dX1_spread_40 (fun hf => ?_)
  refine aw_nmI hf (fun v1 hf => ?_)
  refine aw_istore (lv1 := [(6, .int v1), (0, .ref (ad 13)), (1, .ref (ad a1)), (2, .int a2), (3, .int x3), (4, .int x4), (5, .int x5)]) C dX1_spread_41 (by decide) rfl ?_
  refine aw_iload_n C dX1_spread_43 rfl 4 rfl ?_
  refine aw_aload_n C dX1_spread_44 rfl 2 rfl ?_
  refine aw_iload C dX1_spread_45 0 rfl ?_
  obtain ⟨r2, hc, hf⟩ := bR_some hf
  refine aw_callVi (As := [.int v1]) (rest := [.int x3]) C hk1 (by decide) rfl (kX4_wrongRow (l := l) (D := D) (ad := ad) (cy := cy) (tb := tb) C.2.2.2.2.2.2.2.2.1 hk1 hc) (fun ht _ => cwV 1 ht gX1_spread_X4_wrongRow rfl rfl rfl (by decide +kernel) ⟨Nat.le_of_ble_eq_true rfl, Nat.le_of_ble_eq_true rfl⟩) rfl rfl (Nat.le_of_ble_eq_true rfl) dX1_spread_47 ?_
  obtain ⟨r3, hc, hf⟩ := bR_some hf
  refine aw_callSi (As := [.int r2]) (rest := [.int x3]) C (kJ6_bitCount_0f7a4 (l := l) (D := D) (ad := ad) (cy := cy) (tb := tb) C.2.2.2.2.2.2.2.2.1 hc) (fun ht _ => va_cwS 1 ht gX1_spread_J6_bitCount_0f7a4 rfl rfl rfl (by decide +kernel) ⟨Nat.le_of_ble_eq_true rfl, Nat.le_of_ble_eq_true rfl⟩) rfl rfl (Nat.le_of_ble_eq_true rfl) dX1_spread_50 ?_
  refine aw_iadd C dX1_spread_53 ?_
  refine aw_nmI hf (fun v4 hf => ?_)
  refine aw_istore_n (lv1 := [(3, .int v4), (6, .int v1), (0, .ref (ad 13)), (1, .ref (ad a1)), (2, .int a2), (4, .int x4), (5, .int x5)]) C dX1_spread_54 rfl (by decide) rfl ?_
  refine aw_aload_n C dX1_spread_55 rfl 3 rfl ?_
  refine aw_iload C dX1_spread_56 1 rfl ?_
  obtain ⟨r5, hc, hf⟩ := bR_some hf
  refine aw_callVi (As := [.int v1]) (rest := []) C hk1 (by decide) rfl (kX4_wrongBitsOf (l := l) (D := D) (ad := ad) (cy := cy) (tb := tb) C.2.2.2.2.2.2.2.2.1 hk1 hc) (fun ht _ => cwV 1 ht gX1_spread_X4_wrongBitsOf rfl rfl rfl (by decide +kernel) ⟨Nat.le_of_ble_eq_true rfl, Nat.le_of_ble_eq_true rfl⟩) rfl rfl (Nat.le_of_ble_eq_true rfl) dX1_spread_58 ?_
  refine aw_iconst (v := 2) C dX1_spread_61 (by decide) ?_
  refine aw_icmp_ge (tgt := 68) C dX1_spread_62 (by decide) hf (fun hf => ?_) (fun hf => ?_)
  · refine aw_sub [2, 3, 4, 0, 5, 6, 1] rfl ?_
    exact tX1_spread_68 C hk1 H18 hf
  refine aw_iconst (v := 0) C dX1_spread_65 (by decide) ?_
  refine aw_istore (lv1 := [(4, .int 0), (3, .int v4), (6, .int v1), (0, .ref (ad 13)), (1, .ref (ad a1)), (2, .int a2), (5, .int x5)]) C dX1_spread_66 (by decide) rfl ?_
  refine aw_sub [3, 4, 5, 1, 0, 6, 2] rfl ?_
  exact tX1_spread_68 C hk1 H18 hf
set_option maxHeartbeats 4000000 in
set_option maxRecDepth 100000 in
theorem tX1_spread_18  {a1 : Nat} {a2 : Int32} {h0 : AH} (C : Cx p rmX1_spread s m args meth c RX1 cX1_spread 7 none wsX1_spread D ad cy tb 0 0) (hk1 : kd a1 = 4) : ∀ (n : Nat) (h : AH) (x3 : Int32) (x4 : Int32) (x5 : Int32), fX1_spread_18 a1 a2 n h x3 x4 x5 = some h0 → AW p l e rmX1_spread s m args below meth c 7 D ad cy 0 0 (Qv D ad cy below args s h0) 18 [(0, .ref (ad 13)), (1, .ref (ad a1)), (2, .int a2), (3, .int x3), (4, .int x4), (5, .int x5)] [] h := by
  intro n
  induction n with
  | zero => intro h x3 x4 x5 hf; cases hf
  | succ n ih => intro h x3 x4 x5 hf; exact tX1_spread_18b C hk1 ih  hf
set_option maxHeartbeats 4000000 in
set_option maxRecDepth 100000 in
theorem tX1_spread_0 {h : AH} {a1 : Nat} {a2 : Int32} {h0 : AH} (C : Cx p rmX1_spread s m args meth c RX1 cX1_spread 7 none wsX1_spread D ad cy tb 0 0) (hk1 : kd a1 = 4) (hf : fX1_spread h a1 a2 = some h0) : AW p l e rmX1_spread s m args below meth c 7 D ad cy 0 0 (Qv D ad cy below args s h0) 0 [(0, .ref (ad 13)), (1, .ref (ad a1)), (2, .int a2)] [] h := by
  unfold fX1_spread at hf
  refine aw_iconst (v := 0) C dX1_spread_0 (by decide) ?_
  refine aw_istore_n (lv1 := [(3, .int 0), (0, .ref (ad 13)), (1, .ref (ad a1)), (2, .int a2)]) C dX1_spread_1 rfl (by decide) rfl ?_
  refine aw_iconst (v := 1) C dX1_spread_2 (by decide) ?_
  refine aw_istore (lv1 := [(4, .int 1), (3, .int 0), (0, .ref (ad 13)), (1, .ref (ad a1)), (2, .int a2)]) C dX1_spread_3 (by decide) rfl ?_
  refine aw_aload_n C dX1_spread_5 rfl 2 rfl ?_
  refine aw_iconst (v := 0) C dX1_spread_6 (by decide) ?_
  refine aw_put (ty := .int) C (kd_lt rfl (by decide)) (ce_1 rfl) rfl hinX1_spread_1 tyX1 tyX1_ok nmX1 7 (by decide) rfl (by decide +kernel) rfl (by decide +kernel) rfl rfl (Nat.le_of_ble_eq_true rfl) (cs_1_7 rfl) dX1_spread_7 ?_
  refine aw_nmH hf (fun h1 hf => ?_)
  refine aw_aload_n C dX1_spread_10 rfl 2 rfl ?_
  refine aw_iload_n C dX1_spread_11 rfl 4 rfl ?_
  obtain ⟨h2, hc, hf⟩ := bR_some hf
  refine aw_callVv (As := [.int a2]) (rest := []) C rfl (by decide) rfl (kX1_reach (l := l) (D := D) (ad := ad) (cy := cy) (tb := tb) C.2.2.2.2.2.2.2.2.1 hc) (fun ht _ => cwV 1 ht gX1_spread_X1_reach rfl rfl rfl (by decide +kernel) ⟨Nat.le_of_ble_eq_true rfl, Nat.le_of_ble_eq_true rfl⟩) rfl rfl (Nat.le_of_ble_eq_true rfl) dX1_spread_12 ?_
  refine aw_iconst (v := 0) C dX1_spread_15 (by decide) ?_
  refine aw_istore (lv1 := [(5, .int 0), (4, .int 1), (3, .int 0), (0, .ref (ad 13)), (1, .ref (ad a1)), (2, .int a2)]) C dX1_spread_16 (by decide) rfl ?_
  refine aw_sub [3, 4, 5, 2, 1, 0] rfl ?_
  exact tX1_spread_18 C hk1  FU h2 0 1 0 hf
theorem kX1_spread {h : AH} {a1 : Nat} {a2 : Int32} {h0 : AH} (hi : Inj ad) (hk1 : kd a1 = 4) (hf : fX1_spread h a1 a2 = some h0) : Kv l yX1_spread wsX1_spread rmX1_spread D ad cy tb [.ref (ad 13), .ref (ad a1), .int a2] h h0 := met_v (lv := [(0, .ref (ad 13)), (1, .ref (ad a1)), (2, .int a2)]) hi (by decide) rfl (Nat.le_of_ble_eq_true rfl) rfl rfl (fun _ _ _ _ _ _ _ _ C => tX1_spread_0 C hk1 hf)
set_option maxRecDepth 20000 in
theorem ggX1_find_X4_endOfWords : GoodIn wsX1_find wsX4_endOfWords := goodIn_r _ [8, 9, 72, 73, 74] (by decide +kernel) (by decide +kernel)
set_option maxRecDepth 20000 in
theorem gX1_find_X4_endOfWords : GoodIn wsX1_find (wsV RX1 35 RX4 yX4_endOfWords wsX4_endOfWords) := goodIn_app (goodIn_of _ (by decide +kernel)) ggX1_find_X4_endOfWords
set_option maxRecDepth 20000 in
theorem ggX1_find_X4_wrongRow : GoodIn wsX1_find wsX4_wrongRow := goodIn_r _ [13, 14, 15, 16, 17, 72, 73, 74] (by decide +kernel) (by decide +kernel)
set_option maxRecDepth 20000 in
theorem gX1_find_X4_wrongRow : GoodIn wsX1_find (wsV RX1 41 RX4 yX4_wrongRow wsX4_wrongRow) := goodIn_app (goodIn_of _ (by decide +kernel)) ggX1_find_X4_wrongRow
set_option maxRecDepth 20000 in
theorem ggX1_find_J6_bitCount_0f7a4 : GoodIn wsX1_find wsJ6_bitCount_0f7a4 := goodIn_r _ [21, 22, 23, 24] (by decide +kernel) (by decide +kernel)
set_option maxRecDepth 20000 in
theorem gX1_find_J6_bitCount_0f7a4 : GoodIn wsX1_find (va_wsS RX1 45 yJ6_bitCount_0f7a4 wsJ6_bitCount_0f7a4) := goodIn_app (goodIn_of _ (by decide +kernel)) ggX1_find_J6_bitCount_0f7a4
set_option maxRecDepth 20000 in
theorem ggX1_find_X1_spread : GoodIn wsX1_find wsX1_spread := goodIn_r _ [29, 30, 31, 32, 1, 33, 34, 35, 36, 37, 28, 38, 2, 10, 11, 12, 7, 13, 14, 15, 16, 17, 18, 19, 20, 21, 22, 23, 24, 39, 40, 41, 42, 43, 44, 45, 46, 47, 48, 49, 50, 51, 52, 53, 54, 55, 56, 57, 58, 59, 60, 61, 62, 63, 64, 65, 66, 67, 68, 69, 70, 71, 72, 73, 74] (by decide +kernel) (by decide +kernel)
set_option maxRecDepth 20000 in
theorem gX1_find_X1_spread : GoodIn wsX1_find (wsV RX1 50 RX1 yX1_spread wsX1_spread) := goodIn_app (goodIn_of _ (by decide +kernel)) ggX1_find_X1_spread
theorem dX1_find_0 : decode cX1_find 0 = .ok (.aload_n 0, 1) := by decide +kernel
theorem dX1_find_1 : decode cX1_find 1 = .ok (.iconst 0, 1) := by decide +kernel
theorem dX1_find_2 : decode cX1_find 2 = .ok (.putfield 31, 3) := by decide +kernel
theorem dX1_find_5 : decode cX1_find 5 = .ok (.aload_n 1, 1) := by decide +kernel
theorem dX1_find_6 : decode cX1_find 6 = .ok (.invokevirtual 35, 3) := by decide +kernel
theorem dX1_find_9 : decode cX1_find 9 = .ok (.istore_n 2, 1) := by decide +kernel
theorem dX1_find_10 : decode cX1_find 10 = .ok (.iconst 0, 1) := by decide +kernel
theorem dX1_find_11 : decode cX1_find 11 = .ok (.istore_n 3, 1) := by decide +kernel
theorem dX1_find_12 : decode cX1_find 12 = .ok (.iload_n 3, 1) := by decide +kernel
theorem dX1_find_13 : decode cX1_find 13 = .ok (.iload_n 2, 1) := by decide +kernel
theorem dX1_find_14 : decode cX1_find 14 = .ok (.if_icmp .ge 16, 3) := by decide +kernel
theorem dX1_find_17 : decode cX1_find 17 = .ok (.aload_n 0, 1) := by decide +kernel
theorem dX1_find_18 : decode cX1_find 18 = .ok (.getfield 24, 3) := by decide +kernel
theorem dX1_find_21 : decode cX1_find 21 = .ok (.iload_n 3, 1) := by decide +kernel
theorem dX1_find_22 : decode cX1_find 22 = .ok (.iconst 0, 1) := by decide +kernel
theorem dX1_find_23 : decode cX1_find 23 = .ok (.bastore, 1) := by decide +kernel
theorem dX1_find_24 : decode cX1_find 24 = .ok (.iinc 3 1, 3) := by decide +kernel
theorem dX1_find_27 : decode cX1_find 27 = .ok (.goto (-15), 3) := by decide +kernel
theorem dX1_find_30 : decode cX1_find 30 = .ok (.bipush 8, 2) := by decide +kernel
theorem dX1_find_32 : decode cX1_find 32 = .ok (.istore_n 3, 1) := by decide +kernel
theorem dX1_find_33 : decode cX1_find 33 = .ok (.iload_n 3, 1) := by decide +kernel
theorem dX1_find_34 : decode cX1_find 34 = .ok (.iload_n 2, 1) := by decide +kernel
theorem dX1_find_35 : decode cX1_find 35 = .ok (.if_icmp .ge 71, 3) := by decide +kernel
theorem dX1_find_38 : decode cX1_find 38 = .ok (.aload_n 1, 1) := by decide +kernel
theorem dX1_find_39 : decode cX1_find 39 = .ok (.iload_n 3, 1) := by decide +kernel
theorem dX1_find_40 : decode cX1_find 40 = .ok (.invokevirtual 41, 3) := by decide +kernel
theorem dX1_find_43 : decode cX1_find 43 = .ok (.istore 4, 2) := by decide +kernel
theorem dX1_find_45 : decode cX1_find 45 = .ok (.iload 4, 2) := by decide +kernel
theorem dX1_find_47 : decode cX1_find 47 = .ok (.ifCond .eq 53, 3) := by decide +kernel
theorem dX1_find_50 : decode cX1_find 50 = .ok (.aload_n 0, 1) := by decide +kernel
theorem dX1_find_51 : decode cX1_find 51 = .ok (.getfield 24, 3) := by decide +kernel
theorem dX1_find_54 : decode cX1_find 54 = .ok (.iload_n 3, 1) := by decide +kernel
theorem dX1_find_55 : decode cX1_find 55 = .ok (.baload, 1) := by decide +kernel
theorem dX1_find_56 : decode cX1_find 56 = .ok (.ifCond .ne 44, 3) := by decide +kernel
theorem dX1_find_59 : decode cX1_find 59 = .ok (.aload_n 0, 1) := by decide +kernel
theorem dX1_find_60 : decode cX1_find 60 = .ok (.getfield 21, 3) := by decide +kernel
theorem dX1_find_63 : decode cX1_find 63 = .ok (.aload_n 0, 1) := by decide +kernel
theorem dX1_find_64 : decode cX1_find 64 = .ok (.getfield 31, 3) := by decide +kernel
theorem dX1_find_67 : decode cX1_find 67 = .ok (.bipush 8, 2) := by decide +kernel
theorem dX1_find_69 : decode cX1_find 69 = .ok (.iload_n 3, 1) := by decide +kernel
theorem dX1_find_70 : decode cX1_find 70 = .ok (.imul, 1) := by decide +kernel
theorem dX1_find_71 : decode cX1_find 71 = .ok (.iload 4, 2) := by decide +kernel
theorem dX1_find_73 : decode cX1_find 73 = .ok (.iload 4, 2) := by decide +kernel
theorem dX1_find_75 : decode cX1_find 75 = .ok (.ineg, 1) := by decide +kernel
theorem dX1_find_76 : decode cX1_find 76 = .ok (.iand, 1) := by decide +kernel
theorem dX1_find_77 : decode cX1_find 77 = .ok (.iconst 1, 1) := by decide +kernel
theorem dX1_find_78 : decode cX1_find 78 = .ok (.isub, 1) := by decide +kernel
theorem dX1_find_79 : decode cX1_find 79 = .ok (.invokestatic 45, 3) := by decide +kernel
theorem dX1_find_82 : decode cX1_find 82 = .ok (.iadd, 1) := by decide +kernel
theorem dX1_find_83 : decode cX1_find 83 = .ok (.iastore, 1) := by decide +kernel
theorem dX1_find_84 : decode cX1_find 84 = .ok (.aload_n 0, 1) := by decide +kernel
theorem dX1_find_85 : decode cX1_find 85 = .ok (.aload_n 1, 1) := by decide +kernel
theorem dX1_find_86 : decode cX1_find 86 = .ok (.iload_n 3, 1) := by decide +kernel
theorem dX1_find_87 : decode cX1_find 87 = .ok (.invokevirtual 50, 3) := by decide +kernel
theorem dX1_find_90 : decode cX1_find 90 = .ok (.aload_n 0, 1) := by decide +kernel
theorem dX1_find_91 : decode cX1_find 91 = .ok (.dup, 1) := by decide +kernel
theorem dX1_find_92 : decode cX1_find 92 = .ok (.getfield 31, 3) := by decide +kernel
theorem dX1_find_95 : decode cX1_find 95 = .ok (.iconst 1, 1) := by decide +kernel
theorem dX1_find_96 : decode cX1_find 96 = .ok (.iadd, 1) := by decide +kernel
theorem dX1_find_97 : decode cX1_find 97 = .ok (.putfield 31, 3) := by decide +kernel
theorem dX1_find_100 : decode cX1_find 100 = .ok (.iinc 3 1, 3) := by decide +kernel
theorem dX1_find_103 : decode cX1_find 103 = .ok (.goto (-70), 3) := by decide +kernel
theorem dX1_find_106 : decode cX1_find 106 = .ok (.return_, 1) := by decide +kernel
abbrev rmX1_find : Room := { frames := 4, cells := 0, slots := 0, locals := 96 }
set_option maxRecDepth 100000 in
theorem hinX1_find_1 : ∀ w ∈ wsX10, w ∈ wsX1_find := by decide +kernel
set_option maxHeartbeats 4000000 in
set_option maxRecDepth 100000 in
theorem tX1_find_100 {h : AH} {a1 : Nat} {k33 : AH → Int32 → Int32 → Option AH} {x2 : Int32} {x3 : Int32} {h0 : AH} (C : Cx p rmX1_find s m args meth c RX1 cX1_find 5 none wsX1_find D ad cy tb 0 0) (hk1 : kd a1 = 4) (H33 : ∀ (h : AH) (x2 : Int32) (x3 : Int32), k33 h x2 x3 = some h0 → AW p l e rmX1_find s m args below meth c 5 D ad cy 0 0 (Qv D ad cy below args s h0) 33 [(0, .ref (ad 13)), (1, .ref (ad a1)), (2, .int x2), (3, .int x3)] [] h) (hf : fX1_find_100 k33 a1 h x2 x3 = some h0) : AW p l e rmX1_find s m args below meth c 5 D ad cy 0 0 (Qv D ad cy below args s h0) 100 [(0, .ref (ad 13)), (1, .ref (ad a1)), (2, .int x2), (3, .int x3)] [] h := by
  unfold fX1_find_100 at hf
  obtain ⟨v1, hvv1, hf⟩ := nm_ex hf
  refine aw_iinc (j := 3) (v := v1) (lv1 := [(3, .int v1), (0, .ref (ad 13)), (1, .ref (ad a1)), (2, .int x2)]) C dX1_find_100 rfl hvv1 (by decide) rfl ?_
  refine aw_goto (tgt := 33) C dX1_find_103 (by decide) ?_
  refine aw_sub [1, 2, 3, 0] rfl ?_
  exact H33 h x2 v1 hf
set_option maxHeartbeats 4000000 in
set_option maxRecDepth 100000 in
theorem tX1_find_33b {h : AH} {a1 : Nat} {k33 : AH → Int32 → Int32 → Option AH} {x2 : Int32} {x3 : Int32} {h0 : AH} (C : Cx p rmX1_find s m args meth c RX1 cX1_find 5 none wsX1_find D ad cy tb 0 0) (hk1 : kd a1 = 4) (H33 : ∀ (h : AH) (x2 : Int32) (x3 : Int32), k33 h x2 x3 = some h0 → AW p l e rmX1_find s m args below meth c 5 D ad cy 0 0 (Qv D ad cy below args s h0) 33 [(0, .ref (ad 13)), (1, .ref (ad a1)), (2, .int x2), (3, .int x3)] [] h) (hf : fX1_find_33b k33 a1 h x2 x3 = some h0) : AW p l e rmX1_find s m args below meth c 5 D ad cy 0 0 (Qv D ad cy below args s h0) 33 [(0, .ref (ad 13)), (1, .ref (ad a1)), (2, .int x2), (3, .int x3)] [] h := by
  unfold fX1_find_33b at hf
  refine aw_iload_n C dX1_find_33 rfl 3 rfl ?_
  refine aw_iload_n C dX1_find_34 rfl 2 rfl ?_
  refine aw_icmp_ge (tgt := 106) C dX1_find_35 (by decide) hf (fun hf => ?_) (fun hf => ?_)
  · exact aw_vret C dX1_find_106 hf
  refine aw_aload_n C dX1_find_38 rfl 1 rfl ?_
  refine aw_iload_n C dX1_find_39 rfl 3 rfl ?_
  obtain ⟨r1, hc, hf⟩ := bR_some hf
  refine aw_callVi (As := [.int x3]) (rest := []) C hk1 (by decide) rfl (kX4_wrongRow (l := l) (D := D) (ad := ad) (cy := cy) (tb := tb) C.2.2.2.2.2.2.2.2.1 hk1 hc) (fun ht _ => cwV 1 ht gX1_find_X4_wrongRow rfl rfl rfl (by decide +kernel) ⟨Nat.le_of_ble_eq_true rfl, Nat.le_of_ble_eq_true rfl⟩) rfl rfl (Nat.le_of_ble_eq_true rfl) dX1_find_40 ?_
  refine aw_istore (lv1 := [(4, .int r1), (0, .ref (ad 13)), (1, .ref (ad a1)), (2, .int x2), (3, .int x3)]) C dX1_find_43 (by decide) rfl ?_
  refine aw_iload C dX1_find_45 0 rfl ?_
  refine aw_if_eq (tgt := 100) C dX1_find_47 (by decide) hf (fun hf => ?_) (fun hf => ?_)
  · refine aw_sub [1, 2, 3, 4] rfl ?_
    exact tX1_find_100 C hk1 H33 hf
  refine aw_aload_n C dX1_find_50 rfl 1 rfl ?_
  refine aw_get C (kd_lt rfl (by decide)) (ce_1 rfl) rfl hinX1_find_1 5 (by decide) rfl (by decide +kernel) rfl dX1_find_51 ?_
  refine aw_iload_n C dX1_find_54 rfl 4 rfl ?_
  refine aw_zald C rfl rfl hf dX1_find_55 (fun hf => ?_)
  refine aw_if_ne (tgt := 100) C dX1_find_56 (by decide) hf (fun hf => ?_) (fun hf => ?_)
  · refine aw_sub [1, 2, 3, 4] rfl ?_
    exact tX1_find_100 C hk1 H33 hf
  refine aw_aload_n C dX1_find_59 rfl 1 rfl ?_
  refine aw_get C (kd_lt rfl (by decide)) (ce_1 rfl) rfl hinX1_find_1 4 (by decide) rfl (by decide +kernel) rfl dX1_find_60 ?_
  refine aw_aload_n C dX1_find_63 rfl 1 rfl ?_
  refine aw_get C (kd_lt rfl (by decide)) (ce_1 rfl) rfl hinX1_find_1 0 (by decide) rfl (by decide +kernel) rfl dX1_find_64 ?_
  refine aw_bipush (v := 8) C dX1_find_67 (by decide) ?_
  refine aw_iload_n C dX1_find_69 rfl 4 rfl ?_
  refine aw_imul C dX1_find_70 ?_
  refine aw_iload C dX1_find_71 0 rfl ?_
  refine aw_iload C dX1_find_73 0 rfl ?_
  refine aw_ineg C dX1_find_75 ?_
  refine aw_iand C dX1_find_76 ?_
  refine aw_iconst (v := 1) C dX1_find_77 (by decide) ?_
  refine aw_isub C dX1_find_78 ?_
  obtain ⟨r2, hc, hf⟩ := bR_some hf
  refine aw_callSi (As := [.int ((r1 &&& (-r1)) - 1)]) (rest := [.int (8 * x3), .int (h.1 13 0), .ref (ad 17)]) C (kJ6_bitCount_0f7a4 (l := l) (D := D) (ad := ad) (cy := cy) (tb := tb) C.2.2.2.2.2.2.2.2.1 hc) (fun ht _ => va_cwS 1 ht gX1_find_J6_bitCount_0f7a4 rfl rfl rfl (by decide +kernel) ⟨Nat.le_of_ble_eq_true rfl, Nat.le_of_ble_eq_true rfl⟩) rfl rfl (Nat.le_of_ble_eq_true rfl) dX1_find_79 ?_
  refine aw_iadd C dX1_find_82 ?_
  refine aw_nm2 hf (fun v3 hf => ?_)
  refine aw_iast C rfl rfl hf dX1_find_83 (fun hf => ?_)
  refine aw_nmH hf (fun h4 hf => ?_)
  refine aw_aload_n C dX1_find_84 rfl 1 rfl ?_
  refine aw_aload_n C dX1_find_85 rfl 2 rfl ?_
  refine aw_iload_n C dX1_find_86 rfl 4 rfl ?_
  obtain ⟨h5, hc, hf⟩ := bR_some hf
  refine aw_callVv (As := [.ref (ad a1), .int x3]) (rest := []) C rfl (by decide) rfl (kX1_spread (l := l) (D := D) (ad := ad) (cy := cy) (tb := tb) C.2.2.2.2.2.2.2.2.1 hk1 hc) (fun ht _ => cwV 2 ht gX1_find_X1_spread rfl rfl rfl (by decide +kernel) ⟨Nat.le_of_ble_eq_true rfl, Nat.le_of_ble_eq_true rfl⟩) rfl rfl (Nat.le_of_ble_eq_true rfl) dX1_find_87 ?_
  refine aw_aload_n C dX1_find_90 rfl 1 rfl ?_
  refine aw_dup C dX1_find_91 rfl ?_
  refine aw_get C (kd_lt rfl (by decide)) (ce_1 rfl) rfl hinX1_find_1 0 (by decide) rfl (by decide +kernel) rfl dX1_find_92 ?_
  refine aw_iconst (v := 1) C dX1_find_95 (by decide) ?_
  refine aw_iadd C dX1_find_96 ?_
  refine aw_put (ty := .int) C (kd_lt rfl (by decide)) (ce_1 rfl) rfl hinX1_find_1 tyX1 tyX1_ok nmX1 0 (by decide) rfl (by decide +kernel) rfl (by decide +kernel) rfl rfl (Nat.le_of_ble_eq_true rfl) (cs_1_0 rfl) dX1_find_97 ?_
  refine aw_nmH hf (fun h6 hf => ?_)
  refine aw_sub [1, 2, 3, 4] rfl ?_
  exact tX1_find_100 C hk1 H33 hf
set_option maxHeartbeats 4000000 in
set_option maxRecDepth 100000 in
theorem tX1_find_33  {a1 : Nat} {h0 : AH} (C : Cx p rmX1_find s m args meth c RX1 cX1_find 5 none wsX1_find D ad cy tb 0 0) (hk1 : kd a1 = 4) : ∀ (n : Nat) (h : AH) (x2 : Int32) (x3 : Int32), fX1_find_33 a1 n h x2 x3 = some h0 → AW p l e rmX1_find s m args below meth c 5 D ad cy 0 0 (Qv D ad cy below args s h0) 33 [(0, .ref (ad 13)), (1, .ref (ad a1)), (2, .int x2), (3, .int x3)] [] h := by
  intro n
  induction n with
  | zero => intro h x2 x3 hf; cases hf
  | succ n ih => intro h x2 x3 hf; exact tX1_find_33b C hk1 ih  hf
set_option maxHeartbeats 4000000 in
set_option maxRecDepth 100000 in
theorem tX1_find_12b {h : AH} {a1 : Nat} {k12 : AH → Int32 → Int32 → Option AH} {x2 : Int32} {x3 : Int32} {h0 : AH} (C : Cx p rmX1_find s m args meth c RX1 cX1_find 5 none wsX1_find D ad cy tb 0 0) (hk1 : kd a1 = 4) (H12 : ∀ (h : AH) (x2 : Int32) (x3 : Int32), k12 h x2 x3 = some h0 → AW p l e rmX1_find s m args below meth c 5 D ad cy 0 0 (Qv D ad cy below args s h0) 12 [(0, .ref (ad 13)), (1, .ref (ad a1)), (2, .int x2), (3, .int x3)] [] h) (hf : fX1_find_12b k12 a1 h x2 x3 = some h0) : AW p l e rmX1_find s m args below meth c 5 D ad cy 0 0 (Qv D ad cy below args s h0) 12 [(0, .ref (ad 13)), (1, .ref (ad a1)), (2, .int x2), (3, .int x3)] [] h := by
  unfold fX1_find_12b at hf
  refine aw_iload_n C dX1_find_12 rfl 3 rfl ?_
  refine aw_iload_n C dX1_find_13 rfl 2 rfl ?_
  refine aw_icmp_ge (tgt := 30) C dX1_find_14 (by decide) hf (fun hf => ?_) (fun hf => ?_)
  · refine aw_bipush (v := 8) C dX1_find_30 (by decide) ?_
    refine aw_istore_n (lv1 := [(3, .int 8), (0, .ref (ad 13)), (1, .ref (ad a1)), (2, .int x2)]) C dX1_find_32 rfl (by decide) rfl ?_
    refine aw_sub [1, 2, 3, 0] rfl ?_
    exact tX1_find_33 C hk1  FU h x2 8 hf
  refine aw_aload_n C dX1_find_17 rfl 0 rfl ?_
  refine aw_get C (kd_lt rfl (by decide)) (ce_1 rfl) rfl hinX1_find_1 5 (by decide) rfl (by decide +kernel) rfl dX1_find_18 ?_
  refine aw_iload_n C dX1_find_21 rfl 3 rfl ?_
  refine aw_iconst (v := 0) C dX1_find_22 (by decide) ?_
  refine aw_zast C rfl rfl hf dX1_find_23 (fun hf => ?_)
  refine aw_nmH hf (fun h1 hf => ?_)
  obtain ⟨v2, hvv2, hf⟩ := nm_ex hf
  refine aw_iinc (j := 3) (v := v2) (lv1 := [(3, .int v2), (0, .ref (ad 13)), (1, .ref (ad a1)), (2, .int x2)]) C dX1_find_24 rfl hvv2 (by decide) rfl ?_
  refine aw_goto (tgt := 12) C dX1_find_27 (by decide) ?_
  refine aw_sub [1, 2, 3, 0] rfl ?_
  exact H12 h1 x2 v2 hf
set_option maxHeartbeats 4000000 in
set_option maxRecDepth 100000 in
theorem tX1_find_12  {a1 : Nat} {h0 : AH} (C : Cx p rmX1_find s m args meth c RX1 cX1_find 5 none wsX1_find D ad cy tb 0 0) (hk1 : kd a1 = 4) : ∀ (n : Nat) (h : AH) (x2 : Int32) (x3 : Int32), fX1_find_12 a1 n h x2 x3 = some h0 → AW p l e rmX1_find s m args below meth c 5 D ad cy 0 0 (Qv D ad cy below args s h0) 12 [(0, .ref (ad 13)), (1, .ref (ad a1)), (2, .int x2), (3, .int x3)] [] h := by
  intro n
  induction n with
  | zero => intro h x2 x3 hf; cases hf
  | succ n ih => intro h x2 x3 hf; exact tX1_find_12b C hk1 ih  hf
set_option maxHeartbeats 4000000 in
set_option maxRecDepth 100000 in
theorem tX1_find_0 {h : AH} {a1 : Nat} {h0 : AH} (C : Cx p rmX1_find s m args meth c RX1 cX1_find 5 none wsX1_find D ad cy tb 0 0) (hk1 : kd a1 = 4) (hf : fX1_find h a1 = some h0) : AW p l e rmX1_find s m args below meth c 5 D ad cy 0 0 (Qv D ad cy below args s h0) 0 [(0, .ref (ad 13)), (1, .ref (ad a1))] [] h := by
  unfold fX1_find at hf
  refine aw_aload_n C dX1_find_0 rfl 0 rfl ?_
  refine aw_iconst (v := 0) C dX1_find_1 (by decide) ?_
  refine aw_put (ty := .int) C (kd_lt rfl (by decide)) (ce_1 rfl) rfl hinX1_find_1 tyX1 tyX1_ok nmX1 0 (by decide) rfl (by decide +kernel) rfl (by decide +kernel) rfl rfl (Nat.le_of_ble_eq_true rfl) (cs_1_0 rfl) dX1_find_2 ?_
  refine aw_nmH hf (fun h1 hf => ?_)
  refine aw_aload_n C dX1_find_5 rfl 1 rfl ?_
  obtain ⟨r2, hc, hf⟩ := bR_some hf
  refine aw_callVi (As := []) (rest := []) C hk1 (by decide) rfl (kX4_endOfWords (l := l) (D := D) (ad := ad) (cy := cy) (tb := tb) C.2.2.2.2.2.2.2.2.1 hk1 hc) (fun ht _ => cwV 0 ht gX1_find_X4_endOfWords rfl rfl rfl (by decide +kernel) ⟨Nat.le_of_ble_eq_true rfl, Nat.le_of_ble_eq_true rfl⟩) rfl rfl (Nat.le_of_ble_eq_true rfl) dX1_find_6 ?_
  refine aw_istore_n (lv1 := [(2, .int r2), (0, .ref (ad 13)), (1, .ref (ad a1))]) C dX1_find_9 rfl (by decide) rfl ?_
  refine aw_iconst (v := 0) C dX1_find_10 (by decide) ?_
  refine aw_istore_n (lv1 := [(3, .int 0), (2, .int r2), (0, .ref (ad 13)), (1, .ref (ad a1))]) C dX1_find_11 rfl (by decide) rfl ?_
  refine aw_sub [2, 3, 1, 0] rfl ?_
  exact tX1_find_12 C hk1  FU h1 r2 0 hf
theorem kX1_find {h : AH} {a1 : Nat} {h0 : AH} (hi : Inj ad) (hk1 : kd a1 = 4) (hf : fX1_find h a1 = some h0) : Kv l yX1_find wsX1_find rmX1_find D ad cy tb [.ref (ad 13), .ref (ad a1)] h h0 := met_v (lv := [(0, .ref (ad 13)), (1, .ref (ad a1))]) hi (by decide) rfl (Nat.le_of_ble_eq_true rfl) rfl rfl (fun _ _ _ _ _ _ _ _ C => tX1_find_0 C hk1 hf)
theorem dX1_tell_0 : decode cX1_tell 0 = .ok (.iload_n 1, 1) := by decide +kernel
theorem dX1_tell_1 : decode cX1_tell 1 = .ok (.ifCond .lt 11, 3) := by decide +kernel
theorem dX1_tell_4 : decode cX1_tell 4 = .ok (.iload_n 1, 1) := by decide +kernel
theorem dX1_tell_5 : decode cX1_tell 5 = .ok (.aload_n 0, 1) := by decide +kernel
theorem dX1_tell_6 : decode cX1_tell 6 = .ok (.getfield 31, 3) := by decide +kernel
theorem dX1_tell_9 : decode cX1_tell 9 = .ok (.if_icmp .lt 6, 3) := by decide +kernel
theorem dX1_tell_12 : decode cX1_tell 12 = .ok (.bipush (-2), 2) := by decide +kernel
theorem dX1_tell_14 : decode cX1_tell 14 = .ok (.ireturn, 1) := by decide +kernel
theorem dX1_tell_15 : decode cX1_tell 15 = .ok (.iload_n 2, 1) := by decide +kernel
theorem dX1_tell_16 : decode cX1_tell 16 = .ok (.tableswitch 60 0 3 #[32, 39, 46, 53], 32) := by decide +kernel
theorem dX1_tell_48 : decode cX1_tell 48 = .ok (.aload_n 0, 1) := by decide +kernel
theorem dX1_tell_49 : decode cX1_tell 49 = .ok (.getfield 9, 3) := by decide +kernel
theorem dX1_tell_52 : decode cX1_tell 52 = .ok (.iload_n 1, 1) := by decide +kernel
theorem dX1_tell_53 : decode cX1_tell 53 = .ok (.iaload, 1) := by decide +kernel
theorem dX1_tell_54 : decode cX1_tell 54 = .ok (.ireturn, 1) := by decide +kernel
theorem dX1_tell_55 : decode cX1_tell 55 = .ok (.aload_n 0, 1) := by decide +kernel
theorem dX1_tell_56 : decode cX1_tell 56 = .ok (.getfield 15, 3) := by decide +kernel
theorem dX1_tell_59 : decode cX1_tell 59 = .ok (.iload_n 1, 1) := by decide +kernel
theorem dX1_tell_60 : decode cX1_tell 60 = .ok (.iaload, 1) := by decide +kernel
theorem dX1_tell_61 : decode cX1_tell 61 = .ok (.ireturn, 1) := by decide +kernel
theorem dX1_tell_62 : decode cX1_tell 62 = .ok (.aload_n 0, 1) := by decide +kernel
theorem dX1_tell_63 : decode cX1_tell 63 = .ok (.getfield 18, 3) := by decide +kernel
theorem dX1_tell_66 : decode cX1_tell 66 = .ok (.iload_n 1, 1) := by decide +kernel
theorem dX1_tell_67 : decode cX1_tell 67 = .ok (.iaload, 1) := by decide +kernel
theorem dX1_tell_68 : decode cX1_tell 68 = .ok (.ireturn, 1) := by decide +kernel
theorem dX1_tell_69 : decode cX1_tell 69 = .ok (.aload_n 0, 1) := by decide +kernel
theorem dX1_tell_70 : decode cX1_tell 70 = .ok (.getfield 21, 3) := by decide +kernel
theorem dX1_tell_73 : decode cX1_tell 73 = .ok (.iload_n 1, 1) := by decide +kernel
theorem dX1_tell_74 : decode cX1_tell 74 = .ok (.iaload, 1) := by decide +kernel
theorem dX1_tell_75 : decode cX1_tell 75 = .ok (.ireturn, 1) := by decide +kernel
theorem dX1_tell_76 : decode cX1_tell 76 = .ok (.bipush (-2), 2) := by decide +kernel
theorem dX1_tell_78 : decode cX1_tell 78 = .ok (.ireturn, 1) := by decide +kernel
abbrev rmX1_tell : Room := { frames := 0, cells := 0, slots := 0, locals := 0 }
set_option maxRecDepth 100000 in
theorem hinX1_tell_1 : ∀ w ∈ wsX10, w ∈ wsX1_tell := by decide +kernel
set_option maxHeartbeats 4000000 in
set_option maxRecDepth 100000 in
theorem tX1_tell_0 {h : AH} {a1 : Int32} {a2 : Int32} {r0 : Int32} (C : Cx p rmX1_tell s m args meth c RX1 cX1_tell 3 (some .int) wsX1_tell D ad cy tb 0 0) (hf : fX1_tell h a1 a2 = some r0) : AW p l e rmX1_tell s m args below meth c 3 D ad cy 0 0 (Qi D ad cy below args s r0 h) 0 [(0, .ref (ad 13)), (1, .int a1), (2, .int a2)] [] h := by
  unfold fX1_tell at hf
  refine aw_iload_n C dX1_tell_0 rfl 1 rfl ?_
  refine aw_if_lt (tgt := 12) C dX1_tell_1 (by decide) hf (fun hf => ?_) (fun hf => ?_)
  · refine aw_bipush (v := (-2)) C dX1_tell_12 (by decide) ?_
    exact aw_iretR C dX1_tell_14 hf
  refine aw_iload_n C dX1_tell_4 rfl 1 rfl ?_
  refine aw_aload_n C dX1_tell_5 rfl 0 rfl ?_
  refine aw_get C (kd_lt rfl (by decide)) (ce_1 rfl) rfl hinX1_tell_1 0 (by decide) rfl (by decide +kernel) rfl dX1_tell_6 ?_
  refine aw_icmp_lt (tgt := 15) C dX1_tell_9 (by decide) hf (fun hf => ?_) (fun hf => ?_)
  · refine aw_iload_n C dX1_tell_15 rfl 2 rfl ?_
    rcases Decidable.em (a2 = 0) with hx0 | hx0
    · rw [if_pos hx0] at hf
      refine aw_tabIn (tgt := 48) C dX1_tell_16 (by rw [hx0]; decide) (by rw [hx0]; decide) (by rw [hx0]; rfl) (by decide) ?_
      refine aw_aload_n C dX1_tell_48 rfl 0 rfl ?_
      refine aw_get C (kd_lt rfl (by decide)) (ce_1 rfl) rfl hinX1_tell_1 1 (by decide) rfl (by decide +kernel) rfl dX1_tell_49 ?_
      refine aw_iload_n C dX1_tell_52 rfl 1 rfl ?_
      refine aw_iald C rfl rfl hf dX1_tell_53 (fun hf => ?_)
      exact aw_iretR C dX1_tell_54 hf
    rw [if_neg hx0] at hf
    rcases Decidable.em (a2 = 1) with hx1 | hx1
    · rw [if_pos hx1] at hf
      refine aw_tabIn (tgt := 55) C dX1_tell_16 (by rw [hx1]; decide) (by rw [hx1]; decide) (by rw [hx1]; rfl) (by decide) ?_
      refine aw_aload_n C dX1_tell_55 rfl 0 rfl ?_
      refine aw_get C (kd_lt rfl (by decide)) (ce_1 rfl) rfl hinX1_tell_1 2 (by decide) rfl (by decide +kernel) rfl dX1_tell_56 ?_
      refine aw_iload_n C dX1_tell_59 rfl 1 rfl ?_
      refine aw_iald C rfl rfl hf dX1_tell_60 (fun hf => ?_)
      exact aw_iretR C dX1_tell_61 hf
    rw [if_neg hx1] at hf
    rcases Decidable.em (a2 = 2) with hx2 | hx2
    · rw [if_pos hx2] at hf
      refine aw_tabIn (tgt := 62) C dX1_tell_16 (by rw [hx2]; decide) (by rw [hx2]; decide) (by rw [hx2]; rfl) (by decide) ?_
      refine aw_aload_n C dX1_tell_62 rfl 0 rfl ?_
      refine aw_get C (kd_lt rfl (by decide)) (ce_1 rfl) rfl hinX1_tell_1 3 (by decide) rfl (by decide +kernel) rfl dX1_tell_63 ?_
      refine aw_iload_n C dX1_tell_66 rfl 1 rfl ?_
      refine aw_iald C rfl rfl hf dX1_tell_67 (fun hf => ?_)
      exact aw_iretR C dX1_tell_68 hf
    rw [if_neg hx2] at hf
    rcases Decidable.em (a2 = 3) with hx3 | hx3
    · rw [if_pos hx3] at hf
      refine aw_tabIn (tgt := 69) C dX1_tell_16 (by rw [hx3]; decide) (by rw [hx3]; decide) (by rw [hx3]; rfl) (by decide) ?_
      refine aw_aload_n C dX1_tell_69 rfl 0 rfl ?_
      refine aw_get C (kd_lt rfl (by decide)) (ce_1 rfl) rfl hinX1_tell_1 4 (by decide) rfl (by decide +kernel) rfl dX1_tell_70 ?_
      refine aw_iload_n C dX1_tell_73 rfl 1 rfl ?_
      refine aw_iald C rfl rfl hf dX1_tell_74 (fun hf => ?_)
      exact aw_iretR C dX1_tell_75 hf
    rw [if_neg hx3] at hf
    have hsw := sw_out (x := a2) 4 (by decide) (fun j hj => by
      rcases (show j = 0 ∨ j = 1 ∨ j = 2 ∨ j = 3 by omega) with rfl | rfl | rfl | rfl
      · exact hx0
      · exact hx1
      · exact hx2
      · exact hx3)
    refine aw_tabOut (tgt := 76) C dX1_tell_16 (by omega) (by decide) ?_
    refine aw_bipush (v := (-2)) C dX1_tell_76 (by decide) ?_
    exact aw_iretR C dX1_tell_78 hf
  refine aw_bipush (v := (-2)) C dX1_tell_12 (by decide) ?_
  exact aw_iretR C dX1_tell_14 hf
theorem kX1_tell {h : AH} {a1 : Int32} {a2 : Int32} {r0 : Int32} (hi : Inj ad) (hf : fX1_tell h a1 a2 = some r0) : Ki l yX1_tell wsX1_tell rmX1_tell D ad cy tb [.ref (ad 13), .int a1, .int a2] h r0 h := met_i (lv := [(0, .ref (ad 13)), (1, .int a1), (2, .int a2)]) hi (by decide) rfl (Nat.le_of_ble_eq_true rfl) rfl rfl (fun _ _ _ _ _ _ _ _ C => tX1_tell_0 C  hf)
