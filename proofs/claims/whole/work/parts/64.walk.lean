variable {p : Program} {l : Launch} {e : Env} {s : State} {m : MethodId} {args : Array Value} {below : List Frame} {meth : Method} {c : Code} {D : va_G} {ad : Nat → Nat} {cy : Nat → ClassId} {tb : Nat → Nat}
set_option maxRecDepth 20000 in
theorem ggX5_around_X5_isBit : GoodIn wsX5_around wsX5_isBit := goodIn_r _ [6, 7, 8, 9, 5, 10, 1, 11, 12, 13, 14, 15, 16, 17, 18, 19, 20, 21, 22, 23, 24, 25] (by decide +kernel) (by decide +kernel)
set_option maxRecDepth 20000 in
theorem gX5_around_X5_isBit : GoodIn wsX5_around (wsV RX5 90 RX5 yX5_isBit wsX5_isBit) := goodIn_app (goodIn_of _ (by decide +kernel)) ggX5_around_X5_isBit
theorem dX5_around_0 : decode cX5_around 0 = .ok (.aload_n 0, 1) := by decide +kernel
theorem dX5_around_1 : decode cX5_around 1 = .ok (.iload_n 1, 1) := by decide +kernel
theorem dX5_around_2 : decode cX5_around 2 = .ok (.iload_n 2, 1) := by decide +kernel
theorem dX5_around_3 : decode cX5_around 3 = .ok (.iload_n 3, 1) := by decide +kernel
theorem dX5_around_4 : decode cX5_around 4 = .ok (.invokevirtual 90, 3) := by decide +kernel
theorem dX5_around_7 : decode cX5_around 7 = .ok (.ifCond .ne 6, 3) := by decide +kernel
theorem dX5_around_10 : decode cX5_around 10 = .ok (.bipush (-2), 2) := by decide +kernel
theorem dX5_around_12 : decode cX5_around 12 = .ok (.ireturn, 1) := by decide +kernel
theorem dX5_around_13 : decode cX5_around 13 = .ok (.iload_n 1, 1) := by decide +kernel
theorem dX5_around_14 : decode cX5_around 14 = .ok (.aload_n 0, 1) := by decide +kernel
theorem dX5_around_15 : decode cX5_around 15 = .ok (.getfield 12, 3) := by decide +kernel
theorem dX5_around_18 : decode cX5_around 18 = .ok (.getfield 58, 3) := by decide +kernel
theorem dX5_around_21 : decode cX5_around 21 = .ok (.if_icmp .ne 5, 3) := by decide +kernel
theorem dX5_around_24 : decode cX5_around 24 = .ok (.iconst 0, 1) := by decide +kernel
theorem dX5_around_25 : decode cX5_around 25 = .ok (.ireturn, 1) := by decide +kernel
theorem dX5_around_26 : decode cX5_around 26 = .ok (.bipush 49, 2) := by decide +kernel
theorem dX5_around_28 : decode cX5_around 28 = .ok (.istore 4, 2) := by decide +kernel
theorem dX5_around_30 : decode cX5_around 30 = .ok (.iload_n 1, 1) := by decide +kernel
theorem dX5_around_31 : decode cX5_around 31 = .ok (.iconst 1, 1) := by decide +kernel
theorem dX5_around_32 : decode cX5_around 32 = .ok (.if_icmp .le 6, 3) := by decide +kernel
theorem dX5_around_35 : decode cX5_around 35 = .ok (.iinc 4 56, 3) := by decide +kernel
theorem dX5_around_38 : decode cX5_around 38 = .ok (.iload_n 1, 1) := by decide +kernel
theorem dX5_around_39 : decode cX5_around 39 = .ok (.iconst 2, 1) := by decide +kernel
theorem dX5_around_40 : decode cX5_around 40 = .ok (.iadd, 1) := by decide +kernel
theorem dX5_around_41 : decode cX5_around 41 = .ok (.aload_n 0, 1) := by decide +kernel
theorem dX5_around_42 : decode cX5_around 42 = .ok (.getfield 12, 3) := by decide +kernel
theorem dX5_around_45 : decode cX5_around 45 = .ok (.getfield 58, 3) := by decide +kernel
theorem dX5_around_48 : decode cX5_around 48 = .ok (.if_icmp .gt 6, 3) := by decide +kernel
theorem dX5_around_51 : decode cX5_around 51 = .ok (.iinc 4 56, 3) := by decide +kernel
theorem dX5_around_54 : decode cX5_around 54 = .ok (.iload 4, 2) := by decide +kernel
theorem dX5_around_56 : decode cX5_around 56 = .ok (.ireturn, 1) := by decide +kernel
abbrev rmX5_around : Room := { frames := 2, cells := 0, slots := 0, locals := 44 }
set_option maxRecDepth 100000 in
theorem hinX5_around_5 : ∀ w ∈ wsX50, w ∈ wsX5_around := by decide +kernel
set_option maxRecDepth 100000 in
theorem hinX5_around_4 : ∀ w ∈ wsX40, w ∈ wsX5_around := by decide +kernel
set_option maxHeartbeats 4000000 in
set_option maxRecDepth 100000 in
theorem tX5_around_38 {h : AH} {a1 : Int32} {a2 : Int32} {a3 : Int32} {x4 : Int32} {r0 : Int32} (C : Cx p rmX5_around s m args meth c RX5 cX5_around 5 (some .int) wsX5_around D ad cy tb 0 0) (hf : fX5_around_38 h a1 a2 a3 x4 = some r0) : AW p l e rmX5_around s m args below meth c 5 D ad cy 0 0 (Qi D ad cy below args s r0 h) 38 [(0, .ref (ad 0)), (1, .int a1), (2, .int a2), (3, .int a3), (4, .int x4)] [] h := by
  unfold fX5_around_38 at hf
  refine aw_iload_n C dX5_around_38 rfl 1 rfl ?_
  refine aw_iconst (v := 2) C dX5_around_39 (by decide) ?_
  refine aw_iadd C dX5_around_40 ?_
  refine aw_aload_n C dX5_around_41 rfl 0 rfl ?_
  refine aw_get C (kd_lt rfl (by decide)) (ce_5 rfl) rfl hinX5_around_5 0 (by decide) rfl (by decide +kernel) rfl dX5_around_42 ?_
  refine aw_getN (host := "StairCodes") C (kd_lt rfl (by decide)) (ce_4 rfl) rfl hinX5_around_4 0 (by decide) rfl (by decide +kernel) rfl dX5_around_45 ?_
  refine aw_icmp_gt (tgt := 54) C dX5_around_48 (by decide) hf (fun hf => ?_) (fun hf => ?_)
  · refine aw_iload C dX5_around_54 4 rfl ?_
    exact aw_iretR C dX5_around_56 hf
  obtain ⟨v1, hvv1, hf⟩ := nm_ex hf
  refine aw_iinc (j := 4) (v := v1) (lv1 := [(4, .int v1), (0, .ref (ad 0)), (1, .int a1), (2, .int a2), (3, .int a3)]) C dX5_around_51 rfl hvv1 (by decide) rfl ?_
  refine aw_iload C dX5_around_54 0 rfl ?_
  exact aw_iretR C dX5_around_56 hf
set_option maxHeartbeats 4000000 in
set_option maxRecDepth 100000 in
theorem tX5_around_0 {h : AH} {a1 : Int32} {a2 : Int32} {a3 : Int32} {r0 : Int32} (C : Cx p rmX5_around s m args meth c RX5 cX5_around 5 (some .int) wsX5_around D ad cy tb 0 0) (hf : fX5_around h a1 a2 a3 = some r0) : AW p l e rmX5_around s m args below meth c 5 D ad cy 0 0 (Qi D ad cy below args s r0 h) 0 [(0, .ref (ad 0)), (1, .int a1), (2, .int a2), (3, .int a3)] [] h := by
  unfold fX5_around at hf
  refine aw_aload_n C dX5_around_0 rfl 0 rfl ?_
  refine aw_iload_n C dX5_around_1 rfl 1 rfl ?_
  refine aw_iload_n C dX5_around_2 rfl 2 rfl ?_
  refine aw_iload_n C dX5_around_3 rfl 3 rfl ?_
  obtain ⟨r1, hc, hf⟩ := bR_some hf
  refine aw_callVi (As := [.int a1, .int a2, .int a3]) (rest := []) C rfl (by decide) rfl (kX5_isBit (l := l) (D := D) (ad := ad) (cy := cy) (tb := tb) C.2.2.2.2.2.2.2.2.1 hc) (fun ht _ => cwV 3 ht gX5_around_X5_isBit rfl rfl rfl (by decide +kernel) ⟨Nat.le_of_ble_eq_true rfl, Nat.le_of_ble_eq_true rfl⟩) rfl rfl (Nat.le_of_ble_eq_true rfl) dX5_around_4 ?_
  refine aw_if_ne (tgt := 13) C dX5_around_7 (by decide) hf (fun hf => ?_) (fun hf => ?_)
  · refine aw_iload_n C dX5_around_13 rfl 1 rfl ?_
    refine aw_aload_n C dX5_around_14 rfl 0 rfl ?_
    refine aw_get C (kd_lt rfl (by decide)) (ce_5 rfl) rfl hinX5_around_5 0 (by decide) rfl (by decide +kernel) rfl dX5_around_15 ?_
    refine aw_getN (host := "StairCodes") C (kd_lt rfl (by decide)) (ce_4 rfl) rfl hinX5_around_4 0 (by decide) rfl (by decide +kernel) rfl dX5_around_18 ?_
    refine aw_icmp_ne (tgt := 26) C dX5_around_21 (by decide) hf (fun hf => ?_) (fun hf => ?_)
    · refine aw_bipush (v := 49) C dX5_around_26 (by decide) ?_
      refine aw_istore (lv1 := [(4, .int 49), (0, .ref (ad 0)), (1, .int a1), (2, .int a2), (3, .int a3)]) C dX5_around_28 (by decide) rfl ?_
      refine aw_iload_n C dX5_around_30 rfl 2 rfl ?_
      refine aw_iconst (v := 1) C dX5_around_31 (by decide) ?_
      refine aw_icmp_le (tgt := 38) C dX5_around_32 (by decide) hf (fun hf => ?_) (fun hf => ?_)
      · refine aw_sub [1, 2, 3, 4, 0] rfl ?_
        exact tX5_around_38 C   hf
      obtain ⟨v2, hvv2, hf⟩ := nm_ex hf
      refine aw_iinc (j := 0) (v := v2) (lv1 := [(4, .int v2), (0, .ref (ad 0)), (1, .int a1), (2, .int a2), (3, .int a3)]) C dX5_around_35 rfl hvv2 (by decide) rfl ?_
      refine aw_sub [1, 2, 3, 4, 0] rfl ?_
      exact tX5_around_38 C   hf
    refine aw_iconst (v := 0) C dX5_around_24 (by decide) ?_
    exact aw_iretR C dX5_around_25 hf
  refine aw_bipush (v := (-2)) C dX5_around_10 (by decide) ?_
  exact aw_iretR C dX5_around_12 hf
theorem kX5_around {h : AH} {a1 : Int32} {a2 : Int32} {a3 : Int32} {r0 : Int32} (hi : Inj ad) (hf : fX5_around h a1 a2 a3 = some r0) : Ki l yX5_around wsX5_around rmX5_around D ad cy tb [.ref (ad 0), .int a1, .int a2, .int a3] h r0 h := met_i (lv := [(0, .ref (ad 0)), (1, .int a1), (2, .int a2), (3, .int a3)]) hi (by decide) rfl (Nat.le_of_ble_eq_true rfl) rfl rfl (fun _ _ _ _ _ _ _ _ C => tX5_around_0 C  hf)
set_option maxRecDepth 20000 in
theorem ggX6_isJoined_X6_in : GoodIn wsX6_isJoined wsX6_in := goodIn_r _ [5] (by decide +kernel) (by decide +kernel)
set_option maxRecDepth 20000 in
theorem gX6_isJoined_X6_in : GoodIn wsX6_isJoined (va_wsS RX6 73 yX6_in wsX6_in) := goodIn_app (goodIn_of _ (by decide +kernel)) ggX6_isJoined_X6_in
theorem dX6_isJoined_0 : decode cX6_isJoined 0 = .ok (.iload_n 1, 1) := by decide +kernel
theorem dX6_isJoined_1 : decode cX6_isJoined 1 = .ok (.bipush 8, 2) := by decide +kernel
theorem dX6_isJoined_3 : decode cX6_isJoined 3 = .ok (.idiv, 1) := by decide +kernel
theorem dX6_isJoined_4 : decode cX6_isJoined 4 = .ok (.iload_n 2, 1) := by decide +kernel
theorem dX6_isJoined_5 : decode cX6_isJoined 5 = .ok (.bipush 8, 2) := by decide +kernel
theorem dX6_isJoined_7 : decode cX6_isJoined 7 = .ok (.idiv, 1) := by decide +kernel
theorem dX6_isJoined_8 : decode cX6_isJoined 8 = .ok (.isub, 1) := by decide +kernel
theorem dX6_isJoined_9 : decode cX6_isJoined 9 = .ok (.istore_n 3, 1) := by decide +kernel
theorem dX6_isJoined_10 : decode cX6_isJoined 10 = .ok (.iload_n 1, 1) := by decide +kernel
theorem dX6_isJoined_11 : decode cX6_isJoined 11 = .ok (.iload_n 2, 1) := by decide +kernel
theorem dX6_isJoined_12 : decode cX6_isJoined 12 = .ok (.if_icmp .ge 10, 3) := by decide +kernel
theorem dX6_isJoined_15 : decode cX6_isJoined 15 = .ok (.iload_n 1, 1) := by decide +kernel
theorem dX6_isJoined_16 : decode cX6_isJoined 16 = .ok (.bipush 8, 2) := by decide +kernel
theorem dX6_isJoined_18 : decode cX6_isJoined 18 = .ok (.idiv, 1) := by decide +kernel
theorem dX6_isJoined_19 : decode cX6_isJoined 19 = .ok (.goto 7, 3) := by decide +kernel
theorem dX6_isJoined_22 : decode cX6_isJoined 22 = .ok (.iload_n 2, 1) := by decide +kernel
theorem dX6_isJoined_23 : decode cX6_isJoined 23 = .ok (.bipush 8, 2) := by decide +kernel
theorem dX6_isJoined_25 : decode cX6_isJoined 25 = .ok (.idiv, 1) := by decide +kernel
theorem dX6_isJoined_26 : decode cX6_isJoined 26 = .ok (.istore 4, 2) := by decide +kernel
theorem dX6_isJoined_28 : decode cX6_isJoined 28 = .ok (.iload_n 3, 1) := by decide +kernel
theorem dX6_isJoined_29 : decode cX6_isJoined 29 = .ok (.iconst 1, 1) := by decide +kernel
theorem dX6_isJoined_30 : decode cX6_isJoined 30 = .ok (.if_icmp .eq 8, 3) := by decide +kernel
theorem dX6_isJoined_33 : decode cX6_isJoined 33 = .ok (.iload_n 3, 1) := by decide +kernel
theorem dX6_isJoined_34 : decode cX6_isJoined 34 = .ok (.iconst (-1), 1) := by decide +kernel
theorem dX6_isJoined_35 : decode cX6_isJoined 35 = .ok (.if_icmp .ne 22, 3) := by decide +kernel
theorem dX6_isJoined_38 : decode cX6_isJoined 38 = .ok (.iload 4, 2) := by decide +kernel
theorem dX6_isJoined_40 : decode cX6_isJoined 40 = .ok (.iconst 1, 1) := by decide +kernel
theorem dX6_isJoined_41 : decode cX6_isJoined 41 = .ok (.aload_n 0, 1) := by decide +kernel
theorem dX6_isJoined_42 : decode cX6_isJoined 42 = .ok (.getfield 7, 3) := by decide +kernel
theorem dX6_isJoined_45 : decode cX6_isJoined 45 = .ok (.iconst 1, 1) := by decide +kernel
theorem dX6_isJoined_46 : decode cX6_isJoined 46 = .ok (.isub, 1) := by decide +kernel
theorem dX6_isJoined_47 : decode cX6_isJoined 47 = .ok (.invokestatic 73, 3) := by decide +kernel
theorem dX6_isJoined_50 : decode cX6_isJoined 50 = .ok (.ifCond .eq 7, 3) := by decide +kernel
theorem dX6_isJoined_53 : decode cX6_isJoined 53 = .ok (.iconst 1, 1) := by decide +kernel
theorem dX6_isJoined_54 : decode cX6_isJoined 54 = .ok (.goto 4, 3) := by decide +kernel
theorem dX6_isJoined_57 : decode cX6_isJoined 57 = .ok (.iconst 0, 1) := by decide +kernel
theorem dX6_isJoined_58 : decode cX6_isJoined 58 = .ok (.ireturn, 1) := by decide +kernel
abbrev rmX6_isJoined : Room := { frames := 1, cells := 0, slots := 0, locals := 22 }
set_option maxRecDepth 100000 in
theorem hinX6_isJoined_6 : ∀ w ∈ wsX60, w ∈ wsX6_isJoined := by decide +kernel
set_option maxHeartbeats 4000000 in
set_option maxRecDepth 100000 in
theorem tX6_isJoined_38 {h : AH} {a1 : Int32} {a2 : Int32} {x4 : Int32} {r0 : Int32} (C : Cx p rmX6_isJoined s m args meth c RX6 cX6_isJoined 5 (some .boolean) wsX6_isJoined D ad cy tb 0 0) (hf : fX6_isJoined_38 h a1 a2 x4 = some r0) : AW p l e rmX6_isJoined s m args below meth c 5 D ad cy 0 0 (Qi D ad cy below args s r0 h) 38 [(0, .ref (ad 29)), (1, .int a1), (2, .int a2), (4, .int x4)] [] h := by
  unfold fX6_isJoined_38 at hf
  refine aw_iload C dX6_isJoined_38 3 rfl ?_
  refine aw_iconst (v := 1) C dX6_isJoined_40 (by decide) ?_
  refine aw_aload_n C dX6_isJoined_41 rfl 0 rfl ?_
  refine aw_get C (kd_lt rfl (by decide)) (ce_6 rfl) rfl hinX6_isJoined_6 0 (by decide) rfl (by decide +kernel) rfl dX6_isJoined_42 ?_
  refine aw_iconst (v := 1) C dX6_isJoined_45 (by decide) ?_
  refine aw_isub C dX6_isJoined_46 ?_
  obtain ⟨r1, hc, hf⟩ := bR_some hf
  refine aw_callSi (As := [.int x4, .int 1, .int ((h.1 29 0) - 1)]) (rest := []) C (kX6_in (l := l) (D := D) (ad := ad) (cy := cy) (tb := tb) C.2.2.2.2.2.2.2.2.1 hc) (fun ht _ => va_cwS 3 ht gX6_isJoined_X6_in rfl rfl rfl (by decide +kernel) ⟨Nat.le_of_ble_eq_true rfl, Nat.le_of_ble_eq_true rfl⟩) rfl rfl (Nat.le_of_ble_eq_true rfl) dX6_isJoined_47 ?_
  refine aw_if_eq (tgt := 57) C dX6_isJoined_50 (by decide) hf (fun hf => ?_) (fun hf => ?_)
  · refine aw_iconst (v := 0) C dX6_isJoined_57 (by decide) ?_
    exact aw_zretR C (by decide) dX6_isJoined_58 hf
  refine aw_iconst (v := 1) C dX6_isJoined_53 (by decide) ?_
  refine aw_goto (tgt := 58) C dX6_isJoined_54 (by decide) ?_
  exact aw_zretR C (by decide) dX6_isJoined_58 hf
set_option maxHeartbeats 4000000 in
set_option maxRecDepth 100000 in
theorem tX6_isJoined_26 {h : AH} {a1 : Int32} {a2 : Int32} {x3 : Int32} {s0 : Int32} {r0 : Int32} (C : Cx p rmX6_isJoined s m args meth c RX6 cX6_isJoined 5 (some .boolean) wsX6_isJoined D ad cy tb 0 0) (hf : fX6_isJoined_26 h a1 a2 x3 s0 = some r0) : AW p l e rmX6_isJoined s m args below meth c 5 D ad cy 0 0 (Qi D ad cy below args s r0 h) 26 [(0, .ref (ad 29)), (1, .int a1), (2, .int a2), (3, .int x3)] [.int s0] h := by
  unfold fX6_isJoined_26 at hf
  refine aw_istore (lv1 := [(4, .int s0), (0, .ref (ad 29)), (1, .int a1), (2, .int a2), (3, .int x3)]) C dX6_isJoined_26 (by decide) rfl ?_
  refine aw_iload_n C dX6_isJoined_28 rfl 4 rfl ?_
  refine aw_iconst (v := 1) C dX6_isJoined_29 (by decide) ?_
  refine aw_icmp_eq (tgt := 38) C dX6_isJoined_30 (by decide) hf (fun hf => ?_) (fun hf => ?_)
  · refine aw_sub [1, 2, 3, 0] rfl ?_
    exact tX6_isJoined_38 C   hf
  refine aw_iload_n C dX6_isJoined_33 rfl 4 rfl ?_
  refine aw_iconst (v := (-1)) C dX6_isJoined_34 (by decide) ?_
  refine aw_icmp_ne (tgt := 57) C dX6_isJoined_35 (by decide) hf (fun hf => ?_) (fun hf => ?_)
  · refine aw_iconst (v := 0) C dX6_isJoined_57 (by decide) ?_
    exact aw_zretR C (by decide) dX6_isJoined_58 hf
  refine aw_sub [1, 2, 3, 0] rfl ?_
  exact tX6_isJoined_38 C   hf
set_option maxHeartbeats 4000000 in
set_option maxRecDepth 100000 in
theorem tX6_isJoined_0 {h : AH} {a1 : Int32} {a2 : Int32} {r0 : Int32} (C : Cx p rmX6_isJoined s m args meth c RX6 cX6_isJoined 5 (some .boolean) wsX6_isJoined D ad cy tb 0 0) (hf : fX6_isJoined h a1 a2 = some r0) : AW p l e rmX6_isJoined s m args below meth c 5 D ad cy 0 0 (Qi D ad cy below args s r0 h) 0 [(0, .ref (ad 29)), (1, .int a1), (2, .int a2)] [] h := by
  unfold fX6_isJoined at hf
  refine aw_iload_n C dX6_isJoined_0 rfl 1 rfl ?_
  refine aw_bipush (v := 8) C dX6_isJoined_1 (by decide) ?_
  refine aw_idiv C dX6_isJoined_3 (by decide) ?_
  refine aw_iload_n C dX6_isJoined_4 rfl 2 rfl ?_
  refine aw_bipush (v := 8) C dX6_isJoined_5 (by decide) ?_
  refine aw_idiv C dX6_isJoined_7 (by decide) ?_
  refine aw_isub C dX6_isJoined_8 ?_
  refine aw_nmI hf (fun v1 hf => ?_)
  refine aw_istore_n (lv1 := [(3, .int v1), (0, .ref (ad 29)), (1, .int a1), (2, .int a2)]) C dX6_isJoined_9 rfl (by decide) rfl ?_
  refine aw_iload_n C dX6_isJoined_10 rfl 2 rfl ?_
  refine aw_iload_n C dX6_isJoined_11 rfl 3 rfl ?_
  refine aw_icmp_ge (tgt := 22) C dX6_isJoined_12 (by decide) hf (fun hf => ?_) (fun hf => ?_)
  · refine aw_iload_n C dX6_isJoined_22 rfl 3 rfl ?_
    refine aw_bipush (v := 8) C dX6_isJoined_23 (by decide) ?_
    refine aw_idiv C dX6_isJoined_25 (by decide) ?_
    refine aw_sub [1, 2, 3, 0] rfl ?_
    exact tX6_isJoined_26 C   hf
  refine aw_iload_n C dX6_isJoined_15 rfl 2 rfl ?_
  refine aw_bipush (v := 8) C dX6_isJoined_16 (by decide) ?_
  refine aw_idiv C dX6_isJoined_18 (by decide) ?_
  refine aw_goto (tgt := 26) C dX6_isJoined_19 (by decide) ?_
  refine aw_sub [1, 2, 3, 0] rfl ?_
  exact tX6_isJoined_26 C   hf
theorem kX6_isJoined {h : AH} {a1 : Int32} {a2 : Int32} {r0 : Int32} (hi : Inj ad) (hf : fX6_isJoined h a1 a2 = some r0) : Ki l yX6_isJoined wsX6_isJoined rmX6_isJoined D ad cy tb [.ref (ad 29), .int a1, .int a2] h r0 h := met_i (lv := [(0, .ref (ad 29)), (1, .int a1), (2, .int a2)]) hi (by decide) rfl (Nat.le_of_ble_eq_true rfl) rfl rfl (fun _ _ _ _ _ _ _ _ C => tX6_isJoined_0 C  hf)
set_option maxRecDepth 20000 in
theorem ggX6_aroundOf_X6_isJoined : GoodIn wsX6_aroundOf wsX6_isJoined := goodIn_r _ [6, 1, 7, 8, 5, 9, 10, 11, 12, 13, 14, 15, 16, 17, 18, 19, 20, 21, 22, 23, 24, 25, 26, 27] (by decide +kernel) (by decide +kernel)
set_option maxRecDepth 20000 in
theorem gX6_aroundOf_X6_isJoined : GoodIn wsX6_aroundOf (wsV RX6 187 RX6 yX6_isJoined wsX6_isJoined) := goodIn_app (goodIn_of _ (by decide +kernel)) ggX6_aroundOf_X6_isJoined
theorem dX6_aroundOf_0 : decode cX6_aroundOf 0 = .ok (.bipush 8, 2) := by decide +kernel
theorem dX6_aroundOf_2 : decode cX6_aroundOf 2 = .ok (.iload_n 1, 1) := by decide +kernel
theorem dX6_aroundOf_3 : decode cX6_aroundOf 3 = .ok (.imul, 1) := by decide +kernel
theorem dX6_aroundOf_4 : decode cX6_aroundOf 4 = .ok (.iload_n 2, 1) := by decide +kernel
theorem dX6_aroundOf_5 : decode cX6_aroundOf 5 = .ok (.iadd, 1) := by decide +kernel
theorem dX6_aroundOf_6 : decode cX6_aroundOf 6 = .ok (.istore 4, 2) := by decide +kernel
theorem dX6_aroundOf_8 : decode cX6_aroundOf 8 = .ok (.bipush 8, 2) := by decide +kernel
theorem dX6_aroundOf_10 : decode cX6_aroundOf 10 = .ok (.iload_n 1, 1) := by decide +kernel
theorem dX6_aroundOf_11 : decode cX6_aroundOf 11 = .ok (.imul, 1) := by decide +kernel
theorem dX6_aroundOf_12 : decode cX6_aroundOf 12 = .ok (.bipush 8, 2) := by decide +kernel
theorem dX6_aroundOf_14 : decode cX6_aroundOf 14 = .ok (.iadd, 1) := by decide +kernel
theorem dX6_aroundOf_15 : decode cX6_aroundOf 15 = .ok (.iload_n 3, 1) := by decide +kernel
theorem dX6_aroundOf_16 : decode cX6_aroundOf 16 = .ok (.iadd, 1) := by decide +kernel
theorem dX6_aroundOf_17 : decode cX6_aroundOf 17 = .ok (.istore 5, 2) := by decide +kernel
theorem dX6_aroundOf_19 : decode cX6_aroundOf 19 = .ok (.iconst 0, 1) := by decide +kernel
theorem dX6_aroundOf_20 : decode cX6_aroundOf 20 = .ok (.istore 6, 2) := by decide +kernel
theorem dX6_aroundOf_22 : decode cX6_aroundOf 22 = .ok (.bipush 8, 2) := by decide +kernel
theorem dX6_aroundOf_24 : decode cX6_aroundOf 24 = .ok (.istore 7, 2) := by decide +kernel
theorem dX6_aroundOf_26 : decode cX6_aroundOf 26 = .ok (.iload 7, 2) := by decide +kernel
theorem dX6_aroundOf_28 : decode cX6_aroundOf 28 = .ok (.bipush 8, 2) := by decide +kernel
theorem dX6_aroundOf_30 : decode cX6_aroundOf 30 = .ok (.aload_n 0, 1) := by decide +kernel
theorem dX6_aroundOf_31 : decode cX6_aroundOf 31 = .ok (.getfield 7, 3) := by decide +kernel
theorem dX6_aroundOf_34 : decode cX6_aroundOf 34 = .ok (.imul, 1) := by decide +kernel
theorem dX6_aroundOf_35 : decode cX6_aroundOf 35 = .ok (.bipush 8, 2) := by decide +kernel
theorem dX6_aroundOf_37 : decode cX6_aroundOf 37 = .ok (.iadd, 1) := by decide +kernel
theorem dX6_aroundOf_38 : decode cX6_aroundOf 38 = .ok (.if_icmp .ge 111, 3) := by decide +kernel
theorem dX6_aroundOf_41 : decode cX6_aroundOf 41 = .ok (.iload_n 1, 1) := by decide +kernel
theorem dX6_aroundOf_42 : decode cX6_aroundOf 42 = .ok (.aload_n 0, 1) := by decide +kernel
theorem dX6_aroundOf_43 : decode cX6_aroundOf 43 = .ok (.getfield 7, 3) := by decide +kernel
theorem dX6_aroundOf_46 : decode cX6_aroundOf 46 = .ok (.if_icmp .ge 103, 3) := by decide +kernel
theorem dX6_aroundOf_49 : decode cX6_aroundOf 49 = .ok (.bipush 8, 2) := by decide +kernel
theorem dX6_aroundOf_51 : decode cX6_aroundOf 51 = .ok (.istore 8, 2) := by decide +kernel
theorem dX6_aroundOf_53 : decode cX6_aroundOf 53 = .ok (.iload 8, 2) := by decide +kernel
theorem dX6_aroundOf_55 : decode cX6_aroundOf 55 = .ok (.bipush 8, 2) := by decide +kernel
theorem dX6_aroundOf_57 : decode cX6_aroundOf 57 = .ok (.aload_n 0, 1) := by decide +kernel
theorem dX6_aroundOf_58 : decode cX6_aroundOf 58 = .ok (.getfield 7, 3) := by decide +kernel
theorem dX6_aroundOf_61 : decode cX6_aroundOf 61 = .ok (.imul, 1) := by decide +kernel
theorem dX6_aroundOf_62 : decode cX6_aroundOf 62 = .ok (.bipush 8, 2) := by decide +kernel
theorem dX6_aroundOf_64 : decode cX6_aroundOf 64 = .ok (.iadd, 1) := by decide +kernel
theorem dX6_aroundOf_65 : decode cX6_aroundOf 65 = .ok (.if_icmp .ge 78, 3) := by decide +kernel
theorem dX6_aroundOf_68 : decode cX6_aroundOf 68 = .ok (.iload 7, 2) := by decide +kernel
theorem dX6_aroundOf_70 : decode cX6_aroundOf 70 = .ok (.iload 5, 2) := by decide +kernel
theorem dX6_aroundOf_72 : decode cX6_aroundOf 72 = .ok (.if_icmp .eq 47, 3) := by decide +kernel
theorem dX6_aroundOf_75 : decode cX6_aroundOf 75 = .ok (.iload 8, 2) := by decide +kernel
theorem dX6_aroundOf_77 : decode cX6_aroundOf 77 = .ok (.iload 4, 2) := by decide +kernel
theorem dX6_aroundOf_79 : decode cX6_aroundOf 79 = .ok (.if_icmp .eq 40, 3) := by decide +kernel
theorem dX6_aroundOf_82 : decode cX6_aroundOf 82 = .ok (.aload_n 0, 1) := by decide +kernel
theorem dX6_aroundOf_83 : decode cX6_aroundOf 83 = .ok (.iload 4, 2) := by decide +kernel
theorem dX6_aroundOf_85 : decode cX6_aroundOf 85 = .ok (.iload 7, 2) := by decide +kernel
theorem dX6_aroundOf_87 : decode cX6_aroundOf 87 = .ok (.invokevirtual 187, 3) := by decide +kernel
theorem dX6_aroundOf_90 : decode cX6_aroundOf 90 = .ok (.ifCond .eq 29, 3) := by decide +kernel
theorem dX6_aroundOf_93 : decode cX6_aroundOf 93 = .ok (.aload_n 0, 1) := by decide +kernel
theorem dX6_aroundOf_94 : decode cX6_aroundOf 94 = .ok (.iload 5, 2) := by decide +kernel
theorem dX6_aroundOf_96 : decode cX6_aroundOf 96 = .ok (.iload 8, 2) := by decide +kernel
theorem dX6_aroundOf_98 : decode cX6_aroundOf 98 = .ok (.invokevirtual 187, 3) := by decide +kernel
theorem dX6_aroundOf_101 : decode cX6_aroundOf 101 = .ok (.ifCond .eq 18, 3) := by decide +kernel
theorem dX6_aroundOf_104 : decode cX6_aroundOf 104 = .ok (.aload_n 0, 1) := by decide +kernel
theorem dX6_aroundOf_105 : decode cX6_aroundOf 105 = .ok (.iload 7, 2) := by decide +kernel
theorem dX6_aroundOf_107 : decode cX6_aroundOf 107 = .ok (.iload 8, 2) := by decide +kernel
theorem dX6_aroundOf_109 : decode cX6_aroundOf 109 = .ok (.invokevirtual 187, 3) := by decide +kernel
theorem dX6_aroundOf_112 : decode cX6_aroundOf 112 = .ok (.ifCond .eq 7, 3) := by decide +kernel
theorem dX6_aroundOf_115 : decode cX6_aroundOf 115 = .ok (.iconst 1, 1) := by decide +kernel
theorem dX6_aroundOf_116 : decode cX6_aroundOf 116 = .ok (.goto 4, 3) := by decide +kernel
theorem dX6_aroundOf_119 : decode cX6_aroundOf 119 = .ok (.iconst 0, 1) := by decide +kernel
theorem dX6_aroundOf_120 : decode cX6_aroundOf 120 = .ok (.istore 9, 2) := by decide +kernel
theorem dX6_aroundOf_122 : decode cX6_aroundOf 122 = .ok (.iload 6, 2) := by decide +kernel
theorem dX6_aroundOf_124 : decode cX6_aroundOf 124 = .ok (.iload 9, 2) := by decide +kernel
theorem dX6_aroundOf_126 : decode cX6_aroundOf 126 = .ok (.ifCond .eq 7, 3) := by decide +kernel
theorem dX6_aroundOf_129 : decode cX6_aroundOf 129 = .ok (.iconst 1, 1) := by decide +kernel
theorem dX6_aroundOf_130 : decode cX6_aroundOf 130 = .ok (.goto 4, 3) := by decide +kernel
theorem dX6_aroundOf_133 : decode cX6_aroundOf 133 = .ok (.iconst 0, 1) := by decide +kernel
theorem dX6_aroundOf_134 : decode cX6_aroundOf 134 = .ok (.iadd, 1) := by decide +kernel
theorem dX6_aroundOf_135 : decode cX6_aroundOf 135 = .ok (.istore 6, 2) := by decide +kernel
theorem dX6_aroundOf_137 : decode cX6_aroundOf 137 = .ok (.iinc 8 1, 3) := by decide +kernel
theorem dX6_aroundOf_140 : decode cX6_aroundOf 140 = .ok (.goto (-87), 3) := by decide +kernel
theorem dX6_aroundOf_143 : decode cX6_aroundOf 143 = .ok (.iinc 7 1, 3) := by decide +kernel
theorem dX6_aroundOf_146 : decode cX6_aroundOf 146 = .ok (.goto (-120), 3) := by decide +kernel
theorem dX6_aroundOf_149 : decode cX6_aroundOf 149 = .ok (.iload 6, 2) := by decide +kernel
theorem dX6_aroundOf_151 : decode cX6_aroundOf 151 = .ok (.ireturn, 1) := by decide +kernel
abbrev rmX6_aroundOf : Room := { frames := 2, cells := 0, slots := 0, locals := 46 }
set_option maxRecDepth 100000 in
theorem hinX6_aroundOf_6 : ∀ w ∈ wsX60, w ∈ wsX6_aroundOf := by decide +kernel
set_option maxHeartbeats 4000000 in
set_option maxRecDepth 100000 in
theorem tX6_aroundOf_134 {h : AH} {a1 : Int32} {a2 : Int32} {a3 : Int32} {k26 : Int32 → Int32 → Int32 → Int32 → Option Int32} {k53 : Int32 → Int32 → Int32 → Int32 → Int32 → Option Int32} {x4 : Int32} {x5 : Int32} {x7 : Int32} {x8 : Int32} {s0 : Int32} {s1 : Int32} {r0 : Int32} (C : Cx p rmX6_aroundOf s m args meth c RX6 cX6_aroundOf 10 (some .int) wsX6_aroundOf D ad cy tb 0 0) (H26 : ∀ (x4 : Int32) (x5 : Int32) (x6 : Int32) (x7 : Int32), k26 x4 x5 x6 x7 = some r0 → AW p l e rmX6_aroundOf s m args below meth c 10 D ad cy 0 0 (Qi D ad cy below args s r0 h) 26 [(0, .ref (ad 29)), (1, .int a1), (2, .int a2), (3, .int a3), (4, .int x4), (5, .int x5), (6, .int x6), (7, .int x7)] [] h) (H53 : ∀ (x4 : Int32) (x5 : Int32) (x6 : Int32) (x7 : Int32) (x8 : Int32), k53 x4 x5 x6 x7 x8 = some r0 → AW p l e rmX6_aroundOf s m args below meth c 10 D ad cy 0 0 (Qi D ad cy below args s r0 h) 53 [(0, .ref (ad 29)), (1, .int a1), (2, .int a2), (3, .int a3), (4, .int x4), (5, .int x5), (6, .int x6), (7, .int x7), (8, .int x8)] [] h) (hf : fX6_aroundOf_134 k26 k53 h a1 a2 a3 x4 x5 x7 x8 s0 s1 = some r0) : AW p l e rmX6_aroundOf s m args below meth c 10 D ad cy 0 0 (Qi D ad cy below args s r0 h) 134 [(0, .ref (ad 29)), (1, .int a1), (2, .int a2), (3, .int a3), (4, .int x4), (5, .int x5), (7, .int x7), (8, .int x8)] [.int s1, .int s0] h := by
  unfold fX6_aroundOf_134 at hf
  refine aw_iadd C dX6_aroundOf_134 ?_
  refine aw_nmI hf (fun v1 hf => ?_)
  refine aw_istore (lv1 := [(6, .int v1), (0, .ref (ad 29)), (1, .int a1), (2, .int a2), (3, .int a3), (4, .int x4), (5, .int x5), (7, .int x7), (8, .int x8)]) C dX6_aroundOf_135 (by decide) rfl ?_
  obtain ⟨v2, hvv2, hf⟩ := nm_ex hf
  refine aw_iinc (j := 8) (v := v2) (lv1 := [(8, .int v2), (6, .int v1), (0, .ref (ad 29)), (1, .int a1), (2, .int a2), (3, .int a3), (4, .int x4), (5, .int x5), (7, .int x7)]) C dX6_aroundOf_137 rfl hvv2 (by decide) rfl ?_
  refine aw_goto (tgt := 53) C dX6_aroundOf_140 (by decide) ?_
  refine aw_sub [2, 3, 4, 5, 6, 7, 1, 8, 0] rfl ?_
  exact H53 x4 x5 v1 x7 v2 hf
set_option maxHeartbeats 4000000 in
set_option maxRecDepth 100000 in
theorem tX6_aroundOf_120 {h : AH} {a1 : Int32} {a2 : Int32} {a3 : Int32} {k26 : Int32 → Int32 → Int32 → Int32 → Option Int32} {k53 : Int32 → Int32 → Int32 → Int32 → Int32 → Option Int32} {x4 : Int32} {x5 : Int32} {x6 : Int32} {x7 : Int32} {x8 : Int32} {s0 : Int32} {r0 : Int32} (C : Cx p rmX6_aroundOf s m args meth c RX6 cX6_aroundOf 10 (some .int) wsX6_aroundOf D ad cy tb 0 0) (H26 : ∀ (x4 : Int32) (x5 : Int32) (x6 : Int32) (x7 : Int32), k26 x4 x5 x6 x7 = some r0 → AW p l e rmX6_aroundOf s m args below meth c 10 D ad cy 0 0 (Qi D ad cy below args s r0 h) 26 [(0, .ref (ad 29)), (1, .int a1), (2, .int a2), (3, .int a3), (4, .int x4), (5, .int x5), (6, .int x6), (7, .int x7)] [] h) (H53 : ∀ (x4 : Int32) (x5 : Int32) (x6 : Int32) (x7 : Int32) (x8 : Int32), k53 x4 x5 x6 x7 x8 = some r0 → AW p l e rmX6_aroundOf s m args below meth c 10 D ad cy 0 0 (Qi D ad cy below args s r0 h) 53 [(0, .ref (ad 29)), (1, .int a1), (2, .int a2), (3, .int a3), (4, .int x4), (5, .int x5), (6, .int x6), (7, .int x7), (8, .int x8)] [] h) (hf : fX6_aroundOf_120 k26 k53 h a1 a2 a3 x4 x5 x6 x7 x8 s0 = some r0) : AW p l e rmX6_aroundOf s m args below meth c 10 D ad cy 0 0 (Qi D ad cy below args s r0 h) 120 [(0, .ref (ad 29)), (1, .int a1), (2, .int a2), (3, .int a3), (4, .int x4), (5, .int x5), (6, .int x6), (7, .int x7), (8, .int x8)] [.int s0] h := by
  unfold fX6_aroundOf_120 at hf
  refine aw_istore (lv1 := [(9, .int s0), (0, .ref (ad 29)), (1, .int a1), (2, .int a2), (3, .int a3), (4, .int x4), (5, .int x5), (6, .int x6), (7, .int x7), (8, .int x8)]) C dX6_aroundOf_120 (by decide) rfl ?_
  refine aw_iload C dX6_aroundOf_122 7 rfl ?_
  refine aw_iload C dX6_aroundOf_124 0 rfl ?_
  refine aw_if_eq (tgt := 133) C dX6_aroundOf_126 (by decide) hf (fun hf => ?_) (fun hf => ?_)
  · refine aw_iconst (v := 0) C dX6_aroundOf_133 (by decide) ?_
    refine aw_sub [1, 2, 3, 4, 5, 6, 8, 9] rfl ?_
    exact tX6_aroundOf_134 C  H26 H53 hf
  refine aw_iconst (v := 1) C dX6_aroundOf_129 (by decide) ?_
  refine aw_goto (tgt := 134) C dX6_aroundOf_130 (by decide) ?_
  refine aw_sub [1, 2, 3, 4, 5, 6, 8, 9] rfl ?_
  exact tX6_aroundOf_134 C  H26 H53 hf
set_option maxHeartbeats 4000000 in
set_option maxRecDepth 100000 in
theorem tX6_aroundOf_119 {h : AH} {a1 : Int32} {a2 : Int32} {a3 : Int32} {k26 : Int32 → Int32 → Int32 → Int32 → Option Int32} {k53 : Int32 → Int32 → Int32 → Int32 → Int32 → Option Int32} {x4 : Int32} {x5 : Int32} {x6 : Int32} {x7 : Int32} {x8 : Int32} {r0 : Int32} (C : Cx p rmX6_aroundOf s m args meth c RX6 cX6_aroundOf 10 (some .int) wsX6_aroundOf D ad cy tb 0 0) (H26 : ∀ (x4 : Int32) (x5 : Int32) (x6 : Int32) (x7 : Int32), k26 x4 x5 x6 x7 = some r0 → AW p l e rmX6_aroundOf s m args below meth c 10 D ad cy 0 0 (Qi D ad cy below args s r0 h) 26 [(0, .ref (ad 29)), (1, .int a1), (2, .int a2), (3, .int a3), (4, .int x4), (5, .int x5), (6, .int x6), (7, .int x7)] [] h) (H53 : ∀ (x4 : Int32) (x5 : Int32) (x6 : Int32) (x7 : Int32) (x8 : Int32), k53 x4 x5 x6 x7 x8 = some r0 → AW p l e rmX6_aroundOf s m args below meth c 10 D ad cy 0 0 (Qi D ad cy below args s r0 h) 53 [(0, .ref (ad 29)), (1, .int a1), (2, .int a2), (3, .int a3), (4, .int x4), (5, .int x5), (6, .int x6), (7, .int x7), (8, .int x8)] [] h) (hf : fX6_aroundOf_119 k26 k53 h a1 a2 a3 x4 x5 x6 x7 x8 = some r0) : AW p l e rmX6_aroundOf s m args below meth c 10 D ad cy 0 0 (Qi D ad cy below args s r0 h) 119 [(0, .ref (ad 29)), (1, .int a1), (2, .int a2), (3, .int a3), (4, .int x4), (5, .int x5), (6, .int x6), (7, .int x7), (8, .int x8)] [] h := by
  unfold fX6_aroundOf_119 at hf
  refine aw_iconst (v := 0) C dX6_aroundOf_119 (by decide) ?_
  refine aw_sub [0, 1, 2, 3, 4, 5, 6, 7, 8] rfl ?_
  exact tX6_aroundOf_120 C  H26 H53 hf
set_option maxHeartbeats 4000000 in
set_option maxRecDepth 100000 in
theorem tX6_aroundOf_53b {h : AH} {a1 : Int32} {a2 : Int32} {a3 : Int32} {k26 : Int32 → Int32 → Int32 → Int32 → Option Int32} {k53 : Int32 → Int32 → Int32 → Int32 → Int32 → Option Int32} {x4 : Int32} {x5 : Int32} {x6 : Int32} {x7 : Int32} {x8 : Int32} {r0 : Int32} (C : Cx p rmX6_aroundOf s m args meth c RX6 cX6_aroundOf 10 (some .int) wsX6_aroundOf D ad cy tb 0 0) (H26 : ∀ (x4 : Int32) (x5 : Int32) (x6 : Int32) (x7 : Int32), k26 x4 x5 x6 x7 = some r0 → AW p l e rmX6_aroundOf s m args below meth c 10 D ad cy 0 0 (Qi D ad cy below args s r0 h) 26 [(0, .ref (ad 29)), (1, .int a1), (2, .int a2), (3, .int a3), (4, .int x4), (5, .int x5), (6, .int x6), (7, .int x7)] [] h) (H53 : ∀ (x4 : Int32) (x5 : Int32) (x6 : Int32) (x7 : Int32) (x8 : Int32), k53 x4 x5 x6 x7 x8 = some r0 → AW p l e rmX6_aroundOf s m args below meth c 10 D ad cy 0 0 (Qi D ad cy below args s r0 h) 53 [(0, .ref (ad 29)), (1, .int a1), (2, .int a2), (3, .int a3), (4, .int x4), (5, .int x5), (6, .int x6), (7, .int x7), (8, .int x8)] [] h) (hf : fX6_aroundOf_53b k26 k53 h a1 a2 a3 x4 x5 x6 x7 x8 = some r0) : AW p l e rmX6_aroundOf s m args below meth c 10 D ad cy 0 0 (Qi D ad cy below args s r0 h) 53 [(0, .ref (ad 29)), (1, .int a1), (2, .int a2), (3, .int a3), (4, .int x4), (5, .int x5), (6, .int x6), (7, .int x7), (8, .int x8)] [] h := by
  unfold fX6_aroundOf_53b at hf
  refine aw_iload C dX6_aroundOf_53 8 rfl ?_
  refine aw_bipush (v := 8) C dX6_aroundOf_55 (by decide) ?_
  refine aw_aload_n C dX6_aroundOf_57 rfl 0 rfl ?_
  refine aw_get C (kd_lt rfl (by decide)) (ce_6 rfl) rfl hinX6_aroundOf_6 0 (by decide) rfl (by decide +kernel) rfl dX6_aroundOf_58 ?_
  refine aw_imul C dX6_aroundOf_61 ?_
  refine aw_bipush (v := 8) C dX6_aroundOf_62 (by decide) ?_
  refine aw_iadd C dX6_aroundOf_64 ?_
  refine aw_icmp_ge (tgt := 143) C dX6_aroundOf_65 (by decide) hf (fun hf => ?_) (fun hf => ?_)
  · obtain ⟨v1, hvv1, hf⟩ := nm_ex hf
    refine aw_iinc (j := 7) (v := v1) (lv1 := [(7, .int v1), (0, .ref (ad 29)), (1, .int a1), (2, .int a2), (3, .int a3), (4, .int x4), (5, .int x5), (6, .int x6), (8, .int x8)]) C dX6_aroundOf_143 rfl hvv1 (by decide) rfl ?_
    refine aw_goto (tgt := 26) C dX6_aroundOf_146 (by decide) ?_
    refine aw_sub [1, 2, 3, 4, 5, 6, 7, 0] rfl ?_
    exact H26 x4 x5 x6 v1 hf
  refine aw_iload C dX6_aroundOf_68 7 rfl ?_
  refine aw_iload C dX6_aroundOf_70 5 rfl ?_
  refine aw_icmp_eq (tgt := 119) C dX6_aroundOf_72 (by decide) hf (fun hf => ?_) (fun hf => ?_)
  · refine aw_sub [0, 1, 2, 3, 4, 5, 6, 7, 8] rfl ?_
    exact tX6_aroundOf_119 C  H26 H53 hf
  refine aw_iload C dX6_aroundOf_75 8 rfl ?_
  refine aw_iload C dX6_aroundOf_77 4 rfl ?_
  refine aw_icmp_eq (tgt := 119) C dX6_aroundOf_79 (by decide) hf (fun hf => ?_) (fun hf => ?_)
  · refine aw_sub [0, 1, 2, 3, 4, 5, 6, 7, 8] rfl ?_
    exact tX6_aroundOf_119 C  H26 H53 hf
  refine aw_aload_n C dX6_aroundOf_82 rfl 0 rfl ?_
  refine aw_iload C dX6_aroundOf_83 4 rfl ?_
  refine aw_iload C dX6_aroundOf_85 7 rfl ?_
  obtain ⟨r2, hc, hf⟩ := bR_some hf
  refine aw_callVi (As := [.int x4, .int x7]) (rest := []) C rfl (by decide) rfl (kX6_isJoined (l := l) (D := D) (ad := ad) (cy := cy) (tb := tb) C.2.2.2.2.2.2.2.2.1 hc) (fun ht _ => cwV 2 ht gX6_aroundOf_X6_isJoined rfl rfl rfl (by decide +kernel) ⟨Nat.le_of_ble_eq_true rfl, Nat.le_of_ble_eq_true rfl⟩) rfl rfl (Nat.le_of_ble_eq_true rfl) dX6_aroundOf_87 ?_
  refine aw_if_eq (tgt := 119) C dX6_aroundOf_90 (by decide) hf (fun hf => ?_) (fun hf => ?_)
  · refine aw_sub [0, 1, 2, 3, 4, 5, 6, 7, 8] rfl ?_
    exact tX6_aroundOf_119 C  H26 H53 hf
  refine aw_aload_n C dX6_aroundOf_93 rfl 0 rfl ?_
  refine aw_iload C dX6_aroundOf_94 5 rfl ?_
  refine aw_iload C dX6_aroundOf_96 8 rfl ?_
  obtain ⟨r3, hc, hf⟩ := bR_some hf
  refine aw_callVi (As := [.int x5, .int x8]) (rest := []) C rfl (by decide) rfl (kX6_isJoined (l := l) (D := D) (ad := ad) (cy := cy) (tb := tb) C.2.2.2.2.2.2.2.2.1 hc) (fun ht _ => cwV 2 ht gX6_aroundOf_X6_isJoined rfl rfl rfl (by decide +kernel) ⟨Nat.le_of_ble_eq_true rfl, Nat.le_of_ble_eq_true rfl⟩) rfl rfl (Nat.le_of_ble_eq_true rfl) dX6_aroundOf_98 ?_
  refine aw_if_eq (tgt := 119) C dX6_aroundOf_101 (by decide) hf (fun hf => ?_) (fun hf => ?_)
  · refine aw_sub [0, 1, 2, 3, 4, 5, 6, 7, 8] rfl ?_
    exact tX6_aroundOf_119 C  H26 H53 hf
  refine aw_aload_n C dX6_aroundOf_104 rfl 0 rfl ?_
  refine aw_iload C dX6_aroundOf_105 7 rfl ?_
  refine aw_iload C dX6_aroundOf_107 8 rfl ?_
  obtain ⟨r4, hc, hf⟩ := bR_some hf
  refine aw_callVi (As := [.int x7, .int x8]) (rest := []) C rfl (by decide) rfl (kX6_isJoined (l := l) (D := D) (ad := ad) (cy := cy) (tb := tb) C.2.2.2.2.2.2.2.2.1 hc) (fun ht _ => cwV 2 ht gX6_aroundOf_X6_isJoined rfl rfl rfl (by decide +kernel) ⟨Nat.le_of_ble_eq_true rfl, Nat.le_of_ble_eq_true rfl⟩) rfl rfl (Nat.le_of_ble_eq_true rfl) dX6_aroundOf_109 ?_
  refine aw_if_eq (tgt := 119) C dX6_aroundOf_112 (by decide) hf (fun hf => ?_) (fun hf => ?_)
  · refine aw_sub [0, 1, 2, 3, 4, 5, 6, 7, 8] rfl ?_
    exact tX6_aroundOf_119 C  H26 H53 hf
  refine aw_iconst (v := 1) C dX6_aroundOf_115 (by decide) ?_
  refine aw_goto (tgt := 120) C dX6_aroundOf_116 (by decide) ?_
  refine aw_sub [0, 1, 2, 3, 4, 5, 6, 7, 8] rfl ?_
  exact tX6_aroundOf_120 C  H26 H53 hf
set_option maxHeartbeats 4000000 in
set_option maxRecDepth 100000 in
theorem tX6_aroundOf_53 {h : AH} {a1 : Int32} {a2 : Int32} {a3 : Int32} {k26 : Int32 → Int32 → Int32 → Int32 → Option Int32} {r0 : Int32} (C : Cx p rmX6_aroundOf s m args meth c RX6 cX6_aroundOf 10 (some .int) wsX6_aroundOf D ad cy tb 0 0) (H26 : ∀ (x4 : Int32) (x5 : Int32) (x6 : Int32) (x7 : Int32), k26 x4 x5 x6 x7 = some r0 → AW p l e rmX6_aroundOf s m args below meth c 10 D ad cy 0 0 (Qi D ad cy below args s r0 h) 26 [(0, .ref (ad 29)), (1, .int a1), (2, .int a2), (3, .int a3), (4, .int x4), (5, .int x5), (6, .int x6), (7, .int x7)] [] h) : ∀ (n : Nat) (x4 : Int32) (x5 : Int32) (x6 : Int32) (x7 : Int32) (x8 : Int32), fX6_aroundOf_53 k26 h a1 a2 a3 n x4 x5 x6 x7 x8 = some r0 → AW p l e rmX6_aroundOf s m args below meth c 10 D ad cy 0 0 (Qi D ad cy below args s r0 h) 53 [(0, .ref (ad 29)), (1, .int a1), (2, .int a2), (3, .int a3), (4, .int x4), (5, .int x5), (6, .int x6), (7, .int x7), (8, .int x8)] [] h := by
  intro n
  induction n with
  | zero => intro x4 x5 x6 x7 x8 hf; cases hf
  | succ n ih => intro x4 x5 x6 x7 x8 hf; exact tX6_aroundOf_53b C  H26 ih  hf
set_option maxHeartbeats 4000000 in
set_option maxRecDepth 100000 in
theorem tX6_aroundOf_26b {h : AH} {a1 : Int32} {a2 : Int32} {a3 : Int32} {k26 : Int32 → Int32 → Int32 → Int32 → Option Int32} {x4 : Int32} {x5 : Int32} {x6 : Int32} {x7 : Int32} {r0 : Int32} (C : Cx p rmX6_aroundOf s m args meth c RX6 cX6_aroundOf 10 (some .int) wsX6_aroundOf D ad cy tb 0 0) (H26 : ∀ (x4 : Int32) (x5 : Int32) (x6 : Int32) (x7 : Int32), k26 x4 x5 x6 x7 = some r0 → AW p l e rmX6_aroundOf s m args below meth c 10 D ad cy 0 0 (Qi D ad cy below args s r0 h) 26 [(0, .ref (ad 29)), (1, .int a1), (2, .int a2), (3, .int a3), (4, .int x4), (5, .int x5), (6, .int x6), (7, .int x7)] [] h) (hf : fX6_aroundOf_26b k26 h a1 a2 a3 x4 x5 x6 x7 = some r0) : AW p l e rmX6_aroundOf s m args below meth c 10 D ad cy 0 0 (Qi D ad cy below args s r0 h) 26 [(0, .ref (ad 29)), (1, .int a1), (2, .int a2), (3, .int a3), (4, .int x4), (5, .int x5), (6, .int x6), (7, .int x7)] [] h := by
  unfold fX6_aroundOf_26b at hf
  refine aw_iload C dX6_aroundOf_26 7 rfl ?_
  refine aw_bipush (v := 8) C dX6_aroundOf_28 (by decide) ?_
  refine aw_aload_n C dX6_aroundOf_30 rfl 0 rfl ?_
  refine aw_get C (kd_lt rfl (by decide)) (ce_6 rfl) rfl hinX6_aroundOf_6 0 (by decide) rfl (by decide +kernel) rfl dX6_aroundOf_31 ?_
  refine aw_imul C dX6_aroundOf_34 ?_
  refine aw_bipush (v := 8) C dX6_aroundOf_35 (by decide) ?_
  refine aw_iadd C dX6_aroundOf_37 ?_
  refine aw_icmp_ge (tgt := 149) C dX6_aroundOf_38 (by decide) hf (fun hf => ?_) (fun hf => ?_)
  · refine aw_iload C dX6_aroundOf_149 6 rfl ?_
    exact aw_iretR C dX6_aroundOf_151 hf
  refine aw_iload_n C dX6_aroundOf_41 rfl 1 rfl ?_
  refine aw_aload_n C dX6_aroundOf_42 rfl 0 rfl ?_
  refine aw_get C (kd_lt rfl (by decide)) (ce_6 rfl) rfl hinX6_aroundOf_6 0 (by decide) rfl (by decide +kernel) rfl dX6_aroundOf_43 ?_
  refine aw_icmp_ge (tgt := 149) C dX6_aroundOf_46 (by decide) hf (fun hf => ?_) (fun hf => ?_)
  · refine aw_iload C dX6_aroundOf_149 6 rfl ?_
    exact aw_iretR C dX6_aroundOf_151 hf
  refine aw_bipush (v := 8) C dX6_aroundOf_49 (by decide) ?_
  refine aw_istore (lv1 := [(8, .int 8), (0, .ref (ad 29)), (1, .int a1), (2, .int a2), (3, .int a3), (4, .int x4), (5, .int x5), (6, .int x6), (7, .int x7)]) C dX6_aroundOf_51 (by decide) rfl ?_
  refine aw_sub [1, 2, 3, 4, 5, 6, 7, 8, 0] rfl ?_
  exact tX6_aroundOf_53 C  H26 FU x4 x5 x6 x7 8 hf
set_option maxHeartbeats 4000000 in
set_option maxRecDepth 100000 in
theorem tX6_aroundOf_26 {h : AH} {a1 : Int32} {a2 : Int32} {a3 : Int32} {r0 : Int32} (C : Cx p rmX6_aroundOf s m args meth c RX6 cX6_aroundOf 10 (some .int) wsX6_aroundOf D ad cy tb 0 0) : ∀ (n : Nat) (x4 : Int32) (x5 : Int32) (x6 : Int32) (x7 : Int32), fX6_aroundOf_26 h a1 a2 a3 n x4 x5 x6 x7 = some r0 → AW p l e rmX6_aroundOf s m args below meth c 10 D ad cy 0 0 (Qi D ad cy below args s r0 h) 26 [(0, .ref (ad 29)), (1, .int a1), (2, .int a2), (3, .int a3), (4, .int x4), (5, .int x5), (6, .int x6), (7, .int x7)] [] h := by
  intro n
  induction n with
  | zero => intro x4 x5 x6 x7 hf; cases hf
  | succ n ih => intro x4 x5 x6 x7 hf; exact tX6_aroundOf_26b C  ih  hf
set_option maxHeartbeats 4000000 in
set_option maxRecDepth 100000 in
theorem tX6_aroundOf_0 {h : AH} {a1 : Int32} {a2 : Int32} {a3 : Int32} {r0 : Int32} (C : Cx p rmX6_aroundOf s m args meth c RX6 cX6_aroundOf 10 (some .int) wsX6_aroundOf D ad cy tb 0 0) (hf : fX6_aroundOf h a1 a2 a3 = some r0) : AW p l e rmX6_aroundOf s m args below meth c 10 D ad cy 0 0 (Qi D ad cy below args s r0 h) 0 [(0, .ref (ad 29)), (1, .int a1), (2, .int a2), (3, .int a3)] [] h := by
  unfold fX6_aroundOf at hf
  refine aw_bipush (v := 8) C dX6_aroundOf_0 (by decide) ?_
  refine aw_iload_n C dX6_aroundOf_2 rfl 1 rfl ?_
  refine aw_imul C dX6_aroundOf_3 ?_
  refine aw_iload_n C dX6_aroundOf_4 rfl 2 rfl ?_
  refine aw_iadd C dX6_aroundOf_5 ?_
  refine aw_nmI hf (fun v1 hf => ?_)
  refine aw_istore (lv1 := [(4, .int v1), (0, .ref (ad 29)), (1, .int a1), (2, .int a2), (3, .int a3)]) C dX6_aroundOf_6 (by decide) rfl ?_
  refine aw_bipush (v := 8) C dX6_aroundOf_8 (by decide) ?_
  refine aw_iload_n C dX6_aroundOf_10 rfl 2 rfl ?_
  refine aw_imul C dX6_aroundOf_11 ?_
  refine aw_bipush (v := 8) C dX6_aroundOf_12 (by decide) ?_
  refine aw_iadd C dX6_aroundOf_14 ?_
  refine aw_iload_n C dX6_aroundOf_15 rfl 4 rfl ?_
  refine aw_iadd C dX6_aroundOf_16 ?_
  refine aw_nmI hf (fun v2 hf => ?_)
  refine aw_istore (lv1 := [(5, .int v2), (4, .int v1), (0, .ref (ad 29)), (1, .int a1), (2, .int a2), (3, .int a3)]) C dX6_aroundOf_17 (by decide) rfl ?_
  refine aw_iconst (v := 0) C dX6_aroundOf_19 (by decide) ?_
  refine aw_istore (lv1 := [(6, .int 0), (5, .int v2), (4, .int v1), (0, .ref (ad 29)), (1, .int a1), (2, .int a2), (3, .int a3)]) C dX6_aroundOf_20 (by decide) rfl ?_
  refine aw_bipush (v := 8) C dX6_aroundOf_22 (by decide) ?_
  refine aw_istore (lv1 := [(7, .int 8), (6, .int 0), (5, .int v2), (4, .int v1), (0, .ref (ad 29)), (1, .int a1), (2, .int a2), (3, .int a3)]) C dX6_aroundOf_24 (by decide) rfl ?_
  refine aw_sub [4, 5, 6, 7, 3, 2, 1, 0] rfl ?_
  exact tX6_aroundOf_26 C   FU v1 v2 0 8 hf
theorem kX6_aroundOf {h : AH} {a1 : Int32} {a2 : Int32} {a3 : Int32} {r0 : Int32} (hi : Inj ad) (hf : fX6_aroundOf h a1 a2 a3 = some r0) : Ki l yX6_aroundOf wsX6_aroundOf rmX6_aroundOf D ad cy tb [.ref (ad 29), .int a1, .int a2, .int a3] h r0 h := met_i (lv := [(0, .ref (ad 29)), (1, .int a1), (2, .int a2), (3, .int a3)]) hi (by decide) rfl (Nat.le_of_ble_eq_true rfl) rfl rfl (fun _ _ _ _ _ _ _ _ C => tX6_aroundOf_0 C  hf)
set_option maxRecDepth 20000 in
theorem ggX6_around_X6_isBit : GoodIn wsX6_around wsX6_isBit := goodIn_r _ [5, 6, 7, 8, 4, 9, 10, 11, 12, 13, 14, 15, 16, 17, 26, 27, 28, 29, 30, 31, 32, 33, 34, 35, 36, 37, 38, 39, 40, 41, 42, 43] (by decide +kernel) (by decide +kernel)
set_option maxRecDepth 20000 in
theorem gX6_around_X6_isBit : GoodIn wsX6_around (wsV RX6 91 RX6 yX6_isBit wsX6_isBit) := goodIn_app (goodIn_of _ (by decide +kernel)) ggX6_around_X6_isBit
set_option maxRecDepth 20000 in
theorem ggX6_around_X6_aroundOf : GoodIn wsX6_around wsX6_aroundOf := goodIn_r _ [21, 14, 22, 23, 24, 4, 25, 15, 16, 17, 26, 27, 28, 29, 30, 31, 32, 33, 34, 35, 36, 37, 38, 39, 40, 41, 42, 43] (by decide +kernel) (by decide +kernel)
set_option maxRecDepth 20000 in
theorem gX6_around_X6_aroundOf : GoodIn wsX6_around (wsV RX6 190 RX6 yX6_aroundOf wsX6_aroundOf) := goodIn_app (goodIn_of _ (by decide +kernel)) ggX6_around_X6_aroundOf
theorem dX6_around_0 : decode cX6_around 0 = .ok (.aload_n 0, 1) := by decide +kernel
theorem dX6_around_1 : decode cX6_around 1 = .ok (.iload_n 1, 1) := by decide +kernel
theorem dX6_around_2 : decode cX6_around 2 = .ok (.iload_n 2, 1) := by decide +kernel
theorem dX6_around_3 : decode cX6_around 3 = .ok (.iload_n 3, 1) := by decide +kernel
theorem dX6_around_4 : decode cX6_around 4 = .ok (.invokevirtual 91, 3) := by decide +kernel
theorem dX6_around_7 : decode cX6_around 7 = .ok (.ifCond .eq 13, 3) := by decide +kernel
theorem dX6_around_10 : decode cX6_around 10 = .ok (.aload_n 0, 1) := by decide +kernel
theorem dX6_around_11 : decode cX6_around 11 = .ok (.iload_n 1, 1) := by decide +kernel
theorem dX6_around_12 : decode cX6_around 12 = .ok (.iload_n 2, 1) := by decide +kernel
theorem dX6_around_13 : decode cX6_around 13 = .ok (.iload_n 3, 1) := by decide +kernel
theorem dX6_around_14 : decode cX6_around 14 = .ok (.invokevirtual 190, 3) := by decide +kernel
theorem dX6_around_17 : decode cX6_around 17 = .ok (.goto 5, 3) := by decide +kernel
theorem dX6_around_20 : decode cX6_around 20 = .ok (.bipush (-2), 2) := by decide +kernel
theorem dX6_around_22 : decode cX6_around 22 = .ok (.ireturn, 1) := by decide +kernel
abbrev rmX6_around : Room := { frames := 4, cells := 0, slots := 0, locals := 88 }
set_option maxHeartbeats 4000000 in
set_option maxRecDepth 100000 in
theorem tX6_around_0 {h : AH} {a1 : Int32} {a2 : Int32} {a3 : Int32} {r0 : Int32} (C : Cx p rmX6_around s m args meth c RX6 cX6_around 4 (some .int) wsX6_around D ad cy tb 0 0) (hf : fX6_around h a1 a2 a3 = some r0) : AW p l e rmX6_around s m args below meth c 4 D ad cy 0 0 (Qi D ad cy below args s r0 h) 0 [(0, .ref (ad 29)), (1, .int a1), (2, .int a2), (3, .int a3)] [] h := by
  unfold fX6_around at hf
  refine aw_aload_n C dX6_around_0 rfl 0 rfl ?_
  refine aw_iload_n C dX6_around_1 rfl 1 rfl ?_
  refine aw_iload_n C dX6_around_2 rfl 2 rfl ?_
  refine aw_iload_n C dX6_around_3 rfl 3 rfl ?_
  obtain ⟨r1, hc, hf⟩ := bR_some hf
  refine aw_callVi (As := [.int a1, .int a2, .int a3]) (rest := []) C rfl (by decide) rfl (kX6_isBit (l := l) (D := D) (ad := ad) (cy := cy) (tb := tb) C.2.2.2.2.2.2.2.2.1 hc) (fun ht _ => cwV 3 ht gX6_around_X6_isBit rfl rfl rfl (by decide +kernel) ⟨Nat.le_of_ble_eq_true rfl, Nat.le_of_ble_eq_true rfl⟩) rfl rfl (Nat.le_of_ble_eq_true rfl) dX6_around_4 ?_
  refine aw_if_eq (tgt := 20) C dX6_around_7 (by decide) hf (fun hf => ?_) (fun hf => ?_)
  · refine aw_bipush (v := (-2)) C dX6_around_20 (by decide) ?_
    exact aw_iretR C dX6_around_22 hf
  refine aw_aload_n C dX6_around_10 rfl 0 rfl ?_
  refine aw_iload_n C dX6_around_11 rfl 1 rfl ?_
  refine aw_iload_n C dX6_around_12 rfl 2 rfl ?_
  refine aw_iload_n C dX6_around_13 rfl 3 rfl ?_
  obtain ⟨r2, hc, hf⟩ := bR_some hf
  refine aw_callVi (As := [.int a1, .int a2, .int a3]) (rest := []) C rfl (by decide) rfl (kX6_aroundOf (l := l) (D := D) (ad := ad) (cy := cy) (tb := tb) C.2.2.2.2.2.2.2.2.1 hc) (fun ht _ => cwV 3 ht gX6_around_X6_aroundOf rfl rfl rfl (by decide +kernel) ⟨Nat.le_of_ble_eq_true rfl, Nat.le_of_ble_eq_true rfl⟩) rfl rfl (Nat.le_of_ble_eq_true rfl) dX6_around_14 ?_
  refine aw_goto (tgt := 22) C dX6_around_17 (by decide) ?_
  exact aw_iretR C dX6_around_22 hf
theorem kX6_around {h : AH} {a1 : Int32} {a2 : Int32} {a3 : Int32} {r0 : Int32} (hi : Inj ad) (hf : fX6_around h a1 a2 a3 = some r0) : Ki l yX6_around wsX6_around rmX6_around D ad cy tb [.ref (ad 29), .int a1, .int a2, .int a3] h r0 h := met_i (lv := [(0, .ref (ad 29)), (1, .int a1), (2, .int a2), (3, .int a3)]) hi (by decide) rfl (Nat.le_of_ble_eq_true rfl) rfl rfl (fun _ _ _ _ _ _ _ _ C => tX6_around_0 C  hf)
theorem dX4_becomeLike_0 : decode cX4_becomeLike 0 = .ok (.aload_n 0, 1) := by decide +kernel
theorem dX4_becomeLike_1 : decode cX4_becomeLike 1 = .ok (.aload_n 1, 1) := by decide +kernel
theorem dX4_becomeLike_2 : decode cX4_becomeLike 2 = .ok (.getfield 9, 3) := by decide +kernel
theorem dX4_becomeLike_5 : decode cX4_becomeLike 5 = .ok (.putfield 9, 3) := by decide +kernel
theorem dX4_becomeLike_8 : decode cX4_becomeLike 8 = .ok (.aload_n 1, 1) := by decide +kernel
theorem dX4_becomeLike_9 : decode cX4_becomeLike 9 = .ok (.getfield 15, 3) := by decide +kernel
theorem dX4_becomeLike_12 : decode cX4_becomeLike 12 = .ok (.iconst 0, 1) := by decide +kernel
theorem dX4_becomeLike_13 : decode cX4_becomeLike 13 = .ok (.aload_n 0, 1) := by decide +kernel
theorem dX4_becomeLike_14 : decode cX4_becomeLike 14 = .ok (.getfield 15, 3) := by decide +kernel
theorem dX4_becomeLike_17 : decode cX4_becomeLike 17 = .ok (.iconst 0, 1) := by decide +kernel
theorem dX4_becomeLike_18 : decode cX4_becomeLike 18 = .ok (.aload_n 0, 1) := by decide +kernel
theorem dX4_becomeLike_19 : decode cX4_becomeLike 19 = .ok (.getfield 15, 3) := by decide +kernel
theorem dX4_becomeLike_22 : decode cX4_becomeLike 22 = .ok (.arraylength, 1) := by decide +kernel
theorem dX4_becomeLike_23 : decode cX4_becomeLike 23 = .ok (.invokestatic 32, 3) := by decide +kernel
theorem dX4_becomeLike_26 : decode cX4_becomeLike 26 = .ok (.aload_n 1, 1) := by decide +kernel
theorem dX4_becomeLike_27 : decode cX4_becomeLike 27 = .ok (.getfield 19, 3) := by decide +kernel
theorem dX4_becomeLike_30 : decode cX4_becomeLike 30 = .ok (.iconst 0, 1) := by decide +kernel
theorem dX4_becomeLike_31 : decode cX4_becomeLike 31 = .ok (.aload_n 0, 1) := by decide +kernel
theorem dX4_becomeLike_32 : decode cX4_becomeLike 32 = .ok (.getfield 19, 3) := by decide +kernel
theorem dX4_becomeLike_35 : decode cX4_becomeLike 35 = .ok (.iconst 0, 1) := by decide +kernel
theorem dX4_becomeLike_36 : decode cX4_becomeLike 36 = .ok (.aload_n 0, 1) := by decide +kernel
theorem dX4_becomeLike_37 : decode cX4_becomeLike 37 = .ok (.getfield 19, 3) := by decide +kernel
theorem dX4_becomeLike_40 : decode cX4_becomeLike 40 = .ok (.arraylength, 1) := by decide +kernel
theorem dX4_becomeLike_41 : decode cX4_becomeLike 41 = .ok (.invokestatic 32, 3) := by decide +kernel
theorem dX4_becomeLike_44 : decode cX4_becomeLike 44 = .ok (.return_, 1) := by decide +kernel
abbrev rmX4_becomeLike : Room := { frames := 1, cells := 0, slots := 0, locals := 60 }
set_option maxRecDepth 100000 in
theorem hinX4_becomeLike_4 : ∀ w ∈ wsX40, w ∈ wsX4_becomeLike := by decide +kernel
set_option maxHeartbeats 4000000 in
set_option maxRecDepth 100000 in
theorem tX4_becomeLike_0 {h : AH} {a0 : Nat} {a1 : Nat} {h0 : AH} (C : Cx p rmX4_becomeLike s m args meth c RX4 cX4_becomeLike 2 none wsX4_becomeLike D ad cy tb 0 0) (hk0 : kd a0 = 4) (hk1 : kd a1 = 4) (hf : fX4_becomeLike h a0 a1 = some h0) : AW p l e rmX4_becomeLike s m args below meth c 2 D ad cy 0 0 (Qv D ad cy below args s h0) 0 [(0, .ref (ad a0)), (1, .ref (ad a1))] [] h := by
  unfold fX4_becomeLike at hf
  refine aw_aload_n C dX4_becomeLike_0 rfl 0 rfl ?_
  refine aw_aload_n C dX4_becomeLike_1 rfl 1 rfl ?_
  refine aw_get C (kd_lt hk1 (by decide)) (ce_4 hk1) rfl hinX4_becomeLike_4 0 (by decide) rfl (by decide +kernel) rfl dX4_becomeLike_2 ?_
  refine aw_put (ty := .int) C (kd_lt hk0 (by decide)) (ce_4 hk0) rfl hinX4_becomeLike_4 tyX4 tyX4_ok nmX4 0 (by decide) rfl (by decide +kernel) rfl (by decide +kernel) rfl rfl (Nat.le_of_ble_eq_true rfl) (cs_4_0 hk0) dX4_becomeLike_5 ?_
  refine aw_nmH hf (fun h1 hf => ?_)
  refine aw_aload_n C dX4_becomeLike_8 rfl 1 rfl ?_
  refine aw_get C (kd_lt hk1 (by decide)) (ce_4 hk1) rfl hinX4_becomeLike_4 1 (by decide) rfl (by decide +kernel) rfl dX4_becomeLike_9 ?_
  refine aw_iconst (v := 0) C dX4_becomeLike_12 (by decide) ?_
  refine aw_aload_n C dX4_becomeLike_13 rfl 0 rfl ?_
  refine aw_get C (kd_lt hk0 (by decide)) (ce_4 hk0) rfl hinX4_becomeLike_4 1 (by decide) rfl (by decide +kernel) rfl dX4_becomeLike_14 ?_
  refine aw_iconst (v := 0) C dX4_becomeLike_17 (by decide) ?_
  refine aw_aload_n C dX4_becomeLike_18 rfl 0 rfl ?_
  refine aw_get C (kd_lt hk0 (by decide)) (ce_4 hk0) rfl hinX4_becomeLike_4 1 (by decide) rfl (by decide +kernel) rfl dX4_becomeLike_19 ?_
  refine aw_alenL C (kd4a hk0) (ln4a hk0) dX4_becomeLike_22 ?_
  refine aw_copyL C (kd4a hk1) (ln4a hk1) (kd4a hk0) (ln4a hk0) hf (by decide +kernel) (by decide +kernel) (by decide +kernel) (by decide +kernel) (Nat.le_of_ble_eq_true rfl) (Nat.le_of_ble_eq_true rfl) dX4_becomeLike_23 (fun hf => ?_)
  refine aw_nmH hf (fun h2 hf => ?_)
  refine aw_aload_n C dX4_becomeLike_26 rfl 1 rfl ?_
  refine aw_get C (kd_lt hk1 (by decide)) (ce_4 hk1) rfl hinX4_becomeLike_4 2 (by decide) rfl (by decide +kernel) rfl dX4_becomeLike_27 ?_
  refine aw_iconst (v := 0) C dX4_becomeLike_30 (by decide) ?_
  refine aw_aload_n C dX4_becomeLike_31 rfl 0 rfl ?_
  refine aw_get C (kd_lt hk0 (by decide)) (ce_4 hk0) rfl hinX4_becomeLike_4 2 (by decide) rfl (by decide +kernel) rfl dX4_becomeLike_32 ?_
  refine aw_iconst (v := 0) C dX4_becomeLike_35 (by decide) ?_
  refine aw_aload_n C dX4_becomeLike_36 rfl 0 rfl ?_
  refine aw_get C (kd_lt hk0 (by decide)) (ce_4 hk0) rfl hinX4_becomeLike_4 2 (by decide) rfl (by decide +kernel) rfl dX4_becomeLike_37 ?_
  refine aw_alenI C (kd4b hk0) (ln4b hk0) dX4_becomeLike_40 ?_
  refine aw_copyI C (kd4b hk1) (ln4b hk1) (kd4b hk0) (ln4b hk0) hf (by decide +kernel) (by decide +kernel) (by decide +kernel) (by decide +kernel) (Nat.le_of_ble_eq_true rfl) (Nat.le_of_ble_eq_true rfl) dX4_becomeLike_41 (fun hf => ?_)
  refine aw_nmH hf (fun h3 hf => ?_)
  exact aw_vret C dX4_becomeLike_44 hf
theorem kX4_becomeLike {h : AH} {a0 : Nat} {a1 : Nat} {h0 : AH} (hi : Inj ad) (hk0 : kd a0 = 4) (hk1 : kd a1 = 4) (hf : fX4_becomeLike h a0 a1 = some h0) : Kv l yX4_becomeLike wsX4_becomeLike rmX4_becomeLike D ad cy tb [.ref (ad a0), .ref (ad a1)] h h0 := met_v (lv := [(0, .ref (ad a0)), (1, .ref (ad a1))]) hi (by decide) rfl (Nat.le_of_ble_eq_true rfl) rfl rfl (fun _ _ _ _ _ _ _ _ C => tX4_becomeLike_0 C hk0 hk1 hf)
set_option maxHeartbeats 4000000 in
set_option maxRecDepth 100000 in
theorem tX4_takeTurn_n_87 {h : AH} {a0 : Nat} {a1 : Int32} {a2 : Int32} {a3 : Int32} {k6 : AH → Int32 → Int32 → Option (Int32 × AH)} {k17 : AH → Int32 → Int32 → Int32 → Option (Int32 × AH)} {x5 : Int32} {x6 : Int32} {x7 : Int32} {r0 : Int32} {h0 : AH} (C : Cx p rmX4_takeTurn s m args meth c RX4 cX4_takeTurn 10 (some .int) wsX4_takeTurn D ad cy tb 0 0) (hk0 : kd a0 = 4) (H6 : ∀ (h : AH) (x5 : Int32) (x6 : Int32), k6 h x5 x6 = some (r0, h0) → AW p l e rmX4_takeTurn s m args below meth c 10 D ad cy 0 0 (Qi D ad cy below args s r0 h0) 6 [(0, .ref (ad a0)), (1, .int a1), (2, .int a2), (3, .int a3), (4, .null), (5, .int x5), (6, .int x6)] [] h) (H17 : ∀ (h : AH) (x5 : Int32) (x6 : Int32) (x7 : Int32), k17 h x5 x6 x7 = some (r0, h0) → AW p l e rmX4_takeTurn s m args below meth c 10 D ad cy 0 0 (Qi D ad cy below args s r0 h0) 17 [(0, .ref (ad a0)), (1, .int a1), (2, .int a2), (3, .int a3), (4, .null), (5, .int x5), (6, .int x6), (7, .int x7)] [] h) (hf : fX4_takeTurn_n_87 k6 k17 a0 a1 a2 a3 h x5 x6 x7 = some (r0, h0)) : AW p l e rmX4_takeTurn s m args below meth c 10 D ad cy 0 0 (Qi D ad cy below args s r0 h0) 87 [(0, .ref (ad a0)), (1, .int a1), (2, .int a2), (3, .int a3), (4, .null), (5, .int x5), (6, .int x6), (7, .int x7)] [] h := by
  unfold fX4_takeTurn_n_87 at hf
  obtain ⟨v1, hvv1, hf⟩ := nm_ex hf
  refine aw_iinc (j := 7) (v := v1) (lv1 := [(7, .int v1), (0, .ref (ad a0)), (1, .int a1), (2, .int a2), (3, .int a3), (4, .null), (5, .int x5), (6, .int x6)]) C dX4_takeTurn_87 rfl hvv1 (by decide) rfl ?_
  refine aw_goto (tgt := 17) C dX4_takeTurn_90 (by decide) ?_
  refine aw_sub [1, 2, 3, 4, 5, 6, 7, 0] rfl ?_
  exact H17 h x5 x6 v1 hf
set_option maxHeartbeats 4000000 in
set_option maxRecDepth 100000 in
theorem tX4_takeTurn_n_50 {h : AH} {a0 : Nat} {a1 : Int32} {a2 : Int32} {a3 : Int32} {k6 : AH → Int32 → Int32 → Option (Int32 × AH)} {k17 : AH → Int32 → Int32 → Int32 → Option (Int32 × AH)} {x5 : Int32} {x6 : Int32} {x7 : Int32} {s0 : Int32} {r0 : Int32} {h0 : AH} (C : Cx p rmX4_takeTurn s m args meth c RX4 cX4_takeTurn 10 (some .int) wsX4_takeTurn D ad cy tb 0 0) (hk0 : kd a0 = 4) (H6 : ∀ (h : AH) (x5 : Int32) (x6 : Int32), k6 h x5 x6 = some (r0, h0) → AW p l e rmX4_takeTurn s m args below meth c 10 D ad cy 0 0 (Qi D ad cy below args s r0 h0) 6 [(0, .ref (ad a0)), (1, .int a1), (2, .int a2), (3, .int a3), (4, .null), (5, .int x5), (6, .int x6)] [] h) (H17 : ∀ (h : AH) (x5 : Int32) (x6 : Int32) (x7 : Int32), k17 h x5 x6 x7 = some (r0, h0) → AW p l e rmX4_takeTurn s m args below meth c 10 D ad cy 0 0 (Qi D ad cy below args s r0 h0) 17 [(0, .ref (ad a0)), (1, .int a1), (2, .int a2), (3, .int a3), (4, .null), (5, .int x5), (6, .int x6), (7, .int x7)] [] h) (hf : fX4_takeTurn_n_50 k6 k17 a0 a1 a2 a3 h x5 x6 x7 s0 = some (r0, h0)) : AW p l e rmX4_takeTurn s m args below meth c 10 D ad cy 0 0 (Qi D ad cy below args s r0 h0) 50 [(0, .ref (ad a0)), (1, .int a1), (2, .int a2), (3, .int a3), (4, .null), (5, .int x5), (6, .int x6), (7, .int x7)] [.int s0] h := by
  unfold fX4_takeTurn_n_50 at hf
  refine aw_istore (lv1 := [(8, .int s0), (0, .ref (ad a0)), (1, .int a1), (2, .int a2), (3, .int a3), (4, .null), (5, .int x5), (6, .int x6), (7, .int x7)]) C dX4_takeTurn_50 (by decide) rfl ?_
  refine aw_iload C dX4_takeTurn_52 0 rfl ?_
  refine aw_if_lt (tgt := 87) C dX4_takeTurn_54 (by decide) hf (fun hf => ?_) (fun hf => ?_)
  · refine aw_sub [1, 2, 3, 4, 5, 6, 7, 8] rfl ?_
    exact tX4_takeTurn_n_87 C hk0 H6 H17 hf
  refine aw_iload C dX4_takeTurn_57 8 rfl ?_
  refine aw_iload C dX4_takeTurn_59 0 rfl ?_
  obtain ⟨r1, hc, hf⟩ := bR_some hf
  refine aw_callSNi (As := [.int x7, .int s0]) (rest := []) C (kX5_bitAt (l := l) (D := D) (ad := ad) (cy := cy) (tb := tb) C.2.2.2.2.2.2.2.2.1 hc) (fun ht hn => ⟨va_cnB (host := "StairCodes") 2 ht gX4_takeTurn_X5_bitAt_n86 rfl rfl rfl (hn _ (by decide +kernel)) (ht _ (by decide +kernel)) (by decide +kernel) ⟨Nat.le_of_ble_eq_true rfl, Nat.le_of_ble_eq_true rfl⟩, ht _ (by decide +kernel), trivial⟩) rfl rfl (Nat.le_of_ble_eq_true rfl) dX4_takeTurn_61 ?_
  refine aw_istore (lv1 := [(9, .int r1), (8, .int s0), (0, .ref (ad a0)), (1, .int a1), (2, .int a2), (3, .int a3), (4, .null), (5, .int x5), (6, .int x6), (7, .int x7)]) C dX4_takeTurn_64 (by decide) rfl ?_
  refine aw_aload_n C dX4_takeTurn_66 rfl 2 rfl ?_
  refine aw_iload C dX4_takeTurn_67 0 rfl ?_
  obtain ⟨h2, hc, hf⟩ := bR_some hf
  refine aw_callVv (As := [.int r1]) (rest := []) C hk0 (by decide) rfl (kX4_turnBit (l := l) (D := D) (ad := ad) (cy := cy) (tb := tb) C.2.2.2.2.2.2.2.2.1 hk0 hc) (fun ht _ => cwV 1 ht gX4_takeTurn_X4_turnBit rfl rfl rfl (by decide +kernel) ⟨Nat.le_of_ble_eq_true rfl, Nat.le_of_ble_eq_true rfl⟩) rfl rfl (Nat.le_of_ble_eq_true rfl) dX4_takeTurn_69 ?_
  obtain ⟨v3, hvv3, hf⟩ := nm_ex hf
  refine aw_iinc (j := 7) (v := v3) (lv1 := [(5, .int v3), (9, .int r1), (8, .int s0), (0, .ref (ad a0)), (1, .int a1), (2, .int a2), (3, .int a3), (4, .null), (6, .int x6), (7, .int x7)]) C dX4_takeTurn_72 rfl hvv3 (by decide) rfl ?_
  refine aw_aloadN C dX4_takeTurn_75 7 rfl ?_
  refine aw_ifnullN (tgt := 87) C dX4_takeTurn_77 (by decide) ?_
  refine aw_sub [3, 4, 5, 6, 7, 0, 8, 9] rfl ?_
  exact tX4_takeTurn_n_87 C hk0 H6 H17 hf
set_option maxHeartbeats 4000000 in
set_option maxRecDepth 100000 in
theorem tX4_takeTurn_n_17b {h : AH} {a0 : Nat} {a1 : Int32} {a2 : Int32} {a3 : Int32} {k6 : AH → Int32 → Int32 → Option (Int32 × AH)} {k17 : AH → Int32 → Int32 → Int32 → Option (Int32 × AH)} {x5 : Int32} {x6 : Int32} {x7 : Int32} {r0 : Int32} {h0 : AH} (C : Cx p rmX4_takeTurn s m args meth c RX4 cX4_takeTurn 10 (some .int) wsX4_takeTurn D ad cy tb 0 0) (hk0 : kd a0 = 4) (H6 : ∀ (h : AH) (x5 : Int32) (x6 : Int32), k6 h x5 x6 = some (r0, h0) → AW p l e rmX4_takeTurn s m args below meth c 10 D ad cy 0 0 (Qi D ad cy below args s r0 h0) 6 [(0, .ref (ad a0)), (1, .int a1), (2, .int a2), (3, .int a3), (4, .null), (5, .int x5), (6, .int x6)] [] h) (H17 : ∀ (h : AH) (x5 : Int32) (x6 : Int32) (x7 : Int32), k17 h x5 x6 x7 = some (r0, h0) → AW p l e rmX4_takeTurn s m args below meth c 10 D ad cy 0 0 (Qi D ad cy below args s r0 h0) 17 [(0, .ref (ad a0)), (1, .int a1), (2, .int a2), (3, .int a3), (4, .null), (5, .int x5), (6, .int x6), (7, .int x7)] [] h) (hf : fX4_takeTurn_n_17b k6 k17 a0 a1 a2 a3 h x5 x6 x7 = some (r0, h0)) : AW p l e rmX4_takeTurn s m args below meth c 10 D ad cy 0 0 (Qi D ad cy below args s r0 h0) 17 [(0, .ref (ad a0)), (1, .int a1), (2, .int a2), (3, .int a3), (4, .null), (5, .int x5), (6, .int x6), (7, .int x7)] [] h := by
  unfold fX4_takeTurn_n_17b at hf
  refine aw_iload C dX4_takeTurn_17 7 rfl ?_
  refine aw_bipush (v := 8) C dX4_takeTurn_19 (by decide) ?_
  refine aw_iload_n C dX4_takeTurn_21 rfl 2 rfl ?_
  refine aw_iconst (v := 1) C dX4_takeTurn_22 (by decide) ?_
  refine aw_iadd C dX4_takeTurn_23 ?_
  refine aw_imul C dX4_takeTurn_24 ?_
  refine aw_icmp_ge (tgt := 93) C dX4_takeTurn_25 (by decide) hf (fun hf => ?_) (fun hf => ?_)
  · obtain ⟨v1, hvv1, hf⟩ := nm_ex hf
    refine aw_iinc (j := 6) (v := v1) (lv1 := [(6, .int v1), (0, .ref (ad a0)), (1, .int a1), (2, .int a2), (3, .int a3), (4, .null), (5, .int x5), (7, .int x7)]) C dX4_takeTurn_93 rfl hvv1 (by decide) rfl ?_
    refine aw_goto (tgt := 6) C dX4_takeTurn_96 (by decide) ?_
    refine aw_sub [1, 2, 3, 4, 5, 6, 0] rfl ?_
    exact H6 h x5 v1 hf
  refine aw_iload C dX4_takeTurn_28 7 rfl ?_
  refine aw_iconst (v := 3) C dX4_takeTurn_30 (by decide) ?_
  refine aw_ishr C dX4_takeTurn_31 ?_
  refine aw_iconst (v := 1) C dX4_takeTurn_32 (by decide) ?_
  refine aw_iand C dX4_takeTurn_33 ?_
  refine aw_iload C dX4_takeTurn_34 6 rfl ?_
  refine aw_icmp_ne (tgt := 49) C dX4_takeTurn_36 (by decide) hf (fun hf => ?_) (fun hf => ?_)
  · refine aw_iconst (v := (-1)) C dX4_takeTurn_49 (by decide) ?_
    refine aw_sub [0, 1, 2, 3, 4, 5, 6, 7] rfl ?_
    exact tX4_takeTurn_n_50 C hk0 H6 H17 hf
  refine aw_aload_n C dX4_takeTurn_39 rfl 0 rfl ?_
  refine aw_iload C dX4_takeTurn_40 7 rfl ?_
  refine aw_iload_n C dX4_takeTurn_42 rfl 3 rfl ?_
  obtain ⟨r2, hc, hf⟩ := bR_some hf
  refine aw_callVi (As := [.int x7, .int a3]) (rest := []) C hk0 (by decide) rfl (kX4_placeToMend (l := l) (D := D) (ad := ad) (cy := cy) (tb := tb) C.2.2.2.2.2.2.2.2.1 hk0 hc) (fun ht _ => cwV 2 ht gX4_takeTurn_X4_placeToMend rfl rfl rfl (by decide +kernel) ⟨Nat.le_of_ble_eq_true rfl, Nat.le_of_ble_eq_true rfl⟩) rfl rfl (Nat.le_of_ble_eq_true rfl) dX4_takeTurn_43 ?_
  refine aw_goto (tgt := 50) C dX4_takeTurn_46 (by decide) ?_
  refine aw_sub [0, 1, 2, 3, 4, 5, 6, 7] rfl ?_
  exact tX4_takeTurn_n_50 C hk0 H6 H17 hf
set_option maxHeartbeats 4000000 in
set_option maxRecDepth 100000 in
theorem tX4_takeTurn_n_17  {a0 : Nat} {a1 : Int32} {a2 : Int32} {a3 : Int32} {k6 : AH → Int32 → Int32 → Option (Int32 × AH)} {r0 : Int32} {h0 : AH} (C : Cx p rmX4_takeTurn s m args meth c RX4 cX4_takeTurn 10 (some .int) wsX4_takeTurn D ad cy tb 0 0) (hk0 : kd a0 = 4) (H6 : ∀ (h : AH) (x5 : Int32) (x6 : Int32), k6 h x5 x6 = some (r0, h0) → AW p l e rmX4_takeTurn s m args below meth c 10 D ad cy 0 0 (Qi D ad cy below args s r0 h0) 6 [(0, .ref (ad a0)), (1, .int a1), (2, .int a2), (3, .int a3), (4, .null), (5, .int x5), (6, .int x6)] [] h) : ∀ (n : Nat) (h : AH) (x5 : Int32) (x6 : Int32) (x7 : Int32), fX4_takeTurn_n_17 k6 a0 a1 a2 a3 n h x5 x6 x7 = some (r0, h0) → AW p l e rmX4_takeTurn s m args below meth c 10 D ad cy 0 0 (Qi D ad cy below args s r0 h0) 17 [(0, .ref (ad a0)), (1, .int a1), (2, .int a2), (3, .int a3), (4, .null), (5, .int x5), (6, .int x6), (7, .int x7)] [] h := by
  intro n
  induction n with
  | zero => intro h x5 x6 x7 hf; cases hf
  | succ n ih => intro h x5 x6 x7 hf; exact tX4_takeTurn_n_17b C hk0 H6 ih  hf
set_option maxHeartbeats 4000000 in
set_option maxRecDepth 100000 in
theorem tX4_takeTurn_n_6b {h : AH} {a0 : Nat} {a1 : Int32} {a2 : Int32} {a3 : Int32} {k6 : AH → Int32 → Int32 → Option (Int32 × AH)} {x5 : Int32} {x6 : Int32} {r0 : Int32} {h0 : AH} (C : Cx p rmX4_takeTurn s m args meth c RX4 cX4_takeTurn 10 (some .int) wsX4_takeTurn D ad cy tb 0 0) (hk0 : kd a0 = 4) (H6 : ∀ (h : AH) (x5 : Int32) (x6 : Int32), k6 h x5 x6 = some (r0, h0) → AW p l e rmX4_takeTurn s m args below meth c 10 D ad cy 0 0 (Qi D ad cy below args s r0 h0) 6 [(0, .ref (ad a0)), (1, .int a1), (2, .int a2), (3, .int a3), (4, .null), (5, .int x5), (6, .int x6)] [] h) (hf : fX4_takeTurn_n_6b k6 a0 a1 a2 a3 h x5 x6 = some (r0, h0)) : AW p l e rmX4_takeTurn s m args below meth c 10 D ad cy 0 0 (Qi D ad cy below args s r0 h0) 6 [(0, .ref (ad a0)), (1, .int a1), (2, .int a2), (3, .int a3), (4, .null), (5, .int x5), (6, .int x6)] [] h := by
  unfold fX4_takeTurn_n_6b at hf
  refine aw_iload C dX4_takeTurn_6 6 rfl ?_
  refine aw_if_lt (tgt := 99) C dX4_takeTurn_8 (by decide) hf (fun hf => ?_) (fun hf => ?_)
  · refine aw_iload C dX4_takeTurn_99 5 rfl ?_
    exact aw_iretW C dX4_takeTurn_101 hf
  refine aw_bipush (v := 8) C dX4_takeTurn_11 (by decide) ?_
  refine aw_iload_n C dX4_takeTurn_13 rfl 1 rfl ?_
  refine aw_imul C dX4_takeTurn_14 ?_
  refine aw_nmI hf (fun v1 hf => ?_)
  refine aw_istore (lv1 := [(7, .int v1), (0, .ref (ad a0)), (1, .int a1), (2, .int a2), (3, .int a3), (4, .null), (5, .int x5), (6, .int x6)]) C dX4_takeTurn_15 (by decide) rfl ?_
  refine aw_sub [1, 2, 3, 4, 5, 6, 7, 0] rfl ?_
  exact tX4_takeTurn_n_17 C hk0 H6 FU h x5 x6 v1 hf
set_option maxHeartbeats 4000000 in
set_option maxRecDepth 100000 in
theorem tX4_takeTurn_n_6  {a0 : Nat} {a1 : Int32} {a2 : Int32} {a3 : Int32} {r0 : Int32} {h0 : AH} (C : Cx p rmX4_takeTurn s m args meth c RX4 cX4_takeTurn 10 (some .int) wsX4_takeTurn D ad cy tb 0 0) (hk0 : kd a0 = 4) : ∀ (n : Nat) (h : AH) (x5 : Int32) (x6 : Int32), fX4_takeTurn_n_6 a0 a1 a2 a3 n h x5 x6 = some (r0, h0) → AW p l e rmX4_takeTurn s m args below meth c 10 D ad cy 0 0 (Qi D ad cy below args s r0 h0) 6 [(0, .ref (ad a0)), (1, .int a1), (2, .int a2), (3, .int a3), (4, .null), (5, .int x5), (6, .int x6)] [] h := by
  intro n
  induction n with
  | zero => intro h x5 x6 hf; cases hf
  | succ n ih => intro h x5 x6 hf; exact tX4_takeTurn_n_6b C hk0 ih  hf
set_option maxHeartbeats 4000000 in
set_option maxRecDepth 100000 in
theorem tX4_takeTurn_n_0 {h : AH} {a0 : Nat} {a1 : Int32} {a2 : Int32} {a3 : Int32} {r0 : Int32} {h0 : AH} (C : Cx p rmX4_takeTurn s m args meth c RX4 cX4_takeTurn 10 (some .int) wsX4_takeTurn D ad cy tb 0 0) (hk0 : kd a0 = 4) (hf : fX4_takeTurn_n h a0 a1 a2 a3 = some (r0, h0)) : AW p l e rmX4_takeTurn s m args below meth c 10 D ad cy 0 0 (Qi D ad cy below args s r0 h0) 0 [(0, .ref (ad a0)), (1, .int a1), (2, .int a2), (3, .int a3), (4, .null)] [] h := by
  unfold fX4_takeTurn_n at hf
  refine aw_iconst (v := 0) C dX4_takeTurn_0 (by decide) ?_
  refine aw_istore (lv1 := [(5, .int 0), (0, .ref (ad a0)), (1, .int a1), (2, .int a2), (3, .int a3), (4, .null)]) C dX4_takeTurn_1 (by decide) rfl ?_
  refine aw_iconst (v := 1) C dX4_takeTurn_3 (by decide) ?_
  refine aw_istore (lv1 := [(6, .int 1), (5, .int 0), (0, .ref (ad a0)), (1, .int a1), (2, .int a2), (3, .int a3), (4, .null)]) C dX4_takeTurn_4 (by decide) rfl ?_
  refine aw_sub [2, 3, 4, 5, 6, 1, 0] rfl ?_
  exact tX4_takeTurn_n_6 C hk0  FU h 0 1 hf
theorem kX4_takeTurn_n {h : AH} {a0 : Nat} {a1 : Int32} {a2 : Int32} {a3 : Int32} {r0 : Int32} {h0 : AH} (hi : Inj ad) (hk0 : kd a0 = 4) (hf : fX4_takeTurn_n h a0 a1 a2 a3 = some (r0, h0)) : Ki l yX4_takeTurn wsX4_takeTurn rmX4_takeTurn D ad cy tb [.ref (ad a0), .int a1, .int a2, .int a3, .null] h r0 h0 := met_i (lv := [(0, .ref (ad a0)), (1, .int a1), (2, .int a2), (3, .int a3), (4, .null)]) hi (by decide) rfl (Nat.le_of_ble_eq_true rfl) rfl rfl (fun _ _ _ _ _ _ _ _ C => tX4_takeTurn_n_0 C hk0 hf)
set_option maxHeartbeats 4000000 in
set_option maxRecDepth 100000 in
theorem tX4_takeWindow_n_3b {h : AH} {a0 : Nat} {a1 : Int32} {a2 : Int32} {a3 : Int32} {a4 : Int32} {k3 : AH → Int32 → Option (Int32 × AH)} {x6 : Int32} {r0 : Int32} {h0 : AH} (C : Cx p rmX4_takeWindow s m args meth c RX4 cX4_takeWindow 7 (some .int) wsX4_takeWindow D ad cy tb 0 0) (hk0 : kd a0 = 4) (H3 : ∀ (h : AH) (x6 : Int32), k3 h x6 = some (r0, h0) → AW p l e rmX4_takeWindow s m args below meth c 7 D ad cy 0 0 (Qi D ad cy below args s r0 h0) 3 [(0, .ref (ad a0)), (1, .int a1), (2, .int a2), (3, .int a3), (4, .int a4), (5, .null), (6, .int x6)] [] h) (hf : fX4_takeWindow_n_3b k3 a0 a1 a2 a3 a4 h x6 = some (r0, h0)) : AW p l e rmX4_takeWindow s m args below meth c 7 D ad cy 0 0 (Qi D ad cy below args s r0 h0) 3 [(0, .ref (ad a0)), (1, .int a1), (2, .int a2), (3, .int a3), (4, .int a4), (5, .null), (6, .int x6)] [] h := by
  unfold fX4_takeWindow_n_3b at hf
  refine aw_iload C dX4_takeWindow_3 6 rfl ?_
  refine aw_iload_n C dX4_takeWindow_5 rfl 3 rfl ?_
  refine aw_icmp_ge (tgt := 31) C dX4_takeWindow_6 (by decide) hf (fun hf => ?_) (fun hf => ?_)
  · refine aw_iload_n C dX4_takeWindow_31 rfl 3 rfl ?_
    exact aw_iretW C dX4_takeWindow_32 hf
  refine aw_aload_n C dX4_takeWindow_9 rfl 0 rfl ?_
  refine aw_iload_n C dX4_takeWindow_10 rfl 1 rfl ?_
  refine aw_iload_n C dX4_takeWindow_11 rfl 2 rfl ?_
  refine aw_iload C dX4_takeWindow_12 4 rfl ?_
  refine aw_aloadN C dX4_takeWindow_14 5 rfl ?_
  obtain ⟨r2, h1, hc, hf⟩ := bW_some hf
  refine aw_callVi (As := [.int a1, .int a2, .int a4, .null]) (rest := []) C hk0 (by decide) rfl (kX4_takeTurn_n (l := l) (D := D) (ad := ad) (cy := cy) (tb := tb) C.2.2.2.2.2.2.2.2.1 hk0 hc) (fun ht _ => cwV 4 ht gX4_takeWindow_X4_takeTurn rfl rfl rfl (by decide +kernel) ⟨Nat.le_of_ble_eq_true rfl, Nat.le_of_ble_eq_true rfl⟩) rfl rfl (Nat.le_of_ble_eq_true rfl) dX4_takeWindow_16 ?_
  refine aw_if_ne (tgt := 25) C dX4_takeWindow_19 (by decide) hf (fun hf => ?_) (fun hf => ?_)
  · obtain ⟨v3, hvv3, hf⟩ := nm_ex hf
    refine aw_iinc (j := 6) (v := v3) (lv1 := [(6, .int v3), (0, .ref (ad a0)), (1, .int a1), (2, .int a2), (3, .int a3), (4, .int a4), (5, .null)]) C dX4_takeWindow_25 rfl hvv3 (by decide) rfl ?_
    refine aw_goto (tgt := 3) C dX4_takeWindow_28 (by decide) ?_
    refine aw_sub [1, 2, 3, 4, 5, 6, 0] rfl ?_
    exact H3 h1 v3 hf
  refine aw_iload C dX4_takeWindow_22 6 rfl ?_
  exact aw_iretW C dX4_takeWindow_24 hf
set_option maxHeartbeats 4000000 in
set_option maxRecDepth 100000 in
theorem tX4_takeWindow_n_3  {a0 : Nat} {a1 : Int32} {a2 : Int32} {a3 : Int32} {a4 : Int32} {r0 : Int32} {h0 : AH} (C : Cx p rmX4_takeWindow s m args meth c RX4 cX4_takeWindow 7 (some .int) wsX4_takeWindow D ad cy tb 0 0) (hk0 : kd a0 = 4) : ∀ (n : Nat) (h : AH) (x6 : Int32), fX4_takeWindow_n_3 a0 a1 a2 a3 a4 n h x6 = some (r0, h0) → AW p l e rmX4_takeWindow s m args below meth c 7 D ad cy 0 0 (Qi D ad cy below args s r0 h0) 3 [(0, .ref (ad a0)), (1, .int a1), (2, .int a2), (3, .int a3), (4, .int a4), (5, .null), (6, .int x6)] [] h := by
  intro n
  induction n with
  | zero => intro h x6 hf; cases hf
  | succ n ih => intro h x6 hf; exact tX4_takeWindow_n_3b C hk0 ih  hf
set_option maxHeartbeats 4000000 in
set_option maxRecDepth 100000 in
theorem tX4_takeWindow_n_0 {h : AH} {a0 : Nat} {a1 : Int32} {a2 : Int32} {a3 : Int32} {a4 : Int32} {r0 : Int32} {h0 : AH} (C : Cx p rmX4_takeWindow s m args meth c RX4 cX4_takeWindow 7 (some .int) wsX4_takeWindow D ad cy tb 0 0) (hk0 : kd a0 = 4) (hf : fX4_takeWindow_n h a0 a1 a2 a3 a4 = some (r0, h0)) : AW p l e rmX4_takeWindow s m args below meth c 7 D ad cy 0 0 (Qi D ad cy below args s r0 h0) 0 [(0, .ref (ad a0)), (1, .int a1), (2, .int a2), (3, .int a3), (4, .int a4), (5, .null)] [] h := by
  unfold fX4_takeWindow_n at hf
  refine aw_iconst (v := 0) C dX4_takeWindow_0 (by decide) ?_
  refine aw_istore (lv1 := [(6, .int 0), (0, .ref (ad a0)), (1, .int a1), (2, .int a2), (3, .int a3), (4, .int a4), (5, .null)]) C dX4_takeWindow_1 (by decide) rfl ?_
  refine aw_sub [1, 2, 3, 4, 5, 6, 0] rfl ?_
  exact tX4_takeWindow_n_3 C hk0  FU h 0 hf
theorem kX4_takeWindow_n {h : AH} {a0 : Nat} {a1 : Int32} {a2 : Int32} {a3 : Int32} {a4 : Int32} {r0 : Int32} {h0 : AH} (hi : Inj ad) (hk0 : kd a0 = 4) (hf : fX4_takeWindow_n h a0 a1 a2 a3 a4 = some (r0, h0)) : Ki l yX4_takeWindow wsX4_takeWindow rmX4_takeWindow D ad cy tb [.ref (ad a0), .int a1, .int a2, .int a3, .int a4, .null] h r0 h0 := met_i (lv := [(0, .ref (ad a0)), (1, .int a1), (2, .int a2), (3, .int a3), (4, .int a4), (5, .null)]) hi (by decide) rfl (Nat.le_of_ble_eq_true rfl) rfl rfl (fun _ _ _ _ _ _ _ _ C => tX4_takeWindow_n_0 C hk0 hf)
set_option maxHeartbeats 4000000 in
set_option maxRecDepth 100000 in
theorem tX4_takeSlide_n_3b {h : AH} {a0 : Nat} {a1 : Int32} {a2 : Int32} {a3 : Int32} {k3 : AH → Int32 → Option AH} {x5 : Int32} {h0 : AH} (C : Cx p rmX4_takeSlide s m args meth c RX4 cX4_takeSlide 6 none wsX4_takeSlide D ad cy tb 0 0) (hk0 : kd a0 = 4) (H3 : ∀ (h : AH) (x5 : Int32), k3 h x5 = some h0 → AW p l e rmX4_takeSlide s m args below meth c 6 D ad cy 0 0 (Qv D ad cy below args s h0) 3 [(0, .ref (ad a0)), (1, .int a1), (2, .int a2), (3, .int a3), (4, .null), (5, .int x5)] [] h) (hf : fX4_takeSlide_n_3b k3 a0 a1 a2 a3 h x5 = some h0) : AW p l e rmX4_takeSlide s m args below meth c 6 D ad cy 0 0 (Qv D ad cy below args s h0) 3 [(0, .ref (ad a0)), (1, .int a1), (2, .int a2), (3, .int a3), (4, .null), (5, .int x5)] [] h := by
  unfold fX4_takeSlide_n_3b at hf
  refine aw_iload C dX4_takeSlide_3 5 rfl ?_
  refine aw_iload_n C dX4_takeSlide_5 rfl 1 rfl ?_
  refine aw_iadd C dX4_takeSlide_6 ?_
  refine aw_iconst (v := 1) C dX4_takeSlide_7 (by decide) ?_
  refine aw_isub C dX4_takeSlide_8 ?_
  refine aw_aload_n C dX4_takeSlide_9 rfl 0 rfl ?_
  refine aw_get C (kd_lt hk0 (by decide)) (ce_4 hk0) rfl hinX4_takeSlide_4 0 (by decide) rfl (by decide +kernel) rfl dX4_takeSlide_10 ?_
  refine aw_icmp_gt (tgt := 39) C dX4_takeSlide_13 (by decide) hf (fun hf => ?_) (fun hf => ?_)
  · exact aw_vret C dX4_takeSlide_39 hf
  refine aw_aload_n C dX4_takeSlide_16 rfl 0 rfl ?_
  refine aw_iload C dX4_takeSlide_17 5 rfl ?_
  refine aw_iload C dX4_takeSlide_19 5 rfl ?_
  refine aw_iload_n C dX4_takeSlide_21 rfl 1 rfl ?_
  refine aw_iadd C dX4_takeSlide_22 ?_
  refine aw_iconst (v := 1) C dX4_takeSlide_23 (by decide) ?_
  refine aw_isub C dX4_takeSlide_24 ?_
  refine aw_iload_n C dX4_takeSlide_25 rfl 2 rfl ?_
  refine aw_iload_n C dX4_takeSlide_26 rfl 3 rfl ?_
  refine aw_aloadN C dX4_takeSlide_27 4 rfl ?_
  obtain ⟨r2, h1, hc, hf⟩ := bW_some hf
  refine aw_callVi (As := [.int x5, .int ((x5 + a1) - 1), .int a2, .int a3, .null]) (rest := []) C hk0 (by decide) rfl (kX4_takeWindow_n (l := l) (D := D) (ad := ad) (cy := cy) (tb := tb) C.2.2.2.2.2.2.2.2.1 hk0 hc) (fun ht _ => cwV 5 ht gX4_takeSlide_X4_takeWindow rfl rfl rfl (by decide +kernel) ⟨Nat.le_of_ble_eq_true rfl, Nat.le_of_ble_eq_true rfl⟩) rfl rfl (Nat.le_of_ble_eq_true rfl) dX4_takeSlide_29 ?_
  refine aw_pop C dX4_takeSlide_32 rfl ?_
  obtain ⟨v3, hvv3, hf⟩ := nm_ex hf
  refine aw_iinc (j := 5) (v := v3) (lv1 := [(5, .int v3), (0, .ref (ad a0)), (1, .int a1), (2, .int a2), (3, .int a3), (4, .null)]) C dX4_takeSlide_33 rfl hvv3 (by decide) rfl ?_
  refine aw_goto (tgt := 3) C dX4_takeSlide_36 (by decide) ?_
  refine aw_sub [1, 2, 3, 4, 5, 0] rfl ?_
  exact H3 h1 v3 hf
set_option maxHeartbeats 4000000 in
set_option maxRecDepth 100000 in
theorem tX4_takeSlide_n_3  {a0 : Nat} {a1 : Int32} {a2 : Int32} {a3 : Int32} {h0 : AH} (C : Cx p rmX4_takeSlide s m args meth c RX4 cX4_takeSlide 6 none wsX4_takeSlide D ad cy tb 0 0) (hk0 : kd a0 = 4) : ∀ (n : Nat) (h : AH) (x5 : Int32), fX4_takeSlide_n_3 a0 a1 a2 a3 n h x5 = some h0 → AW p l e rmX4_takeSlide s m args below meth c 6 D ad cy 0 0 (Qv D ad cy below args s h0) 3 [(0, .ref (ad a0)), (1, .int a1), (2, .int a2), (3, .int a3), (4, .null), (5, .int x5)] [] h := by
  intro n
  induction n with
  | zero => intro h x5 hf; cases hf
  | succ n ih => intro h x5 hf; exact tX4_takeSlide_n_3b C hk0 ih  hf
set_option maxHeartbeats 4000000 in
set_option maxRecDepth 100000 in
theorem tX4_takeSlide_n_0 {h : AH} {a0 : Nat} {a1 : Int32} {a2 : Int32} {a3 : Int32} {h0 : AH} (C : Cx p rmX4_takeSlide s m args meth c RX4 cX4_takeSlide 6 none wsX4_takeSlide D ad cy tb 0 0) (hk0 : kd a0 = 4) (hf : fX4_takeSlide_n h a0 a1 a2 a3 = some h0) : AW p l e rmX4_takeSlide s m args below meth c 6 D ad cy 0 0 (Qv D ad cy below args s h0) 0 [(0, .ref (ad a0)), (1, .int a1), (2, .int a2), (3, .int a3), (4, .null)] [] h := by
  unfold fX4_takeSlide_n at hf
  refine aw_iconst (v := 1) C dX4_takeSlide_0 (by decide) ?_
  refine aw_istore (lv1 := [(5, .int 1), (0, .ref (ad a0)), (1, .int a1), (2, .int a2), (3, .int a3), (4, .null)]) C dX4_takeSlide_1 (by decide) rfl ?_
  refine aw_sub [1, 2, 3, 4, 5, 0] rfl ?_
  exact tX4_takeSlide_n_3 C hk0  FU h 1 hf
theorem kX4_takeSlide_n {h : AH} {a0 : Nat} {a1 : Int32} {a2 : Int32} {a3 : Int32} {h0 : AH} (hi : Inj ad) (hk0 : kd a0 = 4) (hf : fX4_takeSlide_n h a0 a1 a2 a3 = some h0) : Kv l yX4_takeSlide wsX4_takeSlide rmX4_takeSlide D ad cy tb [.ref (ad a0), .int a1, .int a2, .int a3, .null] h h0 := met_v (lv := [(0, .ref (ad a0)), (1, .int a1), (2, .int a2), (3, .int a3), (4, .null)]) hi (by decide) rfl (Nat.le_of_ble_eq_true rfl) rfl rfl (fun _ _ _ _ _ _ _ _ C => tX4_takeSlide_n_0 C hk0 hf)
set_option maxRecDepth 20000 in
theorem ggX5_would_X5_isSlideSize : GoodIn wsX5_would wsX5_isSlideSize := goodIn_r _ [7, 2, 67, 68, 69, 70, 71, 72, 73, 74, 75, 76, 77, 78] (by decide +kernel) (by decide +kernel)
set_option maxRecDepth 20000 in
theorem gX5_would_X5_isSlideSize : GoodIn wsX5_would (wsV RX5 193 RX5 yX5_isSlideSize wsX5_isSlideSize) := goodIn_app (goodIn_of _ (by decide +kernel)) ggX5_would_X5_isSlideSize
set_option maxRecDepth 20000 in
theorem ggX5_would_X5_isTurns : GoodIn wsX5_would wsX5_isTurns := goodIn_r _ [10] (by decide +kernel) (by decide +kernel)
set_option maxRecDepth 20000 in
theorem gX5_would_X5_isTurns : GoodIn wsX5_would (va_wsS RX5 186 yX5_isTurns wsX5_isTurns) := goodIn_app (goodIn_of _ (by decide +kernel)) ggX5_would_X5_isTurns
set_option maxRecDepth 20000 in
theorem ggX5_would_X5_isRule : GoodIn wsX5_would wsX5_isRule := goodIn_r _ [13] (by decide +kernel) (by decide +kernel)
set_option maxRecDepth 20000 in
theorem gX5_would_X5_isRule : GoodIn wsX5_would (va_wsS RX5 126 yX5_isRule wsX5_isRule) := goodIn_app (goodIn_of _ (by decide +kernel)) ggX5_would_X5_isRule
set_option maxRecDepth 20000 in
theorem ggX5_would_X4_becomeLike : GoodIn wsX5_would wsX4_becomeLike := goodIn_r _ [18, 19, 20, 21, 22, 23, 24, 25, 76, 77, 78] (by decide +kernel) (by decide +kernel)
set_option maxRecDepth 20000 in
theorem gX5_would_X4_becomeLike : GoodIn wsX5_would (wsV RX5 223 RX4 yX4_becomeLike wsX4_becomeLike) := goodIn_app (goodIn_of _ (by decide +kernel)) ggX5_would_X4_becomeLike
set_option maxRecDepth 20000 in
theorem ggX5_would_X4_takeSlide : GoodIn wsX5_would wsX4_takeSlide := goodIn_r _ [29, 19, 30, 31, 32, 17, 33, 34, 35, 36, 37, 38, 39, 40, 41, 25, 42, 6, 43, 44, 45, 46, 47, 20, 48, 49, 50, 51, 52, 53, 54, 55, 76, 77, 78, 79, 80, 81] (by decide +kernel) (by decide +kernel)
set_option maxRecDepth 20000 in
theorem gX5_would_X4_takeSlide : GoodIn wsX5_would (wsV RX5 196 RX4 yX4_takeSlide wsX4_takeSlide) := goodIn_app (goodIn_of _ (by decide +kernel)) ggX5_would_X4_takeSlide
set_option maxRecDepth 20000 in
theorem ggX5_would_X4_wrongBits : GoodIn wsX5_would wsX4_wrongBits := goodIn_r _ [59, 19, 20, 60, 61, 62, 63, 64, 65, 66, 76, 77, 78] (by decide +kernel) (by decide +kernel)
set_option maxRecDepth 20000 in
theorem gX5_would_X4_wrongBits : GoodIn wsX5_would (wsV RX5 101 RX4 yX4_wrongBits wsX4_wrongBits) := goodIn_app (goodIn_of _ (by decide +kernel)) ggX5_would_X4_wrongBits
theorem dX5_would_0 : decode cX5_would 0 = .ok (.aload_n 0, 1) := by decide +kernel
theorem dX5_would_1 : decode cX5_would 1 = .ok (.iload_n 1, 1) := by decide +kernel
theorem dX5_would_2 : decode cX5_would 2 = .ok (.invokevirtual 193, 3) := by decide +kernel
theorem dX5_would_5 : decode cX5_would 5 = .ok (.ifCond .eq 17, 3) := by decide +kernel
theorem dX5_would_8 : decode cX5_would 8 = .ok (.iload_n 2, 1) := by decide +kernel
theorem dX5_would_9 : decode cX5_would 9 = .ok (.invokestatic 186, 3) := by decide +kernel
theorem dX5_would_12 : decode cX5_would 12 = .ok (.ifCond .eq 10, 3) := by decide +kernel
theorem dX5_would_15 : decode cX5_would 15 = .ok (.iload_n 3, 1) := by decide +kernel
theorem dX5_would_16 : decode cX5_would 16 = .ok (.invokestatic 126, 3) := by decide +kernel
theorem dX5_would_19 : decode cX5_would 19 = .ok (.ifCond .ne 6, 3) := by decide +kernel
theorem dX5_would_22 : decode cX5_would 22 = .ok (.bipush (-2), 2) := by decide +kernel
theorem dX5_would_24 : decode cX5_would 24 = .ok (.ireturn, 1) := by decide +kernel
theorem dX5_would_25 : decode cX5_would 25 = .ok (.aload_n 0, 1) := by decide +kernel
theorem dX5_would_26 : decode cX5_would 26 = .ok (.getfield 16, 3) := by decide +kernel
theorem dX5_would_29 : decode cX5_would 29 = .ok (.aload_n 0, 1) := by decide +kernel
theorem dX5_would_30 : decode cX5_would 30 = .ok (.getfield 12, 3) := by decide +kernel
theorem dX5_would_33 : decode cX5_would 33 = .ok (.invokevirtual 223, 3) := by decide +kernel
theorem dX5_would_36 : decode cX5_would 36 = .ok (.aload_n 0, 1) := by decide +kernel
theorem dX5_would_37 : decode cX5_would 37 = .ok (.getfield 16, 3) := by decide +kernel
theorem dX5_would_40 : decode cX5_would 40 = .ok (.iload_n 1, 1) := by decide +kernel
theorem dX5_would_41 : decode cX5_would 41 = .ok (.iload_n 2, 1) := by decide +kernel
theorem dX5_would_42 : decode cX5_would 42 = .ok (.iload_n 3, 1) := by decide +kernel
theorem dX5_would_43 : decode cX5_would 43 = .ok (.aconst_null, 1) := by decide +kernel
theorem dX5_would_44 : decode cX5_would 44 = .ok (.invokevirtual 196, 3) := by decide +kernel
theorem dX5_would_47 : decode cX5_would 47 = .ok (.aload_n 0, 1) := by decide +kernel
theorem dX5_would_48 : decode cX5_would 48 = .ok (.getfield 16, 3) := by decide +kernel
theorem dX5_would_51 : decode cX5_would 51 = .ok (.invokevirtual 101, 3) := by decide +kernel
theorem dX5_would_54 : decode cX5_would 54 = .ok (.ireturn, 1) := by decide +kernel
abbrev rmX5_would : Room := { frames := 4, cells := 0, slots := 0, locals := 107 }
set_option maxRecDepth 100000 in
theorem hinX5_would_5 : ∀ w ∈ wsX50, w ∈ wsX5_would := by decide +kernel
set_option maxHeartbeats 4000000 in
set_option maxRecDepth 100000 in
theorem tX5_would_0 {h : AH} {a1 : Int32} {a2 : Int32} {a3 : Int32} {r0 : Int32} {h0 : AH} (C : Cx p rmX5_would s m args meth c RX5 cX5_would 4 (some .int) wsX5_would D ad cy tb 0 0) (hf : fX5_would h a1 a2 a3 = some (r0, h0)) : AW p l e rmX5_would s m args below meth c 4 D ad cy 0 0 (Qi D ad cy below args s r0 h0) 0 [(0, .ref (ad 0)), (1, .int a1), (2, .int a2), (3, .int a3)] [] h := by
  unfold fX5_would at hf
  refine aw_aload_n C dX5_would_0 rfl 0 rfl ?_
  refine aw_iload_n C dX5_would_1 rfl 1 rfl ?_
  obtain ⟨r1, hc, hf⟩ := bR_some hf
  refine aw_callVi (As := [.int a1]) (rest := []) C rfl (by decide) rfl (kX5_isSlideSize (l := l) (D := D) (ad := ad) (cy := cy) (tb := tb) C.2.2.2.2.2.2.2.2.1 hc) (fun ht _ => cwV 1 ht gX5_would_X5_isSlideSize rfl rfl rfl (by decide +kernel) ⟨Nat.le_of_ble_eq_true rfl, Nat.le_of_ble_eq_true rfl⟩) rfl rfl (Nat.le_of_ble_eq_true rfl) dX5_would_2 ?_
  refine aw_if_eq (tgt := 22) C dX5_would_5 (by decide) hf (fun hf => ?_) (fun hf => ?_)
  · refine aw_bipush (v := (-2)) C dX5_would_22 (by decide) ?_
    exact aw_iretW C dX5_would_24 hf
  refine aw_iload_n C dX5_would_8 rfl 2 rfl ?_
  obtain ⟨r2, hc, hf⟩ := bR_some hf
  refine aw_callSi (As := [.int a2]) (rest := []) C (kX5_isTurns (l := l) (D := D) (ad := ad) (cy := cy) (tb := tb) C.2.2.2.2.2.2.2.2.1 hc) (fun ht _ => va_cwS 1 ht gX5_would_X5_isTurns rfl rfl rfl (by decide +kernel) ⟨Nat.le_of_ble_eq_true rfl, Nat.le_of_ble_eq_true rfl⟩) rfl rfl (Nat.le_of_ble_eq_true rfl) dX5_would_9 ?_
  refine aw_if_eq (tgt := 22) C dX5_would_12 (by decide) hf (fun hf => ?_) (fun hf => ?_)
  · refine aw_bipush (v := (-2)) C dX5_would_22 (by decide) ?_
    exact aw_iretW C dX5_would_24 hf
  refine aw_iload_n C dX5_would_15 rfl 3 rfl ?_
  obtain ⟨r3, hc, hf⟩ := bR_some hf
  refine aw_callSi (As := [.int a3]) (rest := []) C (kX5_isRule (l := l) (D := D) (ad := ad) (cy := cy) (tb := tb) C.2.2.2.2.2.2.2.2.1 hc) (fun ht _ => va_cwS 1 ht gX5_would_X5_isRule rfl rfl rfl (by decide +kernel) ⟨Nat.le_of_ble_eq_true rfl, Nat.le_of_ble_eq_true rfl⟩) rfl rfl (Nat.le_of_ble_eq_true rfl) dX5_would_16 ?_
  refine aw_if_ne (tgt := 25) C dX5_would_19 (by decide) hf (fun hf => ?_) (fun hf => ?_)
  · refine aw_aload_n C dX5_would_25 rfl 0 rfl ?_
    refine aw_get C (kd_lt rfl (by decide)) (ce_5 rfl) rfl hinX5_would_5 1 (by decide) rfl (by decide +kernel) rfl dX5_would_26 ?_
    refine aw_aload_n C dX5_would_29 rfl 0 rfl ?_
    refine aw_get C (kd_lt rfl (by decide)) (ce_5 rfl) rfl hinX5_would_5 0 (by decide) rfl (by decide +kernel) rfl dX5_would_30 ?_
    obtain ⟨h4, hc, hf⟩ := bR_some hf
    refine aw_callVv (As := [.ref (ad 1)]) (rest := []) C rfl (by decide) rfl (kX4_becomeLike (l := l) (D := D) (ad := ad) (cy := cy) (tb := tb) C.2.2.2.2.2.2.2.2.1 rfl rfl hc) (fun ht _ => cwV 1 ht gX5_would_X4_becomeLike rfl rfl rfl (by decide +kernel) ⟨Nat.le_of_ble_eq_true rfl, Nat.le_of_ble_eq_true rfl⟩) rfl rfl (Nat.le_of_ble_eq_true rfl) dX5_would_33 ?_
    refine aw_aload_n C dX5_would_36 rfl 0 rfl ?_
    refine aw_get C (kd_lt rfl (by decide)) (ce_5 rfl) rfl hinX5_would_5 1 (by decide) rfl (by decide +kernel) rfl dX5_would_37 ?_
    refine aw_iload_n C dX5_would_40 rfl 1 rfl ?_
    refine aw_iload_n C dX5_would_41 rfl 2 rfl ?_
    refine aw_iload_n C dX5_would_42 rfl 3 rfl ?_
    refine aw_null C dX5_would_43 ?_
    obtain ⟨h5, hc, hf⟩ := bR_some hf
    refine aw_callVv (As := [.int a1, .int a2, .int a3, .null]) (rest := []) C rfl (by decide) rfl (kX4_takeSlide_n (l := l) (D := D) (ad := ad) (cy := cy) (tb := tb) C.2.2.2.2.2.2.2.2.1 rfl hc) (fun ht _ => cwV 4 ht gX5_would_X4_takeSlide rfl rfl rfl (by decide +kernel) ⟨Nat.le_of_ble_eq_true rfl, Nat.le_of_ble_eq_true rfl⟩) rfl rfl (Nat.le_of_ble_eq_true rfl) dX5_would_44 ?_
    refine aw_aload_n C dX5_would_47 rfl 0 rfl ?_
    refine aw_get C (kd_lt rfl (by decide)) (ce_5 rfl) rfl hinX5_would_5 1 (by decide) rfl (by decide +kernel) rfl dX5_would_48 ?_
    obtain ⟨r6, hc, hf⟩ := bR_some hf
    refine aw_callVi (As := []) (rest := []) C rfl (by decide) rfl (kX4_wrongBits (l := l) (D := D) (ad := ad) (cy := cy) (tb := tb) C.2.2.2.2.2.2.2.2.1 rfl hc) (fun ht _ => cwV 0 ht gX5_would_X4_wrongBits rfl rfl rfl (by decide +kernel) ⟨Nat.le_of_ble_eq_true rfl, Nat.le_of_ble_eq_true rfl⟩) rfl rfl (Nat.le_of_ble_eq_true rfl) dX5_would_51 ?_
    exact aw_iretW C dX5_would_54 hf
  refine aw_bipush (v := (-2)) C dX5_would_22 (by decide) ?_
  exact aw_iretW C dX5_would_24 hf
theorem kX5_would {h : AH} {a1 : Int32} {a2 : Int32} {a3 : Int32} {r0 : Int32} {h0 : AH} (hi : Inj ad) (hf : fX5_would h a1 a2 a3 = some (r0, h0)) : Ki l yX5_would wsX5_would rmX5_would D ad cy tb [.ref (ad 0), .int a1, .int a2, .int a3] h r0 h0 := met_i (lv := [(0, .ref (ad 0)), (1, .int a1), (2, .int a2), (3, .int a3)]) hi (by decide) rfl (Nat.le_of_ble_eq_true rfl) rfl rfl (fun _ _ _ _ _ _ _ _ C => tX5_would_0 C  hf)
set_option maxRecDepth 20000 in
theorem ggX6_wouldBe_X6_slides : GoodIn wsX6_wouldBe wsX6_slides := goodIn_r _ [11, 12, 13, 14, 15, 10, 16, 17, 18, 19, 20, 21, 22, 23, 24, 4, 25, 26, 27, 28, 29, 30, 31, 32, 33, 34, 35, 36, 37, 38, 39, 40, 41, 42, 43, 44, 45, 46, 47, 48, 49, 50, 51, 52, 2, 53, 54, 55, 56, 57, 58, 59, 60, 61, 62, 63, 64, 65, 66, 67, 1, 6, 72, 73, 74, 75, 76, 77, 78, 79, 80, 81, 82, 83, 84, 85, 86, 87, 88, 89] (by decide +kernel) (by decide +kernel)
set_option maxRecDepth 20000 in
theorem gX6_wouldBe_X6_slides : GoodIn wsX6_wouldBe (wsV RX6 162 RX6 yX6_slides wsX6_slides) := goodIn_app (goodIn_of _ (by decide +kernel)) ggX6_wouldBe_X6_slides
set_option maxRecDepth 20000 in
theorem ggX6_wouldBe_X6_wrongMany : GoodIn wsX6_wouldBe wsX6_wrongMany := goodIn_r _ [71, 4, 72, 73, 74, 75, 76, 77, 78, 79, 80, 81, 82, 83, 84, 85, 86, 87, 88, 89] (by decide +kernel) (by decide +kernel)
set_option maxRecDepth 20000 in
theorem gX6_wouldBe_X6_wrongMany : GoodIn wsX6_wouldBe (wsV RX6 98 RX6 yX6_wrongMany wsX6_wrongMany) := goodIn_app (goodIn_of _ (by decide +kernel)) ggX6_wouldBe_X6_wrongMany
theorem dX6_wouldBe_0 : decode cX6_wouldBe 0 = .ok (.aload_n 0, 1) := by decide +kernel
theorem dX6_wouldBe_1 : decode cX6_wouldBe 1 = .ok (.getfield 85, 3) := by decide +kernel
theorem dX6_wouldBe_4 : decode cX6_wouldBe 4 = .ok (.istore 4, 2) := by decide +kernel
theorem dX6_wouldBe_6 : decode cX6_wouldBe 6 = .ok (.aload_n 0, 1) := by decide +kernel
theorem dX6_wouldBe_7 : decode cX6_wouldBe 7 = .ok (.getfield 109, 3) := by decide +kernel
theorem dX6_wouldBe_10 : decode cX6_wouldBe 10 = .ok (.istore 5, 2) := by decide +kernel
theorem dX6_wouldBe_12 : decode cX6_wouldBe 12 = .ok (.iconst 0, 1) := by decide +kernel
theorem dX6_wouldBe_13 : decode cX6_wouldBe 13 = .ok (.istore 6, 2) := by decide +kernel
theorem dX6_wouldBe_15 : decode cX6_wouldBe 15 = .ok (.iload 6, 2) := by decide +kernel
theorem dX6_wouldBe_17 : decode cX6_wouldBe 17 = .ok (.sipush 448, 3) := by decide +kernel
theorem dX6_wouldBe_20 : decode cX6_wouldBe 20 = .ok (.if_icmp .ge 23, 3) := by decide +kernel
theorem dX6_wouldBe_23 : decode cX6_wouldBe 23 = .ok (.aload_n 0, 1) := by decide +kernel
theorem dX6_wouldBe_24 : decode cX6_wouldBe 24 = .ok (.getfield 36, 3) := by decide +kernel
theorem dX6_wouldBe_27 : decode cX6_wouldBe 27 = .ok (.iload 6, 2) := by decide +kernel
theorem dX6_wouldBe_29 : decode cX6_wouldBe 29 = .ok (.aload_n 0, 1) := by decide +kernel
theorem dX6_wouldBe_30 : decode cX6_wouldBe 30 = .ok (.getfield 21, 3) := by decide +kernel
theorem dX6_wouldBe_33 : decode cX6_wouldBe 33 = .ok (.iload 6, 2) := by decide +kernel
theorem dX6_wouldBe_35 : decode cX6_wouldBe 35 = .ok (.baload, 1) := by decide +kernel
theorem dX6_wouldBe_36 : decode cX6_wouldBe 36 = .ok (.bastore, 1) := by decide +kernel
theorem dX6_wouldBe_37 : decode cX6_wouldBe 37 = .ok (.iinc 6 1, 3) := by decide +kernel
theorem dX6_wouldBe_40 : decode cX6_wouldBe 40 = .ok (.goto (-25), 3) := by decide +kernel
theorem dX6_wouldBe_43 : decode cX6_wouldBe 43 = .ok (.iconst 0, 1) := by decide +kernel
theorem dX6_wouldBe_44 : decode cX6_wouldBe 44 = .ok (.istore 6, 2) := by decide +kernel
theorem dX6_wouldBe_46 : decode cX6_wouldBe 46 = .ok (.iload 6, 2) := by decide +kernel
theorem dX6_wouldBe_48 : decode cX6_wouldBe 48 = .ok (.bipush 60, 2) := by decide +kernel
theorem dX6_wouldBe_50 : decode cX6_wouldBe 50 = .ok (.if_icmp .ge 23, 3) := by decide +kernel
theorem dX6_wouldBe_53 : decode cX6_wouldBe 53 = .ok (.aload_n 0, 1) := by decide +kernel
theorem dX6_wouldBe_54 : decode cX6_wouldBe 54 = .ok (.getfield 39, 3) := by decide +kernel
theorem dX6_wouldBe_57 : decode cX6_wouldBe 57 = .ok (.iload 6, 2) := by decide +kernel
theorem dX6_wouldBe_59 : decode cX6_wouldBe 59 = .ok (.aload_n 0, 1) := by decide +kernel
theorem dX6_wouldBe_60 : decode cX6_wouldBe 60 = .ok (.getfield 27, 3) := by decide +kernel
theorem dX6_wouldBe_63 : decode cX6_wouldBe 63 = .ok (.iload 6, 2) := by decide +kernel
theorem dX6_wouldBe_65 : decode cX6_wouldBe 65 = .ok (.iaload, 1) := by decide +kernel
theorem dX6_wouldBe_66 : decode cX6_wouldBe 66 = .ok (.iastore, 1) := by decide +kernel
theorem dX6_wouldBe_67 : decode cX6_wouldBe 67 = .ok (.iinc 6 1, 3) := by decide +kernel
theorem dX6_wouldBe_70 : decode cX6_wouldBe 70 = .ok (.goto (-24), 3) := by decide +kernel
theorem dX6_wouldBe_73 : decode cX6_wouldBe 73 = .ok (.aload_n 0, 1) := by decide +kernel
theorem dX6_wouldBe_74 : decode cX6_wouldBe 74 = .ok (.iload_n 3, 1) := by decide +kernel
theorem dX6_wouldBe_75 : decode cX6_wouldBe 75 = .ok (.putfield 109, 3) := by decide +kernel
theorem dX6_wouldBe_78 : decode cX6_wouldBe 78 = .ok (.aload_n 0, 1) := by decide +kernel
theorem dX6_wouldBe_79 : decode cX6_wouldBe 79 = .ok (.iload_n 1, 1) := by decide +kernel
theorem dX6_wouldBe_80 : decode cX6_wouldBe 80 = .ok (.iload_n 2, 1) := by decide +kernel
theorem dX6_wouldBe_81 : decode cX6_wouldBe 81 = .ok (.invokevirtual 162, 3) := by decide +kernel
theorem dX6_wouldBe_84 : decode cX6_wouldBe 84 = .ok (.aload_n 0, 1) := by decide +kernel
theorem dX6_wouldBe_85 : decode cX6_wouldBe 85 = .ok (.invokevirtual 98, 3) := by decide +kernel
theorem dX6_wouldBe_88 : decode cX6_wouldBe 88 = .ok (.istore 6, 2) := by decide +kernel
theorem dX6_wouldBe_90 : decode cX6_wouldBe 90 = .ok (.iconst 0, 1) := by decide +kernel
theorem dX6_wouldBe_91 : decode cX6_wouldBe 91 = .ok (.istore 7, 2) := by decide +kernel
theorem dX6_wouldBe_93 : decode cX6_wouldBe 93 = .ok (.iload 7, 2) := by decide +kernel
theorem dX6_wouldBe_95 : decode cX6_wouldBe 95 = .ok (.sipush 448, 3) := by decide +kernel
theorem dX6_wouldBe_98 : decode cX6_wouldBe 98 = .ok (.if_icmp .ge 23, 3) := by decide +kernel
theorem dX6_wouldBe_101 : decode cX6_wouldBe 101 = .ok (.aload_n 0, 1) := by decide +kernel
theorem dX6_wouldBe_102 : decode cX6_wouldBe 102 = .ok (.getfield 21, 3) := by decide +kernel
theorem dX6_wouldBe_105 : decode cX6_wouldBe 105 = .ok (.iload 7, 2) := by decide +kernel
theorem dX6_wouldBe_107 : decode cX6_wouldBe 107 = .ok (.aload_n 0, 1) := by decide +kernel
theorem dX6_wouldBe_108 : decode cX6_wouldBe 108 = .ok (.getfield 36, 3) := by decide +kernel
theorem dX6_wouldBe_111 : decode cX6_wouldBe 111 = .ok (.iload 7, 2) := by decide +kernel
theorem dX6_wouldBe_113 : decode cX6_wouldBe 113 = .ok (.baload, 1) := by decide +kernel
theorem dX6_wouldBe_114 : decode cX6_wouldBe 114 = .ok (.bastore, 1) := by decide +kernel
theorem dX6_wouldBe_115 : decode cX6_wouldBe 115 = .ok (.iinc 7 1, 3) := by decide +kernel
theorem dX6_wouldBe_118 : decode cX6_wouldBe 118 = .ok (.goto (-25), 3) := by decide +kernel
theorem dX6_wouldBe_121 : decode cX6_wouldBe 121 = .ok (.iconst 0, 1) := by decide +kernel
theorem dX6_wouldBe_122 : decode cX6_wouldBe 122 = .ok (.istore 7, 2) := by decide +kernel
theorem dX6_wouldBe_124 : decode cX6_wouldBe 124 = .ok (.iload 7, 2) := by decide +kernel
theorem dX6_wouldBe_126 : decode cX6_wouldBe 126 = .ok (.bipush 60, 2) := by decide +kernel
theorem dX6_wouldBe_128 : decode cX6_wouldBe 128 = .ok (.if_icmp .ge 23, 3) := by decide +kernel
theorem dX6_wouldBe_131 : decode cX6_wouldBe 131 = .ok (.aload_n 0, 1) := by decide +kernel
theorem dX6_wouldBe_132 : decode cX6_wouldBe 132 = .ok (.getfield 27, 3) := by decide +kernel
theorem dX6_wouldBe_135 : decode cX6_wouldBe 135 = .ok (.iload 7, 2) := by decide +kernel
theorem dX6_wouldBe_137 : decode cX6_wouldBe 137 = .ok (.aload_n 0, 1) := by decide +kernel
theorem dX6_wouldBe_138 : decode cX6_wouldBe 138 = .ok (.getfield 39, 3) := by decide +kernel
theorem dX6_wouldBe_141 : decode cX6_wouldBe 141 = .ok (.iload 7, 2) := by decide +kernel
theorem dX6_wouldBe_143 : decode cX6_wouldBe 143 = .ok (.iaload, 1) := by decide +kernel
theorem dX6_wouldBe_144 : decode cX6_wouldBe 144 = .ok (.iastore, 1) := by decide +kernel
theorem dX6_wouldBe_145 : decode cX6_wouldBe 145 = .ok (.iinc 7 1, 3) := by decide +kernel
theorem dX6_wouldBe_148 : decode cX6_wouldBe 148 = .ok (.goto (-24), 3) := by decide +kernel
theorem dX6_wouldBe_151 : decode cX6_wouldBe 151 = .ok (.aload_n 0, 1) := by decide +kernel
theorem dX6_wouldBe_152 : decode cX6_wouldBe 152 = .ok (.iload 4, 2) := by decide +kernel
theorem dX6_wouldBe_154 : decode cX6_wouldBe 154 = .ok (.putfield 85, 3) := by decide +kernel
theorem dX6_wouldBe_157 : decode cX6_wouldBe 157 = .ok (.aload_n 0, 1) := by decide +kernel
theorem dX6_wouldBe_158 : decode cX6_wouldBe 158 = .ok (.iload 5, 2) := by decide +kernel
theorem dX6_wouldBe_160 : decode cX6_wouldBe 160 = .ok (.putfield 109, 3) := by decide +kernel
theorem dX6_wouldBe_163 : decode cX6_wouldBe 163 = .ok (.iload 6, 2) := by decide +kernel
theorem dX6_wouldBe_165 : decode cX6_wouldBe 165 = .ok (.ireturn, 1) := by decide +kernel
abbrev rmX6_wouldBe : Room := { frames := 10, cells := 0, slots := 0, locals := 243 }
set_option maxRecDepth 100000 in
theorem hinX6_wouldBe_6 : ∀ w ∈ wsX60, w ∈ wsX6_wouldBe := by decide +kernel
set_option maxHeartbeats 4000000 in
set_option maxRecDepth 100000 in
theorem tX6_wouldBe_124b {h : AH} {a1 : Int32} {a2 : Int32} {a3 : Int32} {k124 : AH → Int32 → Int32 → Int32 → Int32 → Option (Int32 × AH)} {x4 : Int32} {x5 : Int32} {x6 : Int32} {x7 : Int32} {r0 : Int32} {h0 : AH} (C : Cx p rmX6_wouldBe s m args meth c RX6 cX6_wouldBe 8 (some .int) wsX6_wouldBe D ad cy tb 0 0) (H124 : ∀ (h : AH) (x4 : Int32) (x5 : Int32) (x6 : Int32) (x7 : Int32), k124 h x4 x5 x6 x7 = some (r0, h0) → AW p l e rmX6_wouldBe s m args below meth c 8 D ad cy 0 0 (Qi D ad cy below args s r0 h0) 124 [(0, .ref (ad 29)), (1, .int a1), (2, .int a2), (3, .int a3), (4, .int x4), (5, .int x5), (6, .int x6), (7, .int x7)] [] h) (hf : fX6_wouldBe_124b k124 a1 a2 a3 h x4 x5 x6 x7 = some (r0, h0)) : AW p l e rmX6_wouldBe s m args below meth c 8 D ad cy 0 0 (Qi D ad cy below args s r0 h0) 124 [(0, .ref (ad 29)), (1, .int a1), (2, .int a2), (3, .int a3), (4, .int x4), (5, .int x5), (6, .int x6), (7, .int x7)] [] h := by
  unfold fX6_wouldBe_124b at hf
  refine aw_iload C dX6_wouldBe_124 7 rfl ?_
  refine aw_bipush (v := 60) C dX6_wouldBe_126 (by decide) ?_
  refine aw_icmp_ge (tgt := 151) C dX6_wouldBe_128 (by decide) hf (fun hf => ?_) (fun hf => ?_)
  · refine aw_aload_n C dX6_wouldBe_151 rfl 0 rfl ?_
    refine aw_iload C dX6_wouldBe_152 4 rfl ?_
    refine aw_put (ty := .int) C (kd_lt rfl (by decide)) (ce_6 rfl) rfl hinX6_wouldBe_6 tyX6 tyX6_ok nmX6 7 (by decide) rfl (by decide +kernel) rfl (by decide +kernel) rfl rfl (Nat.le_of_ble_eq_true rfl) (cs_6_7 rfl) dX6_wouldBe_154 ?_
    refine aw_nmH hf (fun h1 hf => ?_)
    refine aw_aload_n C dX6_wouldBe_157 rfl 0 rfl ?_
    refine aw_iload C dX6_wouldBe_158 5 rfl ?_
    refine aw_put (ty := .int) C (kd_lt rfl (by decide)) (ce_6 rfl) rfl hinX6_wouldBe_6 tyX6 tyX6_ok nmX6 1 (by decide) rfl (by decide +kernel) rfl (by decide +kernel) rfl rfl (Nat.le_of_ble_eq_true rfl) (cs_6_1 rfl) dX6_wouldBe_160 ?_
    refine aw_nmH hf (fun h2 hf => ?_)
    refine aw_iload C dX6_wouldBe_163 6 rfl ?_
    exact aw_iretW C dX6_wouldBe_165 hf
  refine aw_aload_n C dX6_wouldBe_131 rfl 0 rfl ?_
  refine aw_get C (kd_lt rfl (by decide)) (ce_6 rfl) rfl hinX6_wouldBe_6 6 (by decide) rfl (by decide +kernel) rfl dX6_wouldBe_132 ?_
  refine aw_iload C dX6_wouldBe_135 7 rfl ?_
  refine aw_aload_n C dX6_wouldBe_137 rfl 0 rfl ?_
  refine aw_get C (kd_lt rfl (by decide)) (ce_6 rfl) rfl hinX6_wouldBe_6 12 (by decide) rfl (by decide +kernel) rfl dX6_wouldBe_138 ?_
  refine aw_iload C dX6_wouldBe_141 7 rfl ?_
  refine aw_iald C rfl rfl hf dX6_wouldBe_143 (fun hf => ?_)
  refine aw_iast C rfl rfl hf dX6_wouldBe_144 (fun hf => ?_)
  refine aw_nmH hf (fun h3 hf => ?_)
  obtain ⟨v4, hvv4, hf⟩ := nm_ex hf
  refine aw_iinc (j := 7) (v := v4) (lv1 := [(7, .int v4), (0, .ref (ad 29)), (1, .int a1), (2, .int a2), (3, .int a3), (4, .int x4), (5, .int x5), (6, .int x6)]) C dX6_wouldBe_145 rfl hvv4 (by decide) rfl ?_
  refine aw_goto (tgt := 124) C dX6_wouldBe_148 (by decide) ?_
  refine aw_sub [1, 2, 3, 4, 5, 6, 7, 0] rfl ?_
  exact H124 h3 x4 x5 x6 v4 hf
set_option maxHeartbeats 4000000 in
set_option maxRecDepth 100000 in
theorem tX6_wouldBe_124  {a1 : Int32} {a2 : Int32} {a3 : Int32} {r0 : Int32} {h0 : AH} (C : Cx p rmX6_wouldBe s m args meth c RX6 cX6_wouldBe 8 (some .int) wsX6_wouldBe D ad cy tb 0 0) : ∀ (n : Nat) (h : AH) (x4 : Int32) (x5 : Int32) (x6 : Int32) (x7 : Int32), fX6_wouldBe_124 a1 a2 a3 n h x4 x5 x6 x7 = some (r0, h0) → AW p l e rmX6_wouldBe s m args below meth c 8 D ad cy 0 0 (Qi D ad cy below args s r0 h0) 124 [(0, .ref (ad 29)), (1, .int a1), (2, .int a2), (3, .int a3), (4, .int x4), (5, .int x5), (6, .int x6), (7, .int x7)] [] h := by
  intro n
  induction n with
  | zero => intro h x4 x5 x6 x7 hf; cases hf
  | succ n ih => intro h x4 x5 x6 x7 hf; exact tX6_wouldBe_124b C  ih  hf
set_option maxHeartbeats 4000000 in
set_option maxRecDepth 100000 in
theorem tX6_wouldBe_93b {h : AH} {a1 : Int32} {a2 : Int32} {a3 : Int32} {k93 : AH → Int32 → Int32 → Int32 → Int32 → Option (Int32 × AH)} {x4 : Int32} {x5 : Int32} {x6 : Int32} {x7 : Int32} {r0 : Int32} {h0 : AH} (C : Cx p rmX6_wouldBe s m args meth c RX6 cX6_wouldBe 8 (some .int) wsX6_wouldBe D ad cy tb 0 0) (H93 : ∀ (h : AH) (x4 : Int32) (x5 : Int32) (x6 : Int32) (x7 : Int32), k93 h x4 x5 x6 x7 = some (r0, h0) → AW p l e rmX6_wouldBe s m args below meth c 8 D ad cy 0 0 (Qi D ad cy below args s r0 h0) 93 [(0, .ref (ad 29)), (1, .int a1), (2, .int a2), (3, .int a3), (4, .int x4), (5, .int x5), (6, .int x6), (7, .int x7)] [] h) (hf : fX6_wouldBe_93b k93 a1 a2 a3 h x4 x5 x6 x7 = some (r0, h0)) : AW p l e rmX6_wouldBe s m args below meth c 8 D ad cy 0 0 (Qi D ad cy below args s r0 h0) 93 [(0, .ref (ad 29)), (1, .int a1), (2, .int a2), (3, .int a3), (4, .int x4), (5, .int x5), (6, .int x6), (7, .int x7)] [] h := by
  unfold fX6_wouldBe_93b at hf
  refine aw_iload C dX6_wouldBe_93 7 rfl ?_
  refine aw_sipush (v := 448) C dX6_wouldBe_95 (by decide) ?_
  refine aw_icmp_ge (tgt := 121) C dX6_wouldBe_98 (by decide) hf (fun hf => ?_) (fun hf => ?_)
  · refine aw_iconst (v := 0) C dX6_wouldBe_121 (by decide) ?_
    refine aw_istore (lv1 := [(7, .int 0), (0, .ref (ad 29)), (1, .int a1), (2, .int a2), (3, .int a3), (4, .int x4), (5, .int x5), (6, .int x6)]) C dX6_wouldBe_122 (by decide) rfl ?_
    refine aw_sub [1, 2, 3, 4, 5, 6, 7, 0] rfl ?_
    exact tX6_wouldBe_124 C   FU h x4 x5 x6 0 hf
  refine aw_aload_n C dX6_wouldBe_101 rfl 0 rfl ?_
  refine aw_get C (kd_lt rfl (by decide)) (ce_6 rfl) rfl hinX6_wouldBe_6 4 (by decide) rfl (by decide +kernel) rfl dX6_wouldBe_102 ?_
  refine aw_iload C dX6_wouldBe_105 7 rfl ?_
  refine aw_aload_n C dX6_wouldBe_107 rfl 0 rfl ?_
  refine aw_get C (kd_lt rfl (by decide)) (ce_6 rfl) rfl hinX6_wouldBe_6 11 (by decide) rfl (by decide +kernel) rfl dX6_wouldBe_108 ?_
  refine aw_iload C dX6_wouldBe_111 7 rfl ?_
  refine aw_zald C rfl rfl hf dX6_wouldBe_113 (fun hf => ?_)
  refine aw_zast C rfl rfl hf dX6_wouldBe_114 (fun hf => ?_)
  refine aw_nmH hf (fun h1 hf => ?_)
  obtain ⟨v2, hvv2, hf⟩ := nm_ex hf
  refine aw_iinc (j := 7) (v := v2) (lv1 := [(7, .int v2), (0, .ref (ad 29)), (1, .int a1), (2, .int a2), (3, .int a3), (4, .int x4), (5, .int x5), (6, .int x6)]) C dX6_wouldBe_115 rfl hvv2 (by decide) rfl ?_
  refine aw_goto (tgt := 93) C dX6_wouldBe_118 (by decide) ?_
  refine aw_sub [1, 2, 3, 4, 5, 6, 7, 0] rfl ?_
  exact H93 h1 x4 x5 x6 v2 hf
set_option maxHeartbeats 4000000 in
set_option maxRecDepth 100000 in
theorem tX6_wouldBe_93  {a1 : Int32} {a2 : Int32} {a3 : Int32} {r0 : Int32} {h0 : AH} (C : Cx p rmX6_wouldBe s m args meth c RX6 cX6_wouldBe 8 (some .int) wsX6_wouldBe D ad cy tb 0 0) : ∀ (n : Nat) (h : AH) (x4 : Int32) (x5 : Int32) (x6 : Int32) (x7 : Int32), fX6_wouldBe_93 a1 a2 a3 n h x4 x5 x6 x7 = some (r0, h0) → AW p l e rmX6_wouldBe s m args below meth c 8 D ad cy 0 0 (Qi D ad cy below args s r0 h0) 93 [(0, .ref (ad 29)), (1, .int a1), (2, .int a2), (3, .int a3), (4, .int x4), (5, .int x5), (6, .int x6), (7, .int x7)] [] h := by
  intro n
  induction n with
  | zero => intro h x4 x5 x6 x7 hf; cases hf
  | succ n ih => intro h x4 x5 x6 x7 hf; exact tX6_wouldBe_93b C  ih  hf
set_option maxHeartbeats 4000000 in
set_option maxRecDepth 100000 in
theorem tX6_wouldBe_46b {h : AH} {a1 : Int32} {a2 : Int32} {a3 : Int32} {k46 : AH → Int32 → Int32 → Int32 → Option (Int32 × AH)} {x4 : Int32} {x5 : Int32} {x6 : Int32} {r0 : Int32} {h0 : AH} (C : Cx p rmX6_wouldBe s m args meth c RX6 cX6_wouldBe 8 (some .int) wsX6_wouldBe D ad cy tb 0 0) (H46 : ∀ (h : AH) (x4 : Int32) (x5 : Int32) (x6 : Int32), k46 h x4 x5 x6 = some (r0, h0) → AW p l e rmX6_wouldBe s m args below meth c 8 D ad cy 0 0 (Qi D ad cy below args s r0 h0) 46 [(0, .ref (ad 29)), (1, .int a1), (2, .int a2), (3, .int a3), (4, .int x4), (5, .int x5), (6, .int x6)] [] h) (hf : fX6_wouldBe_46b k46 a1 a2 a3 h x4 x5 x6 = some (r0, h0)) : AW p l e rmX6_wouldBe s m args below meth c 8 D ad cy 0 0 (Qi D ad cy below args s r0 h0) 46 [(0, .ref (ad 29)), (1, .int a1), (2, .int a2), (3, .int a3), (4, .int x4), (5, .int x5), (6, .int x6)] [] h := by
  unfold fX6_wouldBe_46b at hf
  refine aw_iload C dX6_wouldBe_46 6 rfl ?_
  refine aw_bipush (v := 60) C dX6_wouldBe_48 (by decide) ?_
  refine aw_icmp_ge (tgt := 73) C dX6_wouldBe_50 (by decide) hf (fun hf => ?_) (fun hf => ?_)
  · refine aw_aload_n C dX6_wouldBe_73 rfl 0 rfl ?_
    refine aw_iload_n C dX6_wouldBe_74 rfl 3 rfl ?_
    refine aw_put (ty := .int) C (kd_lt rfl (by decide)) (ce_6 rfl) rfl hinX6_wouldBe_6 tyX6 tyX6_ok nmX6 1 (by decide) rfl (by decide +kernel) rfl (by decide +kernel) rfl rfl (Nat.le_of_ble_eq_true rfl) (cs_6_1 rfl) dX6_wouldBe_75 ?_
    refine aw_nmH hf (fun h1 hf => ?_)
    refine aw_aload_n C dX6_wouldBe_78 rfl 0 rfl ?_
    refine aw_iload_n C dX6_wouldBe_79 rfl 1 rfl ?_
    refine aw_iload_n C dX6_wouldBe_80 rfl 2 rfl ?_
    obtain ⟨h2, hc, hf⟩ := bR_some hf
    refine aw_callVv (As := [.int a1, .int a2]) (rest := []) C rfl (by decide) rfl (kX6_slides (l := l) (D := D) (ad := ad) (cy := cy) (tb := tb) C.2.2.2.2.2.2.2.2.1 hc) (fun ht _ => cwV 2 ht gX6_wouldBe_X6_slides rfl rfl rfl (by decide +kernel) ⟨Nat.le_of_ble_eq_true rfl, Nat.le_of_ble_eq_true rfl⟩) rfl rfl (Nat.le_of_ble_eq_true rfl) dX6_wouldBe_81 ?_
    refine aw_aload_n C dX6_wouldBe_84 rfl 0 rfl ?_
    obtain ⟨r3, hc, hf⟩ := bR_some hf
    refine aw_callVi (As := []) (rest := []) C rfl (by decide) rfl (kX6_wrongMany (l := l) (D := D) (ad := ad) (cy := cy) (tb := tb) C.2.2.2.2.2.2.2.2.1 hc) (fun ht _ => cwV 0 ht gX6_wouldBe_X6_wrongMany rfl rfl rfl (by decide +kernel) ⟨Nat.le_of_ble_eq_true rfl, Nat.le_of_ble_eq_true rfl⟩) rfl rfl (Nat.le_of_ble_eq_true rfl) dX6_wouldBe_85 ?_
    refine aw_istore (lv1 := [(6, .int r3), (0, .ref (ad 29)), (1, .int a1), (2, .int a2), (3, .int a3), (4, .int x4), (5, .int x5)]) C dX6_wouldBe_88 (by decide) rfl ?_
    refine aw_iconst (v := 0) C dX6_wouldBe_90 (by decide) ?_
    refine aw_istore (lv1 := [(7, .int 0), (6, .int r3), (0, .ref (ad 29)), (1, .int a1), (2, .int a2), (3, .int a3), (4, .int x4), (5, .int x5)]) C dX6_wouldBe_91 (by decide) rfl ?_
    refine aw_sub [2, 3, 4, 5, 6, 7, 1, 0] rfl ?_
    exact tX6_wouldBe_93 C   FU h2 x4 x5 r3 0 hf
  refine aw_aload_n C dX6_wouldBe_53 rfl 0 rfl ?_
  refine aw_get C (kd_lt rfl (by decide)) (ce_6 rfl) rfl hinX6_wouldBe_6 12 (by decide) rfl (by decide +kernel) rfl dX6_wouldBe_54 ?_
  refine aw_iload C dX6_wouldBe_57 6 rfl ?_
  refine aw_aload_n C dX6_wouldBe_59 rfl 0 rfl ?_
  refine aw_get C (kd_lt rfl (by decide)) (ce_6 rfl) rfl hinX6_wouldBe_6 6 (by decide) rfl (by decide +kernel) rfl dX6_wouldBe_60 ?_
  refine aw_iload C dX6_wouldBe_63 6 rfl ?_
  refine aw_iald C rfl rfl hf dX6_wouldBe_65 (fun hf => ?_)
  refine aw_iast C rfl rfl hf dX6_wouldBe_66 (fun hf => ?_)
  refine aw_nmH hf (fun h4 hf => ?_)
  obtain ⟨v5, hvv5, hf⟩ := nm_ex hf
  refine aw_iinc (j := 6) (v := v5) (lv1 := [(6, .int v5), (0, .ref (ad 29)), (1, .int a1), (2, .int a2), (3, .int a3), (4, .int x4), (5, .int x5)]) C dX6_wouldBe_67 rfl hvv5 (by decide) rfl ?_
  refine aw_goto (tgt := 46) C dX6_wouldBe_70 (by decide) ?_
  refine aw_sub [1, 2, 3, 4, 5, 6, 0] rfl ?_
  exact H46 h4 x4 x5 v5 hf
set_option maxHeartbeats 4000000 in
set_option maxRecDepth 100000 in
theorem tX6_wouldBe_46  {a1 : Int32} {a2 : Int32} {a3 : Int32} {r0 : Int32} {h0 : AH} (C : Cx p rmX6_wouldBe s m args meth c RX6 cX6_wouldBe 8 (some .int) wsX6_wouldBe D ad cy tb 0 0) : ∀ (n : Nat) (h : AH) (x4 : Int32) (x5 : Int32) (x6 : Int32), fX6_wouldBe_46 a1 a2 a3 n h x4 x5 x6 = some (r0, h0) → AW p l e rmX6_wouldBe s m args below meth c 8 D ad cy 0 0 (Qi D ad cy below args s r0 h0) 46 [(0, .ref (ad 29)), (1, .int a1), (2, .int a2), (3, .int a3), (4, .int x4), (5, .int x5), (6, .int x6)] [] h := by
  intro n
  induction n with
  | zero => intro h x4 x5 x6 hf; cases hf
  | succ n ih => intro h x4 x5 x6 hf; exact tX6_wouldBe_46b C  ih  hf
set_option maxHeartbeats 4000000 in
set_option maxRecDepth 100000 in
theorem tX6_wouldBe_15b {h : AH} {a1 : Int32} {a2 : Int32} {a3 : Int32} {k15 : AH → Int32 → Int32 → Int32 → Option (Int32 × AH)} {x4 : Int32} {x5 : Int32} {x6 : Int32} {r0 : Int32} {h0 : AH} (C : Cx p rmX6_wouldBe s m args meth c RX6 cX6_wouldBe 8 (some .int) wsX6_wouldBe D ad cy tb 0 0) (H15 : ∀ (h : AH) (x4 : Int32) (x5 : Int32) (x6 : Int32), k15 h x4 x5 x6 = some (r0, h0) → AW p l e rmX6_wouldBe s m args below meth c 8 D ad cy 0 0 (Qi D ad cy below args s r0 h0) 15 [(0, .ref (ad 29)), (1, .int a1), (2, .int a2), (3, .int a3), (4, .int x4), (5, .int x5), (6, .int x6)] [] h) (hf : fX6_wouldBe_15b k15 a1 a2 a3 h x4 x5 x6 = some (r0, h0)) : AW p l e rmX6_wouldBe s m args below meth c 8 D ad cy 0 0 (Qi D ad cy below args s r0 h0) 15 [(0, .ref (ad 29)), (1, .int a1), (2, .int a2), (3, .int a3), (4, .int x4), (5, .int x5), (6, .int x6)] [] h := by
  unfold fX6_wouldBe_15b at hf
  refine aw_iload C dX6_wouldBe_15 6 rfl ?_
  refine aw_sipush (v := 448) C dX6_wouldBe_17 (by decide) ?_
  refine aw_icmp_ge (tgt := 43) C dX6_wouldBe_20 (by decide) hf (fun hf => ?_) (fun hf => ?_)
  · refine aw_iconst (v := 0) C dX6_wouldBe_43 (by decide) ?_
    refine aw_istore (lv1 := [(6, .int 0), (0, .ref (ad 29)), (1, .int a1), (2, .int a2), (3, .int a3), (4, .int x4), (5, .int x5)]) C dX6_wouldBe_44 (by decide) rfl ?_
    refine aw_sub [1, 2, 3, 4, 5, 6, 0] rfl ?_
    exact tX6_wouldBe_46 C   FU h x4 x5 0 hf
  refine aw_aload_n C dX6_wouldBe_23 rfl 0 rfl ?_
  refine aw_get C (kd_lt rfl (by decide)) (ce_6 rfl) rfl hinX6_wouldBe_6 11 (by decide) rfl (by decide +kernel) rfl dX6_wouldBe_24 ?_
  refine aw_iload C dX6_wouldBe_27 6 rfl ?_
  refine aw_aload_n C dX6_wouldBe_29 rfl 0 rfl ?_
  refine aw_get C (kd_lt rfl (by decide)) (ce_6 rfl) rfl hinX6_wouldBe_6 4 (by decide) rfl (by decide +kernel) rfl dX6_wouldBe_30 ?_
  refine aw_iload C dX6_wouldBe_33 6 rfl ?_
  refine aw_zald C rfl rfl hf dX6_wouldBe_35 (fun hf => ?_)
  refine aw_zast C rfl rfl hf dX6_wouldBe_36 (fun hf => ?_)
  refine aw_nmH hf (fun h1 hf => ?_)
  obtain ⟨v2, hvv2, hf⟩ := nm_ex hf
  refine aw_iinc (j := 6) (v := v2) (lv1 := [(6, .int v2), (0, .ref (ad 29)), (1, .int a1), (2, .int a2), (3, .int a3), (4, .int x4), (5, .int x5)]) C dX6_wouldBe_37 rfl hvv2 (by decide) rfl ?_
  refine aw_goto (tgt := 15) C dX6_wouldBe_40 (by decide) ?_
  refine aw_sub [1, 2, 3, 4, 5, 6, 0] rfl ?_
  exact H15 h1 x4 x5 v2 hf
set_option maxHeartbeats 4000000 in
set_option maxRecDepth 100000 in
theorem tX6_wouldBe_15  {a1 : Int32} {a2 : Int32} {a3 : Int32} {r0 : Int32} {h0 : AH} (C : Cx p rmX6_wouldBe s m args meth c RX6 cX6_wouldBe 8 (some .int) wsX6_wouldBe D ad cy tb 0 0) : ∀ (n : Nat) (h : AH) (x4 : Int32) (x5 : Int32) (x6 : Int32), fX6_wouldBe_15 a1 a2 a3 n h x4 x5 x6 = some (r0, h0) → AW p l e rmX6_wouldBe s m args below meth c 8 D ad cy 0 0 (Qi D ad cy below args s r0 h0) 15 [(0, .ref (ad 29)), (1, .int a1), (2, .int a2), (3, .int a3), (4, .int x4), (5, .int x5), (6, .int x6)] [] h := by
  intro n
  induction n with
  | zero => intro h x4 x5 x6 hf; cases hf
  | succ n ih => intro h x4 x5 x6 hf; exact tX6_wouldBe_15b C  ih  hf
set_option maxHeartbeats 4000000 in
set_option maxRecDepth 100000 in
theorem tX6_wouldBe_0 {h : AH} {a1 : Int32} {a2 : Int32} {a3 : Int32} {r0 : Int32} {h0 : AH} (C : Cx p rmX6_wouldBe s m args meth c RX6 cX6_wouldBe 8 (some .int) wsX6_wouldBe D ad cy tb 0 0) (hf : fX6_wouldBe h a1 a2 a3 = some (r0, h0)) : AW p l e rmX6_wouldBe s m args below meth c 8 D ad cy 0 0 (Qi D ad cy below args s r0 h0) 0 [(0, .ref (ad 29)), (1, .int a1), (2, .int a2), (3, .int a3)] [] h := by
  unfold fX6_wouldBe at hf
  refine aw_aload_n C dX6_wouldBe_0 rfl 0 rfl ?_
  refine aw_get C (kd_lt rfl (by decide)) (ce_6 rfl) rfl hinX6_wouldBe_6 7 (by decide) rfl (by decide +kernel) rfl dX6_wouldBe_1 ?_
  refine aw_nmI hf (fun v1 hf => ?_)
  refine aw_istore (lv1 := [(4, .int v1), (0, .ref (ad 29)), (1, .int a1), (2, .int a2), (3, .int a3)]) C dX6_wouldBe_4 (by decide) rfl ?_
  refine aw_aload_n C dX6_wouldBe_6 rfl 1 rfl ?_
  refine aw_get C (kd_lt rfl (by decide)) (ce_6 rfl) rfl hinX6_wouldBe_6 1 (by decide) rfl (by decide +kernel) rfl dX6_wouldBe_7 ?_
  refine aw_nmI hf (fun v2 hf => ?_)
  refine aw_istore (lv1 := [(5, .int v2), (4, .int v1), (0, .ref (ad 29)), (1, .int a1), (2, .int a2), (3, .int a3)]) C dX6_wouldBe_10 (by decide) rfl ?_
  refine aw_iconst (v := 0) C dX6_wouldBe_12 (by decide) ?_
  refine aw_istore (lv1 := [(6, .int 0), (5, .int v2), (4, .int v1), (0, .ref (ad 29)), (1, .int a1), (2, .int a2), (3, .int a3)]) C dX6_wouldBe_13 (by decide) rfl ?_
  refine aw_sub [3, 4, 5, 6, 2, 1, 0] rfl ?_
  exact tX6_wouldBe_15 C   FU h v1 v2 0 hf
theorem kX6_wouldBe {h : AH} {a1 : Int32} {a2 : Int32} {a3 : Int32} {r0 : Int32} {h0 : AH} (hi : Inj ad) (hf : fX6_wouldBe h a1 a2 a3 = some (r0, h0)) : Ki l yX6_wouldBe wsX6_wouldBe rmX6_wouldBe D ad cy tb [.ref (ad 29), .int a1, .int a2, .int a3] h r0 h0 := met_i (lv := [(0, .ref (ad 29)), (1, .int a1), (2, .int a2), (3, .int a3)]) hi (by decide) rfl (Nat.le_of_ble_eq_true rfl) rfl rfl (fun _ _ _ _ _ _ _ _ C => tX6_wouldBe_0 C  hf)
