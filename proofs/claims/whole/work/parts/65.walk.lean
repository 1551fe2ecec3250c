variable {p : Program} {l : Launch} {e : Env} {s : State} {m : MethodId} {args : Array Value} {below : List Frame} {meth : Method} {c : Code} {D : va_G} {ad : Nat → Nat} {cy : Nat → ClassId} {tb : Nat → Nat}
set_option maxRecDepth 20000 in
theorem ggX6_would_X6_in : GoodIn wsX6_would wsX6_in := goodIn_r _ [5] (by decide +kernel) (by decide +kernel)
set_option maxRecDepth 20000 in
theorem gX6_would_X6_in : GoodIn wsX6_would (va_wsS RX6 73 yX6_in wsX6_in) := goodIn_app (goodIn_of _ (by decide +kernel)) ggX6_would_X6_in
set_option maxRecDepth 20000 in
theorem ggX6_would_X6_wouldBe : GoodIn wsX6_would wsX6_wouldBe := goodIn_r _ [9, 10, 11, 12, 13, 14, 15, 16, 17, 18, 4, 19, 1, 20, 21, 22, 23, 24, 25, 26, 27, 28, 29, 30, 31, 32, 33, 34, 35, 36, 37, 38, 39, 40, 41, 42, 43, 44, 45, 46, 47, 48, 49, 50, 51, 52, 53, 54, 55, 56, 57, 58, 59, 60, 61, 62, 63, 64, 65, 66, 67, 68, 69, 70, 71, 72, 73, 74, 75, 76, 77, 78, 79, 80, 81, 82, 83, 84, 85, 86, 87, 88, 89, 90, 91, 92, 93, 94, 95, 96] (by decide +kernel) (by decide +kernel)
set_option maxRecDepth 20000 in
theorem gX6_would_X6_wouldBe : GoodIn wsX6_would (wsV RX6 193 RX6 yX6_wouldBe wsX6_wouldBe) := goodIn_app (goodIn_of _ (by decide +kernel)) ggX6_would_X6_wouldBe
theorem dX6_would_0 : decode cX6_would 0 = .ok (.iload_n 1, 1) := by decide +kernel
theorem dX6_would_1 : decode cX6_would 1 = .ok (.iconst 2, 1) := by decide +kernel
theorem dX6_would_2 : decode cX6_would 2 = .ok (.aload_n 0, 1) := by decide +kernel
theorem dX6_would_3 : decode cX6_would 3 = .ok (.getfield 7, 3) := by decide +kernel
theorem dX6_would_6 : decode cX6_would 6 = .ok (.invokestatic 73, 3) := by decide +kernel
theorem dX6_would_9 : decode cX6_would 9 = .ok (.ifCond .eq 32, 3) := by decide +kernel
theorem dX6_would_12 : decode cX6_would 12 = .ok (.iload_n 2, 1) := by decide +kernel
theorem dX6_would_13 : decode cX6_would 13 = .ok (.iconst 1, 1) := by decide +kernel
theorem dX6_would_14 : decode cX6_would 14 = .ok (.bipush 9, 2) := by decide +kernel
theorem dX6_would_16 : decode cX6_would 16 = .ok (.invokestatic 73, 3) := by decide +kernel
theorem dX6_would_19 : decode cX6_would 19 = .ok (.ifCond .eq 22, 3) := by decide +kernel
theorem dX6_would_22 : decode cX6_would 22 = .ok (.iload_n 3, 1) := by decide +kernel
theorem dX6_would_23 : decode cX6_would 23 = .ok (.iconst 0, 1) := by decide +kernel
theorem dX6_would_24 : decode cX6_would 24 = .ok (.iconst 1, 1) := by decide +kernel
theorem dX6_would_25 : decode cX6_would 25 = .ok (.invokestatic 73, 3) := by decide +kernel
theorem dX6_would_28 : decode cX6_would 28 = .ok (.ifCond .eq 13, 3) := by decide +kernel
theorem dX6_would_31 : decode cX6_would 31 = .ok (.aload_n 0, 1) := by decide +kernel
theorem dX6_would_32 : decode cX6_would 32 = .ok (.iload_n 1, 1) := by decide +kernel
theorem dX6_would_33 : decode cX6_would 33 = .ok (.iload_n 2, 1) := by decide +kernel
theorem dX6_would_34 : decode cX6_would 34 = .ok (.iload_n 3, 1) := by decide +kernel
theorem dX6_would_35 : decode cX6_would 35 = .ok (.invokevirtual 193, 3) := by decide +kernel
theorem dX6_would_38 : decode cX6_would 38 = .ok (.goto 5, 3) := by decide +kernel
theorem dX6_would_41 : decode cX6_would 41 = .ok (.bipush (-2), 2) := by decide +kernel
theorem dX6_would_43 : decode cX6_would 43 = .ok (.ireturn, 1) := by decide +kernel
abbrev rmX6_would : Room := { frames := 11, cells := 0, slots := 0, locals := 270 }
set_option maxRecDepth 100000 in
theorem hinX6_would_6 : ∀ w ∈ wsX60, w ∈ wsX6_would := by decide +kernel
set_option maxHeartbeats 4000000 in
set_option maxRecDepth 100000 in
theorem tX6_would_0 {h : AH} {a1 : Int32} {a2 : Int32} {a3 : Int32} {r0 : Int32} {h0 : AH} (C : Cx p rmX6_would s m args meth c RX6 cX6_would 4 (some .int) wsX6_would D ad cy tb 0 0) (hf : fX6_would h a1 a2 a3 = some (r0, h0)) : AW p l e rmX6_would s m args below meth c 4 D ad cy 0 0 (Qi D ad cy below args s r0 h0) 0 [(0, .ref (ad 29)), (1, .int a1), (2, .int a2), (3, .int a3)] [] h := by
  unfold fX6_would at hf
  refine aw_iload_n C dX6_would_0 rfl 1 rfl ?_
  refine aw_iconst (v := 2) C dX6_would_1 (by decide) ?_
  refine aw_aload_n C dX6_would_2 rfl 0 rfl ?_
  refine aw_get C (kd_lt rfl (by decide)) (ce_6 rfl) rfl hinX6_would_6 0 (by decide) rfl (by decide +kernel) rfl dX6_would_3 ?_
  obtain ⟨r1, hc, hf⟩ := bR_some hf
  refine aw_callSi (As := [.int a1, .int 2, .int (h.1 29 0)]) (rest := []) C (kX6_in (l := l) (D := D) (ad := ad) (cy := cy) (tb := tb) C.2.2.2.2.2.2.2.2.1 hc) (fun ht _ => va_cwS 3 ht gX6_would_X6_in rfl rfl rfl (by decide +kernel) ⟨Nat.le_of_ble_eq_true rfl, Nat.le_of_ble_eq_true rfl⟩) rfl rfl (Nat.le_of_ble_eq_true rfl) dX6_would_6 ?_
  refine aw_if_eq (tgt := 41) C dX6_would_9 (by decide) hf (fun hf => ?_) (fun hf => ?_)
  · refine aw_bipush (v := (-2)) C dX6_would_41 (by decide) ?_
    exact aw_iretW C dX6_would_43 hf
  refine aw_iload_n C dX6_would_12 rfl 2 rfl ?_
  refine aw_iconst (v := 1) C dX6_would_13 (by decide) ?_
  refine aw_bipush (v := 9) C dX6_would_14 (by decide) ?_
  obtain ⟨r2, hc, hf⟩ := bR_some hf
  refine aw_callSi (As := [.int a2, .int 1, .int 9]) (rest := []) C (kX6_in (l := l) (D := D) (ad := ad) (cy := cy) (tb := tb) C.2.2.2.2.2.2.2.2.1 hc) (fun ht _ => va_cwS 3 ht gX6_would_X6_in rfl rfl rfl (by decide +kernel) ⟨Nat.le_of_ble_eq_true rfl, Nat.le_of_ble_eq_true rfl⟩) rfl rfl (Nat.le_of_ble_eq_true rfl) dX6_would_16 ?_
  refine aw_if_eq (tgt := 41) C dX6_would_19 (by decide) hf (fun hf => ?_) (fun hf => ?_)
  · refine aw_bipush (v := (-2)) C dX6_would_41 (by decide) ?_
    exact aw_iretW C dX6_would_43 hf
  refine aw_iload_n C dX6_would_22 rfl 3 rfl ?_
  refine aw_iconst (v := 0) C dX6_would_23 (by decide) ?_
  refine aw_iconst (v := 1) C dX6_would_24 (by decide) ?_
  obtain ⟨r3, hc, hf⟩ := bR_some hf
  refine aw_callSi (As := [.int a3, .int 0, .int 1]) (rest := []) C (kX6_in (l := l) (D := D) (ad := ad) (cy := cy) (tb := tb) C.2.2.2.2.2.2.2.2.1 hc) (fun ht _ => va_cwS 3 ht gX6_would_X6_in rfl rfl rfl (by decide +kernel) ⟨Nat.le_of_ble_eq_true rfl, Nat.le_of_ble_eq_true rfl⟩) rfl rfl (Nat.le_of_ble_eq_true rfl) dX6_would_25 ?_
  refine aw_if_eq (tgt := 41) C dX6_would_28 (by decide) hf (fun hf => ?_) (fun hf => ?_)
  · refine aw_bipush (v := (-2)) C dX6_would_41 (by decide) ?_
    exact aw_iretW C dX6_would_43 hf
  refine aw_aload_n C dX6_would_31 rfl 0 rfl ?_
  refine aw_iload_n C dX6_would_32 rfl 1 rfl ?_
  refine aw_iload_n C dX6_would_33 rfl 2 rfl ?_
  refine aw_iload_n C dX6_would_34 rfl 3 rfl ?_
  obtain ⟨r5, h4, hc, hf⟩ := bW_some hf
  refine aw_callVi (As := [.int a1, .int a2, .int a3]) (rest := []) C rfl (by decide) rfl (kX6_wouldBe (l := l) (D := D) (ad := ad) (cy := cy) (tb := tb) C.2.2.2.2.2.2.2.2.1 hc) (fun ht _ => cwV 3 ht gX6_would_X6_wouldBe rfl rfl rfl (by decide +kernel) ⟨Nat.le_of_ble_eq_true rfl, Nat.le_of_ble_eq_true rfl⟩) rfl rfl (Nat.le_of_ble_eq_true rfl) dX6_would_35 ?_
  refine aw_goto (tgt := 43) C dX6_would_38 (by decide) ?_
  exact aw_iretW C dX6_would_43 hf
theorem kX6_would {h : AH} {a1 : Int32} {a2 : Int32} {a3 : Int32} {r0 : Int32} {h0 : AH} (hi : Inj ad) (hf : fX6_would h a1 a2 a3 = some (r0, h0)) : Ki l yX6_would wsX6_would rmX6_would D ad cy tb [.ref (ad 29), .int a1, .int a2, .int a3] h r0 h0 := met_i (lv := [(0, .ref (ad 29)), (1, .int a1), (2, .int a2), (3, .int a3)]) hi (by decide) rfl (Nat.le_of_ble_eq_true rfl) rfl rfl (fun _ _ _ _ _ _ _ _ C => tX6_would_0 C  hf)
set_option maxRecDepth 20000 in
theorem ggX5_best_X5_isTurns : GoodIn wsX5_best wsX5_isTurns := goodIn_r _ [6] (by decide +kernel) (by decide +kernel)
set_option maxRecDepth 20000 in
theorem gX5_best_X5_isTurns : GoodIn wsX5_best (va_wsS RX5 186 yX5_isTurns wsX5_isTurns) := goodIn_app (goodIn_of _ (by decide +kernel)) ggX5_best_X5_isTurns
set_option maxRecDepth 20000 in
theorem ggX5_best_X5_would : GoodIn wsX5_best wsX5_would := goodIn_r _ [10, 11, 2, 12, 13, 14, 5, 15, 3, 4, 6, 16, 17, 18, 19, 20, 21, 22, 23, 24, 25, 26, 27, 28, 29, 30, 31, 32, 33, 34, 35, 36, 37, 38, 39, 40, 41, 42, 43, 44, 45, 46, 47, 48, 49, 50, 51, 52, 53, 54, 55, 56, 57, 58, 59, 60, 61, 62, 63, 64, 65, 66, 67, 68, 69, 70, 71, 72, 73, 74, 75, 76, 77, 78, 79, 80, 81, 82, 83, 84, 85, 86] (by decide +kernel) (by decide +kernel)
set_option maxRecDepth 20000 in
theorem gX5_best_X5_would : GoodIn wsX5_best (wsV RX5 226 RX5 yX5_would wsX5_would) := goodIn_app (goodIn_of _ (by decide +kernel)) ggX5_best_X5_would
theorem dX5_best_0 : decode cX5_best 0 = .ok (.iload_n 1, 1) := by decide +kernel
theorem dX5_best_1 : decode cX5_best 1 = .ok (.invokestatic 186, 3) := by decide +kernel
theorem dX5_best_4 : decode cX5_best 4 = .ok (.ifCond .ne 6, 3) := by decide +kernel
theorem dX5_best_7 : decode cX5_best 7 = .ok (.bipush (-2), 2) := by decide +kernel
theorem dX5_best_9 : decode cX5_best 9 = .ok (.ireturn, 1) := by decide +kernel
theorem dX5_best_10 : decode cX5_best 10 = .ok (.iconst 2, 1) := by decide +kernel
theorem dX5_best_11 : decode cX5_best 11 = .ok (.istore_n 2, 1) := by decide +kernel
theorem dX5_best_12 : decode cX5_best 12 = .ok (.aload_n 0, 1) := by decide +kernel
theorem dX5_best_13 : decode cX5_best 13 = .ok (.iload_n 2, 1) := by decide +kernel
theorem dX5_best_14 : decode cX5_best 14 = .ok (.iload_n 1, 1) := by decide +kernel
theorem dX5_best_15 : decode cX5_best 15 = .ok (.aload_n 0, 1) := by decide +kernel
theorem dX5_best_16 : decode cX5_best 16 = .ok (.getfield 51, 3) := by decide +kernel
theorem dX5_best_19 : decode cX5_best 19 = .ok (.invokevirtual 226, 3) := by decide +kernel
theorem dX5_best_22 : decode cX5_best 22 = .ok (.istore_n 3, 1) := by decide +kernel
theorem dX5_best_23 : decode cX5_best 23 = .ok (.iconst 3, 1) := by decide +kernel
theorem dX5_best_24 : decode cX5_best 24 = .ok (.istore 4, 2) := by decide +kernel
theorem dX5_best_26 : decode cX5_best 26 = .ok (.iload 4, 2) := by decide +kernel
theorem dX5_best_28 : decode cX5_best 28 = .ok (.aload_n 0, 1) := by decide +kernel
theorem dX5_best_29 : decode cX5_best 29 = .ok (.getfield 12, 3) := by decide +kernel
theorem dX5_best_32 : decode cX5_best 32 = .ok (.getfield 58, 3) := by decide +kernel
theorem dX5_best_35 : decode cX5_best 35 = .ok (.if_icmp .gt 34, 3) := by decide +kernel
theorem dX5_best_38 : decode cX5_best 38 = .ok (.aload_n 0, 1) := by decide +kernel
theorem dX5_best_39 : decode cX5_best 39 = .ok (.iload 4, 2) := by decide +kernel
theorem dX5_best_41 : decode cX5_best 41 = .ok (.iload_n 1, 1) := by decide +kernel
theorem dX5_best_42 : decode cX5_best 42 = .ok (.aload_n 0, 1) := by decide +kernel
theorem dX5_best_43 : decode cX5_best 43 = .ok (.getfield 51, 3) := by decide +kernel
theorem dX5_best_46 : decode cX5_best 46 = .ok (.invokevirtual 226, 3) := by decide +kernel
theorem dX5_best_49 : decode cX5_best 49 = .ok (.istore 5, 2) := by decide +kernel
theorem dX5_best_51 : decode cX5_best 51 = .ok (.iload 5, 2) := by decide +kernel
theorem dX5_best_53 : decode cX5_best 53 = .ok (.iload_n 3, 1) := by decide +kernel
theorem dX5_best_54 : decode cX5_best 54 = .ok (.if_icmp .ge 9, 3) := by decide +kernel
theorem dX5_best_57 : decode cX5_best 57 = .ok (.iload 5, 2) := by decide +kernel
theorem dX5_best_59 : decode cX5_best 59 = .ok (.istore_n 3, 1) := by decide +kernel
theorem dX5_best_60 : decode cX5_best 60 = .ok (.iload 4, 2) := by decide +kernel
theorem dX5_best_62 : decode cX5_best 62 = .ok (.istore_n 2, 1) := by decide +kernel
theorem dX5_best_63 : decode cX5_best 63 = .ok (.iinc 4 1, 3) := by decide +kernel
theorem dX5_best_66 : decode cX5_best 66 = .ok (.goto (-40), 3) := by decide +kernel
theorem dX5_best_69 : decode cX5_best 69 = .ok (.iload_n 2, 1) := by decide +kernel
theorem dX5_best_70 : decode cX5_best 70 = .ok (.ireturn, 1) := by decide +kernel
abbrev rmX5_best : Room := { frames := 5, cells := 0, slots := 0, locals := 130 }
set_option maxRecDepth 100000 in
theorem hinX5_best_5 : ∀ w ∈ wsX50, w ∈ wsX5_best := by decide +kernel
set_option maxRecDepth 100000 in
theorem hinX5_best_4 : ∀ w ∈ wsX40, w ∈ wsX5_best := by decide +kernel
set_option maxHeartbeats 4000000 in
set_option maxRecDepth 100000 in
theorem tX5_best_63 {h : AH} {a1 : Int32} {k26 : AH → Int32 → Int32 → Int32 → Option (Int32 × AH)} {x2 : Int32} {x3 : Int32} {x4 : Int32} {r0 : Int32} {h0 : AH} (C : Cx p rmX5_best s m args meth c RX5 cX5_best 6 (some .int) wsX5_best D ad cy tb 0 0) (H26 : ∀ (h : AH) (x2 : Int32) (x3 : Int32) (x4 : Int32), k26 h x2 x3 x4 = some (r0, h0) → AW p l e rmX5_best s m args below meth c 6 D ad cy 0 0 (Qi D ad cy below args s r0 h0) 26 [(0, .ref (ad 0)), (1, .int a1), (2, .int x2), (3, .int x3), (4, .int x4)] [] h) (hf : fX5_best_63 k26 a1 h x2 x3 x4 = some (r0, h0)) : AW p l e rmX5_best s m args below meth c 6 D ad cy 0 0 (Qi D ad cy below args s r0 h0) 63 [(0, .ref (ad 0)), (1, .int a1), (2, .int x2), (3, .int x3), (4, .int x4)] [] h := by
  unfold fX5_best_63 at hf
  obtain ⟨v1, hvv1, hf⟩ := nm_ex hf
  refine aw_iinc (j := 4) (v := v1) (lv1 := [(4, .int v1), (0, .ref (ad 0)), (1, .int a1), (2, .int x2), (3, .int x3)]) C dX5_best_63 rfl hvv1 (by decide) rfl ?_
  refine aw_goto (tgt := 26) C dX5_best_66 (by decide) ?_
  refine aw_sub [1, 2, 3, 4, 0] rfl ?_
  exact H26 h x2 x3 v1 hf
set_option maxHeartbeats 4000000 in
set_option maxRecDepth 100000 in
theorem tX5_best_26b {h : AH} {a1 : Int32} {k26 : AH → Int32 → Int32 → Int32 → Option (Int32 × AH)} {x2 : Int32} {x3 : Int32} {x4 : Int32} {r0 : Int32} {h0 : AH} (C : Cx p rmX5_best s m args meth c RX5 cX5_best 6 (some .int) wsX5_best D ad cy tb 0 0) (H26 : ∀ (h : AH) (x2 : Int32) (x3 : Int32) (x4 : Int32), k26 h x2 x3 x4 = some (r0, h0) → AW p l e rmX5_best s m args below meth c 6 D ad cy 0 0 (Qi D ad cy below args s r0 h0) 26 [(0, .ref (ad 0)), (1, .int a1), (2, .int x2), (3, .int x3), (4, .int x4)] [] h) (hf : fX5_best_26b k26 a1 h x2 x3 x4 = some (r0, h0)) : AW p l e rmX5_best s m args below meth c 6 D ad cy 0 0 (Qi D ad cy below args s r0 h0) 26 [(0, .ref (ad 0)), (1, .int a1), (2, .int x2), (3, .int x3), (4, .int x4)] [] h := by
  unfold fX5_best_26b at hf
  refine aw_iload C dX5_best_26 4 rfl ?_
  refine aw_aload_n C dX5_best_28 rfl 0 rfl ?_
  refine aw_get C (kd_lt rfl (by decide)) (ce_5 rfl) rfl hinX5_best_5 0 (by decide) rfl (by decide +kernel) rfl dX5_best_29 ?_
  refine aw_getN (host := "StairCodes") C (kd_lt rfl (by decide)) (ce_4 rfl) rfl hinX5_best_4 0 (by decide) rfl (by decide +kernel) rfl dX5_best_32 ?_
  refine aw_icmp_gt (tgt := 69) C dX5_best_35 (by decide) hf (fun hf => ?_) (fun hf => ?_)
  · refine aw_iload_n C dX5_best_69 rfl 2 rfl ?_
    exact aw_iretW C dX5_best_70 hf
  refine aw_aload_n C dX5_best_38 rfl 0 rfl ?_
  refine aw_iload C dX5_best_39 4 rfl ?_
  refine aw_iload_n C dX5_best_41 rfl 1 rfl ?_
  refine aw_aload_n C dX5_best_42 rfl 0 rfl ?_
  refine aw_get C (kd_lt rfl (by decide)) (ce_5 rfl) rfl hinX5_best_5 7 (by decide) rfl (by decide +kernel) rfl dX5_best_43 ?_
  obtain ⟨r2, h1, hc, hf⟩ := bW_some hf
  refine aw_callVi (As := [.int x4, .int a1, .int (h.1 0 7)]) (rest := []) C rfl (by decide) rfl (kX5_would (l := l) (D := D) (ad := ad) (cy := cy) (tb := tb) C.2.2.2.2.2.2.2.2.1 hc) (fun ht _ => cwV 3 ht gX5_best_X5_would rfl rfl rfl (by decide +kernel) ⟨Nat.le_of_ble_eq_true rfl, Nat.le_of_ble_eq_true rfl⟩) rfl rfl (Nat.le_of_ble_eq_true rfl) dX5_best_46 ?_
  refine aw_istore (lv1 := [(5, .int r2), (0, .ref (ad 0)), (1, .int a1), (2, .int x2), (3, .int x3), (4, .int x4)]) C dX5_best_49 (by decide) rfl ?_
  refine aw_iload C dX5_best_51 0 rfl ?_
  refine aw_iload_n C dX5_best_53 rfl 4 rfl ?_
  refine aw_icmp_ge (tgt := 63) C dX5_best_54 (by decide) hf (fun hf => ?_) (fun hf => ?_)
  · refine aw_sub [1, 2, 3, 4, 5] rfl ?_
    exact tX5_best_63 C  H26 hf
  refine aw_iload C dX5_best_57 0 rfl ?_
  refine aw_istore_n (lv1 := [(3, .int r2), (5, .int r2), (0, .ref (ad 0)), (1, .int a1), (2, .int x2), (4, .int x4)]) C dX5_best_59 rfl (by decide) rfl ?_
  refine aw_iload C dX5_best_60 5 rfl ?_
  refine aw_istore_n (lv1 := [(2, .int x4), (3, .int r2), (5, .int r2), (0, .ref (ad 0)), (1, .int a1), (4, .int x4)]) C dX5_best_62 rfl (by decide) rfl ?_
  refine aw_sub [3, 4, 0, 1, 5] rfl ?_
  exact tX5_best_63 C  H26 hf
set_option maxHeartbeats 4000000 in
set_option maxRecDepth 100000 in
theorem tX5_best_26  {a1 : Int32} {r0 : Int32} {h0 : AH} (C : Cx p rmX5_best s m args meth c RX5 cX5_best 6 (some .int) wsX5_best D ad cy tb 0 0) : ∀ (n : Nat) (h : AH) (x2 : Int32) (x3 : Int32) (x4 : Int32), fX5_best_26 a1 n h x2 x3 x4 = some (r0, h0) → AW p l e rmX5_best s m args below meth c 6 D ad cy 0 0 (Qi D ad cy below args s r0 h0) 26 [(0, .ref (ad 0)), (1, .int a1), (2, .int x2), (3, .int x3), (4, .int x4)] [] h := by
  intro n
  induction n with
  | zero => intro h x2 x3 x4 hf; cases hf
  | succ n ih => intro h x2 x3 x4 hf; exact tX5_best_26b C  ih  hf
set_option maxHeartbeats 4000000 in
set_option maxRecDepth 100000 in
theorem tX5_best_0 {h : AH} {a1 : Int32} {r0 : Int32} {h0 : AH} (C : Cx p rmX5_best s m args meth c RX5 cX5_best 6 (some .int) wsX5_best D ad cy tb 0 0) (hf : fX5_best h a1 = some (r0, h0)) : AW p l e rmX5_best s m args below meth c 6 D ad cy 0 0 (Qi D ad cy below args s r0 h0) 0 [(0, .ref (ad 0)), (1, .int a1)] [] h := by
  unfold fX5_best at hf
  refine aw_iload_n C dX5_best_0 rfl 1 rfl ?_
  obtain ⟨r1, hc, hf⟩ := bR_some hf
  refine aw_callSi (As := [.int a1]) (rest := []) C (kX5_isTurns (l := l) (D := D) (ad := ad) (cy := cy) (tb := tb) C.2.2.2.2.2.2.2.2.1 hc) (fun ht _ => va_cwS 1 ht gX5_best_X5_isTurns rfl rfl rfl (by decide +kernel) ⟨Nat.le_of_ble_eq_true rfl, Nat.le_of_ble_eq_true rfl⟩) rfl rfl (Nat.le_of_ble_eq_true rfl) dX5_best_1 ?_
  refine aw_if_ne (tgt := 10) C dX5_best_4 (by decide) hf (fun hf => ?_) (fun hf => ?_)
  · refine aw_iconst (v := 2) C dX5_best_10 (by decide) ?_
    refine aw_istore_n (lv1 := [(2, .int 2), (0, .ref (ad 0)), (1, .int a1)]) C dX5_best_11 rfl (by decide) rfl ?_
    refine aw_aload_n C dX5_best_12 rfl 1 rfl ?_
    refine aw_iload_n C dX5_best_13 rfl 0 rfl ?_
    refine aw_iload_n C dX5_best_14 rfl 2 rfl ?_
    refine aw_aload_n C dX5_best_15 rfl 1 rfl ?_
    refine aw_get C (kd_lt rfl (by decide)) (ce_5 rfl) rfl hinX5_best_5 7 (by decide) rfl (by decide +kernel) rfl dX5_best_16 ?_
    obtain ⟨r3, h2, hc, hf⟩ := bW_some hf
    refine aw_callVi (As := [.int 2, .int a1, .int (h.1 0 7)]) (rest := []) C rfl (by decide) rfl (kX5_would (l := l) (D := D) (ad := ad) (cy := cy) (tb := tb) C.2.2.2.2.2.2.2.2.1 hc) (fun ht _ => cwV 3 ht gX5_best_X5_would rfl rfl rfl (by decide +kernel) ⟨Nat.le_of_ble_eq_true rfl, Nat.le_of_ble_eq_true rfl⟩) rfl rfl (Nat.le_of_ble_eq_true rfl) dX5_best_19 ?_
    refine aw_istore_n (lv1 := [(3, .int r3), (2, .int 2), (0, .ref (ad 0)), (1, .int a1)]) C dX5_best_22 rfl (by decide) rfl ?_
    refine aw_iconst (v := 3) C dX5_best_23 (by decide) ?_
    refine aw_istore (lv1 := [(4, .int 3), (3, .int r3), (2, .int 2), (0, .ref (ad 0)), (1, .int a1)]) C dX5_best_24 (by decide) rfl ?_
    refine aw_sub [3, 4, 2, 1, 0] rfl ?_
    exact tX5_best_26 C   FU h2 2 r3 3 hf
  refine aw_bipush (v := (-2)) C dX5_best_7 (by decide) ?_
  exact aw_iretW C dX5_best_9 hf
theorem kX5_best {h : AH} {a1 : Int32} {r0 : Int32} {h0 : AH} (hi : Inj ad) (hf : fX5_best h a1 = some (r0, h0)) : Ki l yX5_best wsX5_best rmX5_best D ad cy tb [.ref (ad 0), .int a1] h r0 h0 := met_i (lv := [(0, .ref (ad 0)), (1, .int a1)]) hi (by decide) rfl (Nat.le_of_ble_eq_true rfl) rfl rfl (fun _ _ _ _ _ _ _ _ C => tX5_best_0 C  hf)
set_option maxRecDepth 20000 in
theorem ggX6_bestOf_X6_wouldBe : GoodIn wsX6_bestOf wsX6_wouldBe := goodIn_r _ [7, 8, 2, 9, 10, 11, 12, 13, 14, 15, 6, 16, 1, 17, 18, 19, 20, 21, 22, 23, 24, 25, 26, 27, 28, 29, 30, 31, 32, 33, 34, 35, 36, 37, 38, 39, 40, 41, 42, 43, 44, 45, 46, 47, 48, 49, 50, 51, 52, 53, 54, 55, 56, 57, 58, 59, 60, 61, 62, 63, 64, 65, 66, 67, 68, 69, 70, 71, 72, 73, 74, 75, 76, 77, 78, 79, 80, 81, 82, 83, 84, 85, 86, 87, 88, 89, 90, 91, 92, 93] (by decide +kernel) (by decide +kernel)
set_option maxRecDepth 20000 in
theorem gX6_bestOf_X6_wouldBe : GoodIn wsX6_bestOf (wsV RX6 193 RX6 yX6_wouldBe wsX6_wouldBe) := goodIn_app (goodIn_of _ (by decide +kernel)) ggX6_bestOf_X6_wouldBe
theorem dX6_bestOf_0 : decode cX6_bestOf 0 = .ok (.iconst (-1), 1) := by decide +kernel
theorem dX6_bestOf_1 : decode cX6_bestOf 1 = .ok (.istore_n 2, 1) := by decide +kernel
theorem dX6_bestOf_2 : decode cX6_bestOf 2 = .ok (.sipush 448, 3) := by decide +kernel
theorem dX6_bestOf_5 : decode cX6_bestOf 5 = .ok (.istore_n 3, 1) := by decide +kernel
theorem dX6_bestOf_6 : decode cX6_bestOf 6 = .ok (.iconst 2, 1) := by decide +kernel
theorem dX6_bestOf_7 : decode cX6_bestOf 7 = .ok (.istore 4, 2) := by decide +kernel
theorem dX6_bestOf_9 : decode cX6_bestOf 9 = .ok (.iload 4, 2) := by decide +kernel
theorem dX6_bestOf_11 : decode cX6_bestOf 11 = .ok (.aload_n 0, 1) := by decide +kernel
theorem dX6_bestOf_12 : decode cX6_bestOf 12 = .ok (.getfield 7, 3) := by decide +kernel
theorem dX6_bestOf_15 : decode cX6_bestOf 15 = .ok (.if_icmp .gt 53, 3) := by decide +kernel
theorem dX6_bestOf_18 : decode cX6_bestOf 18 = .ok (.aload_n 0, 1) := by decide +kernel
theorem dX6_bestOf_19 : decode cX6_bestOf 19 = .ok (.iload 4, 2) := by decide +kernel
theorem dX6_bestOf_21 : decode cX6_bestOf 21 = .ok (.iload_n 1, 1) := by decide +kernel
theorem dX6_bestOf_22 : decode cX6_bestOf 22 = .ok (.aload_n 0, 1) := by decide +kernel
theorem dX6_bestOf_23 : decode cX6_bestOf 23 = .ok (.getfield 109, 3) := by decide +kernel
theorem dX6_bestOf_26 : decode cX6_bestOf 26 = .ok (.invokevirtual 193, 3) := by decide +kernel
theorem dX6_bestOf_29 : decode cX6_bestOf 29 = .ok (.istore 5, 2) := by decide +kernel
theorem dX6_bestOf_31 : decode cX6_bestOf 31 = .ok (.iload_n 2, 1) := by decide +kernel
theorem dX6_bestOf_32 : decode cX6_bestOf 32 = .ok (.iconst (-1), 1) := by decide +kernel
theorem dX6_bestOf_33 : decode cX6_bestOf 33 = .ok (.if_icmp .eq 9, 3) := by decide +kernel
theorem dX6_bestOf_36 : decode cX6_bestOf 36 = .ok (.iload 5, 2) := by decide +kernel
theorem dX6_bestOf_38 : decode cX6_bestOf 38 = .ok (.iload_n 3, 1) := by decide +kernel
theorem dX6_bestOf_39 : decode cX6_bestOf 39 = .ok (.if_icmp .ge 8, 3) := by decide +kernel
theorem dX6_bestOf_42 : decode cX6_bestOf 42 = .ok (.iload 4, 2) := by decide +kernel
theorem dX6_bestOf_44 : decode cX6_bestOf 44 = .ok (.goto 4, 3) := by decide +kernel
theorem dX6_bestOf_47 : decode cX6_bestOf 47 = .ok (.iload_n 2, 1) := by decide +kernel
theorem dX6_bestOf_48 : decode cX6_bestOf 48 = .ok (.istore_n 2, 1) := by decide +kernel
theorem dX6_bestOf_49 : decode cX6_bestOf 49 = .ok (.iload 5, 2) := by decide +kernel
theorem dX6_bestOf_51 : decode cX6_bestOf 51 = .ok (.iload_n 3, 1) := by decide +kernel
theorem dX6_bestOf_52 : decode cX6_bestOf 52 = .ok (.if_icmp .ge 8, 3) := by decide +kernel
theorem dX6_bestOf_55 : decode cX6_bestOf 55 = .ok (.iload 5, 2) := by decide +kernel
theorem dX6_bestOf_57 : decode cX6_bestOf 57 = .ok (.goto 4, 3) := by decide +kernel
theorem dX6_bestOf_60 : decode cX6_bestOf 60 = .ok (.iload_n 3, 1) := by decide +kernel
theorem dX6_bestOf_61 : decode cX6_bestOf 61 = .ok (.istore_n 3, 1) := by decide +kernel
theorem dX6_bestOf_62 : decode cX6_bestOf 62 = .ok (.iinc 4 1, 3) := by decide +kernel
theorem dX6_bestOf_65 : decode cX6_bestOf 65 = .ok (.goto (-56), 3) := by decide +kernel
theorem dX6_bestOf_68 : decode cX6_bestOf 68 = .ok (.iload_n 2, 1) := by decide +kernel
theorem dX6_bestOf_69 : decode cX6_bestOf 69 = .ok (.ireturn, 1) := by decide +kernel
abbrev rmX6_bestOf : Room := { frames := 11, cells := 0, slots := 0, locals := 270 }
set_option maxRecDepth 100000 in
theorem hinX6_bestOf_6 : ∀ w ∈ wsX60, w ∈ wsX6_bestOf := by decide +kernel
set_option maxHeartbeats 4000000 in
set_option maxRecDepth 100000 in
theorem tX6_bestOf_61 {h : AH} {a1 : Int32} {k9 : AH → Int32 → Int32 → Int32 → Option (Int32 × AH)} {x2 : Int32} {x4 : Int32} {s0 : Int32} {r0 : Int32} {h0 : AH} (C : Cx p rmX6_bestOf s m args meth c RX6 cX6_bestOf 6 (some .int) wsX6_bestOf D ad cy tb 0 0) (H9 : ∀ (h : AH) (x2 : Int32) (x3 : Int32) (x4 : Int32), k9 h x2 x3 x4 = some (r0, h0) → AW p l e rmX6_bestOf s m args below meth c 6 D ad cy 0 0 (Qi D ad cy below args s r0 h0) 9 [(0, .ref (ad 29)), (1, .int a1), (2, .int x2), (3, .int x3), (4, .int x4)] [] h) (hf : fX6_bestOf_61 k9 a1 h x2 x4 s0 = some (r0, h0)) : AW p l e rmX6_bestOf s m args below meth c 6 D ad cy 0 0 (Qi D ad cy below args s r0 h0) 61 [(0, .ref (ad 29)), (1, .int a1), (2, .int x2), (4, .int x4)] [.int s0] h := by
  unfold fX6_bestOf_61 at hf
  refine aw_istore_n (lv1 := [(3, .int s0), (0, .ref (ad 29)), (1, .int a1), (2, .int x2), (4, .int x4)]) C dX6_bestOf_61 rfl (by decide) rfl ?_
  obtain ⟨v1, hvv1, hf⟩ := nm_ex hf
  refine aw_iinc (j := 4) (v := v1) (lv1 := [(4, .int v1), (3, .int s0), (0, .ref (ad 29)), (1, .int a1), (2, .int x2)]) C dX6_bestOf_62 rfl hvv1 (by decide) rfl ?_
  refine aw_goto (tgt := 9) C dX6_bestOf_65 (by decide) ?_
  refine aw_sub [2, 3, 4, 1, 0] rfl ?_
  exact H9 h x2 s0 v1 hf
set_option maxHeartbeats 4000000 in
set_option maxRecDepth 100000 in
theorem tX6_bestOf_48 {h : AH} {a1 : Int32} {k9 : AH → Int32 → Int32 → Int32 → Option (Int32 × AH)} {x3 : Int32} {x4 : Int32} {x5 : Int32} {s0 : Int32} {r0 : Int32} {h0 : AH} (C : Cx p rmX6_bestOf s m args meth c RX6 cX6_bestOf 6 (some .int) wsX6_bestOf D ad cy tb 0 0) (H9 : ∀ (h : AH) (x2 : Int32) (x3 : Int32) (x4 : Int32), k9 h x2 x3 x4 = some (r0, h0) → AW p l e rmX6_bestOf s m args below meth c 6 D ad cy 0 0 (Qi D ad cy below args s r0 h0) 9 [(0, .ref (ad 29)), (1, .int a1), (2, .int x2), (3, .int x3), (4, .int x4)] [] h) (hf : fX6_bestOf_48 k9 a1 h x3 x4 x5 s0 = some (r0, h0)) : AW p l e rmX6_bestOf s m args below meth c 6 D ad cy 0 0 (Qi D ad cy below args s r0 h0) 48 [(0, .ref (ad 29)), (1, .int a1), (3, .int x3), (4, .int x4), (5, .int x5)] [.int s0] h := by
  unfold fX6_bestOf_48 at hf
  refine aw_istore_n (lv1 := [(2, .int s0), (0, .ref (ad 29)), (1, .int a1), (3, .int x3), (4, .int x4), (5, .int x5)]) C dX6_bestOf_48 rfl (by decide) rfl ?_
  refine aw_iload C dX6_bestOf_49 5 rfl ?_
  refine aw_iload_n C dX6_bestOf_51 rfl 3 rfl ?_
  refine aw_icmp_ge (tgt := 60) C dX6_bestOf_52 (by decide) hf (fun hf => ?_) (fun hf => ?_)
  · refine aw_iload_n C dX6_bestOf_60 rfl 3 rfl ?_
    refine aw_sub [1, 2, 0, 4] rfl ?_
    exact tX6_bestOf_61 C  H9 hf
  refine aw_iload C dX6_bestOf_55 5 rfl ?_
  refine aw_goto (tgt := 61) C dX6_bestOf_57 (by decide) ?_
  refine aw_sub [1, 2, 0, 4] rfl ?_
  exact tX6_bestOf_61 C  H9 hf
set_option maxHeartbeats 4000000 in
set_option maxRecDepth 100000 in
theorem tX6_bestOf_42 {h : AH} {a1 : Int32} {k9 : AH → Int32 → Int32 → Int32 → Option (Int32 × AH)} {x3 : Int32} {x4 : Int32} {x5 : Int32} {r0 : Int32} {h0 : AH} (C : Cx p rmX6_bestOf s m args meth c RX6 cX6_bestOf 6 (some .int) wsX6_bestOf D ad cy tb 0 0) (H9 : ∀ (h : AH) (x2 : Int32) (x3 : Int32) (x4 : Int32), k9 h x2 x3 x4 = some (r0, h0) → AW p l e rmX6_bestOf s m args below meth c 6 D ad cy 0 0 (Qi D ad cy below args s r0 h0) 9 [(0, .ref (ad 29)), (1, .int a1), (2, .int x2), (3, .int x3), (4, .int x4)] [] h) (hf : fX6_bestOf_42 k9 a1 h x3 x4 x5 = some (r0, h0)) : AW p l e rmX6_bestOf s m args below meth c 6 D ad cy 0 0 (Qi D ad cy below args s r0 h0) 42 [(0, .ref (ad 29)), (1, .int a1), (3, .int x3), (4, .int x4), (5, .int x5)] [] h := by
  unfold fX6_bestOf_42 at hf
  refine aw_iload C dX6_bestOf_42 3 rfl ?_
  refine aw_goto (tgt := 48) C dX6_bestOf_44 (by decide) ?_
  refine aw_sub [0, 1, 2, 3, 4] rfl ?_
  exact tX6_bestOf_48 C  H9 hf
set_option maxHeartbeats 4000000 in
set_option maxRecDepth 100000 in
theorem tX6_bestOf_9b {h : AH} {a1 : Int32} {k9 : AH → Int32 → Int32 → Int32 → Option (Int32 × AH)} {x2 : Int32} {x3 : Int32} {x4 : Int32} {r0 : Int32} {h0 : AH} (C : Cx p rmX6_bestOf s m args meth c RX6 cX6_bestOf 6 (some .int) wsX6_bestOf D ad cy tb 0 0) (H9 : ∀ (h : AH) (x2 : Int32) (x3 : Int32) (x4 : Int32), k9 h x2 x3 x4 = some (r0, h0) → AW p l e rmX6_bestOf s m args below meth c 6 D ad cy 0 0 (Qi D ad cy below args s r0 h0) 9 [(0, .ref (ad 29)), (1, .int a1), (2, .int x2), (3, .int x3), (4, .int x4)] [] h) (hf : fX6_bestOf_9b k9 a1 h x2 x3 x4 = some (r0, h0)) : AW p l e rmX6_bestOf s m args below meth c 6 D ad cy 0 0 (Qi D ad cy below args s r0 h0) 9 [(0, .ref (ad 29)), (1, .int a1), (2, .int x2), (3, .int x3), (4, .int x4)] [] h := by
  unfold fX6_bestOf_9b at hf
  refine aw_iload C dX6_bestOf_9 4 rfl ?_
  refine aw_aload_n C dX6_bestOf_11 rfl 0 rfl ?_
  refine aw_get C (kd_lt rfl (by decide)) (ce_6 rfl) rfl hinX6_bestOf_6 0 (by decide) rfl (by decide +kernel) rfl dX6_bestOf_12 ?_
  refine aw_icmp_gt (tgt := 68) C dX6_bestOf_15 (by decide) hf (fun hf => ?_) (fun hf => ?_)
  · refine aw_iload_n C dX6_bestOf_68 rfl 2 rfl ?_
    exact aw_iretW C dX6_bestOf_69 hf
  refine aw_aload_n C dX6_bestOf_18 rfl 0 rfl ?_
  refine aw_iload C dX6_bestOf_19 4 rfl ?_
  refine aw_iload_n C dX6_bestOf_21 rfl 1 rfl ?_
  refine aw_aload_n C dX6_bestOf_22 rfl 0 rfl ?_
  refine aw_get C (kd_lt rfl (by decide)) (ce_6 rfl) rfl hinX6_bestOf_6 1 (by decide) rfl (by decide +kernel) rfl dX6_bestOf_23 ?_
  obtain ⟨r2, h1, hc, hf⟩ := bW_some hf
  refine aw_callVi (As := [.int x4, .int a1, .int (h.1 29 1)]) (rest := []) C rfl (by decide) rfl (kX6_wouldBe (l := l) (D := D) (ad := ad) (cy := cy) (tb := tb) C.2.2.2.2.2.2.2.2.1 hc) (fun ht _ => cwV 3 ht gX6_bestOf_X6_wouldBe rfl rfl rfl (by decide +kernel) ⟨Nat.le_of_ble_eq_true rfl, Nat.le_of_ble_eq_true rfl⟩) rfl rfl (Nat.le_of_ble_eq_true rfl) dX6_bestOf_26 ?_
  refine aw_istore (lv1 := [(5, .int r2), (0, .ref (ad 29)), (1, .int a1), (2, .int x2), (3, .int x3), (4, .int x4)]) C dX6_bestOf_29 (by decide) rfl ?_
  refine aw_iload_n C dX6_bestOf_31 rfl 3 rfl ?_
  refine aw_iconst (v := (-1)) C dX6_bestOf_32 (by decide) ?_
  refine aw_icmp_eq (tgt := 42) C dX6_bestOf_33 (by decide) hf (fun hf => ?_) (fun hf => ?_)
  · refine aw_sub [1, 2, 4, 5, 0] rfl ?_
    exact tX6_bestOf_42 C  H9 hf
  refine aw_iload C dX6_bestOf_36 0 rfl ?_
  refine aw_iload_n C dX6_bestOf_38 rfl 4 rfl ?_
  refine aw_icmp_ge (tgt := 47) C dX6_bestOf_39 (by decide) hf (fun hf => ?_) (fun hf => ?_)
  · refine aw_iload_n C dX6_bestOf_47 rfl 3 rfl ?_
    refine aw_sub [1, 2, 4, 5, 0] rfl ?_
    exact tX6_bestOf_48 C  H9 hf
  refine aw_sub [1, 2, 4, 5, 0] rfl ?_
  exact tX6_bestOf_42 C  H9 hf
set_option maxHeartbeats 4000000 in
set_option maxRecDepth 100000 in
theorem tX6_bestOf_9  {a1 : Int32} {r0 : Int32} {h0 : AH} (C : Cx p rmX6_bestOf s m args meth c RX6 cX6_bestOf 6 (some .int) wsX6_bestOf D ad cy tb 0 0) : ∀ (n : Nat) (h : AH) (x2 : Int32) (x3 : Int32) (x4 : Int32), fX6_bestOf_9 a1 n h x2 x3 x4 = some (r0, h0) → AW p l e rmX6_bestOf s m args below meth c 6 D ad cy 0 0 (Qi D ad cy below args s r0 h0) 9 [(0, .ref (ad 29)), (1, .int a1), (2, .int x2), (3, .int x3), (4, .int x4)] [] h := by
  intro n
  induction n with
  | zero => intro h x2 x3 x4 hf; cases hf
  | succ n ih => intro h x2 x3 x4 hf; exact tX6_bestOf_9b C  ih  hf
set_option maxHeartbeats 4000000 in
set_option maxRecDepth 100000 in
theorem tX6_bestOf_0 {h : AH} {a1 : Int32} {r0 : Int32} {h0 : AH} (C : Cx p rmX6_bestOf s m args meth c RX6 cX6_bestOf 6 (some .int) wsX6_bestOf D ad cy tb 0 0) (hf : fX6_bestOf h a1 = some (r0, h0)) : AW p l e rmX6_bestOf s m args below meth c 6 D ad cy 0 0 (Qi D ad cy below args s r0 h0) 0 [(0, .ref (ad 29)), (1, .int a1)] [] h := by
  unfold fX6_bestOf at hf
  refine aw_iconst (v := (-1)) C dX6_bestOf_0 (by decide) ?_
  refine aw_nmI hf (fun v1 hf => ?_)
  refine aw_istore_n (lv1 := [(2, .int v1), (0, .ref (ad 29)), (1, .int a1)]) C dX6_bestOf_1 rfl (by decide) rfl ?_
  refine aw_sipush (v := 448) C dX6_bestOf_2 (by decide) ?_
  refine aw_istore_n (lv1 := [(3, .int 448), (2, .int v1), (0, .ref (ad 29)), (1, .int a1)]) C dX6_bestOf_5 rfl (by decide) rfl ?_
  refine aw_iconst (v := 2) C dX6_bestOf_6 (by decide) ?_
  refine aw_istore (lv1 := [(4, .int 2), (3, .int 448), (2, .int v1), (0, .ref (ad 29)), (1, .int a1)]) C dX6_bestOf_7 (by decide) rfl ?_
  refine aw_sub [3, 4, 2, 1, 0] rfl ?_
  exact tX6_bestOf_9 C   FU h v1 448 2 hf
theorem kX6_bestOf {h : AH} {a1 : Int32} {r0 : Int32} {h0 : AH} (hi : Inj ad) (hf : fX6_bestOf h a1 = some (r0, h0)) : Ki l yX6_bestOf wsX6_bestOf rmX6_bestOf D ad cy tb [.ref (ad 29), .int a1] h r0 h0 := met_i (lv := [(0, .ref (ad 29)), (1, .int a1)]) hi (by decide) rfl (Nat.le_of_ble_eq_true rfl) rfl rfl (fun _ _ _ _ _ _ _ _ C => tX6_bestOf_0 C  hf)
set_option maxRecDepth 20000 in
theorem ggX6_best_X6_in : GoodIn wsX6_best wsX6_in := goodIn_r _ [4] (by decide +kernel) (by decide +kernel)
set_option maxRecDepth 20000 in
theorem gX6_best_X6_in : GoodIn wsX6_best (va_wsS RX6 73 yX6_in wsX6_in) := goodIn_app (goodIn_of _ (by decide +kernel)) ggX6_best_X6_in
set_option maxRecDepth 20000 in
theorem ggX6_best_X6_bestOf : GoodIn wsX6_best wsX6_bestOf := goodIn_r _ [8, 9, 10, 11, 12, 13, 3, 14, 15, 16, 17, 18, 19, 20, 21, 22, 23, 24, 25, 26, 27, 28, 29, 30, 31, 32, 33, 34, 35, 36, 37, 38, 39, 40, 41, 42, 43, 44, 45, 46, 47, 48, 49, 50, 51, 52, 53, 54, 55, 56, 57, 58, 59, 60, 61, 62, 63, 64, 65, 66, 67, 68, 69, 70, 71, 72, 73, 74, 75, 76, 77, 78, 79, 80, 81, 82, 83, 84, 85, 86, 87, 88, 89, 90, 91, 92, 93, 94, 95, 96, 97, 98, 99, 100] (by decide +kernel) (by decide +kernel)
set_option maxRecDepth 20000 in
theorem gX6_best_X6_bestOf : GoodIn wsX6_best (wsV RX6 196 RX6 yX6_bestOf wsX6_bestOf) := goodIn_app (goodIn_of _ (by decide +kernel)) ggX6_best_X6_bestOf
theorem dX6_best_0 : decode cX6_best 0 = .ok (.iload_n 1, 1) := by decide +kernel
theorem dX6_best_1 : decode cX6_best 1 = .ok (.iconst 1, 1) := by decide +kernel
theorem dX6_best_2 : decode cX6_best 2 = .ok (.bipush 9, 2) := by decide +kernel
theorem dX6_best_4 : decode cX6_best 4 = .ok (.invokestatic 73, 3) := by decide +kernel
theorem dX6_best_7 : decode cX6_best 7 = .ok (.ifCond .eq 11, 3) := by decide +kernel
theorem dX6_best_10 : decode cX6_best 10 = .ok (.aload_n 0, 1) := by decide +kernel
theorem dX6_best_11 : decode cX6_best 11 = .ok (.iload_n 1, 1) := by decide +kernel
theorem dX6_best_12 : decode cX6_best 12 = .ok (.invokevirtual 196, 3) := by decide +kernel
theorem dX6_best_15 : decode cX6_best 15 = .ok (.goto 5, 3) := by decide +kernel
theorem dX6_best_18 : decode cX6_best 18 = .ok (.bipush (-2), 2) := by decide +kernel
theorem dX6_best_20 : decode cX6_best 20 = .ok (.ireturn, 1) := by decide +kernel
abbrev rmX6_best : Room := { frames := 12, cells := 0, slots := 0, locals := 295 }
set_option maxHeartbeats 4000000 in
set_option maxRecDepth 100000 in
theorem tX6_best_0 {h : AH} {a1 : Int32} {r0 : Int32} {h0 : AH} (C : Cx p rmX6_best s m args meth c RX6 cX6_best 2 (some .int) wsX6_best D ad cy tb 0 0) (hf : fX6_best h a1 = some (r0, h0)) : AW p l e rmX6_best s m args below meth c 2 D ad cy 0 0 (Qi D ad cy below args s r0 h0) 0 [(0, .ref (ad 29)), (1, .int a1)] [] h := by
  unfold fX6_best at hf
  refine aw_iload_n C dX6_best_0 rfl 1 rfl ?_
  refine aw_iconst (v := 1) C dX6_best_1 (by decide) ?_
  refine aw_bipush (v := 9) C dX6_best_2 (by decide) ?_
  obtain ⟨r1, hc, hf⟩ := bR_some hf
  refine aw_callSi (As := [.int a1, .int 1, .int 9]) (rest := []) C (kX6_in (l := l) (D := D) (ad := ad) (cy := cy) (tb := tb) C.2.2.2.2.2.2.2.2.1 hc) (fun ht _ => va_cwS 3 ht gX6_best_X6_in rfl rfl rfl (by decide +kernel) ⟨Nat.le_of_ble_eq_true rfl, Nat.le_of_ble_eq_true rfl⟩) rfl rfl (Nat.le_of_ble_eq_true rfl) dX6_best_4 ?_
  refine aw_if_eq (tgt := 18) C dX6_best_7 (by decide) hf (fun hf => ?_) (fun hf => ?_)
  · refine aw_bipush (v := (-2)) C dX6_best_18 (by decide) ?_
    exact aw_iretW C dX6_best_20 hf
  refine aw_aload_n C dX6_best_10 rfl 0 rfl ?_
  refine aw_iload_n C dX6_best_11 rfl 1 rfl ?_
  obtain ⟨r3, h2, hc, hf⟩ := bW_some hf
  refine aw_callVi (As := [.int a1]) (rest := []) C rfl (by decide) rfl (kX6_bestOf (l := l) (D := D) (ad := ad) (cy := cy) (tb := tb) C.2.2.2.2.2.2.2.2.1 hc) (fun ht _ => cwV 1 ht gX6_best_X6_bestOf rfl rfl rfl (by decide +kernel) ⟨Nat.le_of_ble_eq_true rfl, Nat.le_of_ble_eq_true rfl⟩) rfl rfl (Nat.le_of_ble_eq_true rfl) dX6_best_12 ?_
  refine aw_goto (tgt := 20) C dX6_best_15 (by decide) ?_
  exact aw_iretW C dX6_best_20 hf
theorem kX6_best {h : AH} {a1 : Int32} {r0 : Int32} {h0 : AH} (hi : Inj ad) (hf : fX6_best h a1 = some (r0, h0)) : Ki l yX6_best wsX6_best rmX6_best D ad cy tb [.ref (ad 29), .int a1] h r0 h0 := met_i (lv := [(0, .ref (ad 29)), (1, .int a1)]) hi (by decide) rfl (Nat.le_of_ble_eq_true rfl) rfl rfl (fun _ _ _ _ _ _ _ _ C => tX6_best_0 C  hf)
theorem dX5_isForm_0 : decode cX5_isForm 0 = .ok (.iload_n 0, 1) := by decide +kernel
theorem dX5_isForm_1 : decode cX5_isForm 1 = .ok (.ifCond .lt 12, 3) := by decide +kernel
theorem dX5_isForm_4 : decode cX5_isForm 4 = .ok (.iload_n 0, 1) := by decide +kernel
theorem dX5_isForm_5 : decode cX5_isForm 5 = .ok (.iconst 3, 1) := by decide +kernel
theorem dX5_isForm_6 : decode cX5_isForm 6 = .ok (.if_icmp .ge 7, 3) := by decide +kernel
theorem dX5_isForm_9 : decode cX5_isForm 9 = .ok (.iconst 1, 1) := by decide +kernel
theorem dX5_isForm_10 : decode cX5_isForm 10 = .ok (.goto 4, 3) := by decide +kernel
theorem dX5_isForm_13 : decode cX5_isForm 13 = .ok (.iconst 0, 1) := by decide +kernel
theorem dX5_isForm_14 : decode cX5_isForm 14 = .ok (.ireturn, 1) := by decide +kernel
abbrev rmX5_isForm : Room := { frames := 0, cells := 0, slots := 0, locals := 0 }
set_option maxHeartbeats 4000000 in
set_option maxRecDepth 100000 in
theorem tX5_isForm_0 {h : AH} {a0 : Int32} {r0 : Int32} (C : Cx p rmX5_isForm s m args meth c RX5 cX5_isForm 1 (some .boolean) wsX5_isForm D ad cy tb 0 0) (hf : fX5_isForm h a0 = some r0) : AW p l e rmX5_isForm s m args below meth c 1 D ad cy 0 0 (Qi D ad cy below args s r0 h) 0 [(0, .int a0)] [] h := by
  unfold fX5_isForm at hf
  refine aw_iload_n C dX5_isForm_0 rfl 0 rfl ?_
  refine aw_if_lt (tgt := 13) C dX5_isForm_1 (by decide) hf (fun hf => ?_) (fun hf => ?_)
  · refine aw_iconst (v := 0) C dX5_isForm_13 (by decide) ?_
    exact aw_zretR C (by decide) dX5_isForm_14 hf
  refine aw_iload_n C dX5_isForm_4 rfl 0 rfl ?_
  refine aw_iconst (v := 3) C dX5_isForm_5 (by decide) ?_
  refine aw_icmp_ge (tgt := 13) C dX5_isForm_6 (by decide) hf (fun hf => ?_) (fun hf => ?_)
  · refine aw_iconst (v := 0) C dX5_isForm_13 (by decide) ?_
    exact aw_zretR C (by decide) dX5_isForm_14 hf
  refine aw_iconst (v := 1) C dX5_isForm_9 (by decide) ?_
  refine aw_goto (tgt := 14) C dX5_isForm_10 (by decide) ?_
  exact aw_zretR C (by decide) dX5_isForm_14 hf
theorem kX5_isForm {h : AH} {a0 : Int32} {r0 : Int32} (hi : Inj ad) (hf : fX5_isForm h a0 = some r0) : Ki l yX5_isForm wsX5_isForm rmX5_isForm D ad cy tb [.int a0] h r0 h := met_i (lv := [(0, .int a0)]) hi (by decide) rfl (Nat.le_of_ble_eq_true rfl) rfl rfl (fun _ _ _ _ _ _ _ _ C => tX5_isForm_0 C  hf)
set_option maxRecDepth 20000 in
theorem ggX3_begin_J7_fill_d0a16 : GoodIn wsX3_begin wsJ7_fill_d0a16 := goodIn_r _ [8] (by decide +kernel) (by decide +kernel)
set_option maxRecDepth 20000 in
theorem gX3_begin_J7_fill_d0a16 : GoodIn wsX3_begin (va_wsS RX3 26 yJ7_fill_d0a16 wsJ7_fill_d0a16) := goodIn_app (goodIn_of _ (by decide +kernel)) ggX3_begin_J7_fill_d0a16
theorem dX3_begin_0 : decode cX3_begin 0 = .ok (.aload_n 0, 1) := by decide +kernel
theorem dX3_begin_1 : decode cX3_begin 1 = .ok (.iconst 0, 1) := by decide +kernel
theorem dX3_begin_2 : decode cX3_begin 2 = .ok (.putfield 9, 3) := by decide +kernel
theorem dX3_begin_5 : decode cX3_begin 5 = .ok (.aload_n 0, 1) := by decide +kernel
theorem dX3_begin_6 : decode cX3_begin 6 = .ok (.iload_n 1, 1) := by decide +kernel
theorem dX3_begin_7 : decode cX3_begin 7 = .ok (.putfield 19, 3) := by decide +kernel
theorem dX3_begin_10 : decode cX3_begin 10 = .ok (.aload_n 0, 1) := by decide +kernel
theorem dX3_begin_11 : decode cX3_begin 11 = .ok (.iload_n 2, 1) := by decide +kernel
theorem dX3_begin_12 : decode cX3_begin 12 = .ok (.putfield 23, 3) := by decide +kernel
theorem dX3_begin_15 : decode cX3_begin 15 = .ok (.aload_n 0, 1) := by decide +kernel
theorem dX3_begin_16 : decode cX3_begin 16 = .ok (.getfield 15, 3) := by decide +kernel
theorem dX3_begin_19 : decode cX3_begin 19 = .ok (.lconst 0, 1) := by decide +kernel
theorem dX3_begin_20 : decode cX3_begin 20 = .ok (.invokestatic 26, 3) := by decide +kernel
theorem dX3_begin_23 : decode cX3_begin 23 = .ok (.return_, 1) := by decide +kernel
abbrev rmX3_begin : Room := { frames := 1, cells := 0, slots := 0, locals := 24 }
set_option maxRecDepth 100000 in
theorem hinX3_begin_3 : ∀ w ∈ wsX30, w ∈ wsX3_begin := by decide +kernel
set_option maxHeartbeats 4000000 in
set_option maxRecDepth 100000 in
theorem tX3_begin_0 {h : AH} {a0 : Nat} {a1 : Int32} {a2 : Int32} {h0 : AH} (C : Cx p rmX3_begin s m args meth c RX3 cX3_begin 3 none wsX3_begin D ad cy tb 0 0) (hk0 : kd a0 = 3) (hf : fX3_begin h a0 a1 a2 = some h0) : AW p l e rmX3_begin s m args below meth c 3 D ad cy 0 0 (Qv D ad cy below args s h0) 0 [(0, .ref (ad a0)), (1, .int a1), (2, .int a2)] [] h := by
  unfold fX3_begin at hf
  refine aw_aload_n C dX3_begin_0 rfl 0 rfl ?_
  refine aw_iconst (v := 0) C dX3_begin_1 (by decide) ?_
  refine aw_put (ty := .boolean) C (kd_lt hk0 (by decide)) (ce_3 hk0) rfl hinX3_begin_3 tyX3 tyX3_ok nmX3 0 (by decide) rfl (by decide +kernel) rfl (by decide +kernel) rfl rfl (Nat.le_of_ble_eq_true rfl) (cs_3_0 hk0) dX3_begin_2 ?_
  refine aw_nmH hf (fun h1 hf => ?_)
  refine aw_aload_n C dX3_begin_5 rfl 0 rfl ?_
  refine aw_iload_n C dX3_begin_6 rfl 1 rfl ?_
  refine aw_put (ty := .int) C (kd_lt hk0 (by decide)) (ce_3 hk0) rfl hinX3_begin_3 tyX3 tyX3_ok nmX3 1 (by decide) rfl (by decide +kernel) rfl (by decide +kernel) rfl rfl (Nat.le_of_ble_eq_true rfl) (cs_3_1 hk0) dX3_begin_7 ?_
  refine aw_nmH hf (fun h2 hf => ?_)
  refine aw_aload_n C dX3_begin_10 rfl 0 rfl ?_
  refine aw_iload_n C dX3_begin_11 rfl 2 rfl ?_
  refine aw_put (ty := .int) C (kd_lt hk0 (by decide)) (ce_3 hk0) rfl hinX3_begin_3 tyX3 tyX3_ok nmX3 2 (by decide) rfl (by decide +kernel) rfl (by decide +kernel) rfl rfl (Nat.le_of_ble_eq_true rfl) (cs_3_2 hk0) dX3_begin_12 ?_
  refine aw_nmH hf (fun h3 hf => ?_)
  refine aw_aload_n C dX3_begin_15 rfl 0 rfl ?_
  refine aw_get C (kd_lt hk0 (by decide)) (ce_3 hk0) rfl hinX3_begin_3 3 (by decide) rfl (by decide +kernel) rfl dX3_begin_16 ?_
  refine aw_lconst (v := 0) C dX3_begin_19 (by decide) ?_
  obtain ⟨h4, hc, hf⟩ := bR_some hf
  refine aw_callSv (As := [.ref (ad (a0 + 4)), .long 0]) (rest := []) C (kJ7_fill_d0a16 (l := l) (D := D) (ad := ad) (cy := cy) (tb := tb) C.2.2.2.2.2.2.2.2.1 (kd3a hk0) hc) (fun ht _ => va_cwS 2 ht gX3_begin_J7_fill_d0a16 rfl rfl rfl (by decide +kernel) ⟨Nat.le_of_ble_eq_true rfl, Nat.le_of_ble_eq_true rfl⟩) rfl rfl (Nat.le_of_ble_eq_true rfl) dX3_begin_20 ?_
  exact aw_vret C dX3_begin_23 hf
theorem kX3_begin {h : AH} {a0 : Nat} {a1 : Int32} {a2 : Int32} {h0 : AH} (hi : Inj ad) (hk0 : kd a0 = 3) (hf : fX3_begin h a0 a1 a2 = some h0) : Kv l yX3_begin wsX3_begin rmX3_begin D ad cy tb [.ref (ad a0), .int a1, .int a2] h h0 := met_v (lv := [(0, .ref (ad a0)), (1, .int a1), (2, .int a2)]) hi (by decide) rfl (Nat.le_of_ble_eq_true rfl) rfl rfl (fun _ _ _ _ _ _ _ _ C => tX3_begin_0 C hk0 hf)
set_option maxRecDepth 20000 in
theorem ggX5_sheet_X5_isSheet : GoodIn wsX5_sheet wsX5_isSheet := goodIn_r _ [5] (by decide +kernel) (by decide +kernel)
set_option maxRecDepth 20000 in
theorem gX5_sheet_X5_isSheet : GoodIn wsX5_sheet (va_wsS RX5 109 yX5_isSheet wsX5_isSheet) := goodIn_app (goodIn_of _ (by decide +kernel)) ggX5_sheet_X5_isSheet
set_option maxRecDepth 20000 in
theorem ggX5_sheet_X5_isForm : GoodIn wsX5_sheet wsX5_isForm := goodIn_r _ [8] (by decide +kernel) (by decide +kernel)
set_option maxRecDepth 20000 in
theorem gX5_sheet_X5_isForm : GoodIn wsX5_sheet (va_wsS RX5 229 yX5_isForm wsX5_isForm) := goodIn_app (goodIn_of _ (by decide +kernel)) ggX5_sheet_X5_isForm
set_option maxRecDepth 20000 in
theorem ggX5_sheet_X5_finding : GoodIn wsX5_sheet wsX5_finding := goodIn_r _ [12, 13, 27, 28, 29, 30, 31, 32, 33, 34, 35] (by decide +kernel) (by decide +kernel)
set_option maxRecDepth 20000 in
theorem gX5_sheet_X5_finding : GoodIn wsX5_sheet (wsV RX5 116 RX5 yX5_finding wsX5_finding) := goodIn_app (goodIn_of _ (by decide +kernel)) ggX5_sheet_X5_finding
set_option maxRecDepth 20000 in
theorem ggX5_sheet_X3_begin : GoodIn wsX5_sheet wsX3_begin := goodIn_r _ [18, 19, 20, 21, 22, 23, 24, 25, 26, 36, 37, 38, 39] (by decide +kernel) (by decide +kernel)
set_option maxRecDepth 20000 in
theorem gX5_sheet_X3_begin : GoodIn wsX5_sheet (wsV RX5 232 RX3 yX3_begin wsX3_begin) := goodIn_app (goodIn_of _ (by decide +kernel)) ggX5_sheet_X3_begin
theorem dX5_sheet_0 : decode cX5_sheet 0 = .ok (.iload_n 1, 1) := by decide +kernel
theorem dX5_sheet_1 : decode cX5_sheet 1 = .ok (.invokestatic 109, 3) := by decide +kernel
theorem dX5_sheet_4 : decode cX5_sheet 4 = .ok (.ifCond .eq 16, 3) := by decide +kernel
theorem dX5_sheet_7 : decode cX5_sheet 7 = .ok (.iload_n 2, 1) := by decide +kernel
theorem dX5_sheet_8 : decode cX5_sheet 8 = .ok (.invokestatic 229, 3) := by decide +kernel
theorem dX5_sheet_11 : decode cX5_sheet 11 = .ok (.ifCond .eq 9, 3) := by decide +kernel
theorem dX5_sheet_14 : decode cX5_sheet 14 = .ok (.iload_n 3, 1) := by decide +kernel
theorem dX5_sheet_15 : decode cX5_sheet 15 = .ok (.bipush 64, 2) := by decide +kernel
theorem dX5_sheet_17 : decode cX5_sheet 17 = .ok (.if_icmp .le 6, 3) := by decide +kernel
theorem dX5_sheet_20 : decode cX5_sheet 20 = .ok (.bipush (-2), 2) := by decide +kernel
theorem dX5_sheet_22 : decode cX5_sheet 22 = .ok (.ireturn, 1) := by decide +kernel
theorem dX5_sheet_23 : decode cX5_sheet 23 = .ok (.iload_n 3, 1) := by decide +kernel
theorem dX5_sheet_24 : decode cX5_sheet 24 = .ok (.ifCond .ge 10, 3) := by decide +kernel
theorem dX5_sheet_27 : decode cX5_sheet 27 = .ok (.aload_n 0, 1) := by decide +kernel
theorem dX5_sheet_28 : decode cX5_sheet 28 = .ok (.bipush (-15), 2) := by decide +kernel
theorem dX5_sheet_30 : decode cX5_sheet 30 = .ok (.invokevirtual 116, 3) := by decide +kernel
theorem dX5_sheet_33 : decode cX5_sheet 33 = .ok (.ireturn, 1) := by decide +kernel
theorem dX5_sheet_34 : decode cX5_sheet 34 = .ok (.aload_n 0, 1) := by decide +kernel
theorem dX5_sheet_35 : decode cX5_sheet 35 = .ok (.getfield 46, 3) := by decide +kernel
theorem dX5_sheet_38 : decode cX5_sheet 38 = .ok (.iload_n 1, 1) := by decide +kernel
theorem dX5_sheet_39 : decode cX5_sheet 39 = .ok (.aaload, 1) := by decide +kernel
theorem dX5_sheet_40 : decode cX5_sheet 40 = .ok (.iload_n 2, 1) := by decide +kernel
theorem dX5_sheet_41 : decode cX5_sheet 41 = .ok (.iload_n 3, 1) := by decide +kernel
theorem dX5_sheet_42 : decode cX5_sheet 42 = .ok (.invokevirtual 232, 3) := by decide +kernel
theorem dX5_sheet_45 : decode cX5_sheet 45 = .ok (.iload_n 3, 1) := by decide +kernel
theorem dX5_sheet_46 : decode cX5_sheet 46 = .ok (.ireturn, 1) := by decide +kernel
abbrev rmX5_sheet : Room := { frames := 2, cells := 0, slots := 0, locals := 46 }
set_option maxRecDepth 100000 in
theorem hinX5_sheet_5 : ∀ w ∈ wsX50, w ∈ wsX5_sheet := by decide +kernel
set_option maxHeartbeats 4000000 in
set_option maxRecDepth 100000 in
theorem tX5_sheet_0 {h : AH} {a1 : Int32} {a2 : Int32} {a3 : Int32} {r0 : Int32} {h0 : AH} (C : Cx p rmX5_sheet s m args meth c RX5 cX5_sheet 4 (some .int) wsX5_sheet D ad cy tb 0 0) (hf : fX5_sheet h a1 a2 a3 = some (r0, h0)) : AW p l e rmX5_sheet s m args below meth c 4 D ad cy 0 0 (Qi D ad cy below args s r0 h0) 0 [(0, .ref (ad 0)), (1, .int a1), (2, .int a2), (3, .int a3)] [] h := by
  unfold fX5_sheet at hf
  refine aw_iload_n C dX5_sheet_0 rfl 1 rfl ?_
  obtain ⟨r1, hc, hf⟩ := bR_some hf
  refine aw_callSi (As := [.int a1]) (rest := []) C (kX5_isSheet (l := l) (D := D) (ad := ad) (cy := cy) (tb := tb) C.2.2.2.2.2.2.2.2.1 hc) (fun ht _ => va_cwS 1 ht gX5_sheet_X5_isSheet rfl rfl rfl (by decide +kernel) ⟨Nat.le_of_ble_eq_true rfl, Nat.le_of_ble_eq_true rfl⟩) rfl rfl (Nat.le_of_ble_eq_true rfl) dX5_sheet_1 ?_
  refine aw_if_eq (tgt := 20) C dX5_sheet_4 (by decide) hf (fun hf => ?_) (fun hf => ?_)
  · refine aw_bipush (v := (-2)) C dX5_sheet_20 (by decide) ?_
    exact aw_iretW C dX5_sheet_22 hf
  refine aw_iload_n C dX5_sheet_7 rfl 2 rfl ?_
  obtain ⟨r2, hc, hf⟩ := bR_some hf
  refine aw_callSi (As := [.int a2]) (rest := []) C (kX5_isForm (l := l) (D := D) (ad := ad) (cy := cy) (tb := tb) C.2.2.2.2.2.2.2.2.1 hc) (fun ht _ => va_cwS 1 ht gX5_sheet_X5_isForm rfl rfl rfl (by decide +kernel) ⟨Nat.le_of_ble_eq_true rfl, Nat.le_of_ble_eq_true rfl⟩) rfl rfl (Nat.le_of_ble_eq_true rfl) dX5_sheet_8 ?_
  refine aw_if_eq (tgt := 20) C dX5_sheet_11 (by decide) hf (fun hf => ?_) (fun hf => ?_)
  · refine aw_bipush (v := (-2)) C dX5_sheet_20 (by decide) ?_
    exact aw_iretW C dX5_sheet_22 hf
  refine aw_iload_n C dX5_sheet_14 rfl 3 rfl ?_
  refine aw_bipush (v := 64) C dX5_sheet_15 (by decide) ?_
  refine aw_icmp_le (tgt := 23) C dX5_sheet_17 (by decide) hf (fun hf => ?_) (fun hf => ?_)
  · refine aw_iload_n C dX5_sheet_23 rfl 3 rfl ?_
    refine aw_if_ge (tgt := 34) C dX5_sheet_24 (by decide) hf (fun hf => ?_) (fun hf => ?_)
    · refine aw_aload_n C dX5_sheet_34 rfl 0 rfl ?_
      refine aw_get C (kd_lt rfl (by decide)) (ce_5 rfl) rfl hinX5_sheet_5 6 (by decide) rfl (by decide +kernel) rfl dX5_sheet_35 ?_
      refine aw_iload_n C dX5_sheet_38 rfl 1 rfl ?_
      refine aw_aald C hf dX5_sheet_39 (fun r3 hkr3 hf => ?_)
      refine aw_iload_n C dX5_sheet_40 rfl 2 rfl ?_
      refine aw_iload_n C dX5_sheet_41 rfl 3 rfl ?_
      obtain ⟨h4, hc, hf⟩ := bR_some hf
      refine aw_callVv (As := [.int a2, .int a3]) (rest := []) C hkr3 (by decide) rfl (kX3_begin (l := l) (D := D) (ad := ad) (cy := cy) (tb := tb) C.2.2.2.2.2.2.2.2.1 hkr3 hc) (fun ht _ => cwV 2 ht gX5_sheet_X3_begin rfl rfl rfl (by decide +kernel) ⟨Nat.le_of_ble_eq_true rfl, Nat.le_of_ble_eq_true rfl⟩) rfl rfl (Nat.le_of_ble_eq_true rfl) dX5_sheet_42 ?_
      refine aw_iload_n C dX5_sheet_45 rfl 3 rfl ?_
      exact aw_iretW C dX5_sheet_46 hf
    refine aw_aload_n C dX5_sheet_27 rfl 0 rfl ?_
    refine aw_bipush (v := (-15)) C dX5_sheet_28 (by decide) ?_
    obtain ⟨r6, h5, hc, hf⟩ := bW_some hf
    refine aw_callVi (As := [.int (-15)]) (rest := []) C rfl (by decide) rfl (kX5_finding (l := l) (D := D) (ad := ad) (cy := cy) (tb := tb) C.2.2.2.2.2.2.2.2.1 hc) (fun ht _ => cwV 1 ht gX5_sheet_X5_finding rfl rfl rfl (by decide +kernel) ⟨Nat.le_of_ble_eq_true rfl, Nat.le_of_ble_eq_true rfl⟩) rfl rfl (Nat.le_of_ble_eq_true rfl) dX5_sheet_30 ?_
    exact aw_iretW C dX5_sheet_33 hf
  refine aw_bipush (v := (-2)) C dX5_sheet_20 (by decide) ?_
  exact aw_iretW C dX5_sheet_22 hf
theorem kX5_sheet {h : AH} {a1 : Int32} {a2 : Int32} {a3 : Int32} {r0 : Int32} {h0 : AH} (hi : Inj ad) (hf : fX5_sheet h a1 a2 a3 = some (r0, h0)) : Ki l yX5_sheet wsX5_sheet rmX5_sheet D ad cy tb [.ref (ad 0), .int a1, .int a2, .int a3] h r0 h0 := met_i (lv := [(0, .ref (ad 0)), (1, .int a1), (2, .int a2), (3, .int a3)]) hi (by decide) rfl (Nat.le_of_ble_eq_true rfl) rfl rfl (fun _ _ _ _ _ _ _ _ C => tX5_sheet_0 C  hf)
set_option maxRecDepth 20000 in
theorem ggX6_sheet_X6_isSheet : GoodIn wsX6_sheet wsX6_isSheet := goodIn_r _ [7, 8, 9, 6, 10] (by decide +kernel) (by decide +kernel)
set_option maxRecDepth 20000 in
theorem gX6_sheet_X6_isSheet : GoodIn wsX6_sheet (va_wsS RX6 103 yX6_isSheet wsX6_isSheet) := goodIn_app (goodIn_of _ (by decide +kernel)) ggX6_sheet_X6_isSheet
set_option maxRecDepth 20000 in
theorem ggX6_sheet_X6_in : GoodIn wsX6_sheet wsX6_in := goodIn_r _ [10] (by decide +kernel) (by decide +kernel)
set_option maxRecDepth 20000 in
theorem gX6_sheet_X6_in : GoodIn wsX6_sheet (va_wsS RX6 73 yX6_in wsX6_in) := goodIn_app (goodIn_of _ (by decide +kernel)) ggX6_sheet_X6_in
set_option maxRecDepth 20000 in
theorem ggX6_sheet_X6_meets : GoodIn wsX6_sheet wsX6_meets := goodIn_r _ [14, 15, 16, 17, 18, 19, 20, 21, 22, 23, 24, 25, 26, 27, 28, 29, 30, 31, 32, 33] (by decide +kernel) (by decide +kernel)
set_option maxRecDepth 20000 in
theorem gX6_sheet_X6_meets : GoodIn wsX6_sheet (wsV RX6 106 RX6 yX6_meets wsX6_meets) := goodIn_app (goodIn_of _ (by decide +kernel)) ggX6_sheet_X6_meets
theorem dX6_sheet_0 : decode cX6_sheet 0 = .ok (.iload_n 1, 1) := by decide +kernel
theorem dX6_sheet_1 : decode cX6_sheet 1 = .ok (.invokestatic 103, 3) := by decide +kernel
theorem dX6_sheet_4 : decode cX6_sheet 4 = .ok (.ifCond .eq 18, 3) := by decide +kernel
theorem dX6_sheet_7 : decode cX6_sheet 7 = .ok (.iload_n 2, 1) := by decide +kernel
theorem dX6_sheet_8 : decode cX6_sheet 8 = .ok (.iconst 0, 1) := by decide +kernel
theorem dX6_sheet_9 : decode cX6_sheet 9 = .ok (.iconst 2, 1) := by decide +kernel
theorem dX6_sheet_10 : decode cX6_sheet 10 = .ok (.invokestatic 73, 3) := by decide +kernel
theorem dX6_sheet_13 : decode cX6_sheet 13 = .ok (.ifCond .eq 9, 3) := by decide +kernel
theorem dX6_sheet_16 : decode cX6_sheet 16 = .ok (.iload_n 3, 1) := by decide +kernel
theorem dX6_sheet_17 : decode cX6_sheet 17 = .ok (.bipush 64, 2) := by decide +kernel
theorem dX6_sheet_19 : decode cX6_sheet 19 = .ok (.if_icmp .le 6, 3) := by decide +kernel
theorem dX6_sheet_22 : decode cX6_sheet 22 = .ok (.bipush (-2), 2) := by decide +kernel
theorem dX6_sheet_24 : decode cX6_sheet 24 = .ok (.ireturn, 1) := by decide +kernel
theorem dX6_sheet_25 : decode cX6_sheet 25 = .ok (.iload_n 3, 1) := by decide +kernel
theorem dX6_sheet_26 : decode cX6_sheet 26 = .ok (.ifCond .ge 9, 3) := by decide +kernel
theorem dX6_sheet_29 : decode cX6_sheet 29 = .ok (.aload_n 0, 1) := by decide +kernel
theorem dX6_sheet_30 : decode cX6_sheet 30 = .ok (.iconst 5, 1) := by decide +kernel
theorem dX6_sheet_31 : decode cX6_sheet 31 = .ok (.invokevirtual 106, 3) := by decide +kernel
theorem dX6_sheet_34 : decode cX6_sheet 34 = .ok (.ireturn, 1) := by decide +kernel
theorem dX6_sheet_35 : decode cX6_sheet 35 = .ok (.aload_n 0, 1) := by decide +kernel
theorem dX6_sheet_36 : decode cX6_sheet 36 = .ok (.getfield 42, 3) := by decide +kernel
theorem dX6_sheet_39 : decode cX6_sheet 39 = .ok (.iload_n 1, 1) := by decide +kernel
theorem dX6_sheet_40 : decode cX6_sheet 40 = .ok (.iload_n 2, 1) := by decide +kernel
theorem dX6_sheet_41 : decode cX6_sheet 41 = .ok (.iastore, 1) := by decide +kernel
theorem dX6_sheet_42 : decode cX6_sheet 42 = .ok (.aload_n 0, 1) := by decide +kernel
theorem dX6_sheet_43 : decode cX6_sheet 43 = .ok (.getfield 45, 3) := by decide +kernel
theorem dX6_sheet_46 : decode cX6_sheet 46 = .ok (.iload_n 1, 1) := by decide +kernel
theorem dX6_sheet_47 : decode cX6_sheet 47 = .ok (.iload_n 3, 1) := by decide +kernel
theorem dX6_sheet_48 : decode cX6_sheet 48 = .ok (.iastore, 1) := by decide +kernel
theorem dX6_sheet_49 : decode cX6_sheet 49 = .ok (.bipush 64, 2) := by decide +kernel
theorem dX6_sheet_51 : decode cX6_sheet 51 = .ok (.iload_n 1, 1) := by decide +kernel
theorem dX6_sheet_52 : decode cX6_sheet 52 = .ok (.imul, 1) := by decide +kernel
theorem dX6_sheet_53 : decode cX6_sheet 53 = .ok (.istore 4, 2) := by decide +kernel
theorem dX6_sheet_55 : decode cX6_sheet 55 = .ok (.iload 4, 2) := by decide +kernel
theorem dX6_sheet_57 : decode cX6_sheet 57 = .ok (.bipush 64, 2) := by decide +kernel
theorem dX6_sheet_59 : decode cX6_sheet 59 = .ok (.iload_n 1, 1) := by decide +kernel
theorem dX6_sheet_60 : decode cX6_sheet 60 = .ok (.imul, 1) := by decide +kernel
theorem dX6_sheet_61 : decode cX6_sheet 61 = .ok (.bipush 64, 2) := by decide +kernel
theorem dX6_sheet_63 : decode cX6_sheet 63 = .ok (.iadd, 1) := by decide +kernel
theorem dX6_sheet_64 : decode cX6_sheet 64 = .ok (.if_icmp .ge 17, 3) := by decide +kernel
theorem dX6_sheet_67 : decode cX6_sheet 67 = .ok (.aload_n 0, 1) := by decide +kernel
theorem dX6_sheet_68 : decode cX6_sheet 68 = .ok (.getfield 48, 3) := by decide +kernel
theorem dX6_sheet_71 : decode cX6_sheet 71 = .ok (.iload 4, 2) := by decide +kernel
theorem dX6_sheet_73 : decode cX6_sheet 73 = .ok (.lconst 0, 1) := by decide +kernel
theorem dX6_sheet_74 : decode cX6_sheet 74 = .ok (.lastore, 1) := by decide +kernel
theorem dX6_sheet_75 : decode cX6_sheet 75 = .ok (.iinc 4 1, 3) := by decide +kernel
theorem dX6_sheet_78 : decode cX6_sheet 78 = .ok (.goto (-23), 3) := by decide +kernel
theorem dX6_sheet_81 : decode cX6_sheet 81 = .ok (.iload_n 3, 1) := by decide +kernel
theorem dX6_sheet_82 : decode cX6_sheet 82 = .ok (.ireturn, 1) := by decide +kernel
abbrev rmX6_sheet : Room := { frames := 2, cells := 0, slots := 0, locals := 42 }
set_option maxRecDepth 100000 in
theorem hinX6_sheet_6 : ∀ w ∈ wsX60, w ∈ wsX6_sheet := by decide +kernel
set_option maxHeartbeats 4000000 in
set_option maxRecDepth 100000 in
theorem tX6_sheet_55b {h : AH} {a1 : Int32} {a2 : Int32} {a3 : Int32} {k55 : AH → Int32 → Option (Int32 × AH)} {x4 : Int32} {r0 : Int32} {h0 : AH} (C : Cx p rmX6_sheet s m args meth c RX6 cX6_sheet 5 (some .int) wsX6_sheet D ad cy tb 0 0) (H55 : ∀ (h : AH) (x4 : Int32), k55 h x4 = some (r0, h0) → AW p l e rmX6_sheet s m args below meth c 5 D ad cy 0 0 (Qi D ad cy below args s r0 h0) 55 [(0, .ref (ad 29)), (1, .int a1), (2, .int a2), (3, .int a3), (4, .int x4)] [] h) (hf : fX6_sheet_55b k55 a1 a2 a3 h x4 = some (r0, h0)) : AW p l e rmX6_sheet s m args below meth c 5 D ad cy 0 0 (Qi D ad cy below args s r0 h0) 55 [(0, .ref (ad 29)), (1, .int a1), (2, .int a2), (3, .int a3), (4, .int x4)] [] h := by
  unfold fX6_sheet_55b at hf
  refine aw_iload C dX6_sheet_55 4 rfl ?_
  refine aw_bipush (v := 64) C dX6_sheet_57 (by decide) ?_
  refine aw_iload_n C dX6_sheet_59 rfl 1 rfl ?_
  refine aw_imul C dX6_sheet_60 ?_
  refine aw_bipush (v := 64) C dX6_sheet_61 (by decide) ?_
  refine aw_iadd C dX6_sheet_63 ?_
  refine aw_icmp_ge (tgt := 81) C dX6_sheet_64 (by decide) hf (fun hf => ?_) (fun hf => ?_)
  · refine aw_iload_n C dX6_sheet_81 rfl 3 rfl ?_
    exact aw_iretW C dX6_sheet_82 hf
  refine aw_aload_n C dX6_sheet_67 rfl 0 rfl ?_
  refine aw_get C (kd_lt rfl (by decide)) (ce_6 rfl) rfl hinX6_sheet_6 15 (by decide) rfl (by decide +kernel) rfl dX6_sheet_68 ?_
  refine aw_iload C dX6_sheet_71 4 rfl ?_
  refine aw_lconst (v := 0) C dX6_sheet_73 (by decide) ?_
  refine aw_last C rfl rfl hf dX6_sheet_74 (fun hf => ?_)
  refine aw_nmH hf (fun h1 hf => ?_)
  obtain ⟨v2, hvv2, hf⟩ := nm_ex hf
  refine aw_iinc (j := 4) (v := v2) (lv1 := [(4, .int v2), (0, .ref (ad 29)), (1, .int a1), (2, .int a2), (3, .int a3)]) C dX6_sheet_75 rfl hvv2 (by decide) rfl ?_
  refine aw_goto (tgt := 55) C dX6_sheet_78 (by decide) ?_
  refine aw_sub [1, 2, 3, 4, 0] rfl ?_
  exact H55 h1 v2 hf
set_option maxHeartbeats 4000000 in
set_option maxRecDepth 100000 in
theorem tX6_sheet_55  {a1 : Int32} {a2 : Int32} {a3 : Int32} {r0 : Int32} {h0 : AH} (C : Cx p rmX6_sheet s m args meth c RX6 cX6_sheet 5 (some .int) wsX6_sheet D ad cy tb 0 0) : ∀ (n : Nat) (h : AH) (x4 : Int32), fX6_sheet_55 a1 a2 a3 n h x4 = some (r0, h0) → AW p l e rmX6_sheet s m args below meth c 5 D ad cy 0 0 (Qi D ad cy below args s r0 h0) 55 [(0, .ref (ad 29)), (1, .int a1), (2, .int a2), (3, .int a3), (4, .int x4)] [] h := by
  intro n
  induction n with
  | zero => intro h x4 hf; cases hf
  | succ n ih => intro h x4 hf; exact tX6_sheet_55b C  ih  hf
set_option maxHeartbeats 4000000 in
set_option maxRecDepth 100000 in
theorem tX6_sheet_0 {h : AH} {a1 : Int32} {a2 : Int32} {a3 : Int32} {r0 : Int32} {h0 : AH} (C : Cx p rmX6_sheet s m args meth c RX6 cX6_sheet 5 (some .int) wsX6_sheet D ad cy tb 0 0) (hf : fX6_sheet h a1 a2 a3 = some (r0, h0)) : AW p l e rmX6_sheet s m args below meth c 5 D ad cy 0 0 (Qi D ad cy below args s r0 h0) 0 [(0, .ref (ad 29)), (1, .int a1), (2, .int a2), (3, .int a3)] [] h := by
  unfold fX6_sheet at hf
  refine aw_iload_n C dX6_sheet_0 rfl 1 rfl ?_
  obtain ⟨r1, hc, hf⟩ := bR_some hf
  refine aw_callSi (As := [.int a1]) (rest := []) C (kX6_isSheet (l := l) (D := D) (ad := ad) (cy := cy) (tb := tb) C.2.2.2.2.2.2.2.2.1 hc) (fun ht _ => va_cwS 1 ht gX6_sheet_X6_isSheet rfl rfl rfl (by decide +kernel) ⟨Nat.le_of_ble_eq_true rfl, Nat.le_of_ble_eq_true rfl⟩) rfl rfl (Nat.le_of_ble_eq_true rfl) dX6_sheet_1 ?_
  refine aw_if_eq (tgt := 22) C dX6_sheet_4 (by decide) hf (fun hf => ?_) (fun hf => ?_)
  · refine aw_bipush (v := (-2)) C dX6_sheet_22 (by decide) ?_
    exact aw_iretW C dX6_sheet_24 hf
  refine aw_iload_n C dX6_sheet_7 rfl 2 rfl ?_
  refine aw_iconst (v := 0) C dX6_sheet_8 (by decide) ?_
  refine aw_iconst (v := 2) C dX6_sheet_9 (by decide) ?_
  obtain ⟨r2, hc, hf⟩ := bR_some hf
  refine aw_callSi (As := [.int a2, .int 0, .int 2]) (rest := []) C (kX6_in (l := l) (D := D) (ad := ad) (cy := cy) (tb := tb) C.2.2.2.2.2.2.2.2.1 hc) (fun ht _ => va_cwS 3 ht gX6_sheet_X6_in rfl rfl rfl (by decide +kernel) ⟨Nat.le_of_ble_eq_true rfl, Nat.le_of_ble_eq_true rfl⟩) rfl rfl (Nat.le_of_ble_eq_true rfl) dX6_sheet_10 ?_
  refine aw_if_eq (tgt := 22) C dX6_sheet_13 (by decide) hf (fun hf => ?_) (fun hf => ?_)
  · refine aw_bipush (v := (-2)) C dX6_sheet_22 (by decide) ?_
    exact aw_iretW C dX6_sheet_24 hf
  refine aw_iload_n C dX6_sheet_16 rfl 3 rfl ?_
  refine aw_bipush (v := 64) C dX6_sheet_17 (by decide) ?_
  refine aw_icmp_le (tgt := 25) C dX6_sheet_19 (by decide) hf (fun hf => ?_) (fun hf => ?_)
  · refine aw_iload_n C dX6_sheet_25 rfl 3 rfl ?_
    refine aw_if_ge (tgt := 35) C dX6_sheet_26 (by decide) hf (fun hf => ?_) (fun hf => ?_)
    · refine aw_aload_n C dX6_sheet_35 rfl 0 rfl ?_
      refine aw_get C (kd_lt rfl (by decide)) (ce_6 rfl) rfl hinX6_sheet_6 13 (by decide) rfl (by decide +kernel) rfl dX6_sheet_36 ?_
      refine aw_iload_n C dX6_sheet_39 rfl 1 rfl ?_
      refine aw_iload_n C dX6_sheet_40 rfl 2 rfl ?_
      refine aw_iast C rfl rfl hf dX6_sheet_41 (fun hf => ?_)
      refine aw_nmH hf (fun h3 hf => ?_)
      refine aw_aload_n C dX6_sheet_42 rfl 0 rfl ?_
      refine aw_get C (kd_lt rfl (by decide)) (ce_6 rfl) rfl hinX6_sheet_6 14 (by decide) rfl (by decide +kernel) rfl dX6_sheet_43 ?_
      refine aw_iload_n C dX6_sheet_46 rfl 1 rfl ?_
      refine aw_iload_n C dX6_sheet_47 rfl 3 rfl ?_
      refine aw_iast C rfl rfl hf dX6_sheet_48 (fun hf => ?_)
      refine aw_nmH hf (fun h4 hf => ?_)
      refine aw_bipush (v := 64) C dX6_sheet_49 (by decide) ?_
      refine aw_iload_n C dX6_sheet_51 rfl 1 rfl ?_
      refine aw_imul C dX6_sheet_52 ?_
      refine aw_nmI hf (fun v5 hf => ?_)
      refine aw_istore (lv1 := [(4, .int v5), (0, .ref (ad 29)), (1, .int a1), (2, .int a2), (3, .int a3)]) C dX6_sheet_53 (by decide) rfl ?_
      refine aw_sub [1, 2, 3, 4, 0] rfl ?_
      exact tX6_sheet_55 C   FU h4 v5 hf
    refine aw_aload_n C dX6_sheet_29 rfl 0 rfl ?_
    refine aw_iconst (v := 5) C dX6_sheet_30 (by decide) ?_
    obtain ⟨r7, h6, hc, hf⟩ := bW_some hf
    refine aw_callVi (As := [.int 5]) (rest := []) C rfl (by decide) rfl (kX6_meets (l := l) (D := D) (ad := ad) (cy := cy) (tb := tb) C.2.2.2.2.2.2.2.2.1 hc) (fun ht _ => cwV 1 ht gX6_sheet_X6_meets rfl rfl rfl (by decide +kernel) ⟨Nat.le_of_ble_eq_true rfl, Nat.le_of_ble_eq_true rfl⟩) rfl rfl (Nat.le_of_ble_eq_true rfl) dX6_sheet_31 ?_
    exact aw_iretW C dX6_sheet_34 hf
  refine aw_bipush (v := (-2)) C dX6_sheet_22 (by decide) ?_
  exact aw_iretW C dX6_sheet_24 hf
theorem kX6_sheet {h : AH} {a1 : Int32} {a2 : Int32} {a3 : Int32} {r0 : Int32} {h0 : AH} (hi : Inj ad) (hf : fX6_sheet h a1 a2 a3 = some (r0, h0)) : Ki l yX6_sheet wsX6_sheet rmX6_sheet D ad cy tb [.ref (ad 29), .int a1, .int a2, .int a3] h r0 h0 := met_i (lv := [(0, .ref (ad 29)), (1, .int a1), (2, .int a2), (3, .int a3)]) hi (by decide) rfl (Nat.le_of_ble_eq_true rfl) rfl rfl (fun _ _ _ _ _ _ _ _ C => tX6_sheet_0 C  hf)
set_option maxRecDepth 20000 in
theorem ggX5_lose_X5_isSheet : GoodIn wsX5_lose wsX5_isSheet := goodIn_r _ [5] (by decide +kernel) (by decide +kernel)
set_option maxRecDepth 20000 in
theorem gX5_lose_X5_isSheet : GoodIn wsX5_lose (va_wsS RX5 109 yX5_isSheet wsX5_isSheet) := goodIn_app (goodIn_of _ (by decide +kernel)) ggX5_lose_X5_isSheet
set_option maxRecDepth 20000 in
theorem ggX5_lose_X5_finding : GoodIn wsX5_lose wsX5_finding := goodIn_r _ [9, 10, 11, 12, 13, 14, 15, 16, 17, 18, 19] (by decide +kernel) (by decide +kernel)
set_option maxRecDepth 20000 in
theorem gX5_lose_X5_finding : GoodIn wsX5_lose (wsV RX5 116 RX5 yX5_finding wsX5_finding) := goodIn_app (goodIn_of _ (by decide +kernel)) ggX5_lose_X5_finding
theorem dX5_lose_0 : decode cX5_lose 0 = .ok (.iload_n 1, 1) := by decide +kernel
theorem dX5_lose_1 : decode cX5_lose 1 = .ok (.invokestatic 109, 3) := by decide +kernel
theorem dX5_lose_4 : decode cX5_lose 4 = .ok (.ifCond .ne 6, 3) := by decide +kernel
theorem dX5_lose_7 : decode cX5_lose 7 = .ok (.bipush (-2), 2) := by decide +kernel
theorem dX5_lose_9 : decode cX5_lose 9 = .ok (.ireturn, 1) := by decide +kernel
theorem dX5_lose_10 : decode cX5_lose 10 = .ok (.aload_n 0, 1) := by decide +kernel
theorem dX5_lose_11 : decode cX5_lose 11 = .ok (.getfield 46, 3) := by decide +kernel
theorem dX5_lose_14 : decode cX5_lose 14 = .ok (.iload_n 1, 1) := by decide +kernel
theorem dX5_lose_15 : decode cX5_lose 15 = .ok (.aaload, 1) := by decide +kernel
theorem dX5_lose_16 : decode cX5_lose 16 = .ok (.astore_n 2, 1) := by decide +kernel
theorem dX5_lose_17 : decode cX5_lose 17 = .ok (.aload_n 2, 1) := by decide +kernel
theorem dX5_lose_18 : decode cX5_lose 18 = .ok (.getfield 112, 3) := by decide +kernel
theorem dX5_lose_21 : decode cX5_lose 21 = .ok (.ifCond .eq 10, 3) := by decide +kernel
theorem dX5_lose_24 : decode cX5_lose 24 = .ok (.aload_n 0, 1) := by decide +kernel
theorem dX5_lose_25 : decode cX5_lose 25 = .ok (.bipush (-11), 2) := by decide +kernel
theorem dX5_lose_27 : decode cX5_lose 27 = .ok (.invokevirtual 116, 3) := by decide +kernel
theorem dX5_lose_30 : decode cX5_lose 30 = .ok (.ireturn, 1) := by decide +kernel
theorem dX5_lose_31 : decode cX5_lose 31 = .ok (.aload_n 2, 1) := by decide +kernel
theorem dX5_lose_32 : decode cX5_lose 32 = .ok (.iconst 1, 1) := by decide +kernel
theorem dX5_lose_33 : decode cX5_lose 33 = .ok (.putfield 112, 3) := by decide +kernel
theorem dX5_lose_36 : decode cX5_lose 36 = .ok (.aload_n 2, 1) := by decide +kernel
theorem dX5_lose_37 : decode cX5_lose 37 = .ok (.getfield 120, 3) := by decide +kernel
theorem dX5_lose_40 : decode cX5_lose 40 = .ok (.ireturn, 1) := by decide +kernel
abbrev rmX5_lose : Room := { frames := 1, cells := 0, slots := 0, locals := 21 }
set_option maxRecDepth 100000 in
theorem hinX5_lose_5 : ∀ w ∈ wsX50, w ∈ wsX5_lose := by decide +kernel
set_option maxRecDepth 100000 in
theorem hinX5_lose_3 : ∀ w ∈ wsX30, w ∈ wsX5_lose := by decide +kernel
set_option maxHeartbeats 4000000 in
set_option maxRecDepth 100000 in
theorem tX5_lose_0 {h : AH} {a1 : Int32} {r0 : Int32} {h0 : AH} (C : Cx p rmX5_lose s m args meth c RX5 cX5_lose 3 (some .int) wsX5_lose D ad cy tb 0 0) (hf : fX5_lose h a1 = some (r0, h0)) : AW p l e rmX5_lose s m args below meth c 3 D ad cy 0 0 (Qi D ad cy below args s r0 h0) 0 [(0, .ref (ad 0)), (1, .int a1)] [] h := by
  unfold fX5_lose at hf
  refine aw_iload_n C dX5_lose_0 rfl 1 rfl ?_
  obtain ⟨r1, hc, hf⟩ := bR_some hf
  refine aw_callSi (As := [.int a1]) (rest := []) C (kX5_isSheet (l := l) (D := D) (ad := ad) (cy := cy) (tb := tb) C.2.2.2.2.2.2.2.2.1 hc) (fun ht _ => va_cwS 1 ht gX5_lose_X5_isSheet rfl rfl rfl (by decide +kernel) ⟨Nat.le_of_ble_eq_true rfl, Nat.le_of_ble_eq_true rfl⟩) rfl rfl (Nat.le_of_ble_eq_true rfl) dX5_lose_1 ?_
  refine aw_if_ne (tgt := 10) C dX5_lose_4 (by decide) hf (fun hf => ?_) (fun hf => ?_)
  · refine aw_aload_n C dX5_lose_10 rfl 0 rfl ?_
    refine aw_get C (kd_lt rfl (by decide)) (ce_5 rfl) rfl hinX5_lose_5 6 (by decide) rfl (by decide +kernel) rfl dX5_lose_11 ?_
    refine aw_iload_n C dX5_lose_14 rfl 1 rfl ?_
    refine aw_aald C hf dX5_lose_15 (fun r2 hkr2 hf => ?_)
    refine aw_astore_n (lv1 := [(2, .ref (ad r2)), (0, .ref (ad 0)), (1, .int a1)]) C dX5_lose_16 rfl (by decide) rfl ?_
    refine aw_aload_n C dX5_lose_17 rfl 0 rfl ?_
    refine aw_getN (host := "StairCodes") C (kd_lt hkr2 (by decide)) (ce_3 hkr2) rfl hinX5_lose_3 0 (by decide) rfl (by decide +kernel) rfl dX5_lose_18 ?_
    refine aw_if_eq (tgt := 31) C dX5_lose_21 (by decide) hf (fun hf => ?_) (fun hf => ?_)
    · refine aw_aload_n C dX5_lose_31 rfl 0 rfl ?_
      refine aw_iconst (v := 1) C dX5_lose_32 (by decide) ?_
      refine aw_putN (ty := .boolean) (host := "StairCodes") C (kd_lt hkr2 (by decide)) (ce_3 hkr2) rfl hinX5_lose_3 tyX3 tyX3_ok nmX3 0 (by decide) rfl (by decide +kernel) rfl (by decide +kernel) rfl rfl (Nat.le_of_ble_eq_true rfl) (cs_3_0 hkr2) dX5_lose_33 ?_
      refine aw_nmH hf (fun h3 hf => ?_)
      refine aw_aload_n C dX5_lose_36 rfl 0 rfl ?_
      refine aw_getN (host := "StairCodes") C (kd_lt hkr2 (by decide)) (ce_3 hkr2) rfl hinX5_lose_3 2 (by decide) rfl (by decide +kernel) rfl dX5_lose_37 ?_
      exact aw_iretW C dX5_lose_40 hf
    refine aw_aload_n C dX5_lose_24 rfl 1 rfl ?_
    refine aw_bipush (v := (-11)) C dX5_lose_25 (by decide) ?_
    obtain ⟨r5, h4, hc, hf⟩ := bW_some hf
    refine aw_callVi (As := [.int (-11)]) (rest := []) C rfl (by decide) rfl (kX5_finding (l := l) (D := D) (ad := ad) (cy := cy) (tb := tb) C.2.2.2.2.2.2.2.2.1 hc) (fun ht _ => cwV 1 ht gX5_lose_X5_finding rfl rfl rfl (by decide +kernel) ⟨Nat.le_of_ble_eq_true rfl, Nat.le_of_ble_eq_true rfl⟩) rfl rfl (Nat.le_of_ble_eq_true rfl) dX5_lose_27 ?_
    exact aw_iretW C dX5_lose_30 hf
  refine aw_bipush (v := (-2)) C dX5_lose_7 (by decide) ?_
  exact aw_iretW C dX5_lose_9 hf
theorem kX5_lose {h : AH} {a1 : Int32} {r0 : Int32} {h0 : AH} (hi : Inj ad) (hf : fX5_lose h a1 = some (r0, h0)) : Ki l yX5_lose wsX5_lose rmX5_lose D ad cy tb [.ref (ad 0), .int a1] h r0 h0 := met_i (lv := [(0, .ref (ad 0)), (1, .int a1)]) hi (by decide) rfl (Nat.le_of_ble_eq_true rfl) rfl rfl (fun _ _ _ _ _ _ _ _ C => tX5_lose_0 C  hf)
set_option maxRecDepth 20000 in
theorem ggX6_lose_X6_isSheet : GoodIn wsX6_lose wsX6_isSheet := goodIn_r _ [6, 7, 8, 5, 9] (by decide +kernel) (by decide +kernel)
set_option maxRecDepth 20000 in
theorem gX6_lose_X6_isSheet : GoodIn wsX6_lose (va_wsS RX6 103 yX6_isSheet wsX6_isSheet) := goodIn_app (goodIn_of _ (by decide +kernel)) ggX6_lose_X6_isSheet
set_option maxRecDepth 20000 in
theorem ggX6_lose_X6_meets : GoodIn wsX6_lose wsX6_meets := goodIn_r _ [13, 14, 15, 16, 17, 18, 19, 20, 21, 22, 23, 24, 25, 26, 27, 28, 29, 30, 31, 32] (by decide +kernel) (by decide +kernel)
set_option maxRecDepth 20000 in
theorem gX6_lose_X6_meets : GoodIn wsX6_lose (wsV RX6 106 RX6 yX6_meets wsX6_meets) := goodIn_app (goodIn_of _ (by decide +kernel)) ggX6_lose_X6_meets
theorem dX6_lose_0 : decode cX6_lose 0 = .ok (.iload_n 1, 1) := by decide +kernel
theorem dX6_lose_1 : decode cX6_lose 1 = .ok (.invokestatic 103, 3) := by decide +kernel
theorem dX6_lose_4 : decode cX6_lose 4 = .ok (.ifCond .ne 6, 3) := by decide +kernel
theorem dX6_lose_7 : decode cX6_lose 7 = .ok (.bipush (-2), 2) := by decide +kernel
theorem dX6_lose_9 : decode cX6_lose 9 = .ok (.ireturn, 1) := by decide +kernel
theorem dX6_lose_10 : decode cX6_lose 10 = .ok (.aload_n 0, 1) := by decide +kernel
theorem dX6_lose_11 : decode cX6_lose 11 = .ok (.getfield 42, 3) := by decide +kernel
theorem dX6_lose_14 : decode cX6_lose 14 = .ok (.iload_n 1, 1) := by decide +kernel
theorem dX6_lose_15 : decode cX6_lose 15 = .ok (.iaload, 1) := by decide +kernel
theorem dX6_lose_16 : decode cX6_lose 16 = .ok (.iconst (-1), 1) := by decide +kernel
theorem dX6_lose_17 : decode cX6_lose 17 = .ok (.if_icmp .ne 9, 3) := by decide +kernel
theorem dX6_lose_20 : decode cX6_lose 20 = .ok (.aload_n 0, 1) := by decide +kernel
theorem dX6_lose_21 : decode cX6_lose 21 = .ok (.iconst 1, 1) := by decide +kernel
theorem dX6_lose_22 : decode cX6_lose 22 = .ok (.invokevirtual 106, 3) := by decide +kernel
theorem dX6_lose_25 : decode cX6_lose 25 = .ok (.ireturn, 1) := by decide +kernel
theorem dX6_lose_26 : decode cX6_lose 26 = .ok (.aload_n 0, 1) := by decide +kernel
theorem dX6_lose_27 : decode cX6_lose 27 = .ok (.getfield 42, 3) := by decide +kernel
theorem dX6_lose_30 : decode cX6_lose 30 = .ok (.iload_n 1, 1) := by decide +kernel
theorem dX6_lose_31 : decode cX6_lose 31 = .ok (.iconst (-1), 1) := by decide +kernel
theorem dX6_lose_32 : decode cX6_lose 32 = .ok (.iastore, 1) := by decide +kernel
theorem dX6_lose_33 : decode cX6_lose 33 = .ok (.aload_n 0, 1) := by decide +kernel
theorem dX6_lose_34 : decode cX6_lose 34 = .ok (.getfield 45, 3) := by decide +kernel
theorem dX6_lose_37 : decode cX6_lose 37 = .ok (.iload_n 1, 1) := by decide +kernel
theorem dX6_lose_38 : decode cX6_lose 38 = .ok (.iaload, 1) := by decide +kernel
theorem dX6_lose_39 : decode cX6_lose 39 = .ok (.ireturn, 1) := by decide +kernel
abbrev rmX6_lose : Room := { frames := 2, cells := 0, slots := 0, locals := 42 }
set_option maxRecDepth 100000 in
theorem hinX6_lose_6 : ∀ w ∈ wsX60, w ∈ wsX6_lose := by decide +kernel
set_option maxHeartbeats 4000000 in
set_option maxRecDepth 100000 in
theorem tX6_lose_0 {h : AH} {a1 : Int32} {r0 : Int32} {h0 : AH} (C : Cx p rmX6_lose s m args meth c RX6 cX6_lose 2 (some .int) wsX6_lose D ad cy tb 0 0) (hf : fX6_lose h a1 = some (r0, h0)) : AW p l e rmX6_lose s m args below meth c 2 D ad cy 0 0 (Qi D ad cy below args s r0 h0) 0 [(0, .ref (ad 29)), (1, .int a1)] [] h := by
  unfold fX6_lose at hf
  refine aw_iload_n C dX6_lose_0 rfl 1 rfl ?_
  obtain ⟨r1, hc, hf⟩ := bR_some hf
  refine aw_callSi (As := [.int a1]) (rest := []) C (kX6_isSheet (l := l) (D := D) (ad := ad) (cy := cy) (tb := tb) C.2.2.2.2.2.2.2.2.1 hc) (fun ht _ => va_cwS 1 ht gX6_lose_X6_isSheet rfl rfl rfl (by decide +kernel) ⟨Nat.le_of_ble_eq_true rfl, Nat.le_of_ble_eq_true rfl⟩) rfl rfl (Nat.le_of_ble_eq_true rfl) dX6_lose_1 ?_
  refine aw_if_ne (tgt := 10) C dX6_lose_4 (by decide) hf (fun hf => ?_) (fun hf => ?_)
  · refine aw_aload_n C dX6_lose_10 rfl 0 rfl ?_
    refine aw_get C (kd_lt rfl (by decide)) (ce_6 rfl) rfl hinX6_lose_6 13 (by decide) rfl (by decide +kernel) rfl dX6_lose_11 ?_
    refine aw_iload_n C dX6_lose_14 rfl 1 rfl ?_
    refine aw_iald C rfl rfl hf dX6_lose_15 (fun hf => ?_)
    refine aw_iconst (v := (-1)) C dX6_lose_16 (by decide) ?_
    refine aw_icmp_ne (tgt := 26) C dX6_lose_17 (by decide) hf (fun hf => ?_) (fun hf => ?_)
    · refine aw_aload_n C dX6_lose_26 rfl 0 rfl ?_
      refine aw_get C (kd_lt rfl (by decide)) (ce_6 rfl) rfl hinX6_lose_6 13 (by decide) rfl (by decide +kernel) rfl dX6_lose_27 ?_
      refine aw_iload_n C dX6_lose_30 rfl 1 rfl ?_
      refine aw_iconst (v := (-1)) C dX6_lose_31 (by decide) ?_
      refine aw_iast C rfl rfl hf dX6_lose_32 (fun hf => ?_)
      refine aw_nmH hf (fun h2 hf => ?_)
      refine aw_aload_n C dX6_lose_33 rfl 0 rfl ?_
      refine aw_get C (kd_lt rfl (by decide)) (ce_6 rfl) rfl hinX6_lose_6 14 (by decide) rfl (by decide +kernel) rfl dX6_lose_34 ?_
      refine aw_iload_n C dX6_lose_37 rfl 1 rfl ?_
      refine aw_iald C rfl rfl hf dX6_lose_38 (fun hf => ?_)
      exact aw_iretW C dX6_lose_39 hf
    refine aw_aload_n C dX6_lose_20 rfl 0 rfl ?_
    refine aw_iconst (v := 1) C dX6_lose_21 (by decide) ?_
    obtain ⟨r4, h3, hc, hf⟩ := bW_some hf
    refine aw_callVi (As := [.int 1]) (rest := []) C rfl (by decide) rfl (kX6_meets (l := l) (D := D) (ad := ad) (cy := cy) (tb := tb) C.2.2.2.2.2.2.2.2.1 hc) (fun ht _ => cwV 1 ht gX6_lose_X6_meets rfl rfl rfl (by decide +kernel) ⟨Nat.le_of_ble_eq_true rfl, Nat.le_of_ble_eq_true rfl⟩) rfl rfl (Nat.le_of_ble_eq_true rfl) dX6_lose_22 ?_
    exact aw_iretW C dX6_lose_25 hf
  refine aw_bipush (v := (-2)) C dX6_lose_7 (by decide) ?_
  exact aw_iretW C dX6_lose_9 hf
theorem kX6_lose {h : AH} {a1 : Int32} {r0 : Int32} {h0 : AH} (hi : Inj ad) (hf : fX6_lose h a1 = some (r0, h0)) : Ki l yX6_lose wsX6_lose rmX6_lose D ad cy tb [.ref (ad 29), .int a1] h r0 h0 := met_i (lv := [(0, .ref (ad 29)), (1, .int a1)]) hi (by decide) rfl (Nat.le_of_ble_eq_true rfl) rfl rfl (fun _ _ _ _ _ _ _ _ C => tX6_lose_0 C  hf)
theorem dX3_hasItem_0 : decode cX3_hasItem 0 = .ok (.iload_n 1, 1) := by decide +kernel
theorem dX3_hasItem_1 : decode cX3_hasItem 1 = .ok (.ifCond .lt 15, 3) := by decide +kernel
theorem dX3_hasItem_4 : decode cX3_hasItem 4 = .ok (.iload_n 1, 1) := by decide +kernel
theorem dX3_hasItem_5 : decode cX3_hasItem 5 = .ok (.aload_n 0, 1) := by decide +kernel
theorem dX3_hasItem_6 : decode cX3_hasItem 6 = .ok (.getfield 23, 3) := by decide +kernel
theorem dX3_hasItem_9 : decode cX3_hasItem 9 = .ok (.if_icmp .ge 7, 3) := by decide +kernel
theorem dX3_hasItem_12 : decode cX3_hasItem 12 = .ok (.iconst 1, 1) := by decide +kernel
theorem dX3_hasItem_13 : decode cX3_hasItem 13 = .ok (.goto 4, 3) := by decide +kernel
theorem dX3_hasItem_16 : decode cX3_hasItem 16 = .ok (.iconst 0, 1) := by decide +kernel
theorem dX3_hasItem_17 : decode cX3_hasItem 17 = .ok (.ireturn, 1) := by decide +kernel
abbrev rmX3_hasItem : Room := { frames := 0, cells := 0, slots := 0, locals := 0 }
set_option maxRecDepth 100000 in
theorem hinX3_hasItem_3 : ∀ w ∈ wsX30, w ∈ wsX3_hasItem := by decide +kernel
set_option maxHeartbeats 4000000 in
set_option maxRecDepth 100000 in
theorem tX3_hasItem_0 {h : AH} {a0 : Nat} {a1 : Int32} {r0 : Int32} (C : Cx p rmX3_hasItem s m args meth c RX3 cX3_hasItem 2 (some .boolean) wsX3_hasItem D ad cy tb 0 0) (hk0 : kd a0 = 3) (hf : fX3_hasItem h a0 a1 = some r0) : AW p l e rmX3_hasItem s m args below meth c 2 D ad cy 0 0 (Qi D ad cy below args s r0 h) 0 [(0, .ref (ad a0)), (1, .int a1)] [] h := by
  unfold fX3_hasItem at hf
  refine aw_iload_n C dX3_hasItem_0 rfl 1 rfl ?_
  refine aw_if_lt (tgt := 16) C dX3_hasItem_1 (by decide) hf (fun hf => ?_) (fun hf => ?_)
  · refine aw_iconst (v := 0) C dX3_hasItem_16 (by decide) ?_
    exact aw_zretR C (by decide) dX3_hasItem_17 hf
  refine aw_iload_n C dX3_hasItem_4 rfl 1 rfl ?_
  refine aw_aload_n C dX3_hasItem_5 rfl 0 rfl ?_
  refine aw_get C (kd_lt hk0 (by decide)) (ce_3 hk0) rfl hinX3_hasItem_3 2 (by decide) rfl (by decide +kernel) rfl dX3_hasItem_6 ?_
  refine aw_icmp_ge (tgt := 16) C dX3_hasItem_9 (by decide) hf (fun hf => ?_) (fun hf => ?_)
  · refine aw_iconst (v := 0) C dX3_hasItem_16 (by decide) ?_
    exact aw_zretR C (by decide) dX3_hasItem_17 hf
  refine aw_iconst (v := 1) C dX3_hasItem_12 (by decide) ?_
  refine aw_goto (tgt := 17) C dX3_hasItem_13 (by decide) ?_
  exact aw_zretR C (by decide) dX3_hasItem_17 hf
theorem kX3_hasItem {h : AH} {a0 : Nat} {a1 : Int32} {r0 : Int32} (hi : Inj ad) (hk0 : kd a0 = 3) (hf : fX3_hasItem h a0 a1 = some r0) : Ki l yX3_hasItem wsX3_hasItem rmX3_hasItem D ad cy tb [.ref (ad a0), .int a1] h r0 h := met_i (lv := [(0, .ref (ad a0)), (1, .int a1)]) hi (by decide) rfl (Nat.le_of_ble_eq_true rfl) rfl rfl (fun _ _ _ _ _ _ _ _ C => tX3_hasItem_0 C hk0 hf)
set_option maxRecDepth 20000 in
theorem ggX5_put_X5_isSheet : GoodIn wsX5_put wsX5_isSheet := goodIn_r _ [5] (by decide +kernel) (by decide +kernel)
set_option maxRecDepth 20000 in
theorem gX5_put_X5_isSheet : GoodIn wsX5_put (va_wsS RX5 109 yX5_isSheet wsX5_isSheet) := goodIn_app (goodIn_of _ (by decide +kernel)) ggX5_put_X5_isSheet
set_option maxRecDepth 20000 in
theorem ggX5_put_X5_isForm : GoodIn wsX5_put wsX5_isForm := goodIn_r _ [8] (by decide +kernel) (by decide +kernel)
set_option maxRecDepth 20000 in
theorem gX5_put_X5_isForm : GoodIn wsX5_put (va_wsS RX5 229 yX5_isForm wsX5_isForm) := goodIn_app (goodIn_of _ (by decide +kernel)) ggX5_put_X5_isForm
set_option maxRecDepth 20000 in
theorem ggX5_put_X5_finding : GoodIn wsX5_put wsX5_finding := goodIn_r _ [12, 13, 20, 21, 22, 23, 24, 25, 26, 27, 28] (by decide +kernel) (by decide +kernel)
set_option maxRecDepth 20000 in
theorem gX5_put_X5_finding : GoodIn wsX5_put (wsV RX5 116 RX5 yX5_finding wsX5_finding) := goodIn_app (goodIn_of _ (by decide +kernel)) ggX5_put_X5_finding
set_option maxRecDepth 20000 in
theorem ggX5_put_X3_hasItem : GoodIn wsX5_put wsX3_hasItem := goodIn_r _ [18, 19, 29, 30, 31, 32] (by decide +kernel) (by decide +kernel)
set_option maxRecDepth 20000 in
theorem gX5_put_X3_hasItem : GoodIn wsX5_put (wsV RX5 239 RX3 yX3_hasItem wsX3_hasItem) := goodIn_app (goodIn_of _ (by decide +kernel)) ggX5_put_X3_hasItem
theorem dX5_put_0 : decode cX5_put 0 = .ok (.iload_n 1, 1) := by decide +kernel
theorem dX5_put_1 : decode cX5_put 1 = .ok (.invokestatic 109, 3) := by decide +kernel
theorem dX5_put_4 : decode cX5_put 4 = .ok (.ifCond .eq 10, 3) := by decide +kernel
theorem dX5_put_7 : decode cX5_put 7 = .ok (.iload_n 2, 1) := by decide +kernel
theorem dX5_put_8 : decode cX5_put 8 = .ok (.invokestatic 229, 3) := by decide +kernel
theorem dX5_put_11 : decode cX5_put 11 = .ok (.ifCond .ne 6, 3) := by decide +kernel
theorem dX5_put_14 : decode cX5_put 14 = .ok (.bipush (-2), 2) := by decide +kernel
theorem dX5_put_16 : decode cX5_put 16 = .ok (.ireturn, 1) := by decide +kernel
theorem dX5_put_17 : decode cX5_put 17 = .ok (.aload_n 0, 1) := by decide +kernel
theorem dX5_put_18 : decode cX5_put 18 = .ok (.getfield 46, 3) := by decide +kernel
theorem dX5_put_21 : decode cX5_put 21 = .ok (.iload_n 1, 1) := by decide +kernel
theorem dX5_put_22 : decode cX5_put 22 = .ok (.aaload, 1) := by decide +kernel
theorem dX5_put_23 : decode cX5_put 23 = .ok (.astore 5, 2) := by decide +kernel
theorem dX5_put_25 : decode cX5_put 25 = .ok (.aload 5, 2) := by decide +kernel
theorem dX5_put_27 : decode cX5_put 27 = .ok (.getfield 112, 3) := by decide +kernel
theorem dX5_put_30 : decode cX5_put 30 = .ok (.ifCond .eq 10, 3) := by decide +kernel
theorem dX5_put_33 : decode cX5_put 33 = .ok (.aload_n 0, 1) := by decide +kernel
theorem dX5_put_34 : decode cX5_put 34 = .ok (.bipush (-11), 2) := by decide +kernel
theorem dX5_put_36 : decode cX5_put 36 = .ok (.invokevirtual 116, 3) := by decide +kernel
theorem dX5_put_39 : decode cX5_put 39 = .ok (.ireturn, 1) := by decide +kernel
theorem dX5_put_40 : decode cX5_put 40 = .ok (.aload 5, 2) := by decide +kernel
theorem dX5_put_42 : decode cX5_put 42 = .ok (.getfield 236, 3) := by decide +kernel
theorem dX5_put_45 : decode cX5_put 45 = .ok (.iload_n 2, 1) := by decide +kernel
theorem dX5_put_46 : decode cX5_put 46 = .ok (.if_icmp .eq 10, 3) := by decide +kernel
theorem dX5_put_49 : decode cX5_put 49 = .ok (.aload_n 0, 1) := by decide +kernel
theorem dX5_put_50 : decode cX5_put 50 = .ok (.bipush (-13), 2) := by decide +kernel
theorem dX5_put_52 : decode cX5_put 52 = .ok (.invokevirtual 116, 3) := by decide +kernel
theorem dX5_put_55 : decode cX5_put 55 = .ok (.ireturn, 1) := by decide +kernel
theorem dX5_put_56 : decode cX5_put 56 = .ok (.aload 5, 2) := by decide +kernel
theorem dX5_put_58 : decode cX5_put 58 = .ok (.iload_n 3, 1) := by decide +kernel
theorem dX5_put_59 : decode cX5_put 59 = .ok (.invokevirtual 239, 3) := by decide +kernel
theorem dX5_put_62 : decode cX5_put 62 = .ok (.ifCond .ne 10, 3) := by decide +kernel
theorem dX5_put_65 : decode cX5_put 65 = .ok (.aload_n 0, 1) := by decide +kernel
theorem dX5_put_66 : decode cX5_put 66 = .ok (.bipush (-12), 2) := by decide +kernel
theorem dX5_put_68 : decode cX5_put 68 = .ok (.invokevirtual 116, 3) := by decide +kernel
theorem dX5_put_71 : decode cX5_put 71 = .ok (.ireturn, 1) := by decide +kernel
theorem dX5_put_72 : decode cX5_put 72 = .ok (.aload 5, 2) := by decide +kernel
theorem dX5_put_74 : decode cX5_put 74 = .ok (.getfield 123, 3) := by decide +kernel
theorem dX5_put_77 : decode cX5_put 77 = .ok (.iload_n 3, 1) := by decide +kernel
theorem dX5_put_78 : decode cX5_put 78 = .ok (.iload_n 2, 1) := by decide +kernel
theorem dX5_put_79 : decode cX5_put 79 = .ok (.ifCond .ne 11, 3) := by decide +kernel
theorem dX5_put_82 : decode cX5_put 82 = .ok (.iload 4, 2) := by decide +kernel
theorem dX5_put_84 : decode cX5_put 84 = .ok (.iconst 1, 1) := by decide +kernel
theorem dX5_put_85 : decode cX5_put 85 = .ok (.iand, 1) := by decide +kernel
theorem dX5_put_86 : decode cX5_put 86 = .ok (.i2l, 1) := by decide +kernel
theorem dX5_put_87 : decode cX5_put 87 = .ok (.goto 6, 3) := by decide +kernel
theorem dX5_put_90 : decode cX5_put 90 = .ok (.iload 4, 2) := by decide +kernel
theorem dX5_put_92 : decode cX5_put 92 = .ok (.i2l, 1) := by decide +kernel
theorem dX5_put_93 : decode cX5_put 93 = .ok (.lastore, 1) := by decide +kernel
theorem dX5_put_94 : decode cX5_put 94 = .ok (.iconst 1, 1) := by decide +kernel
theorem dX5_put_95 : decode cX5_put 95 = .ok (.ireturn, 1) := by decide +kernel
abbrev rmX5_put : Room := { frames := 1, cells := 0, slots := 0, locals := 21 }
set_option maxRecDepth 100000 in
theorem hinX5_put_5 : ∀ w ∈ wsX50, w ∈ wsX5_put := by decide +kernel
set_option maxRecDepth 100000 in
theorem hinX5_put_3 : ∀ w ∈ wsX30, w ∈ wsX5_put := by decide +kernel
set_option maxHeartbeats 4000000 in
set_option maxRecDepth 100000 in
theorem tX5_put_93 {h : AH} {a1 : Int32} {a2 : Int32} {a3 : Int32} {a4 : Int32} {s0 : Nat} {s1 : Int32} {s2 : Int64} {r0 : Int32} {h0 : AH} (C : Cx p rmX5_put s m args meth c RX5 cX5_put 6 (some .int) wsX5_put D ad cy tb 0 0) (hk_s0 : kd s0 = 8) (hf : fX5_put_93 a1 a2 a3 a4 h s0 s1 s2 = some (r0, h0)) : AW p l e rmX5_put s m args below meth c 6 D ad cy 0 0 (Qi D ad cy below args s r0 h0) 93 [(0, .ref (ad 0)), (1, .int a1), (2, .int a2), (3, .int a3), (4, .int a4)] [.long s2, .int s1, .ref (ad s0)] h := by
  unfold fX5_put_93 at hf
  refine aw_last C hk_s0 rfl hf dX5_put_93 (fun hf => ?_)
  refine aw_nmH hf (fun h1 hf => ?_)
  refine aw_iconst (v := 1) C dX5_put_94 (by decide) ?_
  exact aw_iretW C dX5_put_95 hf
set_option maxHeartbeats 4000000 in
set_option maxRecDepth 100000 in
theorem tX5_put_0 {h : AH} {a1 : Int32} {a2 : Int32} {a3 : Int32} {a4 : Int32} {r0 : Int32} {h0 : AH} (C : Cx p rmX5_put s m args meth c RX5 cX5_put 6 (some .int) wsX5_put D ad cy tb 0 0) (hf : fX5_put h a1 a2 a3 a4 = some (r0, h0)) : AW p l e rmX5_put s m args below meth c 6 D ad cy 0 0 (Qi D ad cy below args s r0 h0) 0 [(0, .ref (ad 0)), (1, .int a1), (2, .int a2), (3, .int a3), (4, .int a4)] [] h := by
  unfold fX5_put at hf
  refine aw_iload_n C dX5_put_0 rfl 1 rfl ?_
  obtain ⟨r1, hc, hf⟩ := bR_some hf
  refine aw_callSi (As := [.int a1]) (rest := []) C (kX5_isSheet (l := l) (D := D) (ad := ad) (cy := cy) (tb := tb) C.2.2.2.2.2.2.2.2.1 hc) (fun ht _ => va_cwS 1 ht gX5_put_X5_isSheet rfl rfl rfl (by decide +kernel) ⟨Nat.le_of_ble_eq_true rfl, Nat.le_of_ble_eq_true rfl⟩) rfl rfl (Nat.le_of_ble_eq_true rfl) dX5_put_1 ?_
  refine aw_if_eq (tgt := 14) C dX5_put_4 (by decide) hf (fun hf => ?_) (fun hf => ?_)
  · refine aw_bipush (v := (-2)) C dX5_put_14 (by decide) ?_
    exact aw_iretW C dX5_put_16 hf
  refine aw_iload_n C dX5_put_7 rfl 2 rfl ?_
  obtain ⟨r2, hc, hf⟩ := bR_some hf
  refine aw_callSi (As := [.int a2]) (rest := []) C (kX5_isForm (l := l) (D := D) (ad := ad) (cy := cy) (tb := tb) C.2.2.2.2.2.2.2.2.1 hc) (fun ht _ => va_cwS 1 ht gX5_put_X5_isForm rfl rfl rfl (by decide +kernel) ⟨Nat.le_of_ble_eq_true rfl, Nat.le_of_ble_eq_true rfl⟩) rfl rfl (Nat.le_of_ble_eq_true rfl) dX5_put_8 ?_
  refine aw_if_ne (tgt := 17) C dX5_put_11 (by decide) hf (fun hf => ?_) (fun hf => ?_)
  · refine aw_aload_n C dX5_put_17 rfl 0 rfl ?_
    refine aw_get C (kd_lt rfl (by decide)) (ce_5 rfl) rfl hinX5_put_5 6 (by decide) rfl (by decide +kernel) rfl dX5_put_18 ?_
    refine aw_iload_n C dX5_put_21 rfl 1 rfl ?_
    refine aw_aald C hf dX5_put_22 (fun r3 hkr3 hf => ?_)
    refine aw_astore (lv1 := [(5, .ref (ad r3)), (0, .ref (ad 0)), (1, .int a1), (2, .int a2), (3, .int a3), (4, .int a4)]) C dX5_put_23 (by decide) rfl ?_
    refine aw_aload C dX5_put_25 0 rfl ?_
    refine aw_getN (host := "StairCodes") C (kd_lt hkr3 (by decide)) (ce_3 hkr3) rfl hinX5_put_3 0 (by decide) rfl (by decide +kernel) rfl dX5_put_27 ?_
    refine aw_if_eq (tgt := 40) C dX5_put_30 (by decide) hf (fun hf => ?_) (fun hf => ?_)
    · refine aw_aload C dX5_put_40 0 rfl ?_
      refine aw_getN (host := "StairCodes") C (kd_lt hkr3 (by decide)) (ce_3 hkr3) rfl hinX5_put_3 1 (by decide) rfl (by decide +kernel) rfl dX5_put_42 ?_
      refine aw_iload_n C dX5_put_45 rfl 3 rfl ?_
      refine aw_icmp_eq (tgt := 56) C dX5_put_46 (by decide) hf (fun hf => ?_) (fun hf => ?_)
      · refine aw_aload C dX5_put_56 0 rfl ?_
        refine aw_iload_n C dX5_put_58 rfl 4 rfl ?_
        obtain ⟨r4, hc, hf⟩ := bR_some hf
        refine aw_callVi (As := [.int a3]) (rest := []) C hkr3 (by decide) rfl (kX3_hasItem (l := l) (D := D) (ad := ad) (cy := cy) (tb := tb) C.2.2.2.2.2.2.2.2.1 hkr3 hc) (fun ht _ => cwV 1 ht gX5_put_X3_hasItem rfl rfl rfl (by decide +kernel) ⟨Nat.le_of_ble_eq_true rfl, Nat.le_of_ble_eq_true rfl⟩) rfl rfl (Nat.le_of_ble_eq_true rfl) dX5_put_59 ?_
        refine aw_if_ne (tgt := 72) C dX5_put_62 (by decide) hf (fun hf => ?_) (fun hf => ?_)
        · refine aw_aload C dX5_put_72 0 rfl ?_
          refine aw_getN (host := "StairCodes") C (kd_lt hkr3 (by decide)) (ce_3 hkr3) rfl hinX5_put_3 3 (by decide) rfl (by decide +kernel) rfl dX5_put_74 ?_
          refine aw_iload_n C dX5_put_77 rfl 4 rfl ?_
          refine aw_iload_n C dX5_put_78 rfl 3 rfl ?_
          refine aw_if_ne (tgt := 90) C dX5_put_79 (by decide) hf (fun hf => ?_) (fun hf => ?_)
          · refine aw_iload C dX5_put_90 5 rfl ?_
            refine aw_i2l C dX5_put_92 ?_
            refine aw_sub [1, 2, 3, 4, 5] rfl ?_
            exact tX5_put_93 C   (kd3a hkr3) hf
          refine aw_iload C dX5_put_82 5 rfl ?_
          refine aw_iconst (v := 1) C dX5_put_84 (by decide) ?_
          refine aw_iand C dX5_put_85 ?_
          refine aw_i2l C dX5_put_86 ?_
          refine aw_goto (tgt := 93) C dX5_put_87 (by decide) ?_
          refine aw_sub [1, 2, 3, 4, 5] rfl ?_
          exact tX5_put_93 C   (kd3a hkr3) hf
        refine aw_aload_n C dX5_put_65 rfl 1 rfl ?_
        refine aw_bipush (v := (-12)) C dX5_put_66 (by decide) ?_
        obtain ⟨r6, h5, hc, hf⟩ := bW_some hf
        refine aw_callVi (As := [.int (-12)]) (rest := []) C rfl (by decide) rfl (kX5_finding (l := l) (D := D) (ad := ad) (cy := cy) (tb := tb) C.2.2.2.2.2.2.2.2.1 hc) (fun ht _ => cwV 1 ht gX5_put_X5_finding rfl rfl rfl (by decide +kernel) ⟨Nat.le_of_ble_eq_true rfl, Nat.le_of_ble_eq_true rfl⟩) rfl rfl (Nat.le_of_ble_eq_true rfl) dX5_put_68 ?_
        exact aw_iretW C dX5_put_71 hf
      refine aw_aload_n C dX5_put_49 rfl 1 rfl ?_
      refine aw_bipush (v := (-13)) C dX5_put_50 (by decide) ?_
      obtain ⟨r8, h7, hc, hf⟩ := bW_some hf
      refine aw_callVi (As := [.int (-13)]) (rest := []) C rfl (by decide) rfl (kX5_finding (l := l) (D := D) (ad := ad) (cy := cy) (tb := tb) C.2.2.2.2.2.2.2.2.1 hc) (fun ht _ => cwV 1 ht gX5_put_X5_finding rfl rfl rfl (by decide +kernel) ⟨Nat.le_of_ble_eq_true rfl, Nat.le_of_ble_eq_true rfl⟩) rfl rfl (Nat.le_of_ble_eq_true rfl) dX5_put_52 ?_
      exact aw_iretW C dX5_put_55 hf
    refine aw_aload_n C dX5_put_33 rfl 1 rfl ?_
    refine aw_bipush (v := (-11)) C dX5_put_34 (by decide) ?_
    obtain ⟨r10, h9, hc, hf⟩ := bW_some hf
    refine aw_callVi (As := [.int (-11)]) (rest := []) C rfl (by decide) rfl (kX5_finding (l := l) (D := D) (ad := ad) (cy := cy) (tb := tb) C.2.2.2.2.2.2.2.2.1 hc) (fun ht _ => cwV 1 ht gX5_put_X5_finding rfl rfl rfl (by decide +kernel) ⟨Nat.le_of_ble_eq_true rfl, Nat.le_of_ble_eq_true rfl⟩) rfl rfl (Nat.le_of_ble_eq_true rfl) dX5_put_36 ?_
    exact aw_iretW C dX5_put_39 hf
  refine aw_bipush (v := (-2)) C dX5_put_14 (by decide) ?_
  exact aw_iretW C dX5_put_16 hf
theorem kX5_put {h : AH} {a1 : Int32} {a2 : Int32} {a3 : Int32} {a4 : Int32} {r0 : Int32} {h0 : AH} (hi : Inj ad) (hf : fX5_put h a1 a2 a3 a4 = some (r0, h0)) : Ki l yX5_put wsX5_put rmX5_put D ad cy tb [.ref (ad 0), .int a1, .int a2, .int a3, .int a4] h r0 h0 := met_i (lv := [(0, .ref (ad 0)), (1, .int a1), (2, .int a2), (3, .int a3), (4, .int a4)]) hi (by decide) rfl (Nat.le_of_ble_eq_true rfl) rfl rfl (fun _ _ _ _ _ _ _ _ C => tX5_put_0 C  hf)
