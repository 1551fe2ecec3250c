variable {p : Program} {l : Launch} {e : Env} {s : State} {m : MethodId} {args : Array Value} {below : List Frame} {meth : Method} {c : Code} {D : va_G} {ad : Nat → Nat} {cy : Nat → ClassId} {tb : Nat → Nat}
set_option maxRecDepth 20000 in
theorem ggX6_blocks_X6_in : GoodIn wsX6_blocks wsX6_in := goodIn_r _ [9] (by decide +kernel) (by decide +kernel)
set_option maxRecDepth 20000 in
theorem gX6_blocks_X6_in : GoodIn wsX6_blocks (va_wsS RX6 73 yX6_in wsX6_in) := goodIn_app (goodIn_of _ (by decide +kernel)) ggX6_blocks_X6_in
set_option maxRecDepth 20000 in
theorem ggX6_blocks_X6_sends : GoodIn wsX6_blocks wsX6_sends := goodIn_r _ [13, 14, 1, 4, 15, 16, 8, 17, 18, 19, 20, 21, 22, 23, 24, 25, 26, 27, 28, 29, 30, 31, 32, 33, 34, 35, 36, 37, 38, 39, 40, 41, 42, 43, 44] (by decide +kernel) (by decide +kernel)
set_option maxRecDepth 20000 in
theorem gX6_blocks_X6_sends : GoodIn wsX6_blocks (wsV RX6 88 RX6 yX6_sends wsX6_sends) := goodIn_app (goodIn_of _ (by decide +kernel)) ggX6_blocks_X6_sends
theorem dX6_blocks_0 : decode cX6_blocks 0 = .ok (.iload_n 1, 1) := by decide +kernel
theorem dX6_blocks_1 : decode cX6_blocks 1 = .ok (.iconst 2, 1) := by decide +kernel
theorem dX6_blocks_2 : decode cX6_blocks 2 = .ok (.bipush 6, 2) := by decide +kernel
theorem dX6_blocks_4 : decode cX6_blocks 4 = .ok (.invokestatic 73, 3) := by decide +kernel
theorem dX6_blocks_7 : decode cX6_blocks 7 = .ok (.ifCond .ne 6, 3) := by decide +kernel
theorem dX6_blocks_10 : decode cX6_blocks 10 = .ok (.bipush (-2), 2) := by decide +kernel
theorem dX6_blocks_12 : decode cX6_blocks 12 = .ok (.ireturn, 1) := by decide +kernel
theorem dX6_blocks_13 : decode cX6_blocks 13 = .ok (.aload_n 0, 1) := by decide +kernel
theorem dX6_blocks_14 : decode cX6_blocks 14 = .ok (.getfield 7, 3) := by decide +kernel
theorem dX6_blocks_17 : decode cX6_blocks 17 = .ok (.istore_n 2, 1) := by decide +kernel
theorem dX6_blocks_18 : decode cX6_blocks 18 = .ok (.aload_n 0, 1) := by decide +kernel
theorem dX6_blocks_19 : decode cX6_blocks 19 = .ok (.iload_n 1, 1) := by decide +kernel
theorem dX6_blocks_20 : decode cX6_blocks 20 = .ok (.putfield 7, 3) := by decide +kernel
theorem dX6_blocks_23 : decode cX6_blocks 23 = .ok (.iconst 0, 1) := by decide +kernel
theorem dX6_blocks_24 : decode cX6_blocks 24 = .ok (.istore_n 3, 1) := by decide +kernel
theorem dX6_blocks_25 : decode cX6_blocks 25 = .ok (.iload_n 3, 1) := by decide +kernel
theorem dX6_blocks_26 : decode cX6_blocks 26 = .ok (.sipush 448, 3) := by decide +kernel
theorem dX6_blocks_29 : decode cX6_blocks 29 = .ok (.if_icmp .ge 23, 3) := by decide +kernel
theorem dX6_blocks_32 : decode cX6_blocks 32 = .ok (.aload_n 0, 1) := by decide +kernel
theorem dX6_blocks_33 : decode cX6_blocks 33 = .ok (.getfield 21, 3) := by decide +kernel
theorem dX6_blocks_36 : decode cX6_blocks 36 = .ok (.iload_n 3, 1) := by decide +kernel
theorem dX6_blocks_37 : decode cX6_blocks 37 = .ok (.iconst 0, 1) := by decide +kernel
theorem dX6_blocks_38 : decode cX6_blocks 38 = .ok (.bastore, 1) := by decide +kernel
theorem dX6_blocks_39 : decode cX6_blocks 39 = .ok (.aload_n 0, 1) := by decide +kernel
theorem dX6_blocks_40 : decode cX6_blocks 40 = .ok (.getfield 24, 3) := by decide +kernel
theorem dX6_blocks_43 : decode cX6_blocks 43 = .ok (.iload_n 3, 1) := by decide +kernel
theorem dX6_blocks_44 : decode cX6_blocks 44 = .ok (.iconst 0, 1) := by decide +kernel
theorem dX6_blocks_45 : decode cX6_blocks 45 = .ok (.bastore, 1) := by decide +kernel
theorem dX6_blocks_46 : decode cX6_blocks 46 = .ok (.iinc 3 1, 3) := by decide +kernel
theorem dX6_blocks_49 : decode cX6_blocks 49 = .ok (.goto (-24), 3) := by decide +kernel
theorem dX6_blocks_52 : decode cX6_blocks 52 = .ok (.iconst 0, 1) := by decide +kernel
theorem dX6_blocks_53 : decode cX6_blocks 53 = .ok (.istore_n 3, 1) := by decide +kernel
theorem dX6_blocks_54 : decode cX6_blocks 54 = .ok (.iload_n 3, 1) := by decide +kernel
theorem dX6_blocks_55 : decode cX6_blocks 55 = .ok (.bipush 56, 2) := by decide +kernel
theorem dX6_blocks_57 : decode cX6_blocks 57 = .ok (.if_icmp .ge 16, 3) := by decide +kernel
theorem dX6_blocks_60 : decode cX6_blocks 60 = .ok (.aload_n 0, 1) := by decide +kernel
theorem dX6_blocks_61 : decode cX6_blocks 61 = .ok (.getfield 13, 3) := by decide +kernel
theorem dX6_blocks_64 : decode cX6_blocks 64 = .ok (.iload_n 3, 1) := by decide +kernel
theorem dX6_blocks_65 : decode cX6_blocks 65 = .ok (.iconst 0, 1) := by decide +kernel
theorem dX6_blocks_66 : decode cX6_blocks 66 = .ok (.iastore, 1) := by decide +kernel
theorem dX6_blocks_67 : decode cX6_blocks 67 = .ok (.iinc 3 1, 3) := by decide +kernel
theorem dX6_blocks_70 : decode cX6_blocks 70 = .ok (.goto (-16), 3) := by decide +kernel
theorem dX6_blocks_73 : decode cX6_blocks 73 = .ok (.aload_n 0, 1) := by decide +kernel
theorem dX6_blocks_74 : decode cX6_blocks 74 = .ok (.iconst 0, 1) := by decide +kernel
theorem dX6_blocks_75 : decode cX6_blocks 75 = .ok (.putfield 85, 3) := by decide +kernel
theorem dX6_blocks_78 : decode cX6_blocks 78 = .ok (.aload_n 0, 1) := by decide +kernel
theorem dX6_blocks_79 : decode cX6_blocks 79 = .ok (.invokevirtual 88, 3) := by decide +kernel
theorem dX6_blocks_82 : decode cX6_blocks 82 = .ok (.iload_n 2, 1) := by decide +kernel
theorem dX6_blocks_83 : decode cX6_blocks 83 = .ok (.ireturn, 1) := by decide +kernel
abbrev rmX6_blocks : Room := { frames := 3, cells := 0, slots := 0, locals := 72 }
set_option maxRecDepth 100000 in
theorem hinX6_blocks_6 : ∀ w ∈ wsX60, w ∈ wsX6_blocks := by decide +kernel
set_option maxHeartbeats 4000000 in
set_option maxRecDepth 100000 in
theorem tX6_blocks_54b {h : AH} {a1 : Int32} {k54 : AH → Int32 → Int32 → Option (Int32 × AH)} {x2 : Int32} {x3 : Int32} {r0 : Int32} {h0 : AH} (C : Cx p rmX6_blocks s m args meth c RX6 cX6_blocks 4 (some .int) wsX6_blocks D ad cy tb 0 0) (H54 : ∀ (h : AH) (x2 : Int32) (x3 : Int32), k54 h x2 x3 = some (r0, h0) → AW p l e rmX6_blocks s m args below meth c 4 D ad cy 0 0 (Qi D ad cy below args s r0 h0) 54 [(0, .ref (ad 29)), (1, .int a1), (2, .int x2), (3, .int x3)] [] h) (hf : fX6_blocks_54b k54 a1 h x2 x3 = some (r0, h0)) : AW p l e rmX6_blocks s m args below meth c 4 D ad cy 0 0 (Qi D ad cy below args s r0 h0) 54 [(0, .ref (ad 29)), (1, .int a1), (2, .int x2), (3, .int x3)] [] h := by
  unfold fX6_blocks_54b at hf
  refine aw_iload_n C dX6_blocks_54 rfl 3 rfl ?_
  refine aw_bipush (v := 56) C dX6_blocks_55 (by decide) ?_
  refine aw_icmp_ge (tgt := 73) C dX6_blocks_57 (by decide) hf (fun hf => ?_) (fun hf => ?_)
  · refine aw_aload_n C dX6_blocks_73 rfl 0 rfl ?_
    refine aw_iconst (v := 0) C dX6_blocks_74 (by decide) ?_
    refine aw_put (ty := .int) C (kd_lt rfl (by decide)) (ce_6 rfl) rfl hinX6_blocks_6 tyX6 tyX6_ok nmX6 7 (by decide) rfl (by decide +kernel) rfl (by decide +kernel) rfl rfl (Nat.le_of_ble_eq_true rfl) (cs_6_7 rfl) dX6_blocks_75 ?_
    refine aw_nmH hf (fun h1 hf => ?_)
    refine aw_aload_n C dX6_blocks_78 rfl 0 rfl ?_
    obtain ⟨h2, hc, hf⟩ := bR_some hf
    refine aw_callVv (As := []) (rest := []) C rfl (by decide) rfl (kX6_sends (l := l) (D := D) (ad := ad) (cy := cy) (tb := tb) C.2.2.2.2.2.2.2.2.1 hc) (fun ht _ => cwV 0 ht gX6_blocks_X6_sends rfl rfl rfl (by decide +kernel) ⟨Nat.le_of_ble_eq_true rfl, Nat.le_of_ble_eq_true rfl⟩) rfl rfl (Nat.le_of_ble_eq_true rfl) dX6_blocks_79 ?_
    refine aw_iload_n C dX6_blocks_82 rfl 2 rfl ?_
    exact aw_iretW C dX6_blocks_83 hf
  refine aw_aload_n C dX6_blocks_60 rfl 0 rfl ?_
  refine aw_get C (kd_lt rfl (by decide)) (ce_6 rfl) rfl hinX6_blocks_6 2 (by decide) rfl (by decide +kernel) rfl dX6_blocks_61 ?_
  refine aw_iload_n C dX6_blocks_64 rfl 3 rfl ?_
  refine aw_iconst (v := 0) C dX6_blocks_65 (by decide) ?_
  refine aw_iast C rfl rfl hf dX6_blocks_66 (fun hf => ?_)
  refine aw_nmH hf (fun h3 hf => ?_)
  obtain ⟨v4, hvv4, hf⟩ := nm_ex hf
  refine aw_iinc (j := 3) (v := v4) (lv1 := [(3, .int v4), (0, .ref (ad 29)), (1, .int a1), (2, .int x2)]) C dX6_blocks_67 rfl hvv4 (by decide) rfl ?_
  refine aw_goto (tgt := 54) C dX6_blocks_70 (by decide) ?_
  refine aw_sub [1, 2, 3, 0] rfl ?_
  exact H54 h3 x2 v4 hf
set_option maxHeartbeats 4000000 in
set_option maxRecDepth 100000 in
theorem tX6_blocks_54  {a1 : Int32} {r0 : Int32} {h0 : AH} (C : Cx p rmX6_blocks s m args meth c RX6 cX6_blocks 4 (some .int) wsX6_blocks D ad cy tb 0 0) : ∀ (n : Nat) (h : AH) (x2 : Int32) (x3 : Int32), fX6_blocks_54 a1 n h x2 x3 = some (r0, h0) → AW p l e rmX6_blocks s m args below meth c 4 D ad cy 0 0 (Qi D ad cy below args s r0 h0) 54 [(0, .ref (ad 29)), (1, .int a1), (2, .int x2), (3, .int x3)] [] h := by
  intro n
  induction n with
  | zero => intro h x2 x3 hf; cases hf
  | succ n ih => intro h x2 x3 hf; exact tX6_blocks_54b C  ih  hf
set_option maxHeartbeats 4000000 in
set_option maxRecDepth 100000 in
theorem tX6_blocks_25b {h : AH} {a1 : Int32} {k25 : AH → Int32 → Int32 → Option (Int32 × AH)} {x2 : Int32} {x3 : Int32} {r0 : Int32} {h0 : AH} (C : Cx p rmX6_blocks s m args meth c RX6 cX6_blocks 4 (some .int) wsX6_blocks D ad cy tb 0 0) (H25 : ∀ (h : AH) (x2 : Int32) (x3 : Int32), k25 h x2 x3 = some (r0, h0) → AW p l e rmX6_blocks s m args below meth c 4 D ad cy 0 0 (Qi D ad cy below args s r0 h0) 25 [(0, .ref (ad 29)), (1, .int a1), (2, .int x2), (3, .int x3)] [] h) (hf : fX6_blocks_25b k25 a1 h x2 x3 = some (r0, h0)) : AW p l e rmX6_blocks s m args below meth c 4 D ad cy 0 0 (Qi D ad cy below args s r0 h0) 25 [(0, .ref (ad 29)), (1, .int a1), (2, .int x2), (3, .int x3)] [] h := by
  unfold fX6_blocks_25b at hf
  refine aw_iload_n C dX6_blocks_25 rfl 3 rfl ?_
  refine aw_sipush (v := 448) C dX6_blocks_26 (by decide) ?_
  refine aw_icmp_ge (tgt := 52) C dX6_blocks_29 (by decide) hf (fun hf => ?_) (fun hf => ?_)
  · refine aw_iconst (v := 0) C dX6_blocks_52 (by decide) ?_
    refine aw_istore_n (lv1 := [(3, .int 0), (0, .ref (ad 29)), (1, .int a1), (2, .int x2)]) C dX6_blocks_53 rfl (by decide) rfl ?_
    refine aw_sub [1, 2, 3, 0] rfl ?_
    exact tX6_blocks_54 C   FU h x2 0 hf
  refine aw_aload_n C dX6_blocks_32 rfl 0 rfl ?_
  refine aw_get C (kd_lt rfl (by decide)) (ce_6 rfl) rfl hinX6_blocks_6 4 (by decide) rfl (by decide +kernel) rfl dX6_blocks_33 ?_
  refine aw_iload_n C dX6_blocks_36 rfl 3 rfl ?_
  refine aw_iconst (v := 0) C dX6_blocks_37 (by decide) ?_
  refine aw_zast C rfl rfl hf dX6_blocks_38 (fun hf => ?_)
  refine aw_nmH hf (fun h1 hf => ?_)
  refine aw_aload_n C dX6_blocks_39 rfl 0 rfl ?_
  refine aw_get C (kd_lt rfl (by decide)) (ce_6 rfl) rfl hinX6_blocks_6 5 (by decide) rfl (by decide +kernel) rfl dX6_blocks_40 ?_
  refine aw_iload_n C dX6_blocks_43 rfl 3 rfl ?_
  refine aw_iconst (v := 0) C dX6_blocks_44 (by decide) ?_
  refine aw_zast C rfl rfl hf dX6_blocks_45 (fun hf => ?_)
  refine aw_nmH hf (fun h2 hf => ?_)
  obtain ⟨v3, hvv3, hf⟩ := nm_ex hf
  refine aw_iinc (j := 3) (v := v3) (lv1 := [(3, .int v3), (0, .ref (ad 29)), (1, .int a1), (2, .int x2)]) C dX6_blocks_46 rfl hvv3 (by decide) rfl ?_
  refine aw_goto (tgt := 25) C dX6_blocks_49 (by decide) ?_
  refine aw_sub [1, 2, 3, 0] rfl ?_
  exact H25 h2 x2 v3 hf
set_option maxHeartbeats 4000000 in
set_option maxRecDepth 100000 in
theorem tX6_blocks_25  {a1 : Int32} {r0 : Int32} {h0 : AH} (C : Cx p rmX6_blocks s m args meth c RX6 cX6_blocks 4 (some .int) wsX6_blocks D ad cy tb 0 0) : ∀ (n : Nat) (h : AH) (x2 : Int32) (x3 : Int32), fX6_blocks_25 a1 n h x2 x3 = some (r0, h0) → AW p l e rmX6_blocks s m args below meth c 4 D ad cy 0 0 (Qi D ad cy below args s r0 h0) 25 [(0, .ref (ad 29)), (1, .int a1), (2, .int x2), (3, .int x3)] [] h := by
  intro n
  induction n with
  | zero => intro h x2 x3 hf; cases hf
  | succ n ih => intro h x2 x3 hf; exact tX6_blocks_25b C  ih  hf
set_option maxHeartbeats 4000000 in
set_option maxRecDepth 100000 in
theorem tX6_blocks_0 {h : AH} {a1 : Int32} {r0 : Int32} {h0 : AH} (C : Cx p rmX6_blocks s m args meth c RX6 cX6_blocks 4 (some .int) wsX6_blocks D ad cy tb 0 0) (hf : fX6_blocks h a1 = some (r0, h0)) : AW p l e rmX6_blocks s m args below meth c 4 D ad cy 0 0 (Qi D ad cy below args s r0 h0) 0 [(0, .ref (ad 29)), (1, .int a1)] [] h := by
  unfold fX6_blocks at hf
  refine aw_iload_n C dX6_blocks_0 rfl 1 rfl ?_
  refine aw_iconst (v := 2) C dX6_blocks_1 (by decide) ?_
  refine aw_bipush (v := 6) C dX6_blocks_2 (by decide) ?_
  obtain ⟨r1, hc, hf⟩ := bR_some hf
  refine aw_callSi (As := [.int a1, .int 2, .int 6]) (rest := []) C (kX6_in (l := l) (D := D) (ad := ad) (cy := cy) (tb := tb) C.2.2.2.2.2.2.2.2.1 hc) (fun ht _ => va_cwS 3 ht gX6_blocks_X6_in rfl rfl rfl (by decide +kernel) ⟨Nat.le_of_ble_eq_true rfl, Nat.le_of_ble_eq_true rfl⟩) rfl rfl (Nat.le_of_ble_eq_true rfl) dX6_blocks_4 ?_
  refine aw_if_ne (tgt := 13) C dX6_blocks_7 (by decide) hf (fun hf => ?_) (fun hf => ?_)
  · refine aw_aload_n C dX6_blocks_13 rfl 0 rfl ?_
    refine aw_get C (kd_lt rfl (by decide)) (ce_6 rfl) rfl hinX6_blocks_6 0 (by decide) rfl (by decide +kernel) rfl dX6_blocks_14 ?_
    refine aw_nmI hf (fun v2 hf => ?_)
    refine aw_istore_n (lv1 := [(2, .int v2), (0, .ref (ad 29)), (1, .int a1)]) C dX6_blocks_17 rfl (by decide) rfl ?_
    refine aw_aload_n C dX6_blocks_18 rfl 1 rfl ?_
    refine aw_iload_n C dX6_blocks_19 rfl 2 rfl ?_
    refine aw_put (ty := .int) C (kd_lt rfl (by decide)) (ce_6 rfl) rfl hinX6_blocks_6 tyX6 tyX6_ok nmX6 0 (by decide) rfl (by decide +kernel) rfl (by decide +kernel) rfl rfl (Nat.le_of_ble_eq_true rfl) (cs_6_0 rfl) dX6_blocks_20 ?_
    refine aw_nmH hf (fun h3 hf => ?_)
    refine aw_iconst (v := 0) C dX6_blocks_23 (by decide) ?_
    refine aw_istore_n (lv1 := [(3, .int 0), (2, .int v2), (0, .ref (ad 29)), (1, .int a1)]) C dX6_blocks_24 rfl (by decide) rfl ?_
    refine aw_sub [2, 3, 1, 0] rfl ?_
    exact tX6_blocks_25 C   FU h3 v2 0 hf
  refine aw_bipush (v := (-2)) C dX6_blocks_10 (by decide) ?_
  exact aw_iretW C dX6_blocks_12 hf
theorem kX6_blocks {h : AH} {a1 : Int32} {r0 : Int32} {h0 : AH} (hi : Inj ad) (hf : fX6_blocks h a1 = some (r0, h0)) : Ki l yX6_blocks wsX6_blocks rmX6_blocks D ad cy tb [.ref (ad 29), .int a1] h r0 h0 := met_i (lv := [(0, .ref (ad 29)), (1, .int a1)]) hi (by decide) rfl (Nat.le_of_ble_eq_true rfl) rfl rfl (fun _ _ _ _ _ _ _ _ C => tX6_blocks_0 C  hf)
theorem dX5_isBlock_0 : decode cX5_isBlock 0 = .ok (.iload_n 1, 1) := by decide +kernel
theorem dX5_isBlock_1 : decode cX5_isBlock 1 = .ok (.iconst 1, 1) := by decide +kernel
theorem dX5_isBlock_2 : decode cX5_isBlock 2 = .ok (.if_icmp .lt 18, 3) := by decide +kernel
theorem dX5_isBlock_5 : decode cX5_isBlock 5 = .ok (.iload_n 1, 1) := by decide +kernel
theorem dX5_isBlock_6 : decode cX5_isBlock 6 = .ok (.aload_n 0, 1) := by decide +kernel
theorem dX5_isBlock_7 : decode cX5_isBlock 7 = .ok (.getfield 12, 3) := by decide +kernel
theorem dX5_isBlock_10 : decode cX5_isBlock 10 = .ok (.getfield 58, 3) := by decide +kernel
theorem dX5_isBlock_13 : decode cX5_isBlock 13 = .ok (.if_icmp .gt 7, 3) := by decide +kernel
theorem dX5_isBlock_16 : decode cX5_isBlock 16 = .ok (.iconst 1, 1) := by decide +kernel
theorem dX5_isBlock_17 : decode cX5_isBlock 17 = .ok (.goto 4, 3) := by decide +kernel
theorem dX5_isBlock_20 : decode cX5_isBlock 20 = .ok (.iconst 0, 1) := by decide +kernel
theorem dX5_isBlock_21 : decode cX5_isBlock 21 = .ok (.ireturn, 1) := by decide +kernel
abbrev rmX5_isBlock : Room := { frames := 0, cells := 0, slots := 0, locals := 0 }
set_option maxRecDepth 100000 in
theorem hinX5_isBlock_5 : ∀ w ∈ wsX50, w ∈ wsX5_isBlock := by decide +kernel
set_option maxRecDepth 100000 in
theorem hinX5_isBlock_4 : ∀ w ∈ wsX40, w ∈ wsX5_isBlock := by decide +kernel
set_option maxHeartbeats 4000000 in
set_option maxRecDepth 100000 in
theorem tX5_isBlock_0 {h : AH} {a1 : Int32} {r0 : Int32} (C : Cx p rmX5_isBlock s m args meth c RX5 cX5_isBlock 2 (some .boolean) wsX5_isBlock D ad cy tb 0 0) (hf : fX5_isBlock h a1 = some r0) : AW p l e rmX5_isBlock s m args below meth c 2 D ad cy 0 0 (Qi D ad cy below args s r0 h) 0 [(0, .ref (ad 0)), (1, .int a1)] [] h := by
  unfold fX5_isBlock at hf
  refine aw_iload_n C dX5_isBlock_0 rfl 1 rfl ?_
  refine aw_iconst (v := 1) C dX5_isBlock_1 (by decide) ?_
  refine aw_icmp_lt (tgt := 20) C dX5_isBlock_2 (by decide) hf (fun hf => ?_) (fun hf => ?_)
  · refine aw_iconst (v := 0) C dX5_isBlock_20 (by decide) ?_
    exact aw_zretR C (by decide) dX5_isBlock_21 hf
  refine aw_iload_n C dX5_isBlock_5 rfl 1 rfl ?_
  refine aw_aload_n C dX5_isBlock_6 rfl 0 rfl ?_
  refine aw_get C (kd_lt rfl (by decide)) (ce_5 rfl) rfl hinX5_isBlock_5 0 (by decide) rfl (by decide +kernel) rfl dX5_isBlock_7 ?_
  refine aw_getN (host := "StairCodes") C (kd_lt rfl (by decide)) (ce_4 rfl) rfl hinX5_isBlock_4 0 (by decide) rfl (by decide +kernel) rfl dX5_isBlock_10 ?_
  refine aw_icmp_gt (tgt := 20) C dX5_isBlock_13 (by decide) hf (fun hf => ?_) (fun hf => ?_)
  · refine aw_iconst (v := 0) C dX5_isBlock_20 (by decide) ?_
    exact aw_zretR C (by decide) dX5_isBlock_21 hf
  refine aw_iconst (v := 1) C dX5_isBlock_16 (by decide) ?_
  refine aw_goto (tgt := 21) C dX5_isBlock_17 (by decide) ?_
  exact aw_zretR C (by decide) dX5_isBlock_21 hf
theorem kX5_isBlock {h : AH} {a1 : Int32} {r0 : Int32} (hi : Inj ad) (hf : fX5_isBlock h a1 = some r0) : Ki l yX5_isBlock wsX5_isBlock rmX5_isBlock D ad cy tb [.ref (ad 0), .int a1] h r0 h := met_i (lv := [(0, .ref (ad 0)), (1, .int a1)]) hi (by decide) rfl (Nat.le_of_ble_eq_true rfl) rfl rfl (fun _ _ _ _ _ _ _ _ C => tX5_isBlock_0 C  hf)
theorem dX5_isOctal_0 : decode cX5_isOctal 0 = .ok (.iload_n 0, 1) := by decide +kernel
theorem dX5_isOctal_1 : decode cX5_isOctal 1 = .ok (.ifCond .lt 13, 3) := by decide +kernel
theorem dX5_isOctal_4 : decode cX5_isOctal 4 = .ok (.iload_n 0, 1) := by decide +kernel
theorem dX5_isOctal_5 : decode cX5_isOctal 5 = .ok (.bipush 7, 2) := by decide +kernel
theorem dX5_isOctal_7 : decode cX5_isOctal 7 = .ok (.if_icmp .gt 7, 3) := by decide +kernel
theorem dX5_isOctal_10 : decode cX5_isOctal 10 = .ok (.iconst 1, 1) := by decide +kernel
theorem dX5_isOctal_11 : decode cX5_isOctal 11 = .ok (.goto 4, 3) := by decide +kernel
theorem dX5_isOctal_14 : decode cX5_isOctal 14 = .ok (.iconst 0, 1) := by decide +kernel
theorem dX5_isOctal_15 : decode cX5_isOctal 15 = .ok (.ireturn, 1) := by decide +kernel
abbrev rmX5_isOctal : Room := { frames := 0, cells := 0, slots := 0, locals := 0 }
set_option maxHeartbeats 4000000 in
set_option maxRecDepth 100000 in
theorem tX5_isOctal_0 {h : AH} {a0 : Int32} {r0 : Int32} (C : Cx p rmX5_isOctal s m args meth c RX5 cX5_isOctal 1 (some .boolean) wsX5_isOctal D ad cy tb 0 0) (hf : fX5_isOctal h a0 = some r0) : AW p l e rmX5_isOctal s m args below meth c 1 D ad cy 0 0 (Qi D ad cy below args s r0 h) 0 [(0, .int a0)] [] h := by
  unfold fX5_isOctal at hf
  refine aw_iload_n C dX5_isOctal_0 rfl 0 rfl ?_
  refine aw_if_lt (tgt := 14) C dX5_isOctal_1 (by decide) hf (fun hf => ?_) (fun hf => ?_)
  · refine aw_iconst (v := 0) C dX5_isOctal_14 (by decide) ?_
    exact aw_zretR C (by decide) dX5_isOctal_15 hf
  refine aw_iload_n C dX5_isOctal_4 rfl 0 rfl ?_
  refine aw_bipush (v := 7) C dX5_isOctal_5 (by decide) ?_
  refine aw_icmp_gt (tgt := 14) C dX5_isOctal_7 (by decide) hf (fun hf => ?_) (fun hf => ?_)
  · refine aw_iconst (v := 0) C dX5_isOctal_14 (by decide) ?_
    exact aw_zretR C (by decide) dX5_isOctal_15 hf
  refine aw_iconst (v := 1) C dX5_isOctal_10 (by decide) ?_
  refine aw_goto (tgt := 15) C dX5_isOctal_11 (by decide) ?_
  exact aw_zretR C (by decide) dX5_isOctal_15 hf
theorem kX5_isOctal {h : AH} {a0 : Int32} {r0 : Int32} (hi : Inj ad) (hf : fX5_isOctal h a0 = some r0) : Ki l yX5_isOctal wsX5_isOctal rmX5_isOctal D ad cy tb [.int a0] h r0 h := met_i (lv := [(0, .int a0)]) hi (by decide) rfl (Nat.le_of_ble_eq_true rfl) rfl rfl (fun _ _ _ _ _ _ _ _ C => tX5_isOctal_0 C  hf)
set_option maxRecDepth 20000 in
theorem ggX5_isWord_X5_isBlock : GoodIn wsX5_isWord wsX5_isBlock := goodIn_r _ [5, 6, 10, 11, 12, 13, 14, 15, 16, 17, 18, 19, 20, 21] (by decide +kernel) (by decide +kernel)
set_option maxRecDepth 20000 in
theorem gX5_isWord_X5_isBlock : GoodIn wsX5_isWord (wsV RX5 106 RX5 yX5_isBlock wsX5_isBlock) := goodIn_app (goodIn_of _ (by decide +kernel)) ggX5_isWord_X5_isBlock
set_option maxRecDepth 20000 in
theorem ggX5_isWord_X5_isOctal : GoodIn wsX5_isWord wsX5_isOctal := goodIn_r _ [9] (by decide +kernel) (by decide +kernel)
set_option maxRecDepth 20000 in
theorem gX5_isWord_X5_isOctal : GoodIn wsX5_isWord (va_wsS RX5 78 yX5_isOctal wsX5_isOctal) := goodIn_app (goodIn_of _ (by decide +kernel)) ggX5_isWord_X5_isOctal
theorem dX5_isWord_0 : decode cX5_isWord 0 = .ok (.aload_n 0, 1) := by decide +kernel
theorem dX5_isWord_1 : decode cX5_isWord 1 = .ok (.iload_n 1, 1) := by decide +kernel
theorem dX5_isWord_2 : decode cX5_isWord 2 = .ok (.invokevirtual 106, 3) := by decide +kernel
theorem dX5_isWord_5 : decode cX5_isWord 5 = .ok (.ifCond .eq 14, 3) := by decide +kernel
theorem dX5_isWord_8 : decode cX5_isWord 8 = .ok (.iload_n 2, 1) := by decide +kernel
theorem dX5_isWord_9 : decode cX5_isWord 9 = .ok (.invokestatic 78, 3) := by decide +kernel
theorem dX5_isWord_12 : decode cX5_isWord 12 = .ok (.ifCond .eq 7, 3) := by decide +kernel
theorem dX5_isWord_15 : decode cX5_isWord 15 = .ok (.iconst 1, 1) := by decide +kernel
theorem dX5_isWord_16 : decode cX5_isWord 16 = .ok (.goto 4, 3) := by decide +kernel
theorem dX5_isWord_19 : decode cX5_isWord 19 = .ok (.iconst 0, 1) := by decide +kernel
theorem dX5_isWord_20 : decode cX5_isWord 20 = .ok (.ireturn, 1) := by decide +kernel
abbrev rmX5_isWord : Room := { frames := 1, cells := 0, slots := 0, locals := 21 }
set_option maxHeartbeats 4000000 in
set_option maxRecDepth 100000 in
theorem tX5_isWord_0 {h : AH} {a1 : Int32} {a2 : Int32} {r0 : Int32} (C : Cx p rmX5_isWord s m args meth c RX5 cX5_isWord 3 (some .boolean) wsX5_isWord D ad cy tb 0 0) (hf : fX5_isWord h a1 a2 = some r0) : AW p l e rmX5_isWord s m args below meth c 3 D ad cy 0 0 (Qi D ad cy below args s r0 h) 0 [(0, .ref (ad 0)), (1, .int a1), (2, .int a2)] [] h := by
  unfold fX5_isWord at hf
  refine aw_aload_n C dX5_isWord_0 rfl 0 rfl ?_
  refine aw_iload_n C dX5_isWord_1 rfl 1 rfl ?_
  obtain ⟨r1, hc, hf⟩ := bR_some hf
  refine aw_callVi (As := [.int a1]) (rest := []) C rfl (by decide) rfl (kX5_isBlock (l := l) (D := D) (ad := ad) (cy := cy) (tb := tb) C.2.2.2.2.2.2.2.2.1 hc) (fun ht _ => cwV 1 ht gX5_isWord_X5_isBlock rfl rfl rfl (by decide +kernel) ⟨Nat.le_of_ble_eq_true rfl, Nat.le_of_ble_eq_true rfl⟩) rfl rfl (Nat.le_of_ble_eq_true rfl) dX5_isWord_2 ?_
  refine aw_if_eq (tgt := 19) C dX5_isWord_5 (by decide) hf (fun hf => ?_) (fun hf => ?_)
  · refine aw_iconst (v := 0) C dX5_isWord_19 (by decide) ?_
    exact aw_zretR C (by decide) dX5_isWord_20 hf
  refine aw_iload_n C dX5_isWord_8 rfl 2 rfl ?_
  obtain ⟨r2, hc, hf⟩ := bR_some hf
  refine aw_callSi (As := [.int a2]) (rest := []) C (kX5_isOctal (l := l) (D := D) (ad := ad) (cy := cy) (tb := tb) C.2.2.2.2.2.2.2.2.1 hc) (fun ht _ => va_cwS 1 ht gX5_isWord_X5_isOctal rfl rfl rfl (by decide +kernel) ⟨Nat.le_of_ble_eq_true rfl, Nat.le_of_ble_eq_true rfl⟩) rfl rfl (Nat.le_of_ble_eq_true rfl) dX5_isWord_9 ?_
  refine aw_if_eq (tgt := 19) C dX5_isWord_12 (by decide) hf (fun hf => ?_) (fun hf => ?_)
  · refine aw_iconst (v := 0) C dX5_isWord_19 (by decide) ?_
    exact aw_zretR C (by decide) dX5_isWord_20 hf
  refine aw_iconst (v := 1) C dX5_isWord_15 (by decide) ?_
  refine aw_goto (tgt := 20) C dX5_isWord_16 (by decide) ?_
  exact aw_zretR C (by decide) dX5_isWord_20 hf
theorem kX5_isWord {h : AH} {a1 : Int32} {a2 : Int32} {r0 : Int32} (hi : Inj ad) (hf : fX5_isWord h a1 a2 = some r0) : Ki l yX5_isWord wsX5_isWord rmX5_isWord D ad cy tb [.ref (ad 0), .int a1, .int a2] h r0 h := met_i (lv := [(0, .ref (ad 0)), (1, .int a1), (2, .int a2)]) hi (by decide) rfl (Nat.le_of_ble_eq_true rfl) rfl rfl (fun _ _ _ _ _ _ _ _ C => tX5_isWord_0 C  hf)
theorem dX5_bitOf_0 : decode cX5_bitOf 0 = .ok (.lload_n 0, 1) := by decide +kernel
theorem dX5_bitOf_1 : decode cX5_bitOf 1 = .ok (.iload_n 2, 1) := by decide +kernel
theorem dX5_bitOf_2 : decode cX5_bitOf 2 = .ok (.lushr, 1) := by decide +kernel
theorem dX5_bitOf_3 : decode cX5_bitOf 3 = .ok (.l2i, 1) := by decide +kernel
theorem dX5_bitOf_4 : decode cX5_bitOf 4 = .ok (.iconst 1, 1) := by decide +kernel
theorem dX5_bitOf_5 : decode cX5_bitOf 5 = .ok (.iand, 1) := by decide +kernel
theorem dX5_bitOf_6 : decode cX5_bitOf 6 = .ok (.ireturn, 1) := by decide +kernel
abbrev rmX5_bitOf : Room := { frames := 0, cells := 0, slots := 0, locals := 0 }
set_option maxHeartbeats 4000000 in
set_option maxRecDepth 100000 in
theorem tX5_bitOf_0 {h : AH} {a0 : Int64} {a2 : Int32} {r0 : Int32} (C : Cx p rmX5_bitOf s m args meth c RX5 cX5_bitOf 3 (some .int) wsX5_bitOf D ad cy tb 0 0) (hf : fX5_bitOf h a0 a2 = some r0) : AW p l e rmX5_bitOf s m args below meth c 3 D ad cy 0 0 (Qi D ad cy below args s r0 h) 0 [(0, .long a0), (2, .int a2)] [] h := by
  unfold fX5_bitOf at hf
  refine aw_lload_n C dX5_bitOf_0 rfl 0 rfl ?_
  refine aw_iload_n C dX5_bitOf_1 rfl 1 rfl ?_
  refine aw_lushr C dX5_bitOf_2 ?_
  refine aw_l2i C dX5_bitOf_3 ?_
  refine aw_iconst (v := 1) C dX5_bitOf_4 (by decide) ?_
  refine aw_iand C dX5_bitOf_5 ?_
  exact aw_iretR C dX5_bitOf_6 hf
theorem kX5_bitOf {h : AH} {a0 : Int64} {a2 : Int32} {r0 : Int32} (hi : Inj ad) (hf : fX5_bitOf h a0 a2 = some r0) : Ki l yX5_bitOf wsX5_bitOf rmX5_bitOf D ad cy tb [.long a0, .int a2] h r0 h := met_i (lv := [(0, .long a0), (2, .int a2)]) hi (by decide) rfl (Nat.le_of_ble_eq_true rfl) rfl rfl (fun _ _ _ _ _ _ _ _ C => tX5_bitOf_0 C  hf)
theorem dJ6_bitCount_0f7a4_0 : decode cJ6_bitCount_0f7a4 0 = .ok (.iload_n 0, 1) := by decide +kernel
theorem dJ6_bitCount_0f7a4_1 : decode cJ6_bitCount_0f7a4 1 = .ok (.iload_n 0, 1) := by decide +kernel
theorem dJ6_bitCount_0f7a4_2 : decode cJ6_bitCount_0f7a4 2 = .ok (.iconst 1, 1) := by decide +kernel
theorem dJ6_bitCount_0f7a4_3 : decode cJ6_bitCount_0f7a4 3 = .ok (.iushr, 1) := by decide +kernel
theorem dJ6_bitCount_0f7a4_4 : decode cJ6_bitCount_0f7a4 4 = .ok (.ldc_w 265, 3) := by decide +kernel
theorem dJ6_bitCount_0f7a4_7 : decode cJ6_bitCount_0f7a4 7 = .ok (.iand, 1) := by decide +kernel
theorem dJ6_bitCount_0f7a4_8 : decode cJ6_bitCount_0f7a4 8 = .ok (.isub, 1) := by decide +kernel
theorem dJ6_bitCount_0f7a4_9 : decode cJ6_bitCount_0f7a4 9 = .ok (.istore_n 0, 1) := by decide +kernel
theorem dJ6_bitCount_0f7a4_10 : decode cJ6_bitCount_0f7a4 10 = .ok (.iload_n 0, 1) := by decide +kernel
theorem dJ6_bitCount_0f7a4_11 : decode cJ6_bitCount_0f7a4 11 = .ok (.ldc_w 266, 3) := by decide +kernel
theorem dJ6_bitCount_0f7a4_14 : decode cJ6_bitCount_0f7a4 14 = .ok (.iand, 1) := by decide +kernel
theorem dJ6_bitCount_0f7a4_15 : decode cJ6_bitCount_0f7a4 15 = .ok (.iload_n 0, 1) := by decide +kernel
theorem dJ6_bitCount_0f7a4_16 : decode cJ6_bitCount_0f7a4 16 = .ok (.iconst 2, 1) := by decide +kernel
theorem dJ6_bitCount_0f7a4_17 : decode cJ6_bitCount_0f7a4 17 = .ok (.iushr, 1) := by decide +kernel
theorem dJ6_bitCount_0f7a4_18 : decode cJ6_bitCount_0f7a4 18 = .ok (.ldc_w 266, 3) := by decide +kernel
theorem dJ6_bitCount_0f7a4_21 : decode cJ6_bitCount_0f7a4 21 = .ok (.iand, 1) := by decide +kernel
theorem dJ6_bitCount_0f7a4_22 : decode cJ6_bitCount_0f7a4 22 = .ok (.iadd, 1) := by decide +kernel
theorem dJ6_bitCount_0f7a4_23 : decode cJ6_bitCount_0f7a4 23 = .ok (.istore_n 0, 1) := by decide +kernel
theorem dJ6_bitCount_0f7a4_24 : decode cJ6_bitCount_0f7a4 24 = .ok (.iload_n 0, 1) := by decide +kernel
theorem dJ6_bitCount_0f7a4_25 : decode cJ6_bitCount_0f7a4 25 = .ok (.iload_n 0, 1) := by decide +kernel
theorem dJ6_bitCount_0f7a4_26 : decode cJ6_bitCount_0f7a4 26 = .ok (.iconst 4, 1) := by decide +kernel
theorem dJ6_bitCount_0f7a4_27 : decode cJ6_bitCount_0f7a4 27 = .ok (.iushr, 1) := by decide +kernel
theorem dJ6_bitCount_0f7a4_28 : decode cJ6_bitCount_0f7a4 28 = .ok (.iadd, 1) := by decide +kernel
theorem dJ6_bitCount_0f7a4_29 : decode cJ6_bitCount_0f7a4 29 = .ok (.ldc_w 267, 3) := by decide +kernel
theorem dJ6_bitCount_0f7a4_32 : decode cJ6_bitCount_0f7a4 32 = .ok (.iand, 1) := by decide +kernel
theorem dJ6_bitCount_0f7a4_33 : decode cJ6_bitCount_0f7a4 33 = .ok (.istore_n 0, 1) := by decide +kernel
theorem dJ6_bitCount_0f7a4_34 : decode cJ6_bitCount_0f7a4 34 = .ok (.iload_n 0, 1) := by decide +kernel
theorem dJ6_bitCount_0f7a4_35 : decode cJ6_bitCount_0f7a4 35 = .ok (.iload_n 0, 1) := by decide +kernel
theorem dJ6_bitCount_0f7a4_36 : decode cJ6_bitCount_0f7a4 36 = .ok (.bipush 8, 2) := by decide +kernel
theorem dJ6_bitCount_0f7a4_38 : decode cJ6_bitCount_0f7a4 38 = .ok (.iushr, 1) := by decide +kernel
theorem dJ6_bitCount_0f7a4_39 : decode cJ6_bitCount_0f7a4 39 = .ok (.iadd, 1) := by decide +kernel
theorem dJ6_bitCount_0f7a4_40 : decode cJ6_bitCount_0f7a4 40 = .ok (.istore_n 0, 1) := by decide +kernel
theorem dJ6_bitCount_0f7a4_41 : decode cJ6_bitCount_0f7a4 41 = .ok (.iload_n 0, 1) := by decide +kernel
theorem dJ6_bitCount_0f7a4_42 : decode cJ6_bitCount_0f7a4 42 = .ok (.iload_n 0, 1) := by decide +kernel
theorem dJ6_bitCount_0f7a4_43 : decode cJ6_bitCount_0f7a4 43 = .ok (.bipush 16, 2) := by decide +kernel
theorem dJ6_bitCount_0f7a4_45 : decode cJ6_bitCount_0f7a4 45 = .ok (.iushr, 1) := by decide +kernel
theorem dJ6_bitCount_0f7a4_46 : decode cJ6_bitCount_0f7a4 46 = .ok (.iadd, 1) := by decide +kernel
theorem dJ6_bitCount_0f7a4_47 : decode cJ6_bitCount_0f7a4 47 = .ok (.istore_n 0, 1) := by decide +kernel
theorem dJ6_bitCount_0f7a4_48 : decode cJ6_bitCount_0f7a4 48 = .ok (.iload_n 0, 1) := by decide +kernel
theorem dJ6_bitCount_0f7a4_49 : decode cJ6_bitCount_0f7a4 49 = .ok (.bipush 63, 2) := by decide +kernel
theorem dJ6_bitCount_0f7a4_51 : decode cJ6_bitCount_0f7a4 51 = .ok (.iand, 1) := by decide +kernel
theorem dJ6_bitCount_0f7a4_52 : decode cJ6_bitCount_0f7a4 52 = .ok (.ireturn, 1) := by decide +kernel
abbrev rmJ6_bitCount_0f7a4 : Room := { frames := 0, cells := 0, slots := 0, locals := 0 }
set_option maxHeartbeats 4000000 in
set_option maxRecDepth 100000 in
theorem tJ6_bitCount_0f7a4_0 {h : AH} {a0 : Int32} {r0 : Int32} (C : Cx p rmJ6_bitCount_0f7a4 s m args meth c RJ6 cJ6_bitCount_0f7a4 1 (some .int) wsJ6_bitCount_0f7a4 D ad cy tb 0 0) (hf : fJ6_bitCount_0f7a4 h a0 = some r0) : AW p l e rmJ6_bitCount_0f7a4 s m args below meth c 1 D ad cy 0 0 (Qi D ad cy below args s r0 h) 0 [(0, .int a0)] [] h := by
  unfold fJ6_bitCount_0f7a4 at hf
  refine aw_iload_n C dJ6_bitCount_0f7a4_0 rfl 0 rfl ?_
  refine aw_iload_n C dJ6_bitCount_0f7a4_1 rfl 0 rfl ?_
  refine aw_iconst (v := 1) C dJ6_bitCount_0f7a4_2 (by decide) ?_
  refine aw_iushr C dJ6_bitCount_0f7a4_3 ?_
  refine aw_ldcw (v := 1431655765) C (by decide +kernel) dJ6_bitCount_0f7a4_4 ?_
  refine aw_iand C dJ6_bitCount_0f7a4_7 ?_
  refine aw_isub C dJ6_bitCount_0f7a4_8 ?_
  refine aw_nmI hf (fun v1 hf => ?_)
  refine aw_istore_n (lv1 := [(0, .int v1)]) C dJ6_bitCount_0f7a4_9 rfl (by decide) rfl ?_
  refine aw_iload_n C dJ6_bitCount_0f7a4_10 rfl 0 rfl ?_
  refine aw_ldcw (v := 858993459) C (by decide +kernel) dJ6_bitCount_0f7a4_11 ?_
  refine aw_iand C dJ6_bitCount_0f7a4_14 ?_
  refine aw_iload_n C dJ6_bitCount_0f7a4_15 rfl 0 rfl ?_
  refine aw_iconst (v := 2) C dJ6_bitCount_0f7a4_16 (by decide) ?_
  refine aw_iushr C dJ6_bitCount_0f7a4_17 ?_
  refine aw_ldcw (v := 858993459) C (by decide +kernel) dJ6_bitCount_0f7a4_18 ?_
  refine aw_iand C dJ6_bitCount_0f7a4_21 ?_
  refine aw_iadd C dJ6_bitCount_0f7a4_22 ?_
  refine aw_nmI hf (fun v2 hf => ?_)
  refine aw_istore_n (lv1 := [(0, .int v2)]) C dJ6_bitCount_0f7a4_23 rfl (by decide) rfl ?_
  refine aw_iload_n C dJ6_bitCount_0f7a4_24 rfl 0 rfl ?_
  refine aw_iload_n C dJ6_bitCount_0f7a4_25 rfl 0 rfl ?_
  refine aw_iconst (v := 4) C dJ6_bitCount_0f7a4_26 (by decide) ?_
  refine aw_iushr C dJ6_bitCount_0f7a4_27 ?_
  refine aw_iadd C dJ6_bitCount_0f7a4_28 ?_
  refine aw_ldcw (v := 252645135) C (by decide +kernel) dJ6_bitCount_0f7a4_29 ?_
  refine aw_iand C dJ6_bitCount_0f7a4_32 ?_
  refine aw_nmI hf (fun v3 hf => ?_)
  refine aw_istore_n (lv1 := [(0, .int v3)]) C dJ6_bitCount_0f7a4_33 rfl (by decide) rfl ?_
  refine aw_iload_n C dJ6_bitCount_0f7a4_34 rfl 0 rfl ?_
  refine aw_iload_n C dJ6_bitCount_0f7a4_35 rfl 0 rfl ?_
  refine aw_bipush (v := 8) C dJ6_bitCount_0f7a4_36 (by decide) ?_
  refine aw_iushr C dJ6_bitCount_0f7a4_38 ?_
  refine aw_iadd C dJ6_bitCount_0f7a4_39 ?_
  refine aw_nmI hf (fun v4 hf => ?_)
  refine aw_istore_n (lv1 := [(0, .int v4)]) C dJ6_bitCount_0f7a4_40 rfl (by decide) rfl ?_
  refine aw_iload_n C dJ6_bitCount_0f7a4_41 rfl 0 rfl ?_
  refine aw_iload_n C dJ6_bitCount_0f7a4_42 rfl 0 rfl ?_
  refine aw_bipush (v := 16) C dJ6_bitCount_0f7a4_43 (by decide) ?_
  refine aw_iushr C dJ6_bitCount_0f7a4_45 ?_
  refine aw_iadd C dJ6_bitCount_0f7a4_46 ?_
  refine aw_nmI hf (fun v5 hf => ?_)
  refine aw_istore_n (lv1 := [(0, .int v5)]) C dJ6_bitCount_0f7a4_47 rfl (by decide) rfl ?_
  refine aw_iload_n C dJ6_bitCount_0f7a4_48 rfl 0 rfl ?_
  refine aw_bipush (v := 63) C dJ6_bitCount_0f7a4_49 (by decide) ?_
  refine aw_iand C dJ6_bitCount_0f7a4_51 ?_
  exact aw_iretR C dJ6_bitCount_0f7a4_52 hf
theorem kJ6_bitCount_0f7a4 {h : AH} {a0 : Int32} {r0 : Int32} (hi : Inj ad) (hf : fJ6_bitCount_0f7a4 h a0 = some r0) : Ki l yJ6_bitCount_0f7a4 wsJ6_bitCount_0f7a4 rmJ6_bitCount_0f7a4 D ad cy tb [.int a0] h r0 h := met_i (lv := [(0, .int a0)]) hi (by decide) rfl (Nat.le_of_ble_eq_true rfl) rfl rfl (fun _ _ _ _ _ _ _ _ C => tJ6_bitCount_0f7a4_0 C  hf)
theorem dJ13_bitCount_95d88_0 : decode cJ13_bitCount_95d88 0 = .ok (.lload_n 0, 1) := by decide +kernel
theorem dJ13_bitCount_95d88_1 : decode cJ13_bitCount_95d88 1 = .ok (.lload_n 0, 1) := by decide +kernel
theorem dJ13_bitCount_95d88_2 : decode cJ13_bitCount_95d88 2 = .ok (.iconst 1, 1) := by decide +kernel
theorem dJ13_bitCount_95d88_3 : decode cJ13_bitCount_95d88 3 = .ok (.lushr, 1) := by decide +kernel
theorem dJ13_bitCount_95d88_4 : decode cJ13_bitCount_95d88 4 = .ok (.ldc2_w 314, 3) := by decide +kernel
theorem dJ13_bitCount_95d88_7 : decode cJ13_bitCount_95d88 7 = .ok (.land, 1) := by decide +kernel
theorem dJ13_bitCount_95d88_8 : decode cJ13_bitCount_95d88 8 = .ok (.lsub, 1) := by decide +kernel
theorem dJ13_bitCount_95d88_9 : decode cJ13_bitCount_95d88 9 = .ok (.lstore_n 0, 1) := by decide +kernel
theorem dJ13_bitCount_95d88_10 : decode cJ13_bitCount_95d88 10 = .ok (.lload_n 0, 1) := by decide +kernel
theorem dJ13_bitCount_95d88_11 : decode cJ13_bitCount_95d88 11 = .ok (.ldc2_w 316, 3) := by decide +kernel
theorem dJ13_bitCount_95d88_14 : decode cJ13_bitCount_95d88 14 = .ok (.land, 1) := by decide +kernel
theorem dJ13_bitCount_95d88_15 : decode cJ13_bitCount_95d88 15 = .ok (.lload_n 0, 1) := by decide +kernel
theorem dJ13_bitCount_95d88_16 : decode cJ13_bitCount_95d88 16 = .ok (.iconst 2, 1) := by decide +kernel
theorem dJ13_bitCount_95d88_17 : decode cJ13_bitCount_95d88 17 = .ok (.lushr, 1) := by decide +kernel
theorem dJ13_bitCount_95d88_18 : decode cJ13_bitCount_95d88 18 = .ok (.ldc2_w 316, 3) := by decide +kernel
theorem dJ13_bitCount_95d88_21 : decode cJ13_bitCount_95d88 21 = .ok (.land, 1) := by decide +kernel
theorem dJ13_bitCount_95d88_22 : decode cJ13_bitCount_95d88 22 = .ok (.ladd, 1) := by decide +kernel
theorem dJ13_bitCount_95d88_23 : decode cJ13_bitCount_95d88 23 = .ok (.lstore_n 0, 1) := by decide +kernel
theorem dJ13_bitCount_95d88_24 : decode cJ13_bitCount_95d88 24 = .ok (.lload_n 0, 1) := by decide +kernel
theorem dJ13_bitCount_95d88_25 : decode cJ13_bitCount_95d88 25 = .ok (.lload_n 0, 1) := by decide +kernel
theorem dJ13_bitCount_95d88_26 : decode cJ13_bitCount_95d88 26 = .ok (.iconst 4, 1) := by decide +kernel
theorem dJ13_bitCount_95d88_27 : decode cJ13_bitCount_95d88 27 = .ok (.lushr, 1) := by decide +kernel
theorem dJ13_bitCount_95d88_28 : decode cJ13_bitCount_95d88 28 = .ok (.ladd, 1) := by decide +kernel
theorem dJ13_bitCount_95d88_29 : decode cJ13_bitCount_95d88 29 = .ok (.ldc2_w 318, 3) := by decide +kernel
theorem dJ13_bitCount_95d88_32 : decode cJ13_bitCount_95d88 32 = .ok (.land, 1) := by decide +kernel
theorem dJ13_bitCount_95d88_33 : decode cJ13_bitCount_95d88 33 = .ok (.lstore_n 0, 1) := by decide +kernel
theorem dJ13_bitCount_95d88_34 : decode cJ13_bitCount_95d88 34 = .ok (.lload_n 0, 1) := by decide +kernel
theorem dJ13_bitCount_95d88_35 : decode cJ13_bitCount_95d88 35 = .ok (.lload_n 0, 1) := by decide +kernel
theorem dJ13_bitCount_95d88_36 : decode cJ13_bitCount_95d88 36 = .ok (.bipush 8, 2) := by decide +kernel
theorem dJ13_bitCount_95d88_38 : decode cJ13_bitCount_95d88 38 = .ok (.lushr, 1) := by decide +kernel
theorem dJ13_bitCount_95d88_39 : decode cJ13_bitCount_95d88 39 = .ok (.ladd, 1) := by decide +kernel
theorem dJ13_bitCount_95d88_40 : decode cJ13_bitCount_95d88 40 = .ok (.lstore_n 0, 1) := by decide +kernel
theorem dJ13_bitCount_95d88_41 : decode cJ13_bitCount_95d88 41 = .ok (.lload_n 0, 1) := by decide +kernel
theorem dJ13_bitCount_95d88_42 : decode cJ13_bitCount_95d88 42 = .ok (.lload_n 0, 1) := by decide +kernel
theorem dJ13_bitCount_95d88_43 : decode cJ13_bitCount_95d88 43 = .ok (.bipush 16, 2) := by decide +kernel
theorem dJ13_bitCount_95d88_45 : decode cJ13_bitCount_95d88 45 = .ok (.lushr, 1) := by decide +kernel
theorem dJ13_bitCount_95d88_46 : decode cJ13_bitCount_95d88 46 = .ok (.ladd, 1) := by decide +kernel
theorem dJ13_bitCount_95d88_47 : decode cJ13_bitCount_95d88 47 = .ok (.lstore_n 0, 1) := by decide +kernel
theorem dJ13_bitCount_95d88_48 : decode cJ13_bitCount_95d88 48 = .ok (.lload_n 0, 1) := by decide +kernel
theorem dJ13_bitCount_95d88_49 : decode cJ13_bitCount_95d88 49 = .ok (.lload_n 0, 1) := by decide +kernel
theorem dJ13_bitCount_95d88_50 : decode cJ13_bitCount_95d88 50 = .ok (.bipush 32, 2) := by decide +kernel
theorem dJ13_bitCount_95d88_52 : decode cJ13_bitCount_95d88 52 = .ok (.lushr, 1) := by decide +kernel
theorem dJ13_bitCount_95d88_53 : decode cJ13_bitCount_95d88 53 = .ok (.ladd, 1) := by decide +kernel
theorem dJ13_bitCount_95d88_54 : decode cJ13_bitCount_95d88 54 = .ok (.lstore_n 0, 1) := by decide +kernel
theorem dJ13_bitCount_95d88_55 : decode cJ13_bitCount_95d88 55 = .ok (.lload_n 0, 1) := by decide +kernel
theorem dJ13_bitCount_95d88_56 : decode cJ13_bitCount_95d88 56 = .ok (.l2i, 1) := by decide +kernel
theorem dJ13_bitCount_95d88_57 : decode cJ13_bitCount_95d88 57 = .ok (.bipush 127, 2) := by decide +kernel
theorem dJ13_bitCount_95d88_59 : decode cJ13_bitCount_95d88 59 = .ok (.iand, 1) := by decide +kernel
theorem dJ13_bitCount_95d88_60 : decode cJ13_bitCount_95d88 60 = .ok (.ireturn, 1) := by decide +kernel
abbrev rmJ13_bitCount_95d88 : Room := { frames := 0, cells := 0, slots := 0, locals := 0 }
set_option maxHeartbeats 4000000 in
set_option maxRecDepth 100000 in
theorem tJ13_bitCount_95d88_0 {h : AH} {a0 : Int64} {r0 : Int32} (C : Cx p rmJ13_bitCount_95d88 s m args meth c RJ13 cJ13_bitCount_95d88 2 (some .int) wsJ13_bitCount_95d88 D ad cy tb 0 0) (hf : fJ13_bitCount_95d88 h a0 = some r0) : AW p l e rmJ13_bitCount_95d88 s m args below meth c 2 D ad cy 0 0 (Qi D ad cy below args s r0 h) 0 [(0, .long a0)] [] h := by
  unfold fJ13_bitCount_95d88 at hf
  refine aw_lload_n C dJ13_bitCount_95d88_0 rfl 0 rfl ?_
  refine aw_lload_n C dJ13_bitCount_95d88_1 rfl 0 rfl ?_
  refine aw_iconst (v := 1) C dJ13_bitCount_95d88_2 (by decide) ?_
  refine aw_lushr C dJ13_bitCount_95d88_3 ?_
  refine aw_ldc2 (v := 6148914691236517205) C (by decide +kernel) dJ13_bitCount_95d88_4 ?_
  refine aw_land C dJ13_bitCount_95d88_7 ?_
  refine aw_lsub C dJ13_bitCount_95d88_8 ?_
  refine aw_nmL hf (fun v1 hf => ?_)
  refine aw_lstore_n (lv1 := [(0, .long v1)]) C dJ13_bitCount_95d88_9 rfl (by decide) rfl ?_
  refine aw_lload_n C dJ13_bitCount_95d88_10 rfl 0 rfl ?_
  refine aw_ldc2 (v := 3689348814741910323) C (by decide +kernel) dJ13_bitCount_95d88_11 ?_
  refine aw_land C dJ13_bitCount_95d88_14 ?_
  refine aw_lload_n C dJ13_bitCount_95d88_15 rfl 0 rfl ?_
  refine aw_iconst (v := 2) C dJ13_bitCount_95d88_16 (by decide) ?_
  refine aw_lushr C dJ13_bitCount_95d88_17 ?_
  refine aw_ldc2 (v := 3689348814741910323) C (by decide +kernel) dJ13_bitCount_95d88_18 ?_
  refine aw_land C dJ13_bitCount_95d88_21 ?_
  refine aw_ladd C dJ13_bitCount_95d88_22 ?_
  refine aw_nmL hf (fun v2 hf => ?_)
  refine aw_lstore_n (lv1 := [(0, .long v2)]) C dJ13_bitCount_95d88_23 rfl (by decide) rfl ?_
  refine aw_lload_n C dJ13_bitCount_95d88_24 rfl 0 rfl ?_
  refine aw_lload_n C dJ13_bitCount_95d88_25 rfl 0 rfl ?_
  refine aw_iconst (v := 4) C dJ13_bitCount_95d88_26 (by decide) ?_
  refine aw_lushr C dJ13_bitCount_95d88_27 ?_
  refine aw_ladd C dJ13_bitCount_95d88_28 ?_
  refine aw_ldc2 (v := 1085102592571150095) C (by decide +kernel) dJ13_bitCount_95d88_29 ?_
  refine aw_land C dJ13_bitCount_95d88_32 ?_
  refine aw_nmL hf (fun v3 hf => ?_)
  refine aw_lstore_n (lv1 := [(0, .long v3)]) C dJ13_bitCount_95d88_33 rfl (by decide) rfl ?_
  refine aw_lload_n C dJ13_bitCount_95d88_34 rfl 0 rfl ?_
  refine aw_lload_n C dJ13_bitCount_95d88_35 rfl 0 rfl ?_
  refine aw_bipush (v := 8) C dJ13_bitCount_95d88_36 (by decide) ?_
  refine aw_lushr C dJ13_bitCount_95d88_38 ?_
  refine aw_ladd C dJ13_bitCount_95d88_39 ?_
  refine aw_nmL hf (fun v4 hf => ?_)
  refine aw_lstore_n (lv1 := [(0, .long v4)]) C dJ13_bitCount_95d88_40 rfl (by decide) rfl ?_
  refine aw_lload_n C dJ13_bitCount_95d88_41 rfl 0 rfl ?_
  refine aw_lload_n C dJ13_bitCount_95d88_42 rfl 0 rfl ?_
  refine aw_bipush (v := 16) C dJ13_bitCount_95d88_43 (by decide) ?_
  refine aw_lushr C dJ13_bitCount_95d88_45 ?_
  refine aw_ladd C dJ13_bitCount_95d88_46 ?_
  refine aw_nmL hf (fun v5 hf => ?_)
  refine aw_lstore_n (lv1 := [(0, .long v5)]) C dJ13_bitCount_95d88_47 rfl (by decide) rfl ?_
  refine aw_lload_n C dJ13_bitCount_95d88_48 rfl 0 rfl ?_
  refine aw_lload_n C dJ13_bitCount_95d88_49 rfl 0 rfl ?_
  refine aw_bipush (v := 32) C dJ13_bitCount_95d88_50 (by decide) ?_
  refine aw_lushr C dJ13_bitCount_95d88_52 ?_
  refine aw_ladd C dJ13_bitCount_95d88_53 ?_
  refine aw_nmL hf (fun v6 hf => ?_)
  refine aw_lstore_n (lv1 := [(0, .long v6)]) C dJ13_bitCount_95d88_54 rfl (by decide) rfl ?_
  refine aw_lload_n C dJ13_bitCount_95d88_55 rfl 0 rfl ?_
  refine aw_l2i C dJ13_bitCount_95d88_56 ?_
  refine aw_bipush (v := 127) C dJ13_bitCount_95d88_57 (by decide) ?_
  refine aw_iand C dJ13_bitCount_95d88_59 ?_
  exact aw_iretR C dJ13_bitCount_95d88_60 hf
theorem kJ13_bitCount_95d88 {h : AH} {a0 : Int64} {r0 : Int32} (hi : Inj ad) (hf : fJ13_bitCount_95d88 h a0 = some r0) : Ki l yJ13_bitCount_95d88 wsJ13_bitCount_95d88 rmJ13_bitCount_95d88 D ad cy tb [.long a0] h r0 h := met_i (lv := [(0, .long a0)]) hi (by decide) rfl (Nat.le_of_ble_eq_true rfl) rfl rfl (fun _ _ _ _ _ _ _ _ C => tJ13_bitCount_95d88_0 C  hf)
set_option maxRecDepth 20000 in
theorem ggX2_soundRow_X5_bitOf : GoodIn wsX2_soundRow wsX5_bitOf := goodIn_r _ [6] (by decide +kernel) (by decide +kernel)
set_option maxRecDepth 20000 in
theorem gX2_soundRow_X5_bitOf_n32 : GoodIn wsX2_soundRow (wsX5_bitOf) := ggX2_soundRow_X5_bitOf
set_option maxRecDepth 20000 in
theorem ggX2_soundRow_J6_bitCount_0f7a4 : GoodIn wsX2_soundRow wsJ6_bitCount_0f7a4 := goodIn_r _ [10, 11, 12, 13] (by decide +kernel) (by decide +kernel)
set_option maxRecDepth 20000 in
theorem gX2_soundRow_J6_bitCount_0f7a4 : GoodIn wsX2_soundRow (va_wsS RX2 39 yJ6_bitCount_0f7a4 wsJ6_bitCount_0f7a4) := goodIn_app (goodIn_of _ (by decide +kernel)) ggX2_soundRow_J6_bitCount_0f7a4
set_option maxRecDepth 20000 in
theorem ggX2_soundRow_J13_bitCount_95d88 : GoodIn wsX2_soundRow wsJ13_bitCount_95d88 := goodIn_r _ [17, 18, 19, 20] (by decide +kernel) (by decide +kernel)
set_option maxRecDepth 20000 in
theorem gX2_soundRow_J13_bitCount_95d88 : GoodIn wsX2_soundRow (va_wsS RX2 47 yJ13_bitCount_95d88 wsJ13_bitCount_95d88) := goodIn_app (goodIn_of _ (by decide +kernel)) ggX2_soundRow_J13_bitCount_95d88
theorem dX2_soundRow_0 : decode cX2_soundRow 0 = .ok (.aload_n 0, 1) := by decide +kernel
theorem dX2_soundRow_1 : decode cX2_soundRow 1 = .ok (.getfield 9, 3) := by decide +kernel
theorem dX2_soundRow_4 : decode cX2_soundRow 4 = .ok (.bipush 8, 2) := by decide +kernel
theorem dX2_soundRow_6 : decode cX2_soundRow 6 = .ok (.iload_n 1, 1) := by decide +kernel
theorem dX2_soundRow_7 : decode cX2_soundRow 7 = .ok (.imul, 1) := by decide +kernel
theorem dX2_soundRow_8 : decode cX2_soundRow 8 = .ok (.iload_n 2, 1) := by decide +kernel
theorem dX2_soundRow_9 : decode cX2_soundRow 9 = .ok (.iadd, 1) := by decide +kernel
theorem dX2_soundRow_10 : decode cX2_soundRow 10 = .ok (.iaload, 1) := by decide +kernel
theorem dX2_soundRow_11 : decode cX2_soundRow 11 = .ok (.istore_n 3, 1) := by decide +kernel
theorem dX2_soundRow_12 : decode cX2_soundRow 12 = .ok (.iconst 0, 1) := by decide +kernel
theorem dX2_soundRow_13 : decode cX2_soundRow 13 = .ok (.istore 4, 2) := by decide +kernel
theorem dX2_soundRow_15 : decode cX2_soundRow 15 = .ok (.iconst 0, 1) := by decide +kernel
theorem dX2_soundRow_16 : decode cX2_soundRow 16 = .ok (.istore 5, 2) := by decide +kernel
theorem dX2_soundRow_18 : decode cX2_soundRow 18 = .ok (.iload 5, 2) := by decide +kernel
theorem dX2_soundRow_20 : decode cX2_soundRow 20 = .ok (.bipush 8, 2) := by decide +kernel
theorem dX2_soundRow_22 : decode cX2_soundRow 22 = .ok (.if_icmp .ge 41, 3) := by decide +kernel
theorem dX2_soundRow_25 : decode cX2_soundRow 25 = .ok (.aload_n 0, 1) := by decide +kernel
theorem dX2_soundRow_26 : decode cX2_soundRow 26 = .ok (.getfield 15, 3) := by decide +kernel
theorem dX2_soundRow_29 : decode cX2_soundRow 29 = .ok (.iload_n 1, 1) := by decide +kernel
theorem dX2_soundRow_30 : decode cX2_soundRow 30 = .ok (.iconst 1, 1) := by decide +kernel
theorem dX2_soundRow_31 : decode cX2_soundRow 31 = .ok (.isub, 1) := by decide +kernel
theorem dX2_soundRow_32 : decode cX2_soundRow 32 = .ok (.laload, 1) := by decide +kernel
theorem dX2_soundRow_33 : decode cX2_soundRow 33 = .ok (.bipush 8, 2) := by decide +kernel
theorem dX2_soundRow_35 : decode cX2_soundRow 35 = .ok (.iload 5, 2) := by decide +kernel
theorem dX2_soundRow_37 : decode cX2_soundRow 37 = .ok (.imul, 1) := by decide +kernel
theorem dX2_soundRow_38 : decode cX2_soundRow 38 = .ok (.iload_n 2, 1) := by decide +kernel
theorem dX2_soundRow_39 : decode cX2_soundRow 39 = .ok (.iadd, 1) := by decide +kernel
theorem dX2_soundRow_40 : decode cX2_soundRow 40 = .ok (.invokestatic 32, 3) := by decide +kernel
theorem dX2_soundRow_43 : decode cX2_soundRow 43 = .ok (.ifCond .eq 14, 3) := by decide +kernel
theorem dX2_soundRow_46 : decode cX2_soundRow 46 = .ok (.iload 4, 2) := by decide +kernel
theorem dX2_soundRow_48 : decode cX2_soundRow 48 = .ok (.getstatic 36, 3) := by decide +kernel
theorem dX2_soundRow_51 : decode cX2_soundRow 51 = .ok (.iload 5, 2) := by decide +kernel
theorem dX2_soundRow_53 : decode cX2_soundRow 53 = .ok (.iaload, 1) := by decide +kernel
theorem dX2_soundRow_54 : decode cX2_soundRow 54 = .ok (.ixor, 1) := by decide +kernel
theorem dX2_soundRow_55 : decode cX2_soundRow 55 = .ok (.istore 4, 2) := by decide +kernel
theorem dX2_soundRow_57 : decode cX2_soundRow 57 = .ok (.iinc 5 1, 3) := by decide +kernel
theorem dX2_soundRow_60 : decode cX2_soundRow 60 = .ok (.goto (-42), 3) := by decide +kernel
theorem dX2_soundRow_63 : decode cX2_soundRow 63 = .ok (.iconst 0, 1) := by decide +kernel
theorem dX2_soundRow_64 : decode cX2_soundRow 64 = .ok (.istore 5, 2) := by decide +kernel
theorem dX2_soundRow_66 : decode cX2_soundRow 66 = .ok (.iload 5, 2) := by decide +kernel
theorem dX2_soundRow_68 : decode cX2_soundRow 68 = .ok (.iconst 3, 1) := by decide +kernel
theorem dX2_soundRow_69 : decode cX2_soundRow 69 = .ok (.if_icmp .ge 32, 3) := by decide +kernel
theorem dX2_soundRow_72 : decode cX2_soundRow 72 = .ok (.iload_n 3, 1) := by decide +kernel
theorem dX2_soundRow_73 : decode cX2_soundRow 73 = .ok (.iload 5, 2) := by decide +kernel
theorem dX2_soundRow_75 : decode cX2_soundRow 75 = .ok (.ishr, 1) := by decide +kernel
theorem dX2_soundRow_76 : decode cX2_soundRow 76 = .ok (.iconst 1, 1) := by decide +kernel
theorem dX2_soundRow_77 : decode cX2_soundRow 77 = .ok (.iand, 1) := by decide +kernel
theorem dX2_soundRow_78 : decode cX2_soundRow 78 = .ok (.ifCond .eq 17, 3) := by decide +kernel
theorem dX2_soundRow_81 : decode cX2_soundRow 81 = .ok (.iload 4, 2) := by decide +kernel
theorem dX2_soundRow_83 : decode cX2_soundRow 83 = .ok (.getstatic 36, 3) := by decide +kernel
theorem dX2_soundRow_86 : decode cX2_soundRow 86 = .ok (.bipush 8, 2) := by decide +kernel
theorem dX2_soundRow_88 : decode cX2_soundRow 88 = .ok (.iload 5, 2) := by decide +kernel
theorem dX2_soundRow_90 : decode cX2_soundRow 90 = .ok (.iadd, 1) := by decide +kernel
theorem dX2_soundRow_91 : decode cX2_soundRow 91 = .ok (.iaload, 1) := by decide +kernel
theorem dX2_soundRow_92 : decode cX2_soundRow 92 = .ok (.ixor, 1) := by decide +kernel
theorem dX2_soundRow_93 : decode cX2_soundRow 93 = .ok (.istore 4, 2) := by decide +kernel
theorem dX2_soundRow_95 : decode cX2_soundRow 95 = .ok (.iinc 5 1, 3) := by decide +kernel
theorem dX2_soundRow_98 : decode cX2_soundRow 98 = .ok (.goto (-32), 3) := by decide +kernel
theorem dX2_soundRow_101 : decode cX2_soundRow 101 = .ok (.iload_n 3, 1) := by decide +kernel
theorem dX2_soundRow_102 : decode cX2_soundRow 102 = .ok (.iload 4, 2) := by decide +kernel
theorem dX2_soundRow_104 : decode cX2_soundRow 104 = .ok (.iconst 4, 1) := by decide +kernel
theorem dX2_soundRow_105 : decode cX2_soundRow 105 = .ok (.ishl, 1) := by decide +kernel
theorem dX2_soundRow_106 : decode cX2_soundRow 106 = .ok (.ior, 1) := by decide +kernel
theorem dX2_soundRow_107 : decode cX2_soundRow 107 = .ok (.istore 5, 2) := by decide +kernel
theorem dX2_soundRow_109 : decode cX2_soundRow 109 = .ok (.iload 5, 2) := by decide +kernel
theorem dX2_soundRow_111 : decode cX2_soundRow 111 = .ok (.invokestatic 39, 3) := by decide +kernel
theorem dX2_soundRow_114 : decode cX2_soundRow 114 = .ok (.aload_n 0, 1) := by decide +kernel
theorem dX2_soundRow_115 : decode cX2_soundRow 115 = .ok (.getfield 15, 3) := by decide +kernel
theorem dX2_soundRow_118 : decode cX2_soundRow 118 = .ok (.iload_n 1, 1) := by decide +kernel
theorem dX2_soundRow_119 : decode cX2_soundRow 119 = .ok (.iconst 1, 1) := by decide +kernel
theorem dX2_soundRow_120 : decode cX2_soundRow 120 = .ok (.isub, 1) := by decide +kernel
theorem dX2_soundRow_121 : decode cX2_soundRow 121 = .ok (.laload, 1) := by decide +kernel
theorem dX2_soundRow_122 : decode cX2_soundRow 122 = .ok (.ldc2_w 45, 3) := by decide +kernel
theorem dX2_soundRow_125 : decode cX2_soundRow 125 = .ok (.iload_n 2, 1) := by decide +kernel
theorem dX2_soundRow_126 : decode cX2_soundRow 126 = .ok (.lshl, 1) := by decide +kernel
theorem dX2_soundRow_127 : decode cX2_soundRow 127 = .ok (.land, 1) := by decide +kernel
theorem dX2_soundRow_128 : decode cX2_soundRow 128 = .ok (.invokestatic 47, 3) := by decide +kernel
theorem dX2_soundRow_131 : decode cX2_soundRow 131 = .ok (.iadd, 1) := by decide +kernel
theorem dX2_soundRow_132 : decode cX2_soundRow 132 = .ok (.istore 6, 2) := by decide +kernel
theorem dX2_soundRow_134 : decode cX2_soundRow 134 = .ok (.iload 5, 2) := by decide +kernel
theorem dX2_soundRow_136 : decode cX2_soundRow 136 = .ok (.iload 6, 2) := by decide +kernel
theorem dX2_soundRow_138 : decode cX2_soundRow 138 = .ok (.iconst 1, 1) := by decide +kernel
theorem dX2_soundRow_139 : decode cX2_soundRow 139 = .ok (.iand, 1) := by decide +kernel
theorem dX2_soundRow_140 : decode cX2_soundRow 140 = .ok (.iconst 3, 1) := by decide +kernel
theorem dX2_soundRow_141 : decode cX2_soundRow 141 = .ok (.ishl, 1) := by decide +kernel
theorem dX2_soundRow_142 : decode cX2_soundRow 142 = .ok (.ior, 1) := by decide +kernel
theorem dX2_soundRow_143 : decode cX2_soundRow 143 = .ok (.ireturn, 1) := by decide +kernel
abbrev rmX2_soundRow : Room := { frames := 1, cells := 0, slots := 0, locals := 22 }
set_option maxRecDepth 100000 in
theorem hinX2_soundRow_2 : ∀ w ∈ wsX20, w ∈ wsX2_soundRow := by decide +kernel
set_option maxHeartbeats 4000000 in
set_option maxRecDepth 100000 in
theorem tX2_soundRow_57 {h : AH} {a1 : Int32} {a2 : Int32} {k18 : Int32 → Int32 → Int32 → Option Int32} {x3 : Int32} {x4 : Int32} {x5 : Int32} {r0 : Int32} (C : Cx p rmX2_soundRow s m args meth c RX2 cX2_soundRow 7 (some .int) wsX2_soundRow D ad cy tb 0 0) (H18 : ∀ (x3 : Int32) (x4 : Int32) (x5 : Int32), k18 x3 x4 x5 = some r0 → AW p l e rmX2_soundRow s m args below meth c 7 D ad cy 0 0 (Qi D ad cy below args s r0 h) 18 [(0, .ref (ad 7)), (1, .int a1), (2, .int a2), (3, .int x3), (4, .int x4), (5, .int x5)] [] h) (hf : fX2_soundRow_57 k18 h a1 a2 x3 x4 x5 = some r0) : AW p l e rmX2_soundRow s m args below meth c 7 D ad cy 0 0 (Qi D ad cy below args s r0 h) 57 [(0, .ref (ad 7)), (1, .int a1), (2, .int a2), (3, .int x3), (4, .int x4), (5, .int x5)] [] h := by
  unfold fX2_soundRow_57 at hf
  obtain ⟨v1, hvv1, hf⟩ := nm_ex hf
  refine aw_iinc (j := 5) (v := v1) (lv1 := [(5, .int v1), (0, .ref (ad 7)), (1, .int a1), (2, .int a2), (3, .int x3), (4, .int x4)]) C dX2_soundRow_57 rfl hvv1 (by decide) rfl ?_
  refine aw_goto (tgt := 18) C dX2_soundRow_60 (by decide) ?_
  refine aw_sub [1, 2, 3, 4, 5, 0] rfl ?_
  exact H18 x3 x4 v1 hf
set_option maxHeartbeats 4000000 in
set_option maxRecDepth 100000 in
theorem tX2_soundRow_95 {h : AH} {a1 : Int32} {a2 : Int32} {k66 : Int32 → Int32 → Int32 → Option Int32} {x3 : Int32} {x4 : Int32} {x5 : Int32} {r0 : Int32} (C : Cx p rmX2_soundRow s m args meth c RX2 cX2_soundRow 7 (some .int) wsX2_soundRow D ad cy tb 0 0) (H66 : ∀ (x3 : Int32) (x4 : Int32) (x5 : Int32), k66 x3 x4 x5 = some r0 → AW p l e rmX2_soundRow s m args below meth c 7 D ad cy 0 0 (Qi D ad cy below args s r0 h) 66 [(0, .ref (ad 7)), (1, .int a1), (2, .int a2), (3, .int x3), (4, .int x4), (5, .int x5)] [] h) (hf : fX2_soundRow_95 k66 h a1 a2 x3 x4 x5 = some r0) : AW p l e rmX2_soundRow s m args below meth c 7 D ad cy 0 0 (Qi D ad cy below args s r0 h) 95 [(0, .ref (ad 7)), (1, .int a1), (2, .int a2), (3, .int x3), (4, .int x4), (5, .int x5)] [] h := by
  unfold fX2_soundRow_95 at hf
  obtain ⟨v1, hvv1, hf⟩ := nm_ex hf
  refine aw_iinc (j := 5) (v := v1) (lv1 := [(5, .int v1), (0, .ref (ad 7)), (1, .int a1), (2, .int a2), (3, .int x3), (4, .int x4)]) C dX2_soundRow_95 rfl hvv1 (by decide) rfl ?_
  refine aw_goto (tgt := 66) C dX2_soundRow_98 (by decide) ?_
  refine aw_sub [1, 2, 3, 4, 5, 0] rfl ?_
  exact H66 x3 x4 v1 hf
set_option maxHeartbeats 4000000 in
set_option maxRecDepth 100000 in
theorem tX2_soundRow_66b {h : AH} {a1 : Int32} {a2 : Int32} {k66 : Int32 → Int32 → Int32 → Option Int32} {x3 : Int32} {x4 : Int32} {x5 : Int32} {r0 : Int32} (C : Cx p rmX2_soundRow s m args meth c RX2 cX2_soundRow 7 (some .int) wsX2_soundRow D ad cy tb 0 0) (H66 : ∀ (x3 : Int32) (x4 : Int32) (x5 : Int32), k66 x3 x4 x5 = some r0 → AW p l e rmX2_soundRow s m args below meth c 7 D ad cy 0 0 (Qi D ad cy below args s r0 h) 66 [(0, .ref (ad 7)), (1, .int a1), (2, .int a2), (3, .int x3), (4, .int x4), (5, .int x5)] [] h) (hf : fX2_soundRow_66b k66 h a1 a2 x3 x4 x5 = some r0) : AW p l e rmX2_soundRow s m args below meth c 7 D ad cy 0 0 (Qi D ad cy below args s r0 h) 66 [(0, .ref (ad 7)), (1, .int a1), (2, .int a2), (3, .int x3), (4, .int x4), (5, .int x5)] [] h := by
  unfold fX2_soundRow_66b at hf
  refine aw_iload C dX2_soundRow_66 5 rfl ?_
  refine aw_iconst (v := 3) C dX2_soundRow_68 (by decide) ?_
  refine aw_icmp_ge (tgt := 101) C dX2_soundRow_69 (by decide) hf (fun hf => ?_) (fun hf => ?_)
  · refine aw_iload_n C dX2_soundRow_101 rfl 3 rfl ?_
    refine aw_iload C dX2_soundRow_102 4 rfl ?_
    refine aw_iconst (v := 4) C dX2_soundRow_104 (by decide) ?_
    refine aw_ishl C dX2_soundRow_105 ?_
    refine aw_ior C dX2_soundRow_106 ?_
    refine aw_nmI hf (fun v1 hf => ?_)
    refine aw_istore (lv1 := [(5, .int v1), (0, .ref (ad 7)), (1, .int a1), (2, .int a2), (3, .int x3), (4, .int x4)]) C dX2_soundRow_107 (by decide) rfl ?_
    refine aw_iload C dX2_soundRow_109 0 rfl ?_
    obtain ⟨r2, hc, hf⟩ := bR_some hf
    refine aw_callSi (As := [.int v1]) (rest := []) C (kJ6_bitCount_0f7a4 (l := l) (D := D) (ad := ad) (cy := cy) (tb := tb) C.2.2.2.2.2.2.2.2.1 hc) (fun ht _ => va_cwS 1 ht gX2_soundRow_J6_bitCount_0f7a4 rfl rfl rfl (by decide +kernel) ⟨Nat.le_of_ble_eq_true rfl, Nat.le_of_ble_eq_true rfl⟩) rfl rfl (Nat.le_of_ble_eq_true rfl) dX2_soundRow_111 ?_
    refine aw_aload_n C dX2_soundRow_114 rfl 1 rfl ?_
    refine aw_get C (kd_lt rfl (by decide)) (ce_2 rfl) rfl hinX2_soundRow_2 1 (by decide) rfl (by decide +kernel) rfl dX2_soundRow_115 ?_
    refine aw_iload_n C dX2_soundRow_118 rfl 2 rfl ?_
    refine aw_iconst (v := 1) C dX2_soundRow_119 (by decide) ?_
    refine aw_isub C dX2_soundRow_120 ?_
    refine aw_nmI hf (fun v3 hf => ?_)
    refine aw_lald C rfl rfl hf dX2_soundRow_121 (fun hf => ?_)
    refine aw_ldc2 (v := 72340172838076673) C (by decide +kernel) dX2_soundRow_122 ?_
    refine aw_iload_n C dX2_soundRow_125 rfl 3 rfl ?_
    refine aw_lshl C dX2_soundRow_126 ?_
    refine aw_land C dX2_soundRow_127 ?_
    obtain ⟨r4, hc, hf⟩ := bR_some hf
    refine aw_callSi (As := [.long ((h.2 9 v3.toNatClampNeg) &&& (72340172838076673 <<< (a2.toInt64 &&& 63)))]) (rest := [.int r2]) C (kJ13_bitCount_95d88 (l := l) (D := D) (ad := ad) (cy := cy) (tb := tb) C.2.2.2.2.2.2.2.2.1 hc) (fun ht _ => va_cwS 1 ht gX2_soundRow_J13_bitCount_95d88 rfl rfl rfl (by decide +kernel) ⟨Nat.le_of_ble_eq_true rfl, Nat.le_of_ble_eq_true rfl⟩) rfl rfl (Nat.le_of_ble_eq_true rfl) dX2_soundRow_128 ?_
    refine aw_iadd C dX2_soundRow_131 ?_
    refine aw_nmI hf (fun v5 hf => ?_)
    refine aw_istore (lv1 := [(6, .int v5), (5, .int v1), (0, .ref (ad 7)), (1, .int a1), (2, .int a2), (3, .int x3), (4, .int x4)]) C dX2_soundRow_132 (by decide) rfl ?_
    refine aw_iload C dX2_soundRow_134 1 rfl ?_
    refine aw_iload C dX2_soundRow_136 0 rfl ?_
    refine aw_iconst (v := 1) C dX2_soundRow_138 (by decide) ?_
    refine aw_iand C dX2_soundRow_139 ?_
    refine aw_iconst (v := 3) C dX2_soundRow_140 (by decide) ?_
    refine aw_ishl C dX2_soundRow_141 ?_
    refine aw_ior C dX2_soundRow_142 ?_
    exact aw_iretR C dX2_soundRow_143 hf
  refine aw_iload_n C dX2_soundRow_72 rfl 3 rfl ?_
  refine aw_iload C dX2_soundRow_73 5 rfl ?_
  refine aw_ishr C dX2_soundRow_75 ?_
  refine aw_iconst (v := 1) C dX2_soundRow_76 (by decide) ?_
  refine aw_iand C dX2_soundRow_77 ?_
  refine aw_if_eq (tgt := 95) C dX2_soundRow_78 (by decide) hf (fun hf => ?_) (fun hf => ?_)
  · refine aw_sub [0, 1, 2, 3, 4, 5] rfl ?_
    exact tX2_soundRow_95 C  H66 hf
  refine aw_iload C dX2_soundRow_81 4 rfl ?_
  refine aw_gtab0 C (by decide +kernel) dX2_soundRow_83 ?_
  refine aw_bipush (v := 8) C dX2_soundRow_86 (by decide) ?_
  refine aw_iload C dX2_soundRow_88 5 rfl ?_
  refine aw_iadd C dX2_soundRow_90 ?_
  refine aw_nmI hf (fun v6 hf => ?_)
  refine aw_ltab0 C hf dX2_soundRow_91 (fun hf => ?_)
  refine aw_ixor C dX2_soundRow_92 ?_
  refine aw_nmI hf (fun v7 hf => ?_)
  refine aw_istore (lv1 := [(4, .int v7), (0, .ref (ad 7)), (1, .int a1), (2, .int a2), (3, .int x3), (5, .int x5)]) C dX2_soundRow_93 (by decide) rfl ?_
  refine aw_sub [1, 2, 3, 4, 0, 5] rfl ?_
  exact tX2_soundRow_95 C  H66 hf
set_option maxHeartbeats 4000000 in
set_option maxRecDepth 100000 in
theorem tX2_soundRow_66 {h : AH} {a1 : Int32} {a2 : Int32} {r0 : Int32} (C : Cx p rmX2_soundRow s m args meth c RX2 cX2_soundRow 7 (some .int) wsX2_soundRow D ad cy tb 0 0) : ∀ (n : Nat) (x3 : Int32) (x4 : Int32) (x5 : Int32), fX2_soundRow_66 h a1 a2 n x3 x4 x5 = some r0 → AW p l e rmX2_soundRow s m args below meth c 7 D ad cy 0 0 (Qi D ad cy below args s r0 h) 66 [(0, .ref (ad 7)), (1, .int a1), (2, .int a2), (3, .int x3), (4, .int x4), (5, .int x5)] [] h := by
  intro n
  induction n with
  | zero => intro x3 x4 x5 hf; cases hf
  | succ n ih => intro x3 x4 x5 hf; exact tX2_soundRow_66b C  ih  hf
set_option maxHeartbeats 4000000 in
set_option maxRecDepth 100000 in
theorem tX2_soundRow_18b {h : AH} {a1 : Int32} {a2 : Int32} {k18 : Int32 → Int32 → Int32 → Option Int32} {x3 : Int32} {x4 : Int32} {x5 : Int32} {r0 : Int32} (C : Cx p rmX2_soundRow s m args meth c RX2 cX2_soundRow 7 (some .int) wsX2_soundRow D ad cy tb 0 0) (H18 : ∀ (x3 : Int32) (x4 : Int32) (x5 : Int32), k18 x3 x4 x5 = some r0 → AW p l e rmX2_soundRow s m args below meth c 7 D ad cy 0 0 (Qi D ad cy below args s r0 h) 18 [(0, .ref (ad 7)), (1, .int a1), (2, .int a2), (3, .int x3), (4, .int x4), (5, .int x5)] [] h) (hf : fX2_soundRow_18b k18 h a1 a2 x3 x4 x5 = some r0) : AW p l e rmX2_soundRow s m args below meth c 7 D ad cy 0 0 (Qi D ad cy below args s r0 h) 18 [(0, .ref (ad 7)), (1, .int a1), (2, .int a2), (3, .int x3), (4, .int x4), (5, .int x5)] [] h := by
  unfold fX2_soundRow_18b at hf
  refine aw_iload C dX2_soundRow_18 5 rfl ?_
  refine aw_bipush (v := 8) C dX2_soundRow_20 (by decide) ?_
  refine aw_icmp_ge (tgt := 63) C dX2_soundRow_22 (by decide) hf (fun hf => ?_) (fun hf => ?_)
  · refine aw_iconst (v := 0) C dX2_soundRow_63 (by decide) ?_
    refine aw_istore (lv1 := [(5, .int 0), (0, .ref (ad 7)), (1, .int a1), (2, .int a2), (3, .int x3), (4, .int x4)]) C dX2_soundRow_64 (by decide) rfl ?_
    refine aw_sub [1, 2, 3, 4, 5, 0] rfl ?_
    exact tX2_soundRow_66 C   FU x3 x4 0 hf
  refine aw_aload_n C dX2_soundRow_25 rfl 0 rfl ?_
  refine aw_get C (kd_lt rfl (by decide)) (ce_2 rfl) rfl hinX2_soundRow_2 1 (by decide) rfl (by decide +kernel) rfl dX2_soundRow_26 ?_
  refine aw_iload_n C dX2_soundRow_29 rfl 1 rfl ?_
  refine aw_iconst (v := 1) C dX2_soundRow_30 (by decide) ?_
  refine aw_isub C dX2_soundRow_31 ?_
  refine aw_nmI hf (fun v1 hf => ?_)
  refine aw_lald C rfl rfl hf dX2_soundRow_32 (fun hf => ?_)
  refine aw_bipush (v := 8) C dX2_soundRow_33 (by decide) ?_
  refine aw_iload C dX2_soundRow_35 5 rfl ?_
  refine aw_imul C dX2_soundRow_37 ?_
  refine aw_iload_n C dX2_soundRow_38 rfl 2 rfl ?_
  refine aw_iadd C dX2_soundRow_39 ?_
  obtain ⟨r2, hc, hf⟩ := bR_some hf
  refine aw_callSNi (As := [.long (h.2 9 v1.toNatClampNeg), .int ((8 * x5) + a2)]) (rest := []) C (kX5_bitOf (l := l) (D := D) (ad := ad) (cy := cy) (tb := tb) C.2.2.2.2.2.2.2.2.1 hc) (fun ht hn => ⟨va_cnB (host := "StairCodes") 2 ht gX2_soundRow_X5_bitOf_n32 rfl rfl rfl (hn _ (by decide +kernel)) (ht _ (by decide +kernel)) (by decide +kernel) ⟨Nat.le_of_ble_eq_true rfl, Nat.le_of_ble_eq_true rfl⟩, ht _ (by decide +kernel), trivial⟩) rfl rfl (Nat.le_of_ble_eq_true rfl) dX2_soundRow_40 ?_
  refine aw_if_eq (tgt := 57) C dX2_soundRow_43 (by decide) hf (fun hf => ?_) (fun hf => ?_)
  · refine aw_sub [0, 1, 2, 3, 4, 5] rfl ?_
    exact tX2_soundRow_57 C  H18 hf
  refine aw_iload C dX2_soundRow_46 4 rfl ?_
  refine aw_gtab0 C (by decide +kernel) dX2_soundRow_48 ?_
  refine aw_iload C dX2_soundRow_51 5 rfl ?_
  refine aw_ltab0 C hf dX2_soundRow_53 (fun hf => ?_)
  refine aw_ixor C dX2_soundRow_54 ?_
  refine aw_nmI hf (fun v3 hf => ?_)
  refine aw_istore (lv1 := [(4, .int v3), (0, .ref (ad 7)), (1, .int a1), (2, .int a2), (3, .int x3), (5, .int x5)]) C dX2_soundRow_55 (by decide) rfl ?_
  refine aw_sub [1, 2, 3, 4, 0, 5] rfl ?_
  exact tX2_soundRow_57 C  H18 hf
set_option maxHeartbeats 4000000 in
set_option maxRecDepth 100000 in
theorem tX2_soundRow_18 {h : AH} {a1 : Int32} {a2 : Int32} {r0 : Int32} (C : Cx p rmX2_soundRow s m args meth c RX2 cX2_soundRow 7 (some .int) wsX2_soundRow D ad cy tb 0 0) : ∀ (n : Nat) (x3 : Int32) (x4 : Int32) (x5 : Int32), fX2_soundRow_18 h a1 a2 n x3 x4 x5 = some r0 → AW p l e rmX2_soundRow s m args below meth c 7 D ad cy 0 0 (Qi D ad cy below args s r0 h) 18 [(0, .ref (ad 7)), (1, .int a1), (2, .int a2), (3, .int x3), (4, .int x4), (5, .int x5)] [] h := by
  intro n
  induction n with
  | zero => intro x3 x4 x5 hf; cases hf
  | succ n ih => intro x3 x4 x5 hf; exact tX2_soundRow_18b C  ih  hf
set_option maxHeartbeats 4000000 in
set_option maxRecDepth 100000 in
theorem tX2_soundRow_0 {h : AH} {a1 : Int32} {a2 : Int32} {r0 : Int32} (C : Cx p rmX2_soundRow s m args meth c RX2 cX2_soundRow 7 (some .int) wsX2_soundRow D ad cy tb 0 0) (hf : fX2_soundRow h a1 a2 = some r0) : AW p l e rmX2_soundRow s m args below meth c 7 D ad cy 0 0 (Qi D ad cy below args s r0 h) 0 [(0, .ref (ad 7)), (1, .int a1), (2, .int a2)] [] h := by
  unfold fX2_soundRow at hf
  refine aw_aload_n C dX2_soundRow_0 rfl 0 rfl ?_
  refine aw_get C (kd_lt rfl (by decide)) (ce_2 rfl) rfl hinX2_soundRow_2 0 (by decide) rfl (by decide +kernel) rfl dX2_soundRow_1 ?_
  refine aw_bipush (v := 8) C dX2_soundRow_4 (by decide) ?_
  refine aw_iload_n C dX2_soundRow_6 rfl 1 rfl ?_
  refine aw_imul C dX2_soundRow_7 ?_
  refine aw_iload_n C dX2_soundRow_8 rfl 2 rfl ?_
  refine aw_iadd C dX2_soundRow_9 ?_
  refine aw_nmI hf (fun v1 hf => ?_)
  refine aw_iald C rfl rfl hf dX2_soundRow_10 (fun hf => ?_)
  refine aw_nmI hf (fun v2 hf => ?_)
  refine aw_istore_n (lv1 := [(3, .int v2), (0, .ref (ad 7)), (1, .int a1), (2, .int a2)]) C dX2_soundRow_11 rfl (by decide) rfl ?_
  refine aw_iconst (v := 0) C dX2_soundRow_12 (by decide) ?_
  refine aw_istore (lv1 := [(4, .int 0), (3, .int v2), (0, .ref (ad 7)), (1, .int a1), (2, .int a2)]) C dX2_soundRow_13 (by decide) rfl ?_
  refine aw_iconst (v := 0) C dX2_soundRow_15 (by decide) ?_
  refine aw_istore (lv1 := [(5, .int 0), (4, .int 0), (3, .int v2), (0, .ref (ad 7)), (1, .int a1), (2, .int a2)]) C dX2_soundRow_16 (by decide) rfl ?_
  refine aw_sub [3, 4, 5, 2, 1, 0] rfl ?_
  exact tX2_soundRow_18 C   FU v2 0 0 hf
theorem kX2_soundRow {h : AH} {a1 : Int32} {a2 : Int32} {r0 : Int32} (hi : Inj ad) (hf : fX2_soundRow h a1 a2 = some r0) : Ki l yX2_soundRow wsX2_soundRow rmX2_soundRow D ad cy tb [.ref (ad 7), .int a1, .int a2] h r0 h := met_i (lv := [(0, .ref (ad 7)), (1, .int a1), (2, .int a2)]) hi (by decide) rfl (Nat.le_of_ble_eq_true rfl) rfl rfl (fun _ _ _ _ _ _ _ _ C => tX2_soundRow_0 C  hf)
set_option maxRecDepth 20000 in
theorem ggX2_change_X2_soundRow : GoodIn wsX2_change wsX2_soundRow := goodIn_r _ [7, 1, 2, 8, 9, 10, 11, 12, 13, 14, 15, 16, 17, 18, 19, 20, 21, 22, 23, 24, 25, 26, 27] (by decide +kernel) (by decide +kernel)
set_option maxRecDepth 20000 in
theorem gX2_change_X2_soundRow : GoodIn wsX2_change (wsV RX2 28 RX2 yX2_soundRow wsX2_soundRow) := goodIn_app (goodIn_of _ (by decide +kernel)) ggX2_change_X2_soundRow
theorem dX2_change_0 : decode cX2_change 0 = .ok (.aload_n 0, 1) := by decide +kernel
theorem dX2_change_1 : decode cX2_change 1 = .ok (.getfield 9, 3) := by decide +kernel
theorem dX2_change_4 : decode cX2_change 4 = .ok (.iload_n 1, 1) := by decide +kernel
theorem dX2_change_5 : decode cX2_change 5 = .ok (.iload_n 2, 1) := by decide +kernel
theorem dX2_change_6 : decode cX2_change 6 = .ok (.iastore, 1) := by decide +kernel
theorem dX2_change_7 : decode cX2_change 7 = .ok (.iload_n 1, 1) := by decide +kernel
theorem dX2_change_8 : decode cX2_change 8 = .ok (.iconst 3, 1) := by decide +kernel
theorem dX2_change_9 : decode cX2_change 9 = .ok (.ishr, 1) := by decide +kernel
theorem dX2_change_10 : decode cX2_change 10 = .ok (.istore 4, 2) := by decide +kernel
theorem dX2_change_12 : decode cX2_change 12 = .ok (.iload 4, 2) := by decide +kernel
theorem dX2_change_14 : decode cX2_change 14 = .ok (.iload_n 3, 1) := by decide +kernel
theorem dX2_change_15 : decode cX2_change 15 = .ok (.if_icmp .gt 58, 3) := by decide +kernel
theorem dX2_change_18 : decode cX2_change 18 = .ok (.aload_n 0, 1) := by decide +kernel
theorem dX2_change_19 : decode cX2_change 19 = .ok (.getfield 15, 3) := by decide +kernel
theorem dX2_change_22 : decode cX2_change 22 = .ok (.iload 4, 2) := by decide +kernel
theorem dX2_change_24 : decode cX2_change 24 = .ok (.lconst 0, 1) := by decide +kernel
theorem dX2_change_25 : decode cX2_change 25 = .ok (.lastore, 1) := by decide +kernel
theorem dX2_change_26 : decode cX2_change 26 = .ok (.iconst 0, 1) := by decide +kernel
theorem dX2_change_27 : decode cX2_change 27 = .ok (.istore 5, 2) := by decide +kernel
theorem dX2_change_29 : decode cX2_change 29 = .ok (.iload 5, 2) := by decide +kernel
theorem dX2_change_31 : decode cX2_change 31 = .ok (.bipush 8, 2) := by decide +kernel
theorem dX2_change_33 : decode cX2_change 33 = .ok (.if_icmp .ge 34, 3) := by decide +kernel
theorem dX2_change_36 : decode cX2_change 36 = .ok (.aload_n 0, 1) := by decide +kernel
theorem dX2_change_37 : decode cX2_change 37 = .ok (.getfield 15, 3) := by decide +kernel
theorem dX2_change_40 : decode cX2_change 40 = .ok (.iload 4, 2) := by decide +kernel
theorem dX2_change_42 : decode cX2_change 42 = .ok (.dup2, 1) := by decide +kernel
theorem dX2_change_43 : decode cX2_change 43 = .ok (.laload, 1) := by decide +kernel
theorem dX2_change_44 : decode cX2_change 44 = .ok (.aload_n 0, 1) := by decide +kernel
theorem dX2_change_45 : decode cX2_change 45 = .ok (.iload 4, 2) := by decide +kernel
theorem dX2_change_47 : decode cX2_change 47 = .ok (.iload 5, 2) := by decide +kernel
theorem dX2_change_49 : decode cX2_change 49 = .ok (.invokevirtual 28, 3) := by decide +kernel
theorem dX2_change_52 : decode cX2_change 52 = .ok (.i2l, 1) := by decide +kernel
theorem dX2_change_53 : decode cX2_change 53 = .ok (.bipush 8, 2) := by decide +kernel
theorem dX2_change_55 : decode cX2_change 55 = .ok (.iload 5, 2) := by decide +kernel
theorem dX2_change_57 : decode cX2_change 57 = .ok (.imul, 1) := by decide +kernel
theorem dX2_change_58 : decode cX2_change 58 = .ok (.lshl, 1) := by decide +kernel
theorem dX2_change_59 : decode cX2_change 59 = .ok (.lor, 1) := by decide +kernel
theorem dX2_change_60 : decode cX2_change 60 = .ok (.lastore, 1) := by decide +kernel
theorem dX2_change_61 : decode cX2_change 61 = .ok (.iinc 5 1, 3) := by decide +kernel
theorem dX2_change_64 : decode cX2_change 64 = .ok (.goto (-35), 3) := by decide +kernel
theorem dX2_change_67 : decode cX2_change 67 = .ok (.iinc 4 1, 3) := by decide +kernel
theorem dX2_change_70 : decode cX2_change 70 = .ok (.goto (-58), 3) := by decide +kernel
theorem dX2_change_73 : decode cX2_change 73 = .ok (.return_, 1) := by decide +kernel
abbrev rmX2_change : Room := { frames := 2, cells := 0, slots := 0, locals := 48 }
set_option maxRecDepth 100000 in
theorem hinX2_change_2 : ∀ w ∈ wsX20, w ∈ wsX2_change := by decide +kernel
set_option maxHeartbeats 4000000 in
set_option maxRecDepth 100000 in
theorem tX2_change_29b {h : AH} {a1 : Int32} {a2 : Int32} {a3 : Int32} {k12 : AH → Int32 → Option AH} {k29 : AH → Int32 → Int32 → Option AH} {x4 : Int32} {x5 : Int32} {h0 : AH} (C : Cx p rmX2_change s m args meth c RX2 cX2_change 6 none wsX2_change D ad cy tb 0 0) (H12 : ∀ (h : AH) (x4 : Int32), k12 h x4 = some h0 → AW p l e rmX2_change s m args below meth c 6 D ad cy 0 0 (Qv D ad cy below args s h0) 12 [(0, .ref (ad 7)), (1, .int a1), (2, .int a2), (3, .int a3), (4, .int x4)] [] h) (H29 : ∀ (h : AH) (x4 : Int32) (x5 : Int32), k29 h x4 x5 = some h0 → AW p l e rmX2_change s m args below meth c 6 D ad cy 0 0 (Qv D ad cy below args s h0) 29 [(0, .ref (ad 7)), (1, .int a1), (2, .int a2), (3, .int a3), (4, .int x4), (5, .int x5)] [] h) (hf : fX2_change_29b k12 k29 a1 a2 a3 h x4 x5 = some h0) : AW p l e rmX2_change s m args below meth c 6 D ad cy 0 0 (Qv D ad cy below args s h0) 29 [(0, .ref (ad 7)), (1, .int a1), (2, .int a2), (3, .int a3), (4, .int x4), (5, .int x5)] [] h := by
  unfold fX2_change_29b at hf
  refine aw_iload C dX2_change_29 5 rfl ?_
  refine aw_bipush (v := 8) C dX2_change_31 (by decide) ?_
  refine aw_icmp_ge (tgt := 67) C dX2_change_33 (by decide) hf (fun hf => ?_) (fun hf => ?_)
  · obtain ⟨v1, hvv1, hf⟩ := nm_ex hf
    refine aw_iinc (j := 4) (v := v1) (lv1 := [(4, .int v1), (0, .ref (ad 7)), (1, .int a1), (2, .int a2), (3, .int a3), (5, .int x5)]) C dX2_change_67 rfl hvv1 (by decide) rfl ?_
    refine aw_goto (tgt := 12) C dX2_change_70 (by decide) ?_
    refine aw_sub [1, 2, 3, 4, 0] rfl ?_
    exact H12 h v1 hf
  refine aw_aload_n C dX2_change_36 rfl 0 rfl ?_
  refine aw_get C (kd_lt rfl (by decide)) (ce_2 rfl) rfl hinX2_change_2 1 (by decide) rfl (by decide +kernel) rfl dX2_change_37 ?_
  refine aw_iload C dX2_change_40 4 rfl ?_
  refine aw_dup2 C dX2_change_42 rfl rfl ?_
  refine aw_lald C rfl rfl hf dX2_change_43 (fun hf => ?_)
  refine aw_aload_n C dX2_change_44 rfl 0 rfl ?_
  refine aw_iload C dX2_change_45 4 rfl ?_
  refine aw_iload C dX2_change_47 5 rfl ?_
  obtain ⟨r2, hc, hf⟩ := bR_some hf
  refine aw_callVi (As := [.int x4, .int x5]) (rest := [.long (h.2 9 x4.toNatClampNeg), .int x4, .ref (ad 9)]) C rfl (by decide) rfl (kX2_soundRow (l := l) (D := D) (ad := ad) (cy := cy) (tb := tb) C.2.2.2.2.2.2.2.2.1 hc) (fun ht _ => cwV 2 ht gX2_change_X2_soundRow rfl rfl rfl (by decide +kernel) ⟨Nat.le_of_ble_eq_true rfl, Nat.le_of_ble_eq_true rfl⟩) rfl rfl (Nat.le_of_ble_eq_true rfl) dX2_change_49 ?_
  refine aw_i2l C dX2_change_52 ?_
  refine aw_bipush (v := 8) C dX2_change_53 (by decide) ?_
  refine aw_iload C dX2_change_55 5 rfl ?_
  refine aw_imul C dX2_change_57 ?_
  refine aw_lshl C dX2_change_58 ?_
  refine aw_lor C dX2_change_59 ?_
  refine aw_last C rfl rfl hf dX2_change_60 (fun hf => ?_)
  refine aw_nmH hf (fun h3 hf => ?_)
  obtain ⟨v4, hvv4, hf⟩ := nm_ex hf
  refine aw_iinc (j := 5) (v := v4) (lv1 := [(5, .int v4), (0, .ref (ad 7)), (1, .int a1), (2, .int a2), (3, .int a3), (4, .int x4)]) C dX2_change_61 rfl hvv4 (by decide) rfl ?_
  refine aw_goto (tgt := 29) C dX2_change_64 (by decide) ?_
  refine aw_sub [1, 2, 3, 4, 5, 0] rfl ?_
  exact H29 h3 x4 v4 hf
set_option maxHeartbeats 4000000 in
set_option maxRecDepth 100000 in
theorem tX2_change_29  {a1 : Int32} {a2 : Int32} {a3 : Int32} {k12 : AH → Int32 → Option AH} {h0 : AH} (C : Cx p rmX2_change s m args meth c RX2 cX2_change 6 none wsX2_change D ad cy tb 0 0) (H12 : ∀ (h : AH) (x4 : Int32), k12 h x4 = some h0 → AW p l e rmX2_change s m args below meth c 6 D ad cy 0 0 (Qv D ad cy below args s h0) 12 [(0, .ref (ad 7)), (1, .int a1), (2, .int a2), (3, .int a3), (4, .int x4)] [] h) : ∀ (n : Nat) (h : AH) (x4 : Int32) (x5 : Int32), fX2_change_29 k12 a1 a2 a3 n h x4 x5 = some h0 → AW p l e rmX2_change s m args below meth c 6 D ad cy 0 0 (Qv D ad cy below args s h0) 29 [(0, .ref (ad 7)), (1, .int a1), (2, .int a2), (3, .int a3), (4, .int x4), (5, .int x5)] [] h := by
  intro n
  induction n with
  | zero => intro h x4 x5 hf; cases hf
  | succ n ih => intro h x4 x5 hf; exact tX2_change_29b C  H12 ih  hf
set_option maxHeartbeats 4000000 in
set_option maxRecDepth 100000 in
theorem tX2_change_12b {h : AH} {a1 : Int32} {a2 : Int32} {a3 : Int32} {k12 : AH → Int32 → Option AH} {x4 : Int32} {h0 : AH} (C : Cx p rmX2_change s m args meth c RX2 cX2_change 6 none wsX2_change D ad cy tb 0 0) (H12 : ∀ (h : AH) (x4 : Int32), k12 h x4 = some h0 → AW p l e rmX2_change s m args below meth c 6 D ad cy 0 0 (Qv D ad cy below args s h0) 12 [(0, .ref (ad 7)), (1, .int a1), (2, .int a2), (3, .int a3), (4, .int x4)] [] h) (hf : fX2_change_12b k12 a1 a2 a3 h x4 = some h0) : AW p l e rmX2_change s m args below meth c 6 D ad cy 0 0 (Qv D ad cy below args s h0) 12 [(0, .ref (ad 7)), (1, .int a1), (2, .int a2), (3, .int a3), (4, .int x4)] [] h := by
  unfold fX2_change_12b at hf
  refine aw_iload C dX2_change_12 4 rfl ?_
  refine aw_iload_n C dX2_change_14 rfl 3 rfl ?_
  refine aw_icmp_gt (tgt := 73) C dX2_change_15 (by decide) hf (fun hf => ?_) (fun hf => ?_)
  · exact aw_vret C dX2_change_73 hf
  refine aw_aload_n C dX2_change_18 rfl 0 rfl ?_
  refine aw_get C (kd_lt rfl (by decide)) (ce_2 rfl) rfl hinX2_change_2 1 (by decide) rfl (by decide +kernel) rfl dX2_change_19 ?_
  refine aw_iload C dX2_change_22 4 rfl ?_
  refine aw_lconst (v := 0) C dX2_change_24 (by decide) ?_
  refine aw_last C rfl rfl hf dX2_change_25 (fun hf => ?_)
  refine aw_nmH hf (fun h1 hf => ?_)
  refine aw_iconst (v := 0) C dX2_change_26 (by decide) ?_
  refine aw_istore (lv1 := [(5, .int 0), (0, .ref (ad 7)), (1, .int a1), (2, .int a2), (3, .int a3), (4, .int x4)]) C dX2_change_27 (by decide) rfl ?_
  refine aw_sub [1, 2, 3, 4, 5, 0] rfl ?_
  exact tX2_change_29 C  H12 FU h1 x4 0 hf
set_option maxHeartbeats 4000000 in
set_option maxRecDepth 100000 in
theorem tX2_change_12  {a1 : Int32} {a2 : Int32} {a3 : Int32} {h0 : AH} (C : Cx p rmX2_change s m args meth c RX2 cX2_change 6 none wsX2_change D ad cy tb 0 0) : ∀ (n : Nat) (h : AH) (x4 : Int32), fX2_change_12 a1 a2 a3 n h x4 = some h0 → AW p l e rmX2_change s m args below meth c 6 D ad cy 0 0 (Qv D ad cy below args s h0) 12 [(0, .ref (ad 7)), (1, .int a1), (2, .int a2), (3, .int a3), (4, .int x4)] [] h := by
  intro n
  induction n with
  | zero => intro h x4 hf; cases hf
  | succ n ih => intro h x4 hf; exact tX2_change_12b C  ih  hf
set_option maxHeartbeats 4000000 in
set_option maxRecDepth 100000 in
theorem tX2_change_0 {h : AH} {a1 : Int32} {a2 : Int32} {a3 : Int32} {h0 : AH} (C : Cx p rmX2_change s m args meth c RX2 cX2_change 6 none wsX2_change D ad cy tb 0 0) (hf : fX2_change h a1 a2 a3 = some h0) : AW p l e rmX2_change s m args below meth c 6 D ad cy 0 0 (Qv D ad cy below args s h0) 0 [(0, .ref (ad 7)), (1, .int a1), (2, .int a2), (3, .int a3)] [] h := by
  unfold fX2_change at hf
  refine aw_aload_n C dX2_change_0 rfl 0 rfl ?_
  refine aw_get C (kd_lt rfl (by decide)) (ce_2 rfl) rfl hinX2_change_2 0 (by decide) rfl (by decide +kernel) rfl dX2_change_1 ?_
  refine aw_iload_n C dX2_change_4 rfl 1 rfl ?_
  refine aw_iload_n C dX2_change_5 rfl 2 rfl ?_
  refine aw_iast C rfl rfl hf dX2_change_6 (fun hf => ?_)
  refine aw_nmH hf (fun h1 hf => ?_)
  refine aw_iload_n C dX2_change_7 rfl 1 rfl ?_
  refine aw_iconst (v := 3) C dX2_change_8 (by decide) ?_
  refine aw_ishr C dX2_change_9 ?_
  refine aw_nmI hf (fun v2 hf => ?_)
  refine aw_istore (lv1 := [(4, .int v2), (0, .ref (ad 7)), (1, .int a1), (2, .int a2), (3, .int a3)]) C dX2_change_10 (by decide) rfl ?_
  refine aw_sub [1, 2, 3, 4, 0] rfl ?_
  exact tX2_change_12 C   FU h1 v2 hf
theorem kX2_change {h : AH} {a1 : Int32} {a2 : Int32} {a3 : Int32} {h0 : AH} (hi : Inj ad) (hf : fX2_change h a1 a2 a3 = some h0) : Kv l yX2_change wsX2_change rmX2_change D ad cy tb [.ref (ad 7), .int a1, .int a2, .int a3] h h0 := met_v (lv := [(0, .ref (ad 7)), (1, .int a1), (2, .int a2), (3, .int a3)]) hi (by decide) rfl (Nat.le_of_ble_eq_true rfl) rfl rfl (fun _ _ _ _ _ _ _ _ C => tX2_change_0 C  hf)
set_option maxRecDepth 20000 in
theorem ggX5_data_X5_isWord : GoodIn wsX5_data wsX5_isWord := goodIn_r _ [7, 8, 9, 10, 6, 11, 2, 12, 13, 14, 43, 44, 45, 46, 47, 48, 49, 50, 51, 54, 55, 56] (by decide +kernel) (by decide +kernel)
set_option maxRecDepth 20000 in
theorem gX5_data_X5_isWord : GoodIn wsX5_data (wsV RX5 74 RX5 yX5_isWord wsX5_isWord) := goodIn_app (goodIn_of _ (by decide +kernel)) ggX5_data_X5_isWord
set_option maxRecDepth 20000 in
theorem ggX5_data_X5_isOctal : GoodIn wsX5_data wsX5_isOctal := goodIn_r _ [14] (by decide +kernel) (by decide +kernel)
set_option maxRecDepth 20000 in
theorem gX5_data_X5_isOctal : GoodIn wsX5_data (va_wsS RX5 78 yX5_isOctal wsX5_isOctal) := goodIn_app (goodIn_of _ (by decide +kernel)) ggX5_data_X5_isOctal
set_option maxRecDepth 20000 in
theorem ggX5_data_X2_change : GoodIn wsX5_data wsX2_change := goodIn_r _ [19, 20, 21, 22, 23, 24, 18, 25, 26, 27, 6, 28, 29, 30, 31, 32, 33, 34, 35, 36, 37, 38, 39, 40, 41, 42, 52, 53] (by decide +kernel) (by decide +kernel)
set_option maxRecDepth 20000 in
theorem gX5_data_X2_change : GoodIn wsX5_data (wsV RX5 86 RX2 yX2_change wsX2_change) := goodIn_app (goodIn_of _ (by decide +kernel)) ggX5_data_X2_change
theorem dX5_data_0 : decode cX5_data 0 = .ok (.aload_n 0, 1) := by decide +kernel
theorem dX5_data_1 : decode cX5_data 1 = .ok (.iload_n 1, 1) := by decide +kernel
theorem dX5_data_2 : decode cX5_data 2 = .ok (.iload_n 2, 1) := by decide +kernel
theorem dX5_data_3 : decode cX5_data 3 = .ok (.invokevirtual 74, 3) := by decide +kernel
theorem dX5_data_6 : decode cX5_data 6 = .ok (.ifCond .eq 10, 3) := by decide +kernel
theorem dX5_data_9 : decode cX5_data 9 = .ok (.iload_n 3, 1) := by decide +kernel
theorem dX5_data_10 : decode cX5_data 10 = .ok (.invokestatic 78, 3) := by decide +kernel
theorem dX5_data_13 : decode cX5_data 13 = .ok (.ifCond .ne 6, 3) := by decide +kernel
theorem dX5_data_16 : decode cX5_data 16 = .ok (.bipush (-2), 2) := by decide +kernel
theorem dX5_data_18 : decode cX5_data 18 = .ok (.ireturn, 1) := by decide +kernel
theorem dX5_data_19 : decode cX5_data 19 = .ok (.aload_n 0, 1) := by decide +kernel
theorem dX5_data_20 : decode cX5_data 20 = .ok (.getfield 22, 3) := by decide +kernel
theorem dX5_data_23 : decode cX5_data 23 = .ok (.getfield 82, 3) := by decide +kernel
theorem dX5_data_26 : decode cX5_data 26 = .ok (.bipush 8, 2) := by decide +kernel
theorem dX5_data_28 : decode cX5_data 28 = .ok (.iload_n 1, 1) := by decide +kernel
theorem dX5_data_29 : decode cX5_data 29 = .ok (.imul, 1) := by decide +kernel
theorem dX5_data_30 : decode cX5_data 30 = .ok (.iload_n 2, 1) := by decide +kernel
theorem dX5_data_31 : decode cX5_data 31 = .ok (.iadd, 1) := by decide +kernel
theorem dX5_data_32 : decode cX5_data 32 = .ok (.iaload, 1) := by decide +kernel
theorem dX5_data_33 : decode cX5_data 33 = .ok (.istore 4, 2) := by decide +kernel
theorem dX5_data_35 : decode cX5_data 35 = .ok (.aload_n 0, 1) := by decide +kernel
theorem dX5_data_36 : decode cX5_data 36 = .ok (.getfield 22, 3) := by decide +kernel
theorem dX5_data_39 : decode cX5_data 39 = .ok (.bipush 8, 2) := by decide +kernel
theorem dX5_data_41 : decode cX5_data 41 = .ok (.iload_n 1, 1) := by decide +kernel
theorem dX5_data_42 : decode cX5_data 42 = .ok (.imul, 1) := by decide +kernel
theorem dX5_data_43 : decode cX5_data 43 = .ok (.iload_n 2, 1) := by decide +kernel
theorem dX5_data_44 : decode cX5_data 44 = .ok (.iadd, 1) := by decide +kernel
theorem dX5_data_45 : decode cX5_data 45 = .ok (.iload_n 3, 1) := by decide +kernel
theorem dX5_data_46 : decode cX5_data 46 = .ok (.aload_n 0, 1) := by decide +kernel
theorem dX5_data_47 : decode cX5_data 47 = .ok (.getfield 12, 3) := by decide +kernel
theorem dX5_data_50 : decode cX5_data 50 = .ok (.getfield 58, 3) := by decide +kernel
theorem dX5_data_53 : decode cX5_data 53 = .ok (.invokevirtual 86, 3) := by decide +kernel
theorem dX5_data_56 : decode cX5_data 56 = .ok (.iload 4, 2) := by decide +kernel
theorem dX5_data_58 : decode cX5_data 58 = .ok (.ireturn, 1) := by decide +kernel
abbrev rmX5_data : Room := { frames := 3, cells := 0, slots := 0, locals := 73 }
set_option maxRecDepth 100000 in
theorem hinX5_data_5 : ∀ w ∈ wsX50, w ∈ wsX5_data := by decide +kernel
set_option maxRecDepth 100000 in
theorem hinX5_data_2 : ∀ w ∈ wsX20, w ∈ wsX5_data := by decide +kernel
set_option maxRecDepth 100000 in
theorem hinX5_data_4 : ∀ w ∈ wsX40, w ∈ wsX5_data := by decide +kernel
set_option maxHeartbeats 4000000 in
set_option maxRecDepth 100000 in
theorem tX5_data_0 {h : AH} {a1 : Int32} {a2 : Int32} {a3 : Int32} {r0 : Int32} {h0 : AH} (C : Cx p rmX5_data s m args meth c RX5 cX5_data 5 (some .int) wsX5_data D ad cy tb 0 0) (hf : fX5_data h a1 a2 a3 = some (r0, h0)) : AW p l e rmX5_data s m args below meth c 5 D ad cy 0 0 (Qi D ad cy below args s r0 h0) 0 [(0, .ref (ad 0)), (1, .int a1), (2, .int a2), (3, .int a3)] [] h := by
  unfold fX5_data at hf
  refine aw_aload_n C dX5_data_0 rfl 0 rfl ?_
  refine aw_iload_n C dX5_data_1 rfl 1 rfl ?_
  refine aw_iload_n C dX5_data_2 rfl 2 rfl ?_
  obtain ⟨r1, hc, hf⟩ := bR_some hf
  refine aw_callVi (As := [.int a1, .int a2]) (rest := []) C rfl (by decide) rfl (kX5_isWord (l := l) (D := D) (ad := ad) (cy := cy) (tb := tb) C.2.2.2.2.2.2.2.2.1 hc) (fun ht _ => cwV 2 ht gX5_data_X5_isWord rfl rfl rfl (by decide +kernel) ⟨Nat.le_of_ble_eq_true rfl, Nat.le_of_ble_eq_true rfl⟩) rfl rfl (Nat.le_of_ble_eq_true rfl) dX5_data_3 ?_
  refine aw_if_eq (tgt := 16) C dX5_data_6 (by decide) hf (fun hf => ?_) (fun hf => ?_)
  · refine aw_bipush (v := (-2)) C dX5_data_16 (by decide) ?_
    exact aw_iretW C dX5_data_18 hf
  refine aw_iload_n C dX5_data_9 rfl 3 rfl ?_
  obtain ⟨r2, hc, hf⟩ := bR_some hf
  refine aw_callSi (As := [.int a3]) (rest := []) C (kX5_isOctal (l := l) (D := D) (ad := ad) (cy := cy) (tb := tb) C.2.2.2.2.2.2.2.2.1 hc) (fun ht _ => va_cwS 1 ht gX5_data_X5_isOctal rfl rfl rfl (by decide +kernel) ⟨Nat.le_of_ble_eq_true rfl, Nat.le_of_ble_eq_true rfl⟩) rfl rfl (Nat.le_of_ble_eq_true rfl) dX5_data_10 ?_
  refine aw_if_ne (tgt := 19) C dX5_data_13 (by decide) hf (fun hf => ?_) (fun hf => ?_)
  · refine aw_aload_n C dX5_data_19 rfl 0 rfl ?_
    refine aw_get C (kd_lt rfl (by decide)) (ce_5 rfl) rfl hinX5_data_5 2 (by decide) rfl (by decide +kernel) rfl dX5_data_20 ?_
    refine aw_getN (host := "StairCodes") C (kd_lt rfl (by decide)) (ce_2 rfl) rfl hinX5_data_2 0 (by decide) rfl (by decide +kernel) rfl dX5_data_23 ?_
    refine aw_bipush (v := 8) C dX5_data_26 (by decide) ?_
    refine aw_iload_n C dX5_data_28 rfl 1 rfl ?_
    refine aw_imul C dX5_data_29 ?_
    refine aw_iload_n C dX5_data_30 rfl 2 rfl ?_
    refine aw_iadd C dX5_data_31 ?_
    refine aw_nmI hf (fun v3 hf => ?_)
    refine aw_iald C rfl rfl hf dX5_data_32 (fun hf => ?_)
    refine aw_nmI hf (fun v4 hf => ?_)
    refine aw_istore (lv1 := [(4, .int v4), (0, .ref (ad 0)), (1, .int a1), (2, .int a2), (3, .int a3)]) C dX5_data_33 (by decide) rfl ?_
    refine aw_aload_n C dX5_data_35 rfl 1 rfl ?_
    refine aw_get C (kd_lt rfl (by decide)) (ce_5 rfl) rfl hinX5_data_5 2 (by decide) rfl (by decide +kernel) rfl dX5_data_36 ?_
    refine aw_bipush (v := 8) C dX5_data_39 (by decide) ?_
    refine aw_iload_n C dX5_data_41 rfl 2 rfl ?_
    refine aw_imul C dX5_data_42 ?_
    refine aw_iload_n C dX5_data_43 rfl 3 rfl ?_
    refine aw_iadd C dX5_data_44 ?_
    refine aw_iload_n C dX5_data_45 rfl 4 rfl ?_
    refine aw_aload_n C dX5_data_46 rfl 1 rfl ?_
    refine aw_get C (kd_lt rfl (by decide)) (ce_5 rfl) rfl hinX5_data_5 0 (by decide) rfl (by decide +kernel) rfl dX5_data_47 ?_
    refine aw_getN (host := "StairCodes") C (kd_lt rfl (by decide)) (ce_4 rfl) rfl hinX5_data_4 0 (by decide) rfl (by decide +kernel) rfl dX5_data_50 ?_
    obtain ⟨h5, hc, hf⟩ := bR_some hf
    refine aw_callVv (As := [.int ((8 * a1) + a2), .int a3, .int (h.1 1 0)]) (rest := []) C rfl (by decide) rfl (kX2_change (l := l) (D := D) (ad := ad) (cy := cy) (tb := tb) C.2.2.2.2.2.2.2.2.1 hc) (fun ht _ => cwV 3 ht gX5_data_X2_change rfl rfl rfl (by decide +kernel) ⟨Nat.le_of_ble_eq_true rfl, Nat.le_of_ble_eq_true rfl⟩) rfl rfl (Nat.le_of_ble_eq_true rfl) dX5_data_53 ?_
    refine aw_iload C dX5_data_56 0 rfl ?_
    exact aw_iretW C dX5_data_58 hf
  refine aw_bipush (v := (-2)) C dX5_data_16 (by decide) ?_
  exact aw_iretW C dX5_data_18 hf
theorem kX5_data {h : AH} {a1 : Int32} {a2 : Int32} {a3 : Int32} {r0 : Int32} {h0 : AH} (hi : Inj ad) (hf : fX5_data h a1 a2 a3 = some (r0, h0)) : Ki l yX5_data wsX5_data rmX5_data D ad cy tb [.ref (ad 0), .int a1, .int a2, .int a3] h r0 h0 := met_i (lv := [(0, .ref (ad 0)), (1, .int a1), (2, .int a2), (3, .int a3)]) hi (by decide) rfl (Nat.le_of_ble_eq_true rfl) rfl rfl (fun _ _ _ _ _ _ _ _ C => tX5_data_0 C  hf)
set_option maxRecDepth 20000 in
theorem ggX6_isBlock_X6_in : GoodIn wsX6_isBlock wsX6_in := goodIn_r _ [5] (by decide +kernel) (by decide +kernel)
set_option maxRecDepth 20000 in
theorem gX6_isBlock_X6_in : GoodIn wsX6_isBlock (va_wsS RX6 73 yX6_in wsX6_in) := goodIn_app (goodIn_of _ (by decide +kernel)) ggX6_isBlock_X6_in
theorem dX6_isBlock_0 : decode cX6_isBlock 0 = .ok (.iload_n 1, 1) := by decide +kernel
theorem dX6_isBlock_1 : decode cX6_isBlock 1 = .ok (.iconst 1, 1) := by decide +kernel
theorem dX6_isBlock_2 : decode cX6_isBlock 2 = .ok (.aload_n 0, 1) := by decide +kernel
theorem dX6_isBlock_3 : decode cX6_isBlock 3 = .ok (.getfield 7, 3) := by decide +kernel
theorem dX6_isBlock_6 : decode cX6_isBlock 6 = .ok (.invokestatic 73, 3) := by decide +kernel
theorem dX6_isBlock_9 : decode cX6_isBlock 9 = .ok (.ireturn, 1) := by decide +kernel
abbrev rmX6_isBlock : Room := { frames := 1, cells := 0, slots := 0, locals := 22 }
set_option maxRecDepth 100000 in
theorem hinX6_isBlock_6 : ∀ w ∈ wsX60, w ∈ wsX6_isBlock := by decide +kernel
set_option maxHeartbeats 4000000 in
set_option maxRecDepth 100000 in
theorem tX6_isBlock_0 {h : AH} {a1 : Int32} {r0 : Int32} (C : Cx p rmX6_isBlock s m args meth c RX6 cX6_isBlock 2 (some .boolean) wsX6_isBlock D ad cy tb 0 0) (hf : fX6_isBlock h a1 = some r0) : AW p l e rmX6_isBlock s m args below meth c 2 D ad cy 0 0 (Qi D ad cy below args s r0 h) 0 [(0, .ref (ad 29)), (1, .int a1)] [] h := by
  unfold fX6_isBlock at hf
  refine aw_iload_n C dX6_isBlock_0 rfl 1 rfl ?_
  refine aw_iconst (v := 1) C dX6_isBlock_1 (by decide) ?_
  refine aw_aload_n C dX6_isBlock_2 rfl 0 rfl ?_
  refine aw_get C (kd_lt rfl (by decide)) (ce_6 rfl) rfl hinX6_isBlock_6 0 (by decide) rfl (by decide +kernel) rfl dX6_isBlock_3 ?_
  obtain ⟨r1, hc, hf⟩ := bR_some hf
  refine aw_callSi (As := [.int a1, .int 1, .int (h.1 29 0)]) (rest := []) C (kX6_in (l := l) (D := D) (ad := ad) (cy := cy) (tb := tb) C.2.2.2.2.2.2.2.2.1 hc) (fun ht _ => va_cwS 3 ht gX6_isBlock_X6_in rfl rfl rfl (by decide +kernel) ⟨Nat.le_of_ble_eq_true rfl, Nat.le_of_ble_eq_true rfl⟩) rfl rfl (Nat.le_of_ble_eq_true rfl) dX6_isBlock_6 ?_
  exact aw_zretN C dX6_isBlock_9 hf
theorem kX6_isBlock {h : AH} {a1 : Int32} {r0 : Int32} (hi : Inj ad) (hf : fX6_isBlock h a1 = some r0) : Ki l yX6_isBlock wsX6_isBlock rmX6_isBlock D ad cy tb [.ref (ad 29), .int a1] h r0 h := met_i (lv := [(0, .ref (ad 29)), (1, .int a1)]) hi (by decide) rfl (Nat.le_of_ble_eq_true rfl) rfl rfl (fun _ _ _ _ _ _ _ _ C => tX6_isBlock_0 C  hf)
set_option maxRecDepth 20000 in
theorem ggX6_isWord_X6_isBlock : GoodIn wsX6_isWord wsX6_isBlock := goodIn_r _ [5, 6, 7, 8, 4, 9, 10, 11, 12, 13, 14, 15, 16, 17, 18, 19, 20, 21, 22, 23, 24, 25, 26, 27] (by decide +kernel) (by decide +kernel)
set_option maxRecDepth 20000 in
theorem gX6_isWord_X6_isBlock : GoodIn wsX6_isWord (wsV RX6 77 RX6 yX6_isBlock wsX6_isBlock) := goodIn_app (goodIn_of _ (by decide +kernel)) ggX6_isWord_X6_isBlock
set_option maxRecDepth 20000 in
theorem ggX6_isWord_X6_in : GoodIn wsX6_isWord wsX6_in := goodIn_r _ [9] (by decide +kernel) (by decide +kernel)
set_option maxRecDepth 20000 in
theorem gX6_isWord_X6_in : GoodIn wsX6_isWord (va_wsS RX6 73 yX6_in wsX6_in) := goodIn_app (goodIn_of _ (by decide +kernel)) ggX6_isWord_X6_in
theorem dX6_isWord_0 : decode cX6_isWord 0 = .ok (.aload_n 0, 1) := by decide +kernel
theorem dX6_isWord_1 : decode cX6_isWord 1 = .ok (.iload_n 1, 1) := by decide +kernel
theorem dX6_isWord_2 : decode cX6_isWord 2 = .ok (.invokevirtual 77, 3) := by decide +kernel
theorem dX6_isWord_5 : decode cX6_isWord 5 = .ok (.ifCond .eq 17, 3) := by decide +kernel
theorem dX6_isWord_8 : decode cX6_isWord 8 = .ok (.iload_n 2, 1) := by decide +kernel
theorem dX6_isWord_9 : decode cX6_isWord 9 = .ok (.iconst 0, 1) := by decide +kernel
theorem dX6_isWord_10 : decode cX6_isWord 10 = .ok (.bipush 7, 2) := by decide +kernel
theorem dX6_isWord_12 : decode cX6_isWord 12 = .ok (.invokestatic 73, 3) := by decide +kernel
theorem dX6_isWord_15 : decode cX6_isWord 15 = .ok (.ifCond .eq 7, 3) := by decide +kernel
theorem dX6_isWord_18 : decode cX6_isWord 18 = .ok (.iconst 1, 1) := by decide +kernel
theorem dX6_isWord_19 : decode cX6_isWord 19 = .ok (.goto 4, 3) := by decide +kernel
theorem dX6_isWord_22 : decode cX6_isWord 22 = .ok (.iconst 0, 1) := by decide +kernel
theorem dX6_isWord_23 : decode cX6_isWord 23 = .ok (.ireturn, 1) := by decide +kernel
abbrev rmX6_isWord : Room := { frames := 2, cells := 0, slots := 0, locals := 43 }
set_option maxHeartbeats 4000000 in
set_option maxRecDepth 100000 in
theorem tX6_isWord_0 {h : AH} {a1 : Int32} {a2 : Int32} {r0 : Int32} (C : Cx p rmX6_isWord s m args meth c RX6 cX6_isWord 3 (some .boolean) wsX6_isWord D ad cy tb 0 0) (hf : fX6_isWord h a1 a2 = some r0) : AW p l e rmX6_isWord s m args below meth c 3 D ad cy 0 0 (Qi D ad cy below args s r0 h) 0 [(0, .ref (ad 29)), (1, .int a1), (2, .int a2)] [] h := by
  unfold fX6_isWord at hf
  refine aw_aload_n C dX6_isWord_0 rfl 0 rfl ?_
  refine aw_iload_n C dX6_isWord_1 rfl 1 rfl ?_
  obtain ⟨r1, hc, hf⟩ := bR_some hf
  refine aw_callVi (As := [.int a1]) (rest := []) C rfl (by decide) rfl (kX6_isBlock (l := l) (D := D) (ad := ad) (cy := cy) (tb := tb) C.2.2.2.2.2.2.2.2.1 hc) (fun ht _ => cwV 1 ht gX6_isWord_X6_isBlock rfl rfl rfl (by decide +kernel) ⟨Nat.le_of_ble_eq_true rfl, Nat.le_of_ble_eq_true rfl⟩) rfl rfl (Nat.le_of_ble_eq_true rfl) dX6_isWord_2 ?_
  refine aw_if_eq (tgt := 22) C dX6_isWord_5 (by decide) hf (fun hf => ?_) (fun hf => ?_)
  · refine aw_iconst (v := 0) C dX6_isWord_22 (by decide) ?_
    exact aw_zretR C (by decide) dX6_isWord_23 hf
  refine aw_iload_n C dX6_isWord_8 rfl 2 rfl ?_
  refine aw_iconst (v := 0) C dX6_isWord_9 (by decide) ?_
  refine aw_bipush (v := 7) C dX6_isWord_10 (by decide) ?_
  obtain ⟨r2, hc, hf⟩ := bR_some hf
  refine aw_callSi (As := [.int a2, .int 0, .int 7]) (rest := []) C (kX6_in (l := l) (D := D) (ad := ad) (cy := cy) (tb := tb) C.2.2.2.2.2.2.2.2.1 hc) (fun ht _ => va_cwS 3 ht gX6_isWord_X6_in rfl rfl rfl (by decide +kernel) ⟨Nat.le_of_ble_eq_true rfl, Nat.le_of_ble_eq_true rfl⟩) rfl rfl (Nat.le_of_ble_eq_true rfl) dX6_isWord_12 ?_
  refine aw_if_eq (tgt := 22) C dX6_isWord_15 (by decide) hf (fun hf => ?_) (fun hf => ?_)
  · refine aw_iconst (v := 0) C dX6_isWord_22 (by decide) ?_
    exact aw_zretR C (by decide) dX6_isWord_23 hf
  refine aw_iconst (v := 1) C dX6_isWord_18 (by decide) ?_
  refine aw_goto (tgt := 23) C dX6_isWord_19 (by decide) ?_
  exact aw_zretR C (by decide) dX6_isWord_23 hf
theorem kX6_isWord {h : AH} {a1 : Int32} {a2 : Int32} {r0 : Int32} (hi : Inj ad) (hf : fX6_isWord h a1 a2 = some r0) : Ki l yX6_isWord wsX6_isWord rmX6_isWord D ad cy tb [.ref (ad 29), .int a1, .int a2] h r0 h := met_i (lv := [(0, .ref (ad 29)), (1, .int a1), (2, .int a2)]) hi (by decide) rfl (Nat.le_of_ble_eq_true rfl) rfl rfl (fun _ _ _ _ _ _ _ _ C => tX6_isWord_0 C  hf)
