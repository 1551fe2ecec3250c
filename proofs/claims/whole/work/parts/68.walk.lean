variable {p : Program} {l : Launch} {e : Env} {s : State} {m : MethodId} {args : Array Value} {below : List Frame} {meth : Method} {c : Code} {D : va_G} {ad : Nat → Nat} {cy : Nat → ClassId} {tb : Nat → Nat}
set_option maxRecDepth 20000 in
theorem ggX5_digestOfLists_X0_bitOfMend : GoodIn wsX5_digestOfLists wsX0_bitOfMend := goodIn_r _ [9, 10, 11, 106, 107, 108] (by decide +kernel) (by decide +kernel)
set_option maxRecDepth 20000 in
theorem gX5_digestOfLists_X0_bitOfMend : GoodIn wsX5_digestOfLists (wsV RX5 207 RX0 yX0_bitOfMend wsX0_bitOfMend) := goodIn_app (goodIn_of _ (by decide +kernel)) ggX5_digestOfLists_X0_bitOfMend
set_option maxRecDepth 20000 in
theorem ggX5_digestOfLists_X4_endOfWords : GoodIn wsX5_digestOfLists wsX4_endOfWords := goodIn_r _ [16, 17, 117, 118, 119] (by decide +kernel) (by decide +kernel)
set_option maxRecDepth 20000 in
theorem gX5_digestOfLists_X4_endOfWords : GoodIn wsX5_digestOfLists (wsV RX5 213 RX4 yX4_endOfWords wsX4_endOfWords) := goodIn_app (goodIn_of _ (by decide +kernel)) ggX5_digestOfLists_X4_endOfWords
set_option maxRecDepth 20000 in
theorem ggX5_digestOfLists_X4_isStalled : GoodIn wsX5_digestOfLists wsX4_isStalled := goodIn_r _ [21, 22, 23, 24, 15, 25, 26, 27, 28, 29, 30, 117, 118, 119] (by decide +kernel) (by decide +kernel)
set_option maxRecDepth 20000 in
theorem gX5_digestOfLists_X4_isStalled : GoodIn wsX5_digestOfLists (wsV RX5 170 RX4 yX4_isStalled wsX4_isStalled) := goodIn_app (goodIn_of _ (by decide +kernel)) ggX5_digestOfLists_X4_isStalled
set_option maxRecDepth 20000 in
theorem ggX5_digestOfLists_X1_find : GoodIn wsX5_digestOfLists wsX1_find := goodIn_r _ [35, 36, 37, 38, 39, 13, 14, 15, 16, 17, 40, 41, 42, 43, 44, 45, 46, 47, 48, 49, 50, 51, 52, 53, 54, 55, 56, 57, 34, 58, 59, 60, 61, 62, 63, 64, 65, 66, 67, 68, 69, 70, 71, 72, 73, 74, 75, 76, 77, 78, 79, 80, 81, 82, 83, 84, 85, 86, 87, 88, 89, 90, 91, 92, 109, 110, 111, 112, 113, 114, 115, 116, 117, 118, 119] (by decide +kernel) (by decide +kernel)
set_option maxRecDepth 20000 in
theorem gX5_digestOfLists_X1_find : GoodIn wsX5_digestOfLists (wsV RX5 216 RX1 yX1_find wsX1_find) := goodIn_app (goodIn_of _ (by decide +kernel)) ggX5_digestOfLists_X1_find
set_option maxRecDepth 20000 in
theorem ggX5_digestOfLists_X1_tell : GoodIn wsX5_digestOfLists wsX1_tell := goodIn_r _ [96, 36, 61, 62, 63, 38, 109, 110, 111, 112, 113, 114, 115, 116] (by decide +kernel) (by decide +kernel)
set_option maxRecDepth 20000 in
theorem gX5_digestOfLists_X1_tell : GoodIn wsX5_digestOfLists (wsV RX5 220 RX1 yX1_tell wsX1_tell) := goodIn_app (goodIn_of _ (by decide +kernel)) ggX5_digestOfLists_X1_tell
theorem dX5_digestOfLists_0 : decode cX5_digestOfLists 0 = .ok (.lload_n 1, 1) := by decide +kernel
theorem dX5_digestOfLists_1 : decode cX5_digestOfLists 1 = .ok (.lstore_n 3, 1) := by decide +kernel
theorem dX5_digestOfLists_2 : decode cX5_digestOfLists 2 = .ok (.iconst 0, 1) := by decide +kernel
theorem dX5_digestOfLists_3 : decode cX5_digestOfLists 3 = .ok (.istore 5, 2) := by decide +kernel
theorem dX5_digestOfLists_5 : decode cX5_digestOfLists 5 = .ok (.iload 5, 2) := by decide +kernel
theorem dX5_digestOfLists_7 : decode cX5_digestOfLists 7 = .ok (.aload_n 0, 1) := by decide +kernel
theorem dX5_digestOfLists_8 : decode cX5_digestOfLists 8 = .ok (.getfield 33, 3) := by decide +kernel
theorem dX5_digestOfLists_11 : decode cX5_digestOfLists 11 = .ok (.getfield 203, 3) := by decide +kernel
theorem dX5_digestOfLists_14 : decode cX5_digestOfLists 14 = .ok (.if_icmp .ge 26, 3) := by decide +kernel
theorem dX5_digestOfLists_17 : decode cX5_digestOfLists 17 = .ok (.ldc2_w 268, 3) := by decide +kernel
theorem dX5_digestOfLists_20 : decode cX5_digestOfLists 20 = .ok (.lload_n 3, 1) := by decide +kernel
theorem dX5_digestOfLists_21 : decode cX5_digestOfLists 21 = .ok (.lmul, 1) := by decide +kernel
theorem dX5_digestOfLists_22 : decode cX5_digestOfLists 22 = .ok (.aload_n 0, 1) := by decide +kernel
theorem dX5_digestOfLists_23 : decode cX5_digestOfLists 23 = .ok (.getfield 33, 3) := by decide +kernel
theorem dX5_digestOfLists_26 : decode cX5_digestOfLists 26 = .ok (.iload 5, 2) := by decide +kernel
theorem dX5_digestOfLists_28 : decode cX5_digestOfLists 28 = .ok (.invokevirtual 207, 3) := by decide +kernel
theorem dX5_digestOfLists_31 : decode cX5_digestOfLists 31 = .ok (.i2l, 1) := by decide +kernel
theorem dX5_digestOfLists_32 : decode cX5_digestOfLists 32 = .ok (.ladd, 1) := by decide +kernel
theorem dX5_digestOfLists_33 : decode cX5_digestOfLists 33 = .ok (.lstore_n 3, 1) := by decide +kernel
theorem dX5_digestOfLists_34 : decode cX5_digestOfLists 34 = .ok (.iinc 5 1, 3) := by decide +kernel
theorem dX5_digestOfLists_37 : decode cX5_digestOfLists 37 = .ok (.goto (-32), 3) := by decide +kernel
theorem dX5_digestOfLists_40 : decode cX5_digestOfLists 40 = .ok (.aload_n 0, 1) := by decide +kernel
theorem dX5_digestOfLists_41 : decode cX5_digestOfLists 41 = .ok (.getfield 12, 3) := by decide +kernel
theorem dX5_digestOfLists_44 : decode cX5_digestOfLists 44 = .ok (.invokevirtual 213, 3) := by decide +kernel
theorem dX5_digestOfLists_47 : decode cX5_digestOfLists 47 = .ok (.istore 5, 2) := by decide +kernel
theorem dX5_digestOfLists_49 : decode cX5_digestOfLists 49 = .ok (.bipush 8, 2) := by decide +kernel
theorem dX5_digestOfLists_51 : decode cX5_digestOfLists 51 = .ok (.istore 6, 2) := by decide +kernel
theorem dX5_digestOfLists_53 : decode cX5_digestOfLists 53 = .ok (.iload 6, 2) := by decide +kernel
theorem dX5_digestOfLists_55 : decode cX5_digestOfLists 55 = .ok (.iload 5, 2) := by decide +kernel
theorem dX5_digestOfLists_57 : decode cX5_digestOfLists 57 = .ok (.if_icmp .ge 31, 3) := by decide +kernel
theorem dX5_digestOfLists_60 : decode cX5_digestOfLists 60 = .ok (.aload_n 0, 1) := by decide +kernel
theorem dX5_digestOfLists_61 : decode cX5_digestOfLists 61 = .ok (.getfield 12, 3) := by decide +kernel
theorem dX5_digestOfLists_64 : decode cX5_digestOfLists 64 = .ok (.iload 6, 2) := by decide +kernel
theorem dX5_digestOfLists_66 : decode cX5_digestOfLists 66 = .ok (.invokevirtual 170, 3) := by decide +kernel
theorem dX5_digestOfLists_69 : decode cX5_digestOfLists 69 = .ok (.ifCond .eq 13, 3) := by decide +kernel
theorem dX5_digestOfLists_72 : decode cX5_digestOfLists 72 = .ok (.ldc2_w 268, 3) := by decide +kernel
theorem dX5_digestOfLists_75 : decode cX5_digestOfLists 75 = .ok (.lload_n 3, 1) := by decide +kernel
theorem dX5_digestOfLists_76 : decode cX5_digestOfLists 76 = .ok (.lmul, 1) := by decide +kernel
theorem dX5_digestOfLists_77 : decode cX5_digestOfLists 77 = .ok (.iload 6, 2) := by decide +kernel
theorem dX5_digestOfLists_79 : decode cX5_digestOfLists 79 = .ok (.i2l, 1) := by decide +kernel
theorem dX5_digestOfLists_80 : decode cX5_digestOfLists 80 = .ok (.ladd, 1) := by decide +kernel
theorem dX5_digestOfLists_81 : decode cX5_digestOfLists 81 = .ok (.lstore_n 3, 1) := by decide +kernel
theorem dX5_digestOfLists_82 : decode cX5_digestOfLists 82 = .ok (.iinc 6 1, 3) := by decide +kernel
theorem dX5_digestOfLists_85 : decode cX5_digestOfLists 85 = .ok (.goto (-32), 3) := by decide +kernel
theorem dX5_digestOfLists_88 : decode cX5_digestOfLists 88 = .ok (.aload_n 0, 1) := by decide +kernel
theorem dX5_digestOfLists_89 : decode cX5_digestOfLists 89 = .ok (.getfield 40, 3) := by decide +kernel
theorem dX5_digestOfLists_92 : decode cX5_digestOfLists 92 = .ok (.aload_n 0, 1) := by decide +kernel
theorem dX5_digestOfLists_93 : decode cX5_digestOfLists 93 = .ok (.getfield 12, 3) := by decide +kernel
theorem dX5_digestOfLists_96 : decode cX5_digestOfLists 96 = .ok (.invokevirtual 216, 3) := by decide +kernel
theorem dX5_digestOfLists_99 : decode cX5_digestOfLists 99 = .ok (.iconst 0, 1) := by decide +kernel
theorem dX5_digestOfLists_100 : decode cX5_digestOfLists 100 = .ok (.istore 6, 2) := by decide +kernel
theorem dX5_digestOfLists_102 : decode cX5_digestOfLists 102 = .ok (.iload 6, 2) := by decide +kernel
theorem dX5_digestOfLists_104 : decode cX5_digestOfLists 104 = .ok (.aload_n 0, 1) := by decide +kernel
theorem dX5_digestOfLists_105 : decode cX5_digestOfLists 105 = .ok (.getfield 40, 3) := by decide +kernel
theorem dX5_digestOfLists_108 : decode cX5_digestOfLists 108 = .ok (.getfield 260, 3) := by decide +kernel
theorem dX5_digestOfLists_111 : decode cX5_digestOfLists 111 = .ok (.if_icmp .ge 43, 3) := by decide +kernel
theorem dX5_digestOfLists_114 : decode cX5_digestOfLists 114 = .ok (.iconst 0, 1) := by decide +kernel
theorem dX5_digestOfLists_115 : decode cX5_digestOfLists 115 = .ok (.istore 7, 2) := by decide +kernel
theorem dX5_digestOfLists_117 : decode cX5_digestOfLists 117 = .ok (.iload 7, 2) := by decide +kernel
theorem dX5_digestOfLists_119 : decode cX5_digestOfLists 119 = .ok (.iconst 3, 1) := by decide +kernel
theorem dX5_digestOfLists_120 : decode cX5_digestOfLists 120 = .ok (.if_icmp .gt 28, 3) := by decide +kernel
theorem dX5_digestOfLists_123 : decode cX5_digestOfLists 123 = .ok (.ldc2_w 268, 3) := by decide +kernel
theorem dX5_digestOfLists_126 : decode cX5_digestOfLists 126 = .ok (.lload_n 3, 1) := by decide +kernel
theorem dX5_digestOfLists_127 : decode cX5_digestOfLists 127 = .ok (.lmul, 1) := by decide +kernel
theorem dX5_digestOfLists_128 : decode cX5_digestOfLists 128 = .ok (.aload_n 0, 1) := by decide +kernel
theorem dX5_digestOfLists_129 : decode cX5_digestOfLists 129 = .ok (.getfield 40, 3) := by decide +kernel
theorem dX5_digestOfLists_132 : decode cX5_digestOfLists 132 = .ok (.iload 6, 2) := by decide +kernel
theorem dX5_digestOfLists_134 : decode cX5_digestOfLists 134 = .ok (.iload 7, 2) := by decide +kernel
theorem dX5_digestOfLists_136 : decode cX5_digestOfLists 136 = .ok (.invokevirtual 220, 3) := by decide +kernel
theorem dX5_digestOfLists_139 : decode cX5_digestOfLists 139 = .ok (.i2l, 1) := by decide +kernel
theorem dX5_digestOfLists_140 : decode cX5_digestOfLists 140 = .ok (.ladd, 1) := by decide +kernel
theorem dX5_digestOfLists_141 : decode cX5_digestOfLists 141 = .ok (.lstore_n 3, 1) := by decide +kernel
theorem dX5_digestOfLists_142 : decode cX5_digestOfLists 142 = .ok (.iinc 7 1, 3) := by decide +kernel
theorem dX5_digestOfLists_145 : decode cX5_digestOfLists 145 = .ok (.goto (-28), 3) := by decide +kernel
theorem dX5_digestOfLists_148 : decode cX5_digestOfLists 148 = .ok (.iinc 6 1, 3) := by decide +kernel
theorem dX5_digestOfLists_151 : decode cX5_digestOfLists 151 = .ok (.goto (-49), 3) := by decide +kernel
theorem dX5_digestOfLists_154 : decode cX5_digestOfLists 154 = .ok (.lload_n 3, 1) := by decide +kernel
theorem dX5_digestOfLists_155 : decode cX5_digestOfLists 155 = .ok (.lreturn, 1) := by decide +kernel
abbrev rmX5_digestOfLists : Room := { frames := 5, cells := 0, slots := 0, locals := 120 }
set_option maxRecDepth 100000 in
theorem hinX5_digestOfLists_5 : ∀ w ∈ wsX50, w ∈ wsX5_digestOfLists := by decide +kernel
set_option maxRecDepth 100000 in
theorem hinX5_digestOfLists_0 : ∀ w ∈ wsX00, w ∈ wsX5_digestOfLists := by decide +kernel
set_option maxRecDepth 100000 in
theorem hinX5_digestOfLists_1 : ∀ w ∈ wsX10, w ∈ wsX5_digestOfLists := by decide +kernel
set_option maxHeartbeats 4000000 in
set_option maxRecDepth 100000 in
theorem tX5_digestOfLists_82 {h : AH} {a1 : Int64} {k53 : AH → Int64 → Int32 → Int32 → Option (Int64 × AH)} {x3 : Int64} {x5 : Int32} {x6 : Int32} {r0 : Int64} {h0 : AH} (C : Cx p rmX5_digestOfLists s m args meth c RX5 cX5_digestOfLists 8 (some .long) wsX5_digestOfLists D ad cy tb 0 0) (H53 : ∀ (h : AH) (x3 : Int64) (x5 : Int32) (x6 : Int32), k53 h x3 x5 x6 = some (r0, h0) → AW p l e rmX5_digestOfLists s m args below meth c 8 D ad cy 0 0 (Ql D ad cy below args s r0 h0) 53 [(0, .ref (ad 0)), (1, .long a1), (3, .long x3), (5, .int x5), (6, .int x6)] [] h) (hf : fX5_digestOfLists_82 k53 a1 h x3 x5 x6 = some (r0, h0)) : AW p l e rmX5_digestOfLists s m args below meth c 8 D ad cy 0 0 (Ql D ad cy below args s r0 h0) 82 [(0, .ref (ad 0)), (1, .long a1), (3, .long x3), (5, .int x5), (6, .int x6)] [] h := by
  unfold fX5_digestOfLists_82 at hf
  obtain ⟨v1, hvv1, hf⟩ := nm_ex hf
  refine aw_iinc (j := 4) (v := v1) (lv1 := [(6, .int v1), (0, .ref (ad 0)), (1, .long a1), (3, .long x3), (5, .int x5)]) C dX5_digestOfLists_82 rfl hvv1 (by decide) rfl ?_
  refine aw_goto (tgt := 53) C dX5_digestOfLists_85 (by decide) ?_
  refine aw_sub [1, 2, 3, 4, 0] rfl ?_
  exact H53 h x3 x5 v1 hf
set_option maxHeartbeats 4000000 in
set_option maxRecDepth 100000 in
theorem tX5_digestOfLists_117b {h : AH} {a1 : Int64} {k102 : AH → Int64 → Int32 → Option (Int64 × AH)} {k117 : AH → Int64 → Int32 → Int32 → Option (Int64 × AH)} {x3 : Int64} {x6 : Int32} {x7 : Int32} {r0 : Int64} {h0 : AH} (C : Cx p rmX5_digestOfLists s m args meth c RX5 cX5_digestOfLists 8 (some .long) wsX5_digestOfLists D ad cy tb 0 0) (H102 : ∀ (h : AH) (x3 : Int64) (x6 : Int32), k102 h x3 x6 = some (r0, h0) → AW p l e rmX5_digestOfLists s m args below meth c 8 D ad cy 0 0 (Ql D ad cy below args s r0 h0) 102 [(0, .ref (ad 0)), (1, .long a1), (3, .long x3), (6, .int x6)] [] h) (H117 : ∀ (h : AH) (x3 : Int64) (x6 : Int32) (x7 : Int32), k117 h x3 x6 x7 = some (r0, h0) → AW p l e rmX5_digestOfLists s m args below meth c 8 D ad cy 0 0 (Ql D ad cy below args s r0 h0) 117 [(0, .ref (ad 0)), (1, .long a1), (3, .long x3), (6, .int x6), (7, .int x7)] [] h) (hf : fX5_digestOfLists_117b k102 k117 a1 h x3 x6 x7 = some (r0, h0)) : AW p l e rmX5_digestOfLists s m args below meth c 8 D ad cy 0 0 (Ql D ad cy below args s r0 h0) 117 [(0, .ref (ad 0)), (1, .long a1), (3, .long x3), (6, .int x6), (7, .int x7)] [] h := by
  unfold fX5_digestOfLists_117b at hf
  refine aw_iload C dX5_digestOfLists_117 4 rfl ?_
  refine aw_iconst (v := 3) C dX5_digestOfLists_119 (by decide) ?_
  refine aw_icmp_gt (tgt := 148) C dX5_digestOfLists_120 (by decide) hf (fun hf => ?_) (fun hf => ?_)
  · obtain ⟨v1, hvv1, hf⟩ := nm_ex hf
    refine aw_iinc (j := 3) (v := v1) (lv1 := [(6, .int v1), (0, .ref (ad 0)), (1, .long a1), (3, .long x3), (7, .int x7)]) C dX5_digestOfLists_148 rfl hvv1 (by decide) rfl ?_
    refine aw_goto (tgt := 102) C dX5_digestOfLists_151 (by decide) ?_
    refine aw_sub [1, 2, 3, 0] rfl ?_
    exact H102 h x3 v1 hf
  refine aw_ldc2 (v := 31) C (by decide +kernel) dX5_digestOfLists_123 ?_
  refine aw_lload_n C dX5_digestOfLists_126 rfl 2 rfl ?_
  refine aw_lmul C dX5_digestOfLists_127 ?_
  refine aw_aload_n C dX5_digestOfLists_128 rfl 0 rfl ?_
  refine aw_get C (kd_lt rfl (by decide)) (ce_5 rfl) rfl hinX5_digestOfLists_5 5 (by decide) rfl (by decide +kernel) rfl dX5_digestOfLists_129 ?_
  refine aw_iload C dX5_digestOfLists_132 3 rfl ?_
  refine aw_iload C dX5_digestOfLists_134 4 rfl ?_
  obtain ⟨r2, hc, hf⟩ := bR_some hf
  refine aw_callVi (As := [.int x6, .int x7]) (rest := [.long (31 * x3)]) C rfl (by decide) rfl (kX1_tell (l := l) (D := D) (ad := ad) (cy := cy) (tb := tb) C.2.2.2.2.2.2.2.2.1 hc) (fun ht _ => cwV 2 ht gX5_digestOfLists_X1_tell rfl rfl rfl (by decide +kernel) ⟨Nat.le_of_ble_eq_true rfl, Nat.le_of_ble_eq_true rfl⟩) rfl rfl (Nat.le_of_ble_eq_true rfl) dX5_digestOfLists_136 ?_
  refine aw_i2l C dX5_digestOfLists_139 ?_
  refine aw_ladd C dX5_digestOfLists_140 ?_
  refine aw_nmL hf (fun v3 hf => ?_)
  refine aw_lstore_n (lv1 := [(3, .long v3), (0, .ref (ad 0)), (1, .long a1), (6, .int x6), (7, .int x7)]) C dX5_digestOfLists_141 rfl (by decide) rfl ?_
  obtain ⟨v4, hvv4, hf⟩ := nm_ex hf
  refine aw_iinc (j := 4) (v := v4) (lv1 := [(7, .int v4), (3, .long v3), (0, .ref (ad 0)), (1, .long a1), (6, .int x6)]) C dX5_digestOfLists_142 rfl hvv4 (by decide) rfl ?_
  refine aw_goto (tgt := 117) C dX5_digestOfLists_145 (by decide) ?_
  refine aw_sub [2, 3, 1, 4, 0] rfl ?_
  exact H117 h v3 x6 v4 hf
set_option maxHeartbeats 4000000 in
set_option maxRecDepth 100000 in
theorem tX5_digestOfLists_117  {a1 : Int64} {k102 : AH → Int64 → Int32 → Option (Int64 × AH)} {r0 : Int64} {h0 : AH} (C : Cx p rmX5_digestOfLists s m args meth c RX5 cX5_digestOfLists 8 (some .long) wsX5_digestOfLists D ad cy tb 0 0) (H102 : ∀ (h : AH) (x3 : Int64) (x6 : Int32), k102 h x3 x6 = some (r0, h0) → AW p l e rmX5_digestOfLists s m args below meth c 8 D ad cy 0 0 (Ql D ad cy below args s r0 h0) 102 [(0, .ref (ad 0)), (1, .long a1), (3, .long x3), (6, .int x6)] [] h) : ∀ (n : Nat) (h : AH) (x3 : Int64) (x6 : Int32) (x7 : Int32), fX5_digestOfLists_117 k102 a1 n h x3 x6 x7 = some (r0, h0) → AW p l e rmX5_digestOfLists s m args below meth c 8 D ad cy 0 0 (Ql D ad cy below args s r0 h0) 117 [(0, .ref (ad 0)), (1, .long a1), (3, .long x3), (6, .int x6), (7, .int x7)] [] h := by
  intro n
  induction n with
  | zero => intro h x3 x6 x7 hf; cases hf
  | succ n ih => intro h x3 x6 x7 hf; exact tX5_digestOfLists_117b C  H102 ih  hf
set_option maxHeartbeats 4000000 in
set_option maxRecDepth 100000 in
theorem tX5_digestOfLists_102b {h : AH} {a1 : Int64} {k102 : AH → Int64 → Int32 → Option (Int64 × AH)} {x3 : Int64} {x6 : Int32} {r0 : Int64} {h0 : AH} (C : Cx p rmX5_digestOfLists s m args meth c RX5 cX5_digestOfLists 8 (some .long) wsX5_digestOfLists D ad cy tb 0 0) (H102 : ∀ (h : AH) (x3 : Int64) (x6 : Int32), k102 h x3 x6 = some (r0, h0) → AW p l e rmX5_digestOfLists s m args below meth c 8 D ad cy 0 0 (Ql D ad cy below args s r0 h0) 102 [(0, .ref (ad 0)), (1, .long a1), (3, .long x3), (6, .int x6)] [] h) (hf : fX5_digestOfLists_102b k102 a1 h x3 x6 = some (r0, h0)) : AW p l e rmX5_digestOfLists s m args below meth c 8 D ad cy 0 0 (Ql D ad cy below args s r0 h0) 102 [(0, .ref (ad 0)), (1, .long a1), (3, .long x3), (6, .int x6)] [] h := by
  unfold fX5_digestOfLists_102b at hf
  refine aw_iload C dX5_digestOfLists_102 3 rfl ?_
  refine aw_aload_n C dX5_digestOfLists_104 rfl 0 rfl ?_
  refine aw_get C (kd_lt rfl (by decide)) (ce_5 rfl) rfl hinX5_digestOfLists_5 5 (by decide) rfl (by decide +kernel) rfl dX5_digestOfLists_105 ?_
  refine aw_getN (host := "StairCodes") C (kd_lt rfl (by decide)) (ce_1 rfl) rfl hinX5_digestOfLists_1 0 (by decide) rfl (by decide +kernel) rfl dX5_digestOfLists_108 ?_
  refine aw_icmp_ge (tgt := 154) C dX5_digestOfLists_111 (by decide) hf (fun hf => ?_) (fun hf => ?_)
  · refine aw_lload_n C dX5_digestOfLists_154 rfl 2 rfl ?_
    exact aw_lretW C dX5_digestOfLists_155 hf
  refine aw_iconst (v := 0) C dX5_digestOfLists_114 (by decide) ?_
  refine aw_istore (lv1 := [(7, .int 0), (0, .ref (ad 0)), (1, .long a1), (3, .long x3), (6, .int x6)]) C dX5_digestOfLists_115 (by decide) rfl ?_
  refine aw_sub [1, 2, 3, 4, 0] rfl ?_
  exact tX5_digestOfLists_117 C  H102 FU h x3 x6 0 hf
set_option maxHeartbeats 4000000 in
set_option maxRecDepth 100000 in
theorem tX5_digestOfLists_102  {a1 : Int64} {r0 : Int64} {h0 : AH} (C : Cx p rmX5_digestOfLists s m args meth c RX5 cX5_digestOfLists 8 (some .long) wsX5_digestOfLists D ad cy tb 0 0) : ∀ (n : Nat) (h : AH) (x3 : Int64) (x6 : Int32), fX5_digestOfLists_102 a1 n h x3 x6 = some (r0, h0) → AW p l e rmX5_digestOfLists s m args below meth c 8 D ad cy 0 0 (Ql D ad cy below args s r0 h0) 102 [(0, .ref (ad 0)), (1, .long a1), (3, .long x3), (6, .int x6)] [] h := by
  intro n
  induction n with
  | zero => intro h x3 x6 hf; cases hf
  | succ n ih => intro h x3 x6 hf; exact tX5_digestOfLists_102b C  ih  hf
set_option maxHeartbeats 4000000 in
set_option maxRecDepth 100000 in
theorem tX5_digestOfLists_53b {h : AH} {a1 : Int64} {k53 : AH → Int64 → Int32 → Int32 → Option (Int64 × AH)} {x3 : Int64} {x5 : Int32} {x6 : Int32} {r0 : Int64} {h0 : AH} (C : Cx p rmX5_digestOfLists s m args meth c RX5 cX5_digestOfLists 8 (some .long) wsX5_digestOfLists D ad cy tb 0 0) (H53 : ∀ (h : AH) (x3 : Int64) (x5 : Int32) (x6 : Int32), k53 h x3 x5 x6 = some (r0, h0) → AW p l e rmX5_digestOfLists s m args below meth c 8 D ad cy 0 0 (Ql D ad cy below args s r0 h0) 53 [(0, .ref (ad 0)), (1, .long a1), (3, .long x3), (5, .int x5), (6, .int x6)] [] h) (hf : fX5_digestOfLists_53b k53 a1 h x3 x5 x6 = some (r0, h0)) : AW p l e rmX5_digestOfLists s m args below meth c 8 D ad cy 0 0 (Ql D ad cy below args s r0 h0) 53 [(0, .ref (ad 0)), (1, .long a1), (3, .long x3), (5, .int x5), (6, .int x6)] [] h := by
  unfold fX5_digestOfLists_53b at hf
  refine aw_iload C dX5_digestOfLists_53 4 rfl ?_
  refine aw_iload C dX5_digestOfLists_55 3 rfl ?_
  refine aw_icmp_ge (tgt := 88) C dX5_digestOfLists_57 (by decide) hf (fun hf => ?_) (fun hf => ?_)
  · refine aw_aload_n C dX5_digestOfLists_88 rfl 0 rfl ?_
    refine aw_get C (kd_lt rfl (by decide)) (ce_5 rfl) rfl hinX5_digestOfLists_5 5 (by decide) rfl (by decide +kernel) rfl dX5_digestOfLists_89 ?_
    refine aw_aload_n C dX5_digestOfLists_92 rfl 0 rfl ?_
    refine aw_get C (kd_lt rfl (by decide)) (ce_5 rfl) rfl hinX5_digestOfLists_5 0 (by decide) rfl (by decide +kernel) rfl dX5_digestOfLists_93 ?_
    obtain ⟨h1, hc, hf⟩ := bR_some hf
    refine aw_callVv (As := [.ref (ad 1)]) (rest := []) C rfl (by decide) rfl (kX1_find (l := l) (D := D) (ad := ad) (cy := cy) (tb := tb) C.2.2.2.2.2.2.2.2.1 rfl hc) (fun ht _ => cwV 1 ht gX5_digestOfLists_X1_find rfl rfl rfl (by decide +kernel) ⟨Nat.le_of_ble_eq_true rfl, Nat.le_of_ble_eq_true rfl⟩) rfl rfl (Nat.le_of_ble_eq_true rfl) dX5_digestOfLists_96 ?_
    refine aw_iconst (v := 0) C dX5_digestOfLists_99 (by decide) ?_
    refine aw_istore (lv1 := [(6, .int 0), (0, .ref (ad 0)), (1, .long a1), (3, .long x3), (5, .int x5)]) C dX5_digestOfLists_100 (by decide) rfl ?_
    refine aw_sub [1, 2, 3, 0] rfl ?_
    exact tX5_digestOfLists_102 C   FU h1 x3 0 hf
  refine aw_aload_n C dX5_digestOfLists_60 rfl 0 rfl ?_
  refine aw_get C (kd_lt rfl (by decide)) (ce_5 rfl) rfl hinX5_digestOfLists_5 0 (by decide) rfl (by decide +kernel) rfl dX5_digestOfLists_61 ?_
  refine aw_iload C dX5_digestOfLists_64 4 rfl ?_
  obtain ⟨r2, hc, hf⟩ := bR_some hf
  refine aw_callVi (As := [.int x6]) (rest := []) C rfl (by decide) rfl (kX4_isStalled (l := l) (D := D) (ad := ad) (cy := cy) (tb := tb) C.2.2.2.2.2.2.2.2.1 rfl hc) (fun ht _ => cwV 1 ht gX5_digestOfLists_X4_isStalled rfl rfl rfl (by decide +kernel) ⟨Nat.le_of_ble_eq_true rfl, Nat.le_of_ble_eq_true rfl⟩) rfl rfl (Nat.le_of_ble_eq_true rfl) dX5_digestOfLists_66 ?_
  refine aw_if_eq (tgt := 82) C dX5_digestOfLists_69 (by decide) hf (fun hf => ?_) (fun hf => ?_)
  · refine aw_sub [0, 1, 2, 3, 4] rfl ?_
    exact tX5_digestOfLists_82 C  H53 hf
  refine aw_ldc2 (v := 31) C (by decide +kernel) dX5_digestOfLists_72 ?_
  refine aw_lload_n C dX5_digestOfLists_75 rfl 2 rfl ?_
  refine aw_lmul C dX5_digestOfLists_76 ?_
  refine aw_iload C dX5_digestOfLists_77 4 rfl ?_
  refine aw_i2l C dX5_digestOfLists_79 ?_
  refine aw_ladd C dX5_digestOfLists_80 ?_
  refine aw_nmL hf (fun v3 hf => ?_)
  refine aw_lstore_n (lv1 := [(3, .long v3), (0, .ref (ad 0)), (1, .long a1), (5, .int x5), (6, .int x6)]) C dX5_digestOfLists_81 rfl (by decide) rfl ?_
  refine aw_sub [1, 2, 0, 3, 4] rfl ?_
  exact tX5_digestOfLists_82 C  H53 hf
set_option maxHeartbeats 4000000 in
set_option maxRecDepth 100000 in
theorem tX5_digestOfLists_53  {a1 : Int64} {r0 : Int64} {h0 : AH} (C : Cx p rmX5_digestOfLists s m args meth c RX5 cX5_digestOfLists 8 (some .long) wsX5_digestOfLists D ad cy tb 0 0) : ∀ (n : Nat) (h : AH) (x3 : Int64) (x5 : Int32) (x6 : Int32), fX5_digestOfLists_53 a1 n h x3 x5 x6 = some (r0, h0) → AW p l e rmX5_digestOfLists s m args below meth c 8 D ad cy 0 0 (Ql D ad cy below args s r0 h0) 53 [(0, .ref (ad 0)), (1, .long a1), (3, .long x3), (5, .int x5), (6, .int x6)] [] h := by
  intro n
  induction n with
  | zero => intro h x3 x5 x6 hf; cases hf
  | succ n ih => intro h x3 x5 x6 hf; exact tX5_digestOfLists_53b C  ih  hf
set_option maxHeartbeats 4000000 in
set_option maxRecDepth 100000 in
theorem tX5_digestOfLists_5b {h : AH} {a1 : Int64} {k5 : AH → Int64 → Int32 → Option (Int64 × AH)} {x3 : Int64} {x5 : Int32} {r0 : Int64} {h0 : AH} (C : Cx p rmX5_digestOfLists s m args meth c RX5 cX5_digestOfLists 8 (some .long) wsX5_digestOfLists D ad cy tb 0 0) (H5 : ∀ (h : AH) (x3 : Int64) (x5 : Int32), k5 h x3 x5 = some (r0, h0) → AW p l e rmX5_digestOfLists s m args below meth c 8 D ad cy 0 0 (Ql D ad cy below args s r0 h0) 5 [(0, .ref (ad 0)), (1, .long a1), (3, .long x3), (5, .int x5)] [] h) (hf : fX5_digestOfLists_5b k5 a1 h x3 x5 = some (r0, h0)) : AW p l e rmX5_digestOfLists s m args below meth c 8 D ad cy 0 0 (Ql D ad cy below args s r0 h0) 5 [(0, .ref (ad 0)), (1, .long a1), (3, .long x3), (5, .int x5)] [] h := by
  unfold fX5_digestOfLists_5b at hf
  refine aw_iload C dX5_digestOfLists_5 3 rfl ?_
  refine aw_aload_n C dX5_digestOfLists_7 rfl 0 rfl ?_
  refine aw_get C (kd_lt rfl (by decide)) (ce_5 rfl) rfl hinX5_digestOfLists_5 4 (by decide) rfl (by decide +kernel) rfl dX5_digestOfLists_8 ?_
  refine aw_getN (host := "StairCodes") C (kd_lt rfl (by decide)) (ce_0 rfl) rfl hinX5_digestOfLists_0 2 (by decide) rfl (by decide +kernel) rfl dX5_digestOfLists_11 ?_
  refine aw_icmp_ge (tgt := 40) C dX5_digestOfLists_14 (by decide) hf (fun hf => ?_) (fun hf => ?_)
  · refine aw_aload_n C dX5_digestOfLists_40 rfl 0 rfl ?_
    refine aw_get C (kd_lt rfl (by decide)) (ce_5 rfl) rfl hinX5_digestOfLists_5 0 (by decide) rfl (by decide +kernel) rfl dX5_digestOfLists_41 ?_
    obtain ⟨r1, hc, hf⟩ := bR_some hf
    refine aw_callVi (As := []) (rest := []) C rfl (by decide) rfl (kX4_endOfWords (l := l) (D := D) (ad := ad) (cy := cy) (tb := tb) C.2.2.2.2.2.2.2.2.1 rfl hc) (fun ht _ => cwV 0 ht gX5_digestOfLists_X4_endOfWords rfl rfl rfl (by decide +kernel) ⟨Nat.le_of_ble_eq_true rfl, Nat.le_of_ble_eq_true rfl⟩) rfl rfl (Nat.le_of_ble_eq_true rfl) dX5_digestOfLists_44 ?_
    refine aw_istore (lv1 := [(5, .int r1), (0, .ref (ad 0)), (1, .long a1), (3, .long x3)]) C dX5_digestOfLists_47 (by decide) rfl ?_
    refine aw_bipush (v := 8) C dX5_digestOfLists_49 (by decide) ?_
    refine aw_istore (lv1 := [(6, .int 8), (5, .int r1), (0, .ref (ad 0)), (1, .long a1), (3, .long x3)]) C dX5_digestOfLists_51 (by decide) rfl ?_
    refine aw_sub [2, 3, 4, 1, 0] rfl ?_
    exact tX5_digestOfLists_53 C   FU h x3 r1 8 hf
  refine aw_ldc2 (v := 31) C (by decide +kernel) dX5_digestOfLists_17 ?_
  refine aw_lload_n C dX5_digestOfLists_20 rfl 2 rfl ?_
  refine aw_lmul C dX5_digestOfLists_21 ?_
  refine aw_aload_n C dX5_digestOfLists_22 rfl 0 rfl ?_
  refine aw_get C (kd_lt rfl (by decide)) (ce_5 rfl) rfl hinX5_digestOfLists_5 4 (by decide) rfl (by decide +kernel) rfl dX5_digestOfLists_23 ?_
  refine aw_iload C dX5_digestOfLists_26 3 rfl ?_
  obtain ⟨r2, hc, hf⟩ := bR_some hf
  refine aw_callVi (As := [.int x5]) (rest := [.long (31 * x3)]) C rfl (by decide) rfl (kX0_bitOfMend (l := l) (D := D) (ad := ad) (cy := cy) (tb := tb) C.2.2.2.2.2.2.2.2.1 hc) (fun ht _ => cwV 1 ht gX5_digestOfLists_X0_bitOfMend rfl rfl rfl (by decide +kernel) ⟨Nat.le_of_ble_eq_true rfl, Nat.le_of_ble_eq_true rfl⟩) rfl rfl (Nat.le_of_ble_eq_true rfl) dX5_digestOfLists_28 ?_
  refine aw_i2l C dX5_digestOfLists_31 ?_
  refine aw_ladd C dX5_digestOfLists_32 ?_
  refine aw_nmL hf (fun v3 hf => ?_)
  refine aw_lstore_n (lv1 := [(3, .long v3), (0, .ref (ad 0)), (1, .long a1), (5, .int x5)]) C dX5_digestOfLists_33 rfl (by decide) rfl ?_
  obtain ⟨v4, hvv4, hf⟩ := nm_ex hf
  refine aw_iinc (j := 3) (v := v4) (lv1 := [(5, .int v4), (3, .long v3), (0, .ref (ad 0)), (1, .long a1)]) C dX5_digestOfLists_34 rfl hvv4 (by decide) rfl ?_
  refine aw_goto (tgt := 5) C dX5_digestOfLists_37 (by decide) ?_
  refine aw_sub [2, 3, 1, 0] rfl ?_
  exact H5 h v3 v4 hf
set_option maxHeartbeats 4000000 in
set_option maxRecDepth 100000 in
theorem tX5_digestOfLists_5  {a1 : Int64} {r0 : Int64} {h0 : AH} (C : Cx p rmX5_digestOfLists s m args meth c RX5 cX5_digestOfLists 8 (some .long) wsX5_digestOfLists D ad cy tb 0 0) : ∀ (n : Nat) (h : AH) (x3 : Int64) (x5 : Int32), fX5_digestOfLists_5 a1 n h x3 x5 = some (r0, h0) → AW p l e rmX5_digestOfLists s m args below meth c 8 D ad cy 0 0 (Ql D ad cy below args s r0 h0) 5 [(0, .ref (ad 0)), (1, .long a1), (3, .long x3), (5, .int x5)] [] h := by
  intro n
  induction n with
  | zero => intro h x3 x5 hf; cases hf
  | succ n ih => intro h x3 x5 hf; exact tX5_digestOfLists_5b C  ih  hf
set_option maxHeartbeats 4000000 in
set_option maxRecDepth 100000 in
theorem tX5_digestOfLists_0 {h : AH} {a1 : Int64} {r0 : Int64} {h0 : AH} (C : Cx p rmX5_digestOfLists s m args meth c RX5 cX5_digestOfLists 8 (some .long) wsX5_digestOfLists D ad cy tb 0 0) (hf : fX5_digestOfLists h a1 = some (r0, h0)) : AW p l e rmX5_digestOfLists s m args below meth c 8 D ad cy 0 0 (Ql D ad cy below args s r0 h0) 0 [(0, .ref (ad 0)), (1, .long a1)] [] h := by
  unfold fX5_digestOfLists at hf
  refine aw_lload_n C dX5_digestOfLists_0 rfl 1 rfl ?_
  refine aw_lstore_n (lv1 := [(3, .long a1), (0, .ref (ad 0)), (1, .long a1)]) C dX5_digestOfLists_1 rfl (by decide) rfl ?_
  refine aw_iconst (v := 0) C dX5_digestOfLists_2 (by decide) ?_
  refine aw_istore (lv1 := [(5, .int 0), (3, .long a1), (0, .ref (ad 0)), (1, .long a1)]) C dX5_digestOfLists_3 (by decide) rfl ?_
  refine aw_sub [2, 3, 1, 0] rfl ?_
  exact tX5_digestOfLists_5 C   FU h a1 0 hf
theorem kX5_digestOfLists {h : AH} {a1 : Int64} {r0 : Int64} {h0 : AH} (hi : Inj ad) (hf : fX5_digestOfLists h a1 = some (r0, h0)) : Kl l yX5_digestOfLists wsX5_digestOfLists rmX5_digestOfLists D ad cy tb [.ref (ad 0), .long a1] h r0 h0 := met_l (lv := [(0, .ref (ad 0)), (1, .long a1)]) hi (by decide) rfl (Nat.le_of_ble_eq_true rfl) rfl rfl (fun _ _ _ _ _ _ _ _ C => tX5_digestOfLists_0 C  hf)
set_option maxRecDepth 20000 in
theorem ggX5_digestOfBlock_X5_block : GoodIn wsX5_digestOfBlock wsX5_block := goodIn_r _ [6, 7, 8, 9, 5, 10, 11, 12, 13, 14, 15, 16, 92, 93, 94, 95, 96, 97, 98, 99, 100, 101, 102, 103, 104, 105] (by decide +kernel) (by decide +kernel)
set_option maxRecDepth 20000 in
theorem gX5_digestOfBlock_X5_block : GoodIn wsX5_digestOfBlock (wsV RX5 286 RX5 yX5_block wsX5_block) := goodIn_app (goodIn_of _ (by decide +kernel)) ggX5_digestOfBlock_X5_block
set_option maxRecDepth 20000 in
theorem ggX5_digestOfBlock_X5_row : GoodIn wsX5_digestOfBlock wsX5_row := goodIn_r _ [20, 16, 21, 22, 23, 5, 24, 7, 8, 9, 10, 11, 25, 26, 27, 12, 13, 14, 15, 28, 29, 30, 92, 93, 94, 95, 96, 97, 98, 99, 100, 104, 105, 101, 102, 103] (by decide +kernel) (by decide +kernel)
set_option maxRecDepth 20000 in
theorem gX5_digestOfBlock_X5_row : GoodIn wsX5_digestOfBlock (wsV RX5 289 RX5 yX5_row wsX5_row) := goodIn_app (goodIn_of _ (by decide +kernel)) ggX5_digestOfBlock_X5_row
set_option maxRecDepth 20000 in
theorem ggX5_digestOfBlock_X5_word : GoodIn wsX5_digestOfBlock wsX5_word := goodIn_r _ [34, 11, 35, 36, 37, 38, 39, 21, 22, 23, 5, 24, 7, 8, 9, 10, 25, 26, 27, 40, 41, 42, 43, 44, 45, 46, 47, 48, 49, 50, 51, 52, 53, 54, 55, 56, 57, 58, 59, 60, 61, 62, 63, 64, 65, 66, 67, 29, 30, 68, 69, 70, 71, 72, 73, 74, 75, 76, 77, 78, 79, 80, 81, 82, 83, 84, 85, 86, 87, 88, 89, 90, 91, 92, 93, 94, 95, 96, 97, 98, 99, 100, 101, 102, 103] (by decide +kernel) (by decide +kernel)
set_option maxRecDepth 20000 in
theorem gX5_digestOfBlock_X5_word : GoodIn wsX5_digestOfBlock (wsV RX5 292 RX5 yX5_word wsX5_word) := goodIn_app (goodIn_of _ (by decide +kernel)) ggX5_digestOfBlock_X5_word
theorem dX5_digestOfBlock_0 : decode cX5_digestOfBlock 0 = .ok (.ldc2_w 268, 3) := by decide +kernel
theorem dX5_digestOfBlock_3 : decode cX5_digestOfBlock 3 = .ok (.lload_n 1, 1) := by decide +kernel
theorem dX5_digestOfBlock_4 : decode cX5_digestOfBlock 4 = .ok (.lmul, 1) := by decide +kernel
theorem dX5_digestOfBlock_5 : decode cX5_digestOfBlock 5 = .ok (.aload_n 0, 1) := by decide +kernel
theorem dX5_digestOfBlock_6 : decode cX5_digestOfBlock 6 = .ok (.iload_n 3, 1) := by decide +kernel
theorem dX5_digestOfBlock_7 : decode cX5_digestOfBlock 7 = .ok (.invokevirtual 286, 3) := by decide +kernel
theorem dX5_digestOfBlock_10 : decode cX5_digestOfBlock 10 = .ok (.ladd, 1) := by decide +kernel
theorem dX5_digestOfBlock_11 : decode cX5_digestOfBlock 11 = .ok (.lstore 4, 2) := by decide +kernel
theorem dX5_digestOfBlock_13 : decode cX5_digestOfBlock 13 = .ok (.iconst 0, 1) := by decide +kernel
theorem dX5_digestOfBlock_14 : decode cX5_digestOfBlock 14 = .ok (.istore 6, 2) := by decide +kernel
theorem dX5_digestOfBlock_16 : decode cX5_digestOfBlock 16 = .ok (.iload 6, 2) := by decide +kernel
theorem dX5_digestOfBlock_18 : decode cX5_digestOfBlock 18 = .ok (.bipush 8, 2) := by decide +kernel
theorem dX5_digestOfBlock_20 : decode cX5_digestOfBlock 20 = .ok (.if_icmp .ge 43, 3) := by decide +kernel
theorem dX5_digestOfBlock_23 : decode cX5_digestOfBlock 23 = .ok (.iconst 1, 1) := by decide +kernel
theorem dX5_digestOfBlock_24 : decode cX5_digestOfBlock 24 = .ok (.istore 7, 2) := by decide +kernel
theorem dX5_digestOfBlock_26 : decode cX5_digestOfBlock 26 = .ok (.iload 7, 2) := by decide +kernel
theorem dX5_digestOfBlock_28 : decode cX5_digestOfBlock 28 = .ok (.iconst 3, 1) := by decide +kernel
theorem dX5_digestOfBlock_29 : decode cX5_digestOfBlock 29 = .ok (.if_icmp .gt 28, 3) := by decide +kernel
theorem dX5_digestOfBlock_32 : decode cX5_digestOfBlock 32 = .ok (.ldc2_w 268, 3) := by decide +kernel
theorem dX5_digestOfBlock_35 : decode cX5_digestOfBlock 35 = .ok (.lload 4, 2) := by decide +kernel
theorem dX5_digestOfBlock_37 : decode cX5_digestOfBlock 37 = .ok (.lmul, 1) := by decide +kernel
theorem dX5_digestOfBlock_38 : decode cX5_digestOfBlock 38 = .ok (.aload_n 0, 1) := by decide +kernel
theorem dX5_digestOfBlock_39 : decode cX5_digestOfBlock 39 = .ok (.iload_n 3, 1) := by decide +kernel
theorem dX5_digestOfBlock_40 : decode cX5_digestOfBlock 40 = .ok (.iload 6, 2) := by decide +kernel
theorem dX5_digestOfBlock_42 : decode cX5_digestOfBlock 42 = .ok (.iload 7, 2) := by decide +kernel
theorem dX5_digestOfBlock_44 : decode cX5_digestOfBlock 44 = .ok (.invokevirtual 289, 3) := by decide +kernel
theorem dX5_digestOfBlock_47 : decode cX5_digestOfBlock 47 = .ok (.i2l, 1) := by decide +kernel
theorem dX5_digestOfBlock_48 : decode cX5_digestOfBlock 48 = .ok (.ladd, 1) := by decide +kernel
theorem dX5_digestOfBlock_49 : decode cX5_digestOfBlock 49 = .ok (.lstore 4, 2) := by decide +kernel
theorem dX5_digestOfBlock_51 : decode cX5_digestOfBlock 51 = .ok (.iinc 7 1, 3) := by decide +kernel
theorem dX5_digestOfBlock_54 : decode cX5_digestOfBlock 54 = .ok (.goto (-28), 3) := by decide +kernel
theorem dX5_digestOfBlock_57 : decode cX5_digestOfBlock 57 = .ok (.iinc 6 1, 3) := by decide +kernel
theorem dX5_digestOfBlock_60 : decode cX5_digestOfBlock 60 = .ok (.goto (-44), 3) := by decide +kernel
theorem dX5_digestOfBlock_63 : decode cX5_digestOfBlock 63 = .ok (.iconst 0, 1) := by decide +kernel
theorem dX5_digestOfBlock_64 : decode cX5_digestOfBlock 64 = .ok (.istore 6, 2) := by decide +kernel
theorem dX5_digestOfBlock_66 : decode cX5_digestOfBlock 66 = .ok (.iload 6, 2) := by decide +kernel
theorem dX5_digestOfBlock_68 : decode cX5_digestOfBlock 68 = .ok (.bipush 8, 2) := by decide +kernel
theorem dX5_digestOfBlock_70 : decode cX5_digestOfBlock 70 = .ok (.if_icmp .ge 43, 3) := by decide +kernel
theorem dX5_digestOfBlock_73 : decode cX5_digestOfBlock 73 = .ok (.iconst 0, 1) := by decide +kernel
theorem dX5_digestOfBlock_74 : decode cX5_digestOfBlock 74 = .ok (.istore 7, 2) := by decide +kernel
theorem dX5_digestOfBlock_76 : decode cX5_digestOfBlock 76 = .ok (.iload 7, 2) := by decide +kernel
theorem dX5_digestOfBlock_78 : decode cX5_digestOfBlock 78 = .ok (.iconst 4, 1) := by decide +kernel
theorem dX5_digestOfBlock_79 : decode cX5_digestOfBlock 79 = .ok (.if_icmp .gt 28, 3) := by decide +kernel
theorem dX5_digestOfBlock_82 : decode cX5_digestOfBlock 82 = .ok (.ldc2_w 268, 3) := by decide +kernel
theorem dX5_digestOfBlock_85 : decode cX5_digestOfBlock 85 = .ok (.lload 4, 2) := by decide +kernel
theorem dX5_digestOfBlock_87 : decode cX5_digestOfBlock 87 = .ok (.lmul, 1) := by decide +kernel
theorem dX5_digestOfBlock_88 : decode cX5_digestOfBlock 88 = .ok (.aload_n 0, 1) := by decide +kernel
theorem dX5_digestOfBlock_89 : decode cX5_digestOfBlock 89 = .ok (.iload_n 3, 1) := by decide +kernel
theorem dX5_digestOfBlock_90 : decode cX5_digestOfBlock 90 = .ok (.iload 6, 2) := by decide +kernel
theorem dX5_digestOfBlock_92 : decode cX5_digestOfBlock 92 = .ok (.iload 7, 2) := by decide +kernel
theorem dX5_digestOfBlock_94 : decode cX5_digestOfBlock 94 = .ok (.invokevirtual 292, 3) := by decide +kernel
theorem dX5_digestOfBlock_97 : decode cX5_digestOfBlock 97 = .ok (.i2l, 1) := by decide +kernel
theorem dX5_digestOfBlock_98 : decode cX5_digestOfBlock 98 = .ok (.ladd, 1) := by decide +kernel
theorem dX5_digestOfBlock_99 : decode cX5_digestOfBlock 99 = .ok (.lstore 4, 2) := by decide +kernel
theorem dX5_digestOfBlock_101 : decode cX5_digestOfBlock 101 = .ok (.iinc 7 1, 3) := by decide +kernel
theorem dX5_digestOfBlock_104 : decode cX5_digestOfBlock 104 = .ok (.goto (-28), 3) := by decide +kernel
theorem dX5_digestOfBlock_107 : decode cX5_digestOfBlock 107 = .ok (.iinc 6 1, 3) := by decide +kernel
theorem dX5_digestOfBlock_110 : decode cX5_digestOfBlock 110 = .ok (.goto (-44), 3) := by decide +kernel
theorem dX5_digestOfBlock_113 : decode cX5_digestOfBlock 113 = .ok (.lload 4, 2) := by decide +kernel
theorem dX5_digestOfBlock_115 : decode cX5_digestOfBlock 115 = .ok (.lreturn, 1) := by decide +kernel
abbrev rmX5_digestOfBlock : Room := { frames := 4, cells := 0, slots := 0, locals := 88 }
set_option maxHeartbeats 4000000 in
set_option maxRecDepth 100000 in
theorem tX5_digestOfBlock_26b {h : AH} {a1 : Int64} {a3 : Int32} {k16 : Int64 → Int32 → Option Int64} {k26 : Int64 → Int32 → Int32 → Option Int64} {x4 : Int64} {x6 : Int32} {x7 : Int32} {r0 : Int64} (C : Cx p rmX5_digestOfBlock s m args meth c RX5 cX5_digestOfBlock 8 (some .long) wsX5_digestOfBlock D ad cy tb 0 0) (H16 : ∀ (x4 : Int64) (x6 : Int32), k16 x4 x6 = some r0 → AW p l e rmX5_digestOfBlock s m args below meth c 8 D ad cy 0 0 (Ql D ad cy below args s r0 h) 16 [(0, .ref (ad 0)), (1, .long a1), (3, .int a3), (4, .long x4), (6, .int x6)] [] h) (H26 : ∀ (x4 : Int64) (x6 : Int32) (x7 : Int32), k26 x4 x6 x7 = some r0 → AW p l e rmX5_digestOfBlock s m args below meth c 8 D ad cy 0 0 (Ql D ad cy below args s r0 h) 26 [(0, .ref (ad 0)), (1, .long a1), (3, .int a3), (4, .long x4), (6, .int x6), (7, .int x7)] [] h) (hf : fX5_digestOfBlock_26b k16 k26 h a1 a3 x4 x6 x7 = some r0) : AW p l e rmX5_digestOfBlock s m args below meth c 8 D ad cy 0 0 (Ql D ad cy below args s r0 h) 26 [(0, .ref (ad 0)), (1, .long a1), (3, .int a3), (4, .long x4), (6, .int x6), (7, .int x7)] [] h := by
  unfold fX5_digestOfBlock_26b at hf
  refine aw_iload C dX5_digestOfBlock_26 5 rfl ?_
  refine aw_iconst (v := 3) C dX5_digestOfBlock_28 (by decide) ?_
  refine aw_icmp_gt (tgt := 57) C dX5_digestOfBlock_29 (by decide) hf (fun hf => ?_) (fun hf => ?_)
  · obtain ⟨v1, hvv1, hf⟩ := nm_ex hf
    refine aw_iinc (j := 4) (v := v1) (lv1 := [(6, .int v1), (0, .ref (ad 0)), (1, .long a1), (3, .int a3), (4, .long x4), (7, .int x7)]) C dX5_digestOfBlock_57 rfl hvv1 (by decide) rfl ?_
    refine aw_goto (tgt := 16) C dX5_digestOfBlock_60 (by decide) ?_
    refine aw_sub [1, 2, 3, 4, 0] rfl ?_
    exact H16 x4 v1 hf
  refine aw_ldc2 (v := 31) C (by decide +kernel) dX5_digestOfBlock_32 ?_
  refine aw_lload C dX5_digestOfBlock_35 3 rfl ?_
  refine aw_lmul C dX5_digestOfBlock_37 ?_
  refine aw_aload_n C dX5_digestOfBlock_38 rfl 0 rfl ?_
  refine aw_iload_n C dX5_digestOfBlock_39 rfl 2 rfl ?_
  refine aw_iload C dX5_digestOfBlock_40 4 rfl ?_
  refine aw_iload C dX5_digestOfBlock_42 5 rfl ?_
  obtain ⟨r2, hc, hf⟩ := bR_some hf
  refine aw_callVi (As := [.int a3, .int x6, .int x7]) (rest := [.long (31 * x4)]) C rfl (by decide) rfl (kX5_row (l := l) (D := D) (ad := ad) (cy := cy) (tb := tb) C.2.2.2.2.2.2.2.2.1 hc) (fun ht _ => cwV 3 ht gX5_digestOfBlock_X5_row rfl rfl rfl (by decide +kernel) ⟨Nat.le_of_ble_eq_true rfl, Nat.le_of_ble_eq_true rfl⟩) rfl rfl (Nat.le_of_ble_eq_true rfl) dX5_digestOfBlock_44 ?_
  refine aw_i2l C dX5_digestOfBlock_47 ?_
  refine aw_ladd C dX5_digestOfBlock_48 ?_
  refine aw_nmL hf (fun v3 hf => ?_)
  refine aw_lstore (lv1 := [(4, .long v3), (0, .ref (ad 0)), (1, .long a1), (3, .int a3), (6, .int x6), (7, .int x7)]) C dX5_digestOfBlock_49 (by decide) rfl ?_
  obtain ⟨v4, hvv4, hf⟩ := nm_ex hf
  refine aw_iinc (j := 5) (v := v4) (lv1 := [(7, .int v4), (4, .long v3), (0, .ref (ad 0)), (1, .long a1), (3, .int a3), (6, .int x6)]) C dX5_digestOfBlock_51 rfl hvv4 (by decide) rfl ?_
  refine aw_goto (tgt := 26) C dX5_digestOfBlock_54 (by decide) ?_
  refine aw_sub [2, 3, 4, 1, 5, 0] rfl ?_
  exact H26 v3 x6 v4 hf
set_option maxHeartbeats 4000000 in
set_option maxRecDepth 100000 in
theorem tX5_digestOfBlock_26 {h : AH} {a1 : Int64} {a3 : Int32} {k16 : Int64 → Int32 → Option Int64} {r0 : Int64} (C : Cx p rmX5_digestOfBlock s m args meth c RX5 cX5_digestOfBlock 8 (some .long) wsX5_digestOfBlock D ad cy tb 0 0) (H16 : ∀ (x4 : Int64) (x6 : Int32), k16 x4 x6 = some r0 → AW p l e rmX5_digestOfBlock s m args below meth c 8 D ad cy 0 0 (Ql D ad cy below args s r0 h) 16 [(0, .ref (ad 0)), (1, .long a1), (3, .int a3), (4, .long x4), (6, .int x6)] [] h) : ∀ (n : Nat) (x4 : Int64) (x6 : Int32) (x7 : Int32), fX5_digestOfBlock_26 k16 h a1 a3 n x4 x6 x7 = some r0 → AW p l e rmX5_digestOfBlock s m args below meth c 8 D ad cy 0 0 (Ql D ad cy below args s r0 h) 26 [(0, .ref (ad 0)), (1, .long a1), (3, .int a3), (4, .long x4), (6, .int x6), (7, .int x7)] [] h := by
  intro n
  induction n with
  | zero => intro x4 x6 x7 hf; cases hf
  | succ n ih => intro x4 x6 x7 hf; exact tX5_digestOfBlock_26b C  H16 ih  hf
set_option maxHeartbeats 4000000 in
set_option maxRecDepth 100000 in
theorem tX5_digestOfBlock_76b {h : AH} {a1 : Int64} {a3 : Int32} {k66 : Int64 → Int32 → Option Int64} {k76 : Int64 → Int32 → Int32 → Option Int64} {x4 : Int64} {x6 : Int32} {x7 : Int32} {r0 : Int64} (C : Cx p rmX5_digestOfBlock s m args meth c RX5 cX5_digestOfBlock 8 (some .long) wsX5_digestOfBlock D ad cy tb 0 0) (H66 : ∀ (x4 : Int64) (x6 : Int32), k66 x4 x6 = some r0 → AW p l e rmX5_digestOfBlock s m args below meth c 8 D ad cy 0 0 (Ql D ad cy below args s r0 h) 66 [(0, .ref (ad 0)), (1, .long a1), (3, .int a3), (4, .long x4), (6, .int x6)] [] h) (H76 : ∀ (x4 : Int64) (x6 : Int32) (x7 : Int32), k76 x4 x6 x7 = some r0 → AW p l e rmX5_digestOfBlock s m args below meth c 8 D ad cy 0 0 (Ql D ad cy below args s r0 h) 76 [(0, .ref (ad 0)), (1, .long a1), (3, .int a3), (4, .long x4), (6, .int x6), (7, .int x7)] [] h) (hf : fX5_digestOfBlock_76b k66 k76 h a1 a3 x4 x6 x7 = some r0) : AW p l e rmX5_digestOfBlock s m args below meth c 8 D ad cy 0 0 (Ql D ad cy below args s r0 h) 76 [(0, .ref (ad 0)), (1, .long a1), (3, .int a3), (4, .long x4), (6, .int x6), (7, .int x7)] [] h := by
  unfold fX5_digestOfBlock_76b at hf
  refine aw_iload C dX5_digestOfBlock_76 5 rfl ?_
  refine aw_iconst (v := 4) C dX5_digestOfBlock_78 (by decide) ?_
  refine aw_icmp_gt (tgt := 107) C dX5_digestOfBlock_79 (by decide) hf (fun hf => ?_) (fun hf => ?_)
  · obtain ⟨v1, hvv1, hf⟩ := nm_ex hf
    refine aw_iinc (j := 4) (v := v1) (lv1 := [(6, .int v1), (0, .ref (ad 0)), (1, .long a1), (3, .int a3), (4, .long x4), (7, .int x7)]) C dX5_digestOfBlock_107 rfl hvv1 (by decide) rfl ?_
    refine aw_goto (tgt := 66) C dX5_digestOfBlock_110 (by decide) ?_
    refine aw_sub [1, 2, 3, 4, 0] rfl ?_
    exact H66 x4 v1 hf
  refine aw_ldc2 (v := 31) C (by decide +kernel) dX5_digestOfBlock_82 ?_
  refine aw_lload C dX5_digestOfBlock_85 3 rfl ?_
  refine aw_lmul C dX5_digestOfBlock_87 ?_
  refine aw_aload_n C dX5_digestOfBlock_88 rfl 0 rfl ?_
  refine aw_iload_n C dX5_digestOfBlock_89 rfl 2 rfl ?_
  refine aw_iload C dX5_digestOfBlock_90 4 rfl ?_
  refine aw_iload C dX5_digestOfBlock_92 5 rfl ?_
  obtain ⟨r2, hc, hf⟩ := bR_some hf
  refine aw_callVi (As := [.int a3, .int x6, .int x7]) (rest := [.long (31 * x4)]) C rfl (by decide) rfl (kX5_word (l := l) (D := D) (ad := ad) (cy := cy) (tb := tb) C.2.2.2.2.2.2.2.2.1 hc) (fun ht _ => cwV 3 ht gX5_digestOfBlock_X5_word rfl rfl rfl (by decide +kernel) ⟨Nat.le_of_ble_eq_true rfl, Nat.le_of_ble_eq_true rfl⟩) rfl rfl (Nat.le_of_ble_eq_true rfl) dX5_digestOfBlock_94 ?_
  refine aw_i2l C dX5_digestOfBlock_97 ?_
  refine aw_ladd C dX5_digestOfBlock_98 ?_
  refine aw_nmL hf (fun v3 hf => ?_)
  refine aw_lstore (lv1 := [(4, .long v3), (0, .ref (ad 0)), (1, .long a1), (3, .int a3), (6, .int x6), (7, .int x7)]) C dX5_digestOfBlock_99 (by decide) rfl ?_
  obtain ⟨v4, hvv4, hf⟩ := nm_ex hf
  refine aw_iinc (j := 5) (v := v4) (lv1 := [(7, .int v4), (4, .long v3), (0, .ref (ad 0)), (1, .long a1), (3, .int a3), (6, .int x6)]) C dX5_digestOfBlock_101 rfl hvv4 (by decide) rfl ?_
  refine aw_goto (tgt := 76) C dX5_digestOfBlock_104 (by decide) ?_
  refine aw_sub [2, 3, 4, 1, 5, 0] rfl ?_
  exact H76 v3 x6 v4 hf
set_option maxHeartbeats 4000000 in
set_option maxRecDepth 100000 in
theorem tX5_digestOfBlock_76 {h : AH} {a1 : Int64} {a3 : Int32} {k66 : Int64 → Int32 → Option Int64} {r0 : Int64} (C : Cx p rmX5_digestOfBlock s m args meth c RX5 cX5_digestOfBlock 8 (some .long) wsX5_digestOfBlock D ad cy tb 0 0) (H66 : ∀ (x4 : Int64) (x6 : Int32), k66 x4 x6 = some r0 → AW p l e rmX5_digestOfBlock s m args below meth c 8 D ad cy 0 0 (Ql D ad cy below args s r0 h) 66 [(0, .ref (ad 0)), (1, .long a1), (3, .int a3), (4, .long x4), (6, .int x6)] [] h) : ∀ (n : Nat) (x4 : Int64) (x6 : Int32) (x7 : Int32), fX5_digestOfBlock_76 k66 h a1 a3 n x4 x6 x7 = some r0 → AW p l e rmX5_digestOfBlock s m args below meth c 8 D ad cy 0 0 (Ql D ad cy below args s r0 h) 76 [(0, .ref (ad 0)), (1, .long a1), (3, .int a3), (4, .long x4), (6, .int x6), (7, .int x7)] [] h := by
  intro n
  induction n with
  | zero => intro x4 x6 x7 hf; cases hf
  | succ n ih => intro x4 x6 x7 hf; exact tX5_digestOfBlock_76b C  H66 ih  hf
set_option maxHeartbeats 4000000 in
set_option maxRecDepth 100000 in
theorem tX5_digestOfBlock_66b {h : AH} {a1 : Int64} {a3 : Int32} {k66 : Int64 → Int32 → Option Int64} {x4 : Int64} {x6 : Int32} {r0 : Int64} (C : Cx p rmX5_digestOfBlock s m args meth c RX5 cX5_digestOfBlock 8 (some .long) wsX5_digestOfBlock D ad cy tb 0 0) (H66 : ∀ (x4 : Int64) (x6 : Int32), k66 x4 x6 = some r0 → AW p l e rmX5_digestOfBlock s m args below meth c 8 D ad cy 0 0 (Ql D ad cy below args s r0 h) 66 [(0, .ref (ad 0)), (1, .long a1), (3, .int a3), (4, .long x4), (6, .int x6)] [] h) (hf : fX5_digestOfBlock_66b k66 h a1 a3 x4 x6 = some r0) : AW p l e rmX5_digestOfBlock s m args below meth c 8 D ad cy 0 0 (Ql D ad cy below args s r0 h) 66 [(0, .ref (ad 0)), (1, .long a1), (3, .int a3), (4, .long x4), (6, .int x6)] [] h := by
  unfold fX5_digestOfBlock_66b at hf
  refine aw_iload C dX5_digestOfBlock_66 4 rfl ?_
  refine aw_bipush (v := 8) C dX5_digestOfBlock_68 (by decide) ?_
  refine aw_icmp_ge (tgt := 113) C dX5_digestOfBlock_70 (by decide) hf (fun hf => ?_) (fun hf => ?_)
  · refine aw_lload C dX5_digestOfBlock_113 3 rfl ?_
    exact aw_lretR C dX5_digestOfBlock_115 hf
  refine aw_iconst (v := 0) C dX5_digestOfBlock_73 (by decide) ?_
  refine aw_istore (lv1 := [(7, .int 0), (0, .ref (ad 0)), (1, .long a1), (3, .int a3), (4, .long x4), (6, .int x6)]) C dX5_digestOfBlock_74 (by decide) rfl ?_
  refine aw_sub [1, 2, 3, 4, 5, 0] rfl ?_
  exact tX5_digestOfBlock_76 C  H66 FU x4 x6 0 hf
set_option maxHeartbeats 4000000 in
set_option maxRecDepth 100000 in
theorem tX5_digestOfBlock_66 {h : AH} {a1 : Int64} {a3 : Int32} {r0 : Int64} (C : Cx p rmX5_digestOfBlock s m args meth c RX5 cX5_digestOfBlock 8 (some .long) wsX5_digestOfBlock D ad cy tb 0 0) : ∀ (n : Nat) (x4 : Int64) (x6 : Int32), fX5_digestOfBlock_66 h a1 a3 n x4 x6 = some r0 → AW p l e rmX5_digestOfBlock s m args below meth c 8 D ad cy 0 0 (Ql D ad cy below args s r0 h) 66 [(0, .ref (ad 0)), (1, .long a1), (3, .int a3), (4, .long x4), (6, .int x6)] [] h := by
  intro n
  induction n with
  | zero => intro x4 x6 hf; cases hf
  | succ n ih => intro x4 x6 hf; exact tX5_digestOfBlock_66b C  ih  hf
set_option maxHeartbeats 4000000 in
set_option maxRecDepth 100000 in
theorem tX5_digestOfBlock_16b {h : AH} {a1 : Int64} {a3 : Int32} {k16 : Int64 → Int32 → Option Int64} {x4 : Int64} {x6 : Int32} {r0 : Int64} (C : Cx p rmX5_digestOfBlock s m args meth c RX5 cX5_digestOfBlock 8 (some .long) wsX5_digestOfBlock D ad cy tb 0 0) (H16 : ∀ (x4 : Int64) (x6 : Int32), k16 x4 x6 = some r0 → AW p l e rmX5_digestOfBlock s m args below meth c 8 D ad cy 0 0 (Ql D ad cy below args s r0 h) 16 [(0, .ref (ad 0)), (1, .long a1), (3, .int a3), (4, .long x4), (6, .int x6)] [] h) (hf : fX5_digestOfBlock_16b k16 h a1 a3 x4 x6 = some r0) : AW p l e rmX5_digestOfBlock s m args below meth c 8 D ad cy 0 0 (Ql D ad cy below args s r0 h) 16 [(0, .ref (ad 0)), (1, .long a1), (3, .int a3), (4, .long x4), (6, .int x6)] [] h := by
  unfold fX5_digestOfBlock_16b at hf
  refine aw_iload C dX5_digestOfBlock_16 4 rfl ?_
  refine aw_bipush (v := 8) C dX5_digestOfBlock_18 (by decide) ?_
  refine aw_icmp_ge (tgt := 63) C dX5_digestOfBlock_20 (by decide) hf (fun hf => ?_) (fun hf => ?_)
  · refine aw_iconst (v := 0) C dX5_digestOfBlock_63 (by decide) ?_
    refine aw_istore (lv1 := [(6, .int 0), (0, .ref (ad 0)), (1, .long a1), (3, .int a3), (4, .long x4)]) C dX5_digestOfBlock_64 (by decide) rfl ?_
    refine aw_sub [1, 2, 3, 4, 0] rfl ?_
    exact tX5_digestOfBlock_66 C   FU x4 0 hf
  refine aw_iconst (v := 1) C dX5_digestOfBlock_23 (by decide) ?_
  refine aw_istore (lv1 := [(7, .int 1), (0, .ref (ad 0)), (1, .long a1), (3, .int a3), (4, .long x4), (6, .int x6)]) C dX5_digestOfBlock_24 (by decide) rfl ?_
  refine aw_sub [1, 2, 3, 4, 5, 0] rfl ?_
  exact tX5_digestOfBlock_26 C  H16 FU x4 x6 1 hf
set_option maxHeartbeats 4000000 in
set_option maxRecDepth 100000 in
theorem tX5_digestOfBlock_16 {h : AH} {a1 : Int64} {a3 : Int32} {r0 : Int64} (C : Cx p rmX5_digestOfBlock s m args meth c RX5 cX5_digestOfBlock 8 (some .long) wsX5_digestOfBlock D ad cy tb 0 0) : ∀ (n : Nat) (x4 : Int64) (x6 : Int32), fX5_digestOfBlock_16 h a1 a3 n x4 x6 = some r0 → AW p l e rmX5_digestOfBlock s m args below meth c 8 D ad cy 0 0 (Ql D ad cy below args s r0 h) 16 [(0, .ref (ad 0)), (1, .long a1), (3, .int a3), (4, .long x4), (6, .int x6)] [] h := by
  intro n
  induction n with
  | zero => intro x4 x6 hf; cases hf
  | succ n ih => intro x4 x6 hf; exact tX5_digestOfBlock_16b C  ih  hf
set_option maxHeartbeats 4000000 in
set_option maxRecDepth 100000 in
theorem tX5_digestOfBlock_0 {h : AH} {a1 : Int64} {a3 : Int32} {r0 : Int64} (C : Cx p rmX5_digestOfBlock s m args meth c RX5 cX5_digestOfBlock 8 (some .long) wsX5_digestOfBlock D ad cy tb 0 0) (hf : fX5_digestOfBlock h a1 a3 = some r0) : AW p l e rmX5_digestOfBlock s m args below meth c 8 D ad cy 0 0 (Ql D ad cy below args s r0 h) 0 [(0, .ref (ad 0)), (1, .long a1), (3, .int a3)] [] h := by
  unfold fX5_digestOfBlock at hf
  refine aw_ldc2 (v := 31) C (by decide +kernel) dX5_digestOfBlock_0 ?_
  refine aw_lload_n C dX5_digestOfBlock_3 rfl 1 rfl ?_
  refine aw_lmul C dX5_digestOfBlock_4 ?_
  refine aw_aload_n C dX5_digestOfBlock_5 rfl 0 rfl ?_
  refine aw_iload_n C dX5_digestOfBlock_6 rfl 2 rfl ?_
  obtain ⟨r1, hc, hf⟩ := bR_some hf
  refine aw_callVl (As := [.int a3]) (rest := [.long (31 * a1)]) C rfl (by decide) rfl (kX5_block (l := l) (D := D) (ad := ad) (cy := cy) (tb := tb) C.2.2.2.2.2.2.2.2.1 hc) (fun ht _ => cwV 1 ht gX5_digestOfBlock_X5_block rfl rfl rfl (by decide +kernel) ⟨Nat.le_of_ble_eq_true rfl, Nat.le_of_ble_eq_true rfl⟩) rfl rfl (Nat.le_of_ble_eq_true rfl) dX5_digestOfBlock_7 ?_
  refine aw_ladd C dX5_digestOfBlock_10 ?_
  refine aw_nmL hf (fun v2 hf => ?_)
  refine aw_lstore (lv1 := [(4, .long v2), (0, .ref (ad 0)), (1, .long a1), (3, .int a3)]) C dX5_digestOfBlock_11 (by decide) rfl ?_
  refine aw_iconst (v := 0) C dX5_digestOfBlock_13 (by decide) ?_
  refine aw_istore (lv1 := [(6, .int 0), (4, .long v2), (0, .ref (ad 0)), (1, .long a1), (3, .int a3)]) C dX5_digestOfBlock_14 (by decide) rfl ?_
  refine aw_sub [2, 3, 4, 1, 0] rfl ?_
  exact tX5_digestOfBlock_16 C   FU v2 0 hf
theorem kX5_digestOfBlock {h : AH} {a1 : Int64} {a3 : Int32} {r0 : Int64} (hi : Inj ad) (hf : fX5_digestOfBlock h a1 a3 = some r0) : Kl l yX5_digestOfBlock wsX5_digestOfBlock rmX5_digestOfBlock D ad cy tb [.ref (ad 0), .long a1, .int a3] h r0 h := met_l (lv := [(0, .ref (ad 0)), (1, .long a1), (3, .int a3)]) hi (by decide) rfl (Nat.le_of_ble_eq_true rfl) rfl rfl (fun _ _ _ _ _ _ _ _ C => tX5_digestOfBlock_0 C  hf)
set_option maxRecDepth 20000 in
theorem ggX5_digest_X5_count : GoodIn wsX5_digest wsX5_count := goodIn_r _ [8, 3, 9, 10, 11, 12, 13, 14, 15, 16, 17, 18, 19, 20, 21, 22, 23, 24, 25, 26, 27, 28, 29, 30, 31, 32, 33, 34, 35, 36, 37, 38, 39, 40, 41, 42, 43, 44, 45, 46, 47, 48, 49, 50, 51, 52, 53, 7, 54, 55, 56, 57, 58, 59, 60, 61, 62, 63, 64, 65, 66, 67, 68, 69, 70, 71, 72, 73, 74, 75, 76, 77, 78, 79, 80, 81, 82, 83, 84, 85, 86, 87, 88, 89, 90, 91, 92, 93, 94, 95, 96, 97, 98, 99, 100, 101, 102, 103, 104, 105, 106, 107, 108, 109, 110, 111, 112, 113, 114, 243, 244, 245, 246, 247, 248, 249, 250, 251, 252, 253, 254, 255, 256, 257, 258, 259, 260, 261, 262, 263, 264, 265] (by decide +kernel) (by decide +kernel)
set_option maxRecDepth 20000 in
theorem gX5_digest_X5_count : GoodIn wsX5_digest (wsV RX5 270 RX5 yX5_count wsX5_count) := goodIn_app (goodIn_of _ (by decide +kernel)) ggX5_digest_X5_count
set_option maxRecDepth 20000 in
theorem ggX5_digest_X5_digestOfBlock : GoodIn wsX5_digest wsX5_digestOfBlock := goodIn_r _ [118, 2, 119, 120, 121, 7, 122, 123, 124, 125, 126, 3, 127, 128, 129, 130, 131, 132, 133, 134, 135, 136, 137, 138, 139, 140, 141, 142, 143, 71, 72, 144, 145, 146, 147, 148, 149, 150, 151, 152, 153, 154, 155, 15, 156, 38, 157, 48, 49, 50, 158, 159, 160, 161, 34, 35, 36, 37, 47, 162, 94, 95, 96, 97, 68, 69, 70, 18, 98, 74, 75, 76, 77, 78, 79, 99, 100, 101, 102, 103, 19, 20, 21, 22, 23, 24, 25, 163, 164, 165, 166, 17, 243, 244, 245, 246, 247, 248, 249, 250, 251, 252, 253, 254, 266, 267] (by decide +kernel) (by decide +kernel)
set_option maxRecDepth 20000 in
theorem gX5_digest_X5_digestOfBlock : GoodIn wsX5_digest (wsV RX5 272 RX5 yX5_digestOfBlock wsX5_digestOfBlock) := goodIn_app (goodIn_of _ (by decide +kernel)) ggX5_digest_X5_digestOfBlock
set_option maxRecDepth 20000 in
theorem ggX5_digest_X5_digestOfLists : GoodIn wsX5_digest wsX5_digestOfLists := goodIn_r _ [170, 9, 2, 3, 10, 171, 172, 173, 174, 175, 176, 177, 178, 31, 32, 15, 33, 17, 179, 44, 45, 46, 47, 48, 49, 50, 38, 34, 35, 36, 37, 58, 59, 60, 61, 62, 63, 64, 65, 66, 67, 68, 69, 70, 18, 71, 7, 72, 73, 74, 75, 76, 77, 78, 79, 80, 81, 82, 83, 84, 85, 86, 87, 88, 89, 90, 91, 92, 93, 94, 95, 96, 97, 98, 99, 100, 101, 102, 103, 19, 20, 21, 22, 23, 24, 25, 104, 105, 106, 107, 108, 109, 110, 180, 181, 182, 183, 243, 244, 245, 246, 247, 248, 249, 250, 251, 255, 256, 257, 258, 259, 260, 261, 262, 263, 264, 265, 252, 253, 254] (by decide +kernel) (by decide +kernel)
set_option maxRecDepth 20000 in
theorem gX5_digest_X5_digestOfLists : GoodIn wsX5_digest (wsV RX5 276 RX5 yX5_digestOfLists wsX5_digestOfLists) := goodIn_app (goodIn_of _ (by decide +kernel)) ggX5_digest_X5_digestOfLists
set_option maxRecDepth 20000 in
theorem ggX5_digest_X5_would : GoodIn wsX5_digest wsX5_would := goodIn_r _ [187, 188, 3, 189, 190, 191, 7, 192, 193, 194, 195, 196, 197, 198, 199, 200, 201, 15, 202, 17, 18, 203, 204, 205, 206, 38, 207, 208, 209, 210, 211, 212, 213, 214, 215, 216, 217, 218, 219, 164, 165, 166, 220, 221, 222, 223, 224, 225, 226, 227, 228, 174, 229, 176, 177, 230, 12, 13, 14, 16, 19, 20, 21, 22, 23, 24, 25, 243, 244, 245, 246, 247, 248, 249, 250, 251, 252, 253, 254, 255, 256, 257] (by decide +kernel) (by decide +kernel)
set_option maxRecDepth 20000 in
theorem gX5_digest_X5_would : GoodIn wsX5_digest (wsV RX5 226 RX5 yX5_would wsX5_would) := goodIn_app (goodIn_of _ (by decide +kernel)) ggX5_digest_X5_would
set_option maxRecDepth 20000 in
theorem ggX5_digest_X5_best : GoodIn wsX5_digest wsX5_best := goodIn_r _ [234, 148, 3, 193, 194, 7, 195, 184, 185, 186, 187, 188, 189, 190, 191, 192, 196, 197, 198, 199, 200, 201, 15, 202, 17, 18, 203, 204, 205, 206, 38, 207, 208, 209, 210, 211, 212, 213, 214, 215, 216, 217, 218, 219, 164, 165, 166, 220, 221, 222, 223, 224, 225, 226, 227, 228, 174, 229, 176, 177, 230, 12, 13, 14, 16, 19, 20, 21, 22, 23, 24, 25, 243, 244, 245, 246, 247, 248, 249, 250, 251, 252, 253, 254, 255, 256, 257] (by decide +kernel) (by decide +kernel)
set_option maxRecDepth 20000 in
theorem gX5_digest_X5_best : GoodIn wsX5_digest (wsV RX5 280 RX5 yX5_best wsX5_best) := goodIn_app (goodIn_of _ (by decide +kernel)) ggX5_digest_X5_best
set_option maxRecDepth 20000 in
theorem ggX5_digest_X5_around : GoodIn wsX5_digest wsX5_around := goodIn_r _ [238, 3, 239, 240, 241, 7, 242, 123, 124, 125, 126, 140, 141, 142, 243, 244, 245, 246, 247, 248, 249, 250, 251, 252, 253, 254] (by decide +kernel) (by decide +kernel)
set_option maxRecDepth 20000 in
theorem gX5_digest_X5_around : GoodIn wsX5_digest (wsV RX5 283 RX5 yX5_around wsX5_around) := goodIn_app (goodIn_of _ (by decide +kernel)) ggX5_digest_X5_around
theorem dX5_digest_0 : decode cX5_digest 0 = .ok (.ldc2_w 266, 3) := by decide +kernel
theorem dX5_digest_3 : decode cX5_digest 3 = .ok (.lstore_n 1, 1) := by decide +kernel
theorem dX5_digest_4 : decode cX5_digest 4 = .ok (.iconst 0, 1) := by decide +kernel
theorem dX5_digest_5 : decode cX5_digest 5 = .ok (.istore_n 3, 1) := by decide +kernel
theorem dX5_digest_6 : decode cX5_digest 6 = .ok (.iload_n 3, 1) := by decide +kernel
theorem dX5_digest_7 : decode cX5_digest 7 = .ok (.bipush 7, 2) := by decide +kernel
theorem dX5_digest_9 : decode cX5_digest 9 = .ok (.if_icmp .gt 22, 3) := by decide +kernel
theorem dX5_digest_12 : decode cX5_digest 12 = .ok (.ldc2_w 268, 3) := by decide +kernel
theorem dX5_digest_15 : decode cX5_digest 15 = .ok (.lload_n 1, 1) := by decide +kernel
theorem dX5_digest_16 : decode cX5_digest 16 = .ok (.lmul, 1) := by decide +kernel
theorem dX5_digest_17 : decode cX5_digest 17 = .ok (.aload_n 0, 1) := by decide +kernel
theorem dX5_digest_18 : decode cX5_digest 18 = .ok (.iload_n 3, 1) := by decide +kernel
theorem dX5_digest_19 : decode cX5_digest 19 = .ok (.invokevirtual 270, 3) := by decide +kernel
theorem dX5_digest_22 : decode cX5_digest 22 = .ok (.i2l, 1) := by decide +kernel
theorem dX5_digest_23 : decode cX5_digest 23 = .ok (.ladd, 1) := by decide +kernel
theorem dX5_digest_24 : decode cX5_digest 24 = .ok (.lstore_n 1, 1) := by decide +kernel
theorem dX5_digest_25 : decode cX5_digest 25 = .ok (.iinc 3 1, 3) := by decide +kernel
theorem dX5_digest_28 : decode cX5_digest 28 = .ok (.goto (-22), 3) := by decide +kernel
theorem dX5_digest_31 : decode cX5_digest 31 = .ok (.iconst 1, 1) := by decide +kernel
theorem dX5_digest_32 : decode cX5_digest 32 = .ok (.istore_n 3, 1) := by decide +kernel
theorem dX5_digest_33 : decode cX5_digest 33 = .ok (.iload_n 3, 1) := by decide +kernel
theorem dX5_digest_34 : decode cX5_digest 34 = .ok (.aload_n 0, 1) := by decide +kernel
theorem dX5_digest_35 : decode cX5_digest 35 = .ok (.getfield 12, 3) := by decide +kernel
theorem dX5_digest_38 : decode cX5_digest 38 = .ok (.getfield 58, 3) := by decide +kernel
theorem dX5_digest_41 : decode cX5_digest 41 = .ok (.if_icmp .gt 16, 3) := by decide +kernel
theorem dX5_digest_44 : decode cX5_digest 44 = .ok (.aload_n 0, 1) := by decide +kernel
theorem dX5_digest_45 : decode cX5_digest 45 = .ok (.lload_n 1, 1) := by decide +kernel
theorem dX5_digest_46 : decode cX5_digest 46 = .ok (.iload_n 3, 1) := by decide +kernel
theorem dX5_digest_47 : decode cX5_digest 47 = .ok (.invokevirtual 272, 3) := by decide +kernel
theorem dX5_digest_50 : decode cX5_digest 50 = .ok (.lstore_n 1, 1) := by decide +kernel
theorem dX5_digest_51 : decode cX5_digest 51 = .ok (.iinc 3 1, 3) := by decide +kernel
theorem dX5_digest_54 : decode cX5_digest 54 = .ok (.goto (-21), 3) := by decide +kernel
theorem dX5_digest_57 : decode cX5_digest 57 = .ok (.aload_n 0, 1) := by decide +kernel
theorem dX5_digest_58 : decode cX5_digest 58 = .ok (.lload_n 1, 1) := by decide +kernel
theorem dX5_digest_59 : decode cX5_digest 59 = .ok (.invokevirtual 276, 3) := by decide +kernel
theorem dX5_digest_62 : decode cX5_digest 62 = .ok (.lstore_n 1, 1) := by decide +kernel
theorem dX5_digest_63 : decode cX5_digest 63 = .ok (.ldc2_w 268, 3) := by decide +kernel
theorem dX5_digest_66 : decode cX5_digest 66 = .ok (.lload_n 1, 1) := by decide +kernel
theorem dX5_digest_67 : decode cX5_digest 67 = .ok (.lmul, 1) := by decide +kernel
theorem dX5_digest_68 : decode cX5_digest 68 = .ok (.aload_n 0, 1) := by decide +kernel
theorem dX5_digest_69 : decode cX5_digest 69 = .ok (.iconst 2, 1) := by decide +kernel
theorem dX5_digest_70 : decode cX5_digest 70 = .ok (.iconst 3, 1) := by decide +kernel
theorem dX5_digest_71 : decode cX5_digest 71 = .ok (.iconst 0, 1) := by decide +kernel
theorem dX5_digest_72 : decode cX5_digest 72 = .ok (.invokevirtual 226, 3) := by decide +kernel
theorem dX5_digest_75 : decode cX5_digest 75 = .ok (.i2l, 1) := by decide +kernel
theorem dX5_digest_76 : decode cX5_digest 76 = .ok (.ladd, 1) := by decide +kernel
theorem dX5_digest_77 : decode cX5_digest 77 = .ok (.lstore_n 1, 1) := by decide +kernel
theorem dX5_digest_78 : decode cX5_digest 78 = .ok (.ldc2_w 268, 3) := by decide +kernel
theorem dX5_digest_81 : decode cX5_digest 81 = .ok (.lload_n 1, 1) := by decide +kernel
theorem dX5_digest_82 : decode cX5_digest 82 = .ok (.lmul, 1) := by decide +kernel
theorem dX5_digest_83 : decode cX5_digest 83 = .ok (.aload_n 0, 1) := by decide +kernel
theorem dX5_digest_84 : decode cX5_digest 84 = .ok (.iconst 2, 1) := by decide +kernel
theorem dX5_digest_85 : decode cX5_digest 85 = .ok (.iconst 3, 1) := by decide +kernel
theorem dX5_digest_86 : decode cX5_digest 86 = .ok (.iconst 1, 1) := by decide +kernel
theorem dX5_digest_87 : decode cX5_digest 87 = .ok (.invokevirtual 226, 3) := by decide +kernel
theorem dX5_digest_90 : decode cX5_digest 90 = .ok (.i2l, 1) := by decide +kernel
theorem dX5_digest_91 : decode cX5_digest 91 = .ok (.ladd, 1) := by decide +kernel
theorem dX5_digest_92 : decode cX5_digest 92 = .ok (.lstore_n 1, 1) := by decide +kernel
theorem dX5_digest_93 : decode cX5_digest 93 = .ok (.ldc2_w 268, 3) := by decide +kernel
theorem dX5_digest_96 : decode cX5_digest 96 = .ok (.lload_n 1, 1) := by decide +kernel
theorem dX5_digest_97 : decode cX5_digest 97 = .ok (.lmul, 1) := by decide +kernel
theorem dX5_digest_98 : decode cX5_digest 98 = .ok (.aload_n 0, 1) := by decide +kernel
theorem dX5_digest_99 : decode cX5_digest 99 = .ok (.aload_n 0, 1) := by decide +kernel
theorem dX5_digest_100 : decode cX5_digest 100 = .ok (.getfield 12, 3) := by decide +kernel
theorem dX5_digest_103 : decode cX5_digest 103 = .ok (.getfield 58, 3) := by decide +kernel
theorem dX5_digest_106 : decode cX5_digest 106 = .ok (.bipush 9, 2) := by decide +kernel
theorem dX5_digest_108 : decode cX5_digest 108 = .ok (.iconst 0, 1) := by decide +kernel
theorem dX5_digest_109 : decode cX5_digest 109 = .ok (.invokevirtual 226, 3) := by decide +kernel
theorem dX5_digest_112 : decode cX5_digest 112 = .ok (.i2l, 1) := by decide +kernel
theorem dX5_digest_113 : decode cX5_digest 113 = .ok (.ladd, 1) := by decide +kernel
theorem dX5_digest_114 : decode cX5_digest 114 = .ok (.lstore_n 1, 1) := by decide +kernel
theorem dX5_digest_115 : decode cX5_digest 115 = .ok (.ldc2_w 268, 3) := by decide +kernel
theorem dX5_digest_118 : decode cX5_digest 118 = .ok (.lload_n 1, 1) := by decide +kernel
theorem dX5_digest_119 : decode cX5_digest 119 = .ok (.lmul, 1) := by decide +kernel
theorem dX5_digest_120 : decode cX5_digest 120 = .ok (.aload_n 0, 1) := by decide +kernel
theorem dX5_digest_121 : decode cX5_digest 121 = .ok (.iconst 3, 1) := by decide +kernel
theorem dX5_digest_122 : decode cX5_digest 122 = .ok (.invokevirtual 280, 3) := by decide +kernel
theorem dX5_digest_125 : decode cX5_digest 125 = .ok (.i2l, 1) := by decide +kernel
theorem dX5_digest_126 : decode cX5_digest 126 = .ok (.ladd, 1) := by decide +kernel
theorem dX5_digest_127 : decode cX5_digest 127 = .ok (.lstore_n 1, 1) := by decide +kernel
theorem dX5_digest_128 : decode cX5_digest 128 = .ok (.ldc2_w 268, 3) := by decide +kernel
theorem dX5_digest_131 : decode cX5_digest 131 = .ok (.lload_n 1, 1) := by decide +kernel
theorem dX5_digest_132 : decode cX5_digest 132 = .ok (.lmul, 1) := by decide +kernel
theorem dX5_digest_133 : decode cX5_digest 133 = .ok (.aload_n 0, 1) := by decide +kernel
theorem dX5_digest_134 : decode cX5_digest 134 = .ok (.iconst 1, 1) := by decide +kernel
theorem dX5_digest_135 : decode cX5_digest 135 = .ok (.iconst 0, 1) := by decide +kernel
theorem dX5_digest_136 : decode cX5_digest 136 = .ok (.iconst 0, 1) := by decide +kernel
theorem dX5_digest_137 : decode cX5_digest 137 = .ok (.invokevirtual 283, 3) := by decide +kernel
theorem dX5_digest_140 : decode cX5_digest 140 = .ok (.i2l, 1) := by decide +kernel
theorem dX5_digest_141 : decode cX5_digest 141 = .ok (.ladd, 1) := by decide +kernel
theorem dX5_digest_142 : decode cX5_digest 142 = .ok (.lstore_n 1, 1) := by decide +kernel
theorem dX5_digest_143 : decode cX5_digest 143 = .ok (.ldc2_w 268, 3) := by decide +kernel
theorem dX5_digest_146 : decode cX5_digest 146 = .ok (.lload_n 1, 1) := by decide +kernel
theorem dX5_digest_147 : decode cX5_digest 147 = .ok (.lmul, 1) := by decide +kernel
theorem dX5_digest_148 : decode cX5_digest 148 = .ok (.aload_n 0, 1) := by decide +kernel
theorem dX5_digest_149 : decode cX5_digest 149 = .ok (.iconst 2, 1) := by decide +kernel
theorem dX5_digest_150 : decode cX5_digest 150 = .ok (.iconst 3, 1) := by decide +kernel
theorem dX5_digest_151 : decode cX5_digest 151 = .ok (.iconst 4, 1) := by decide +kernel
theorem dX5_digest_152 : decode cX5_digest 152 = .ok (.invokevirtual 283, 3) := by decide +kernel
theorem dX5_digest_155 : decode cX5_digest 155 = .ok (.i2l, 1) := by decide +kernel
theorem dX5_digest_156 : decode cX5_digest 156 = .ok (.ladd, 1) := by decide +kernel
theorem dX5_digest_157 : decode cX5_digest 157 = .ok (.lstore_n 1, 1) := by decide +kernel
theorem dX5_digest_158 : decode cX5_digest 158 = .ok (.lload_n 1, 1) := by decide +kernel
theorem dX5_digest_159 : decode cX5_digest 159 = .ok (.lreturn, 1) := by decide +kernel
abbrev rmX5_digest : Room := { frames := 6, cells := 0, slots := 0, locals := 155 }
set_option maxRecDepth 100000 in
theorem hinX5_digest_5 : ∀ w ∈ wsX50, w ∈ wsX5_digest := by decide +kernel
set_option maxRecDepth 100000 in
theorem hinX5_digest_4 : ∀ w ∈ wsX40, w ∈ wsX5_digest := by decide +kernel
set_option maxHeartbeats 4000000 in
set_option maxRecDepth 100000 in
theorem tX5_digest_33b {h : AH} {k33 : AH → Int64 → Int32 → Option (Int64 × AH)} {x1 : Int64} {x3 : Int32} {r0 : Int64} {h0 : AH} (C : Cx p rmX5_digest s m args meth c RX5 cX5_digest 4 (some .long) wsX5_digest D ad cy tb 0 0) (H33 : ∀ (h : AH) (x1 : Int64) (x3 : Int32), k33 h x1 x3 = some (r0, h0) → AW p l e rmX5_digest s m args below meth c 4 D ad cy 0 0 (Ql D ad cy below args s r0 h0) 33 [(0, .ref (ad 0)), (1, .long x1), (3, .int x3)] [] h) (hf : fX5_digest_33b k33 h x1 x3 = some (r0, h0)) : AW p l e rmX5_digest s m args below meth c 4 D ad cy 0 0 (Ql D ad cy below args s r0 h0) 33 [(0, .ref (ad 0)), (1, .long x1), (3, .int x3)] [] h := by
  unfold fX5_digest_33b at hf
  refine aw_iload_n C dX5_digest_33 rfl 2 rfl ?_
  refine aw_aload_n C dX5_digest_34 rfl 0 rfl ?_
  refine aw_get C (kd_lt rfl (by decide)) (ce_5 rfl) rfl hinX5_digest_5 0 (by decide) rfl (by decide +kernel) rfl dX5_digest_35 ?_
  refine aw_getN (host := "StairCodes") C (kd_lt rfl (by decide)) (ce_4 rfl) rfl hinX5_digest_4 0 (by decide) rfl (by decide +kernel) rfl dX5_digest_38 ?_
  refine aw_icmp_gt (tgt := 57) C dX5_digest_41 (by decide) hf (fun hf => ?_) (fun hf => ?_)
  · refine aw_aload_n C dX5_digest_57 rfl 0 rfl ?_
    refine aw_lload_n C dX5_digest_58 rfl 1 rfl ?_
    obtain ⟨r2, h1, hc, hf⟩ := bW_some hf
    refine aw_callVl (As := [.long x1]) (rest := []) C rfl (by decide) rfl (kX5_digestOfLists (l := l) (D := D) (ad := ad) (cy := cy) (tb := tb) C.2.2.2.2.2.2.2.2.1 hc) (fun ht _ => cwV 1 ht gX5_digest_X5_digestOfLists rfl rfl rfl (by decide +kernel) ⟨Nat.le_of_ble_eq_true rfl, Nat.le_of_ble_eq_true rfl⟩) rfl rfl (Nat.le_of_ble_eq_true rfl) dX5_digest_59 ?_
    refine aw_lstore_n (lv1 := [(1, .long r2), (0, .ref (ad 0)), (3, .int x3)]) C dX5_digest_62 rfl (by decide) rfl ?_
    refine aw_ldc2 (v := 31) C (by decide +kernel) dX5_digest_63 ?_
    refine aw_lload_n C dX5_digest_66 rfl 0 rfl ?_
    refine aw_lmul C dX5_digest_67 ?_
    refine aw_aload_n C dX5_digest_68 rfl 1 rfl ?_
    refine aw_iconst (v := 2) C dX5_digest_69 (by decide) ?_
    refine aw_iconst (v := 3) C dX5_digest_70 (by decide) ?_
    refine aw_iconst (v := 0) C dX5_digest_71 (by decide) ?_
    obtain ⟨r4, h3, hc, hf⟩ := bW_some hf
    refine aw_callVi (As := [.int 2, .int 3, .int 0]) (rest := [.long (31 * r2)]) C rfl (by decide) rfl (kX5_would (l := l) (D := D) (ad := ad) (cy := cy) (tb := tb) C.2.2.2.2.2.2.2.2.1 hc) (fun ht _ => cwV 3 ht gX5_digest_X5_would rfl rfl rfl (by decide +kernel) ⟨Nat.le_of_ble_eq_true rfl, Nat.le_of_ble_eq_true rfl⟩) rfl rfl (Nat.le_of_ble_eq_true rfl) dX5_digest_72 ?_
    refine aw_i2l C dX5_digest_75 ?_
    refine aw_ladd C dX5_digest_76 ?_
    refine aw_nmL hf (fun v5 hf => ?_)
    refine aw_lstore_n (lv1 := [(1, .long v5), (0, .ref (ad 0)), (3, .int x3)]) C dX5_digest_77 rfl (by decide) rfl ?_
    refine aw_ldc2 (v := 31) C (by decide +kernel) dX5_digest_78 ?_
    refine aw_lload_n C dX5_digest_81 rfl 0 rfl ?_
    refine aw_lmul C dX5_digest_82 ?_
    refine aw_aload_n C dX5_digest_83 rfl 1 rfl ?_
    refine aw_iconst (v := 2) C dX5_digest_84 (by decide) ?_
    refine aw_iconst (v := 3) C dX5_digest_85 (by decide) ?_
    refine aw_iconst (v := 1) C dX5_digest_86 (by decide) ?_
    obtain ⟨r7, h6, hc, hf⟩ := bW_some hf
    refine aw_callVi (As := [.int 2, .int 3, .int 1]) (rest := [.long (31 * v5)]) C rfl (by decide) rfl (kX5_would (l := l) (D := D) (ad := ad) (cy := cy) (tb := tb) C.2.2.2.2.2.2.2.2.1 hc) (fun ht _ => cwV 3 ht gX5_digest_X5_would rfl rfl rfl (by decide +kernel) ⟨Nat.le_of_ble_eq_true rfl, Nat.le_of_ble_eq_true rfl⟩) rfl rfl (Nat.le_of_ble_eq_true rfl) dX5_digest_87 ?_
    refine aw_i2l C dX5_digest_90 ?_
    refine aw_ladd C dX5_digest_91 ?_
    refine aw_nmL hf (fun v8 hf => ?_)
    refine aw_lstore_n (lv1 := [(1, .long v8), (0, .ref (ad 0)), (3, .int x3)]) C dX5_digest_92 rfl (by decide) rfl ?_
    refine aw_ldc2 (v := 31) C (by decide +kernel) dX5_digest_93 ?_
    refine aw_lload_n C dX5_digest_96 rfl 0 rfl ?_
    refine aw_lmul C dX5_digest_97 ?_
    refine aw_aload_n C dX5_digest_98 rfl 1 rfl ?_
    refine aw_aload_n C dX5_digest_99 rfl 1 rfl ?_
    refine aw_get C (kd_lt rfl (by decide)) (ce_5 rfl) rfl hinX5_digest_5 0 (by decide) rfl (by decide +kernel) rfl dX5_digest_100 ?_
    refine aw_getN (host := "StairCodes") C (kd_lt rfl (by decide)) (ce_4 rfl) rfl hinX5_digest_4 0 (by decide) rfl (by decide +kernel) rfl dX5_digest_103 ?_
    refine aw_bipush (v := 9) C dX5_digest_106 (by decide) ?_
    refine aw_iconst (v := 0) C dX5_digest_108 (by decide) ?_
    obtain ⟨r10, h9, hc, hf⟩ := bW_some hf
    refine aw_callVi (As := [.int (h6.1 1 0), .int 9, .int 0]) (rest := [.long (31 * v8)]) C rfl (by decide) rfl (kX5_would (l := l) (D := D) (ad := ad) (cy := cy) (tb := tb) C.2.2.2.2.2.2.2.2.1 hc) (fun ht _ => cwV 3 ht gX5_digest_X5_would rfl rfl rfl (by decide +kernel) ⟨Nat.le_of_ble_eq_true rfl, Nat.le_of_ble_eq_true rfl⟩) rfl rfl (Nat.le_of_ble_eq_true rfl) dX5_digest_109 ?_
    refine aw_i2l C dX5_digest_112 ?_
    refine aw_ladd C dX5_digest_113 ?_
    refine aw_nmL hf (fun v11 hf => ?_)
    refine aw_lstore_n (lv1 := [(1, .long v11), (0, .ref (ad 0)), (3, .int x3)]) C dX5_digest_114 rfl (by decide) rfl ?_
    refine aw_ldc2 (v := 31) C (by decide +kernel) dX5_digest_115 ?_
    refine aw_lload_n C dX5_digest_118 rfl 0 rfl ?_
    refine aw_lmul C dX5_digest_119 ?_
    refine aw_aload_n C dX5_digest_120 rfl 1 rfl ?_
    refine aw_iconst (v := 3) C dX5_digest_121 (by decide) ?_
    obtain ⟨r13, h12, hc, hf⟩ := bW_some hf
    refine aw_callVi (As := [.int 3]) (rest := [.long (31 * v11)]) C rfl (by decide) rfl (kX5_best (l := l) (D := D) (ad := ad) (cy := cy) (tb := tb) C.2.2.2.2.2.2.2.2.1 hc) (fun ht _ => cwV 1 ht gX5_digest_X5_best rfl rfl rfl (by decide +kernel) ⟨Nat.le_of_ble_eq_true rfl, Nat.le_of_ble_eq_true rfl⟩) rfl rfl (Nat.le_of_ble_eq_true rfl) dX5_digest_122 ?_
    refine aw_i2l C dX5_digest_125 ?_
    refine aw_ladd C dX5_digest_126 ?_
    refine aw_nmL hf (fun v14 hf => ?_)
    refine aw_lstore_n (lv1 := [(1, .long v14), (0, .ref (ad 0)), (3, .int x3)]) C dX5_digest_127 rfl (by decide) rfl ?_
    refine aw_ldc2 (v := 31) C (by decide +kernel) dX5_digest_128 ?_
    refine aw_lload_n C dX5_digest_131 rfl 0 rfl ?_
    refine aw_lmul C dX5_digest_132 ?_
    refine aw_aload_n C dX5_digest_133 rfl 1 rfl ?_
    refine aw_iconst (v := 1) C dX5_digest_134 (by decide) ?_
    refine aw_iconst (v := 0) C dX5_digest_135 (by decide) ?_
    refine aw_iconst (v := 0) C dX5_digest_136 (by decide) ?_
    obtain ⟨r15, hc, hf⟩ := bR_some hf
    refine aw_callVi (As := [.int 1, .int 0, .int 0]) (rest := [.long (31 * v14)]) C rfl (by decide) rfl (kX5_around (l := l) (D := D) (ad := ad) (cy := cy) (tb := tb) C.2.2.2.2.2.2.2.2.1 hc) (fun ht _ => cwV 3 ht gX5_digest_X5_around rfl rfl rfl (by decide +kernel) ⟨Nat.le_of_ble_eq_true rfl, Nat.le_of_ble_eq_true rfl⟩) rfl rfl (Nat.le_of_ble_eq_true rfl) dX5_digest_137 ?_
    refine aw_i2l C dX5_digest_140 ?_
    refine aw_ladd C dX5_digest_141 ?_
    refine aw_nmL hf (fun v16 hf => ?_)
    refine aw_lstore_n (lv1 := [(1, .long v16), (0, .ref (ad 0)), (3, .int x3)]) C dX5_digest_142 rfl (by decide) rfl ?_
    refine aw_ldc2 (v := 31) C (by decide +kernel) dX5_digest_143 ?_
    refine aw_lload_n C dX5_digest_146 rfl 0 rfl ?_
    refine aw_lmul C dX5_digest_147 ?_
    refine aw_aload_n C dX5_digest_148 rfl 1 rfl ?_
    refine aw_iconst (v := 2) C dX5_digest_149 (by decide) ?_
    refine aw_iconst (v := 3) C dX5_digest_150 (by decide) ?_
    refine aw_iconst (v := 4) C dX5_digest_151 (by decide) ?_
    obtain ⟨r17, hc, hf⟩ := bR_some hf
    refine aw_callVi (As := [.int 2, .int 3, .int 4]) (rest := [.long (31 * v16)]) C rfl (by decide) rfl (kX5_around (l := l) (D := D) (ad := ad) (cy := cy) (tb := tb) C.2.2.2.2.2.2.2.2.1 hc) (fun ht _ => cwV 3 ht gX5_digest_X5_around rfl rfl rfl (by decide +kernel) ⟨Nat.le_of_ble_eq_true rfl, Nat.le_of_ble_eq_true rfl⟩) rfl rfl (Nat.le_of_ble_eq_true rfl) dX5_digest_152 ?_
    refine aw_i2l C dX5_digest_155 ?_
    refine aw_ladd C dX5_digest_156 ?_
    refine aw_nmL hf (fun v18 hf => ?_)
    refine aw_lstore_n (lv1 := [(1, .long v18), (0, .ref (ad 0)), (3, .int x3)]) C dX5_digest_157 rfl (by decide) rfl ?_
    refine aw_lload_n C dX5_digest_158 rfl 0 rfl ?_
    exact aw_lretW C dX5_digest_159 hf
  refine aw_aload_n C dX5_digest_44 rfl 0 rfl ?_
  refine aw_lload_n C dX5_digest_45 rfl 1 rfl ?_
  refine aw_iload_n C dX5_digest_46 rfl 2 rfl ?_
  obtain ⟨r19, hc, hf⟩ := bR_some hf
  refine aw_callVl (As := [.long x1, .int x3]) (rest := []) C rfl (by decide) rfl (kX5_digestOfBlock (l := l) (D := D) (ad := ad) (cy := cy) (tb := tb) C.2.2.2.2.2.2.2.2.1 hc) (fun ht _ => cwV 2 ht gX5_digest_X5_digestOfBlock rfl rfl rfl (by decide +kernel) ⟨Nat.le_of_ble_eq_true rfl, Nat.le_of_ble_eq_true rfl⟩) rfl rfl (Nat.le_of_ble_eq_true rfl) dX5_digest_47 ?_
  refine aw_lstore_n (lv1 := [(1, .long r19), (0, .ref (ad 0)), (3, .int x3)]) C dX5_digest_50 rfl (by decide) rfl ?_
  obtain ⟨v20, hvv20, hf⟩ := nm_ex hf
  refine aw_iinc (j := 2) (v := v20) (lv1 := [(3, .int v20), (1, .long r19), (0, .ref (ad 0))]) C dX5_digest_51 rfl hvv20 (by decide) rfl ?_
  refine aw_goto (tgt := 33) C dX5_digest_54 (by decide) ?_
  refine aw_sub [2, 1, 0] rfl ?_
  exact H33 h r19 v20 hf
set_option maxHeartbeats 4000000 in
set_option maxRecDepth 100000 in
theorem tX5_digest_33  {r0 : Int64} {h0 : AH} (C : Cx p rmX5_digest s m args meth c RX5 cX5_digest 4 (some .long) wsX5_digest D ad cy tb 0 0) : ∀ (n : Nat) (h : AH) (x1 : Int64) (x3 : Int32), fX5_digest_33 n h x1 x3 = some (r0, h0) → AW p l e rmX5_digest s m args below meth c 4 D ad cy 0 0 (Ql D ad cy below args s r0 h0) 33 [(0, .ref (ad 0)), (1, .long x1), (3, .int x3)] [] h := by
  intro n
  induction n with
  | zero => intro h x1 x3 hf; cases hf
  | succ n ih => intro h x1 x3 hf; exact tX5_digest_33b C  ih  hf
set_option maxHeartbeats 4000000 in
set_option maxRecDepth 100000 in
theorem tX5_digest_6b {h : AH} {k6 : AH → Int64 → Int32 → Option (Int64 × AH)} {x1 : Int64} {x3 : Int32} {r0 : Int64} {h0 : AH} (C : Cx p rmX5_digest s m args meth c RX5 cX5_digest 4 (some .long) wsX5_digest D ad cy tb 0 0) (H6 : ∀ (h : AH) (x1 : Int64) (x3 : Int32), k6 h x1 x3 = some (r0, h0) → AW p l e rmX5_digest s m args below meth c 4 D ad cy 0 0 (Ql D ad cy below args s r0 h0) 6 [(0, .ref (ad 0)), (1, .long x1), (3, .int x3)] [] h) (hf : fX5_digest_6b k6 h x1 x3 = some (r0, h0)) : AW p l e rmX5_digest s m args below meth c 4 D ad cy 0 0 (Ql D ad cy below args s r0 h0) 6 [(0, .ref (ad 0)), (1, .long x1), (3, .int x3)] [] h := by
  unfold fX5_digest_6b at hf
  refine aw_iload_n C dX5_digest_6 rfl 2 rfl ?_
  refine aw_bipush (v := 7) C dX5_digest_7 (by decide) ?_
  refine aw_icmp_gt (tgt := 31) C dX5_digest_9 (by decide) hf (fun hf => ?_) (fun hf => ?_)
  · refine aw_iconst (v := 1) C dX5_digest_31 (by decide) ?_
    refine aw_istore_n (lv1 := [(3, .int 1), (0, .ref (ad 0)), (1, .long x1)]) C dX5_digest_32 rfl (by decide) rfl ?_
    refine aw_sub [1, 2, 0] rfl ?_
    exact tX5_digest_33 C   FU h x1 1 hf
  refine aw_ldc2 (v := 31) C (by decide +kernel) dX5_digest_12 ?_
  refine aw_lload_n C dX5_digest_15 rfl 1 rfl ?_
  refine aw_lmul C dX5_digest_16 ?_
  refine aw_aload_n C dX5_digest_17 rfl 0 rfl ?_
  refine aw_iload_n C dX5_digest_18 rfl 2 rfl ?_
  obtain ⟨r2, h1, hc, hf⟩ := bW_some hf
  refine aw_callVi (As := [.int x3]) (rest := [.long (31 * x1)]) C rfl (by decide) rfl (kX5_count (l := l) (D := D) (ad := ad) (cy := cy) (tb := tb) C.2.2.2.2.2.2.2.2.1 hc) (fun ht _ => cwV 1 ht gX5_digest_X5_count rfl rfl rfl (by decide +kernel) ⟨Nat.le_of_ble_eq_true rfl, Nat.le_of_ble_eq_true rfl⟩) rfl rfl (Nat.le_of_ble_eq_true rfl) dX5_digest_19 ?_
  refine aw_i2l C dX5_digest_22 ?_
  refine aw_ladd C dX5_digest_23 ?_
  refine aw_nmL hf (fun v3 hf => ?_)
  refine aw_lstore_n (lv1 := [(1, .long v3), (0, .ref (ad 0)), (3, .int x3)]) C dX5_digest_24 rfl (by decide) rfl ?_
  obtain ⟨v4, hvv4, hf⟩ := nm_ex hf
  refine aw_iinc (j := 2) (v := v4) (lv1 := [(3, .int v4), (1, .long v3), (0, .ref (ad 0))]) C dX5_digest_25 rfl hvv4 (by decide) rfl ?_
  refine aw_goto (tgt := 6) C dX5_digest_28 (by decide) ?_
  refine aw_sub [2, 1, 0] rfl ?_
  exact H6 h1 v3 v4 hf
set_option maxHeartbeats 4000000 in
set_option maxRecDepth 100000 in
theorem tX5_digest_6  {r0 : Int64} {h0 : AH} (C : Cx p rmX5_digest s m args meth c RX5 cX5_digest 4 (some .long) wsX5_digest D ad cy tb 0 0) : ∀ (n : Nat) (h : AH) (x1 : Int64) (x3 : Int32), fX5_digest_6 n h x1 x3 = some (r0, h0) → AW p l e rmX5_digest s m args below meth c 4 D ad cy 0 0 (Ql D ad cy below args s r0 h0) 6 [(0, .ref (ad 0)), (1, .long x1), (3, .int x3)] [] h := by
  intro n
  induction n with
  | zero => intro h x1 x3 hf; cases hf
  | succ n ih => intro h x1 x3 hf; exact tX5_digest_6b C  ih  hf
set_option maxHeartbeats 4000000 in
set_option maxRecDepth 100000 in
theorem tX5_digest_0 {h : AH} {r0 : Int64} {h0 : AH} (C : Cx p rmX5_digest s m args meth c RX5 cX5_digest 4 (some .long) wsX5_digest D ad cy tb 0 0) (hf : fX5_digest h = some (r0, h0)) : AW p l e rmX5_digest s m args below meth c 4 D ad cy 0 0 (Ql D ad cy below args s r0 h0) 0 [(0, .ref (ad 0))] [] h := by
  unfold fX5_digest at hf
  refine aw_ldc2 (v := 17) C (by decide +kernel) dX5_digest_0 ?_
  refine aw_lstore_n (lv1 := [(1, .long 17), (0, .ref (ad 0))]) C dX5_digest_3 rfl (by decide) rfl ?_
  refine aw_iconst (v := 0) C dX5_digest_4 (by decide) ?_
  refine aw_istore_n (lv1 := [(3, .int 0), (1, .long 17), (0, .ref (ad 0))]) C dX5_digest_5 rfl (by decide) rfl ?_
  refine aw_sub [2, 1, 0] rfl ?_
  exact tX5_digest_6 C   FU h 17 0 hf
theorem kX5_digest {h : AH} {r0 : Int64} {h0 : AH} (hi : Inj ad) (hf : fX5_digest h = some (r0, h0)) : Kl l yX5_digest wsX5_digest rmX5_digest D ad cy tb [.ref (ad 0)] h r0 h0 := met_l (lv := [(0, .ref (ad 0))]) hi (by decide) rfl (Nat.le_of_ble_eq_true rfl) rfl rfl (fun _ _ _ _ _ _ _ _ C => tX5_digest_0 C  hf)
set_option maxRecDepth 20000 in
theorem ggX6_blockDigest_X6_blockOf : GoodIn wsX6_blockDigest wsX6_blockOf := goodIn_r _ [6, 7, 8, 9, 5, 10, 11, 12, 13, 14, 15, 16, 17, 18, 19, 70, 71, 72, 73, 74, 75, 76, 77, 78, 79, 80, 81, 82, 83, 84, 85, 86, 87] (by decide +kernel) (by decide +kernel)
set_option maxRecDepth 20000 in
theorem gX6_blockDigest_X6_blockOf : GoodIn wsX6_blockDigest (wsV RX6 122 RX6 yX6_blockOf wsX6_blockOf) := goodIn_app (goodIn_of _ (by decide +kernel)) ggX6_blockDigest_X6_blockOf
set_option maxRecDepth 20000 in
theorem ggX6_blockDigest_X6_rowOf : GoodIn wsX6_blockDigest wsX6_rowOf := goodIn_r _ [23, 24, 7, 8, 9, 5, 10, 11, 12, 13, 14, 15, 16, 17, 18, 19, 70, 71, 72, 73, 74, 75, 76, 77, 78, 79, 80, 81, 82, 83, 84, 85, 86, 87] (by decide +kernel) (by decide +kernel)
set_option maxRecDepth 20000 in
theorem gX6_blockDigest_X6_rowOf : GoodIn wsX6_blockDigest (wsV RX6 119 RX6 yX6_rowOf wsX6_rowOf) := goodIn_app (goodIn_of _ (by decide +kernel)) ggX6_blockDigest_X6_rowOf
set_option maxRecDepth 20000 in
theorem ggX6_blockDigest_X6_wordOf : GoodIn wsX6_blockDigest wsX6_wordOf := goodIn_r _ [28, 12, 29, 30, 31, 5, 32, 33, 34, 35, 36, 37, 38, 39, 40, 41, 42, 43, 44, 45, 46, 47, 48, 49, 50, 51, 52, 53, 54, 55, 56, 57, 58, 59, 60, 61, 62, 63, 64, 65, 66, 67, 68, 69, 70, 71, 72, 73, 74, 75, 76, 77, 78, 79, 80, 81, 82, 83, 84, 85, 86, 87] (by decide +kernel) (by decide +kernel)
set_option maxRecDepth 20000 in
theorem gX6_blockDigest_X6_wordOf : GoodIn wsX6_blockDigest (wsV RX6 147 RX6 yX6_wordOf wsX6_wordOf) := goodIn_app (goodIn_of _ (by decide +kernel)) ggX6_blockDigest_X6_wordOf
theorem dX6_blockDigest_0 : decode cX6_blockDigest 0 = .ok (.ldc2_w 214, 3) := by decide +kernel
theorem dX6_blockDigest_3 : decode cX6_blockDigest 3 = .ok (.lload_n 1, 1) := by decide +kernel
theorem dX6_blockDigest_4 : decode cX6_blockDigest 4 = .ok (.lmul, 1) := by decide +kernel
theorem dX6_blockDigest_5 : decode cX6_blockDigest 5 = .ok (.aload_n 0, 1) := by decide +kernel
theorem dX6_blockDigest_6 : decode cX6_blockDigest 6 = .ok (.iload_n 3, 1) := by decide +kernel
theorem dX6_blockDigest_7 : decode cX6_blockDigest 7 = .ok (.invokevirtual 122, 3) := by decide +kernel
theorem dX6_blockDigest_10 : decode cX6_blockDigest 10 = .ok (.ladd, 1) := by decide +kernel
theorem dX6_blockDigest_11 : decode cX6_blockDigest 11 = .ok (.lstore 4, 2) := by decide +kernel
theorem dX6_blockDigest_13 : decode cX6_blockDigest 13 = .ok (.iconst 0, 1) := by decide +kernel
theorem dX6_blockDigest_14 : decode cX6_blockDigest 14 = .ok (.istore 6, 2) := by decide +kernel
theorem dX6_blockDigest_16 : decode cX6_blockDigest 16 = .ok (.iload 6, 2) := by decide +kernel
theorem dX6_blockDigest_18 : decode cX6_blockDigest 18 = .ok (.bipush 8, 2) := by decide +kernel
theorem dX6_blockDigest_20 : decode cX6_blockDigest 20 = .ok (.if_icmp .ge 43, 3) := by decide +kernel
theorem dX6_blockDigest_23 : decode cX6_blockDigest 23 = .ok (.iconst 1, 1) := by decide +kernel
theorem dX6_blockDigest_24 : decode cX6_blockDigest 24 = .ok (.istore 7, 2) := by decide +kernel
theorem dX6_blockDigest_26 : decode cX6_blockDigest 26 = .ok (.iload 7, 2) := by decide +kernel
theorem dX6_blockDigest_28 : decode cX6_blockDigest 28 = .ok (.iconst 4, 1) := by decide +kernel
theorem dX6_blockDigest_29 : decode cX6_blockDigest 29 = .ok (.if_icmp .ge 28, 3) := by decide +kernel
theorem dX6_blockDigest_32 : decode cX6_blockDigest 32 = .ok (.ldc2_w 214, 3) := by decide +kernel
theorem dX6_blockDigest_35 : decode cX6_blockDigest 35 = .ok (.lload 4, 2) := by decide +kernel
theorem dX6_blockDigest_37 : decode cX6_blockDigest 37 = .ok (.lmul, 1) := by decide +kernel
theorem dX6_blockDigest_38 : decode cX6_blockDigest 38 = .ok (.aload_n 0, 1) := by decide +kernel
theorem dX6_blockDigest_39 : decode cX6_blockDigest 39 = .ok (.iload_n 3, 1) := by decide +kernel
theorem dX6_blockDigest_40 : decode cX6_blockDigest 40 = .ok (.iload 6, 2) := by decide +kernel
theorem dX6_blockDigest_42 : decode cX6_blockDigest 42 = .ok (.iload 7, 2) := by decide +kernel
theorem dX6_blockDigest_44 : decode cX6_blockDigest 44 = .ok (.invokevirtual 119, 3) := by decide +kernel
theorem dX6_blockDigest_47 : decode cX6_blockDigest 47 = .ok (.i2l, 1) := by decide +kernel
theorem dX6_blockDigest_48 : decode cX6_blockDigest 48 = .ok (.ladd, 1) := by decide +kernel
theorem dX6_blockDigest_49 : decode cX6_blockDigest 49 = .ok (.lstore 4, 2) := by decide +kernel
theorem dX6_blockDigest_51 : decode cX6_blockDigest 51 = .ok (.iinc 7 1, 3) := by decide +kernel
theorem dX6_blockDigest_54 : decode cX6_blockDigest 54 = .ok (.goto (-28), 3) := by decide +kernel
theorem dX6_blockDigest_57 : decode cX6_blockDigest 57 = .ok (.iinc 6 1, 3) := by decide +kernel
theorem dX6_blockDigest_60 : decode cX6_blockDigest 60 = .ok (.goto (-44), 3) := by decide +kernel
theorem dX6_blockDigest_63 : decode cX6_blockDigest 63 = .ok (.iconst 0, 1) := by decide +kernel
theorem dX6_blockDigest_64 : decode cX6_blockDigest 64 = .ok (.istore 6, 2) := by decide +kernel
theorem dX6_blockDigest_66 : decode cX6_blockDigest 66 = .ok (.iload 6, 2) := by decide +kernel
theorem dX6_blockDigest_68 : decode cX6_blockDigest 68 = .ok (.bipush 8, 2) := by decide +kernel
theorem dX6_blockDigest_70 : decode cX6_blockDigest 70 = .ok (.if_icmp .ge 43, 3) := by decide +kernel
theorem dX6_blockDigest_73 : decode cX6_blockDigest 73 = .ok (.iconst 0, 1) := by decide +kernel
theorem dX6_blockDigest_74 : decode cX6_blockDigest 74 = .ok (.istore 7, 2) := by decide +kernel
theorem dX6_blockDigest_76 : decode cX6_blockDigest 76 = .ok (.iload 7, 2) := by decide +kernel
theorem dX6_blockDigest_78 : decode cX6_blockDigest 78 = .ok (.iconst 5, 1) := by decide +kernel
theorem dX6_blockDigest_79 : decode cX6_blockDigest 79 = .ok (.if_icmp .ge 28, 3) := by decide +kernel
theorem dX6_blockDigest_82 : decode cX6_blockDigest 82 = .ok (.ldc2_w 214, 3) := by decide +kernel
theorem dX6_blockDigest_85 : decode cX6_blockDigest 85 = .ok (.lload 4, 2) := by decide +kernel
theorem dX6_blockDigest_87 : decode cX6_blockDigest 87 = .ok (.lmul, 1) := by decide +kernel
theorem dX6_blockDigest_88 : decode cX6_blockDigest 88 = .ok (.aload_n 0, 1) := by decide +kernel
theorem dX6_blockDigest_89 : decode cX6_blockDigest 89 = .ok (.iload_n 3, 1) := by decide +kernel
theorem dX6_blockDigest_90 : decode cX6_blockDigest 90 = .ok (.iload 6, 2) := by decide +kernel
theorem dX6_blockDigest_92 : decode cX6_blockDigest 92 = .ok (.iload 7, 2) := by decide +kernel
theorem dX6_blockDigest_94 : decode cX6_blockDigest 94 = .ok (.invokevirtual 147, 3) := by decide +kernel
theorem dX6_blockDigest_97 : decode cX6_blockDigest 97 = .ok (.i2l, 1) := by decide +kernel
theorem dX6_blockDigest_98 : decode cX6_blockDigest 98 = .ok (.ladd, 1) := by decide +kernel
theorem dX6_blockDigest_99 : decode cX6_blockDigest 99 = .ok (.lstore 4, 2) := by decide +kernel
theorem dX6_blockDigest_101 : decode cX6_blockDigest 101 = .ok (.iinc 7 1, 3) := by decide +kernel
theorem dX6_blockDigest_104 : decode cX6_blockDigest 104 = .ok (.goto (-28), 3) := by decide +kernel
theorem dX6_blockDigest_107 : decode cX6_blockDigest 107 = .ok (.iinc 6 1, 3) := by decide +kernel
theorem dX6_blockDigest_110 : decode cX6_blockDigest 110 = .ok (.goto (-44), 3) := by decide +kernel
theorem dX6_blockDigest_113 : decode cX6_blockDigest 113 = .ok (.lload 4, 2) := by decide +kernel
theorem dX6_blockDigest_115 : decode cX6_blockDigest 115 = .ok (.lreturn, 1) := by decide +kernel
abbrev rmX6_blockDigest : Room := { frames := 7, cells := 0, slots := 0, locals := 168 }
set_option maxHeartbeats 4000000 in
set_option maxRecDepth 100000 in
theorem tX6_blockDigest_26b {h : AH} {a1 : Int64} {a3 : Int32} {k16 : Int64 → Int32 → Option Int64} {k26 : Int64 → Int32 → Int32 → Option Int64} {x4 : Int64} {x6 : Int32} {x7 : Int32} {r0 : Int64} (C : Cx p rmX6_blockDigest s m args meth c RX6 cX6_blockDigest 8 (some .long) wsX6_blockDigest D ad cy tb 0 0) (H16 : ∀ (x4 : Int64) (x6 : Int32), k16 x4 x6 = some r0 → AW p l e rmX6_blockDigest s m args below meth c 8 D ad cy 0 0 (Ql D ad cy below args s r0 h) 16 [(0, .ref (ad 29)), (1, .long a1), (3, .int a3), (4, .long x4), (6, .int x6)] [] h) (H26 : ∀ (x4 : Int64) (x6 : Int32) (x7 : Int32), k26 x4 x6 x7 = some r0 → AW p l e rmX6_blockDigest s m args below meth c 8 D ad cy 0 0 (Ql D ad cy below args s r0 h) 26 [(0, .ref (ad 29)), (1, .long a1), (3, .int a3), (4, .long x4), (6, .int x6), (7, .int x7)] [] h) (hf : fX6_blockDigest_26b k16 k26 h a1 a3 x4 x6 x7 = some r0) : AW p l e rmX6_blockDigest s m args below meth c 8 D ad cy 0 0 (Ql D ad cy below args s r0 h) 26 [(0, .ref (ad 29)), (1, .long a1), (3, .int a3), (4, .long x4), (6, .int x6), (7, .int x7)] [] h := by
  unfold fX6_blockDigest_26b at hf
  refine aw_iload C dX6_blockDigest_26 5 rfl ?_
  refine aw_iconst (v := 4) C dX6_blockDigest_28 (by decide) ?_
  refine aw_icmp_ge (tgt := 57) C dX6_blockDigest_29 (by decide) hf (fun hf => ?_) (fun hf => ?_)
  · obtain ⟨v1, hvv1, hf⟩ := nm_ex hf
    refine aw_iinc (j := 4) (v := v1) (lv1 := [(6, .int v1), (0, .ref (ad 29)), (1, .long a1), (3, .int a3), (4, .long x4), (7, .int x7)]) C dX6_blockDigest_57 rfl hvv1 (by decide) rfl ?_
    refine aw_goto (tgt := 16) C dX6_blockDigest_60 (by decide) ?_
    refine aw_sub [1, 2, 3, 4, 0] rfl ?_
    exact H16 x4 v1 hf
  refine aw_ldc2 (v := 31) C (by decide +kernel) dX6_blockDigest_32 ?_
  refine aw_lload C dX6_blockDigest_35 3 rfl ?_
  refine aw_lmul C dX6_blockDigest_37 ?_
  refine aw_aload_n C dX6_blockDigest_38 rfl 0 rfl ?_
  refine aw_iload_n C dX6_blockDigest_39 rfl 2 rfl ?_
  refine aw_iload C dX6_blockDigest_40 4 rfl ?_
  refine aw_iload C dX6_blockDigest_42 5 rfl ?_
  obtain ⟨r2, hc, hf⟩ := bR_some hf
  refine aw_callVi (As := [.int a3, .int x6, .int x7]) (rest := [.long (31 * x4)]) C rfl (by decide) rfl (kX6_rowOf (l := l) (D := D) (ad := ad) (cy := cy) (tb := tb) C.2.2.2.2.2.2.2.2.1 hc) (fun ht _ => cwV 3 ht gX6_blockDigest_X6_rowOf rfl rfl rfl (by decide +kernel) ⟨Nat.le_of_ble_eq_true rfl, Nat.le_of_ble_eq_true rfl⟩) rfl rfl (Nat.le_of_ble_eq_true rfl) dX6_blockDigest_44 ?_
  refine aw_i2l C dX6_blockDigest_47 ?_
  refine aw_ladd C dX6_blockDigest_48 ?_
  refine aw_nmL hf (fun v3 hf => ?_)
  refine aw_lstore (lv1 := [(4, .long v3), (0, .ref (ad 29)), (1, .long a1), (3, .int a3), (6, .int x6), (7, .int x7)]) C dX6_blockDigest_49 (by decide) rfl ?_
  obtain ⟨v4, hvv4, hf⟩ := nm_ex hf
  refine aw_iinc (j := 5) (v := v4) (lv1 := [(7, .int v4), (4, .long v3), (0, .ref (ad 29)), (1, .long a1), (3, .int a3), (6, .int x6)]) C dX6_blockDigest_51 rfl hvv4 (by decide) rfl ?_
  refine aw_goto (tgt := 26) C dX6_blockDigest_54 (by decide) ?_
  refine aw_sub [2, 3, 4, 1, 5, 0] rfl ?_
  exact H26 v3 x6 v4 hf
set_option maxHeartbeats 4000000 in
set_option maxRecDepth 100000 in
theorem tX6_blockDigest_26 {h : AH} {a1 : Int64} {a3 : Int32} {k16 : Int64 → Int32 → Option Int64} {r0 : Int64} (C : Cx p rmX6_blockDigest s m args meth c RX6 cX6_blockDigest 8 (some .long) wsX6_blockDigest D ad cy tb 0 0) (H16 : ∀ (x4 : Int64) (x6 : Int32), k16 x4 x6 = some r0 → AW p l e rmX6_blockDigest s m args below meth c 8 D ad cy 0 0 (Ql D ad cy below args s r0 h) 16 [(0, .ref (ad 29)), (1, .long a1), (3, .int a3), (4, .long x4), (6, .int x6)] [] h) : ∀ (n : Nat) (x4 : Int64) (x6 : Int32) (x7 : Int32), fX6_blockDigest_26 k16 h a1 a3 n x4 x6 x7 = some r0 → AW p l e rmX6_blockDigest s m args below meth c 8 D ad cy 0 0 (Ql D ad cy below args s r0 h) 26 [(0, .ref (ad 29)), (1, .long a1), (3, .int a3), (4, .long x4), (6, .int x6), (7, .int x7)] [] h := by
  intro n
  induction n with
  | zero => intro x4 x6 x7 hf; cases hf
  | succ n ih => intro x4 x6 x7 hf; exact tX6_blockDigest_26b C  H16 ih  hf
set_option maxHeartbeats 4000000 in
set_option maxRecDepth 100000 in
theorem tX6_blockDigest_76b {h : AH} {a1 : Int64} {a3 : Int32} {k66 : Int64 → Int32 → Option Int64} {k76 : Int64 → Int32 → Int32 → Option Int64} {x4 : Int64} {x6 : Int32} {x7 : Int32} {r0 : Int64} (C : Cx p rmX6_blockDigest s m args meth c RX6 cX6_blockDigest 8 (some .long) wsX6_blockDigest D ad cy tb 0 0) (H66 : ∀ (x4 : Int64) (x6 : Int32), k66 x4 x6 = some r0 → AW p l e rmX6_blockDigest s m args below meth c 8 D ad cy 0 0 (Ql D ad cy below args s r0 h) 66 [(0, .ref (ad 29)), (1, .long a1), (3, .int a3), (4, .long x4), (6, .int x6)] [] h) (H76 : ∀ (x4 : Int64) (x6 : Int32) (x7 : Int32), k76 x4 x6 x7 = some r0 → AW p l e rmX6_blockDigest s m args below meth c 8 D ad cy 0 0 (Ql D ad cy below args s r0 h) 76 [(0, .ref (ad 29)), (1, .long a1), (3, .int a3), (4, .long x4), (6, .int x6), (7, .int x7)] [] h) (hf : fX6_blockDigest_76b k66 k76 h a1 a3 x4 x6 x7 = some r0) : AW p l e rmX6_blockDigest s m args below meth c 8 D ad cy 0 0 (Ql D ad cy below args s r0 h) 76 [(0, .ref (ad 29)), (1, .long a1), (3, .int a3), (4, .long x4), (6, .int x6), (7, .int x7)] [] h := by
  unfold fX6_blockDigest_76b at hf
  refine aw_iload C dX6_blockDigest_76 5 rfl ?_
  refine aw_iconst (v := 5) C dX6_blockDigest_78 (by decide) ?_
  refine aw_icmp_ge (tgt := 107) C dX6_blockDigest_79 (by decide) hf (fun hf => ?_) (fun hf => ?_)
  · obtain ⟨v1, hvv1, hf⟩ := nm_ex hf
    refine aw_iinc (j := 4) (v := v1) (lv1 := [(6, .int v1), (0, .ref (ad 29)), (1, .long a1), (3, .int a3), (4, .long x4), (7, .int x7)]) C dX6_blockDigest_107 rfl hvv1 (by decide) rfl ?_
    refine aw_goto (tgt := 66) C dX6_blockDigest_110 (by decide) ?_
    refine aw_sub [1, 2, 3, 4, 0] rfl ?_
    exact H66 x4 v1 hf
  refine aw_ldc2 (v := 31) C (by decide +kernel) dX6_blockDigest_82 ?_
  refine aw_lload C dX6_blockDigest_85 3 rfl ?_
  refine aw_lmul C dX6_blockDigest_87 ?_
  refine aw_aload_n C dX6_blockDigest_88 rfl 0 rfl ?_
  refine aw_iload_n C dX6_blockDigest_89 rfl 2 rfl ?_
  refine aw_iload C dX6_blockDigest_90 4 rfl ?_
  refine aw_iload C dX6_blockDigest_92 5 rfl ?_
  obtain ⟨r2, hc, hf⟩ := bR_some hf
  refine aw_callVi (As := [.int a3, .int x6, .int x7]) (rest := [.long (31 * x4)]) C rfl (by decide) rfl (kX6_wordOf (l := l) (D := D) (ad := ad) (cy := cy) (tb := tb) C.2.2.2.2.2.2.2.2.1 hc) (fun ht _ => cwV 3 ht gX6_blockDigest_X6_wordOf rfl rfl rfl (by decide +kernel) ⟨Nat.le_of_ble_eq_true rfl, Nat.le_of_ble_eq_true rfl⟩) rfl rfl (Nat.le_of_ble_eq_true rfl) dX6_blockDigest_94 ?_
  refine aw_i2l C dX6_blockDigest_97 ?_
  refine aw_ladd C dX6_blockDigest_98 ?_
  refine aw_nmL hf (fun v3 hf => ?_)
  refine aw_lstore (lv1 := [(4, .long v3), (0, .ref (ad 29)), (1, .long a1), (3, .int a3), (6, .int x6), (7, .int x7)]) C dX6_blockDigest_99 (by decide) rfl ?_
  obtain ⟨v4, hvv4, hf⟩ := nm_ex hf
  refine aw_iinc (j := 5) (v := v4) (lv1 := [(7, .int v4), (4, .long v3), (0, .ref (ad 29)), (1, .long a1), (3, .int a3), (6, .int x6)]) C dX6_blockDigest_101 rfl hvv4 (by decide) rfl ?_
  refine aw_goto (tgt := 76) C dX6_blockDigest_104 (by decide) ?_
  refine aw_sub [2, 3, 4, 1, 5, 0] rfl ?_
  exact H76 v3 x6 v4 hf
set_option maxHeartbeats 4000000 in
set_option maxRecDepth 100000 in
theorem tX6_blockDigest_76 {h : AH} {a1 : Int64} {a3 : Int32} {k66 : Int64 → Int32 → Option Int64} {r0 : Int64} (C : Cx p rmX6_blockDigest s m args meth c RX6 cX6_blockDigest 8 (some .long) wsX6_blockDigest D ad cy tb 0 0) (H66 : ∀ (x4 : Int64) (x6 : Int32), k66 x4 x6 = some r0 → AW p l e rmX6_blockDigest s m args below meth c 8 D ad cy 0 0 (Ql D ad cy below args s r0 h) 66 [(0, .ref (ad 29)), (1, .long a1), (3, .int a3), (4, .long x4), (6, .int x6)] [] h) : ∀ (n : Nat) (x4 : Int64) (x6 : Int32) (x7 : Int32), fX6_blockDigest_76 k66 h a1 a3 n x4 x6 x7 = some r0 → AW p l e rmX6_blockDigest s m args below meth c 8 D ad cy 0 0 (Ql D ad cy below args s r0 h) 76 [(0, .ref (ad 29)), (1, .long a1), (3, .int a3), (4, .long x4), (6, .int x6), (7, .int x7)] [] h := by
  intro n
  induction n with
  | zero => intro x4 x6 x7 hf; cases hf
  | succ n ih => intro x4 x6 x7 hf; exact tX6_blockDigest_76b C  H66 ih  hf
set_option maxHeartbeats 4000000 in
set_option maxRecDepth 100000 in
theorem tX6_blockDigest_66b {h : AH} {a1 : Int64} {a3 : Int32} {k66 : Int64 → Int32 → Option Int64} {x4 : Int64} {x6 : Int32} {r0 : Int64} (C : Cx p rmX6_blockDigest s m args meth c RX6 cX6_blockDigest 8 (some .long) wsX6_blockDigest D ad cy tb 0 0) (H66 : ∀ (x4 : Int64) (x6 : Int32), k66 x4 x6 = some r0 → AW p l e rmX6_blockDigest s m args below meth c 8 D ad cy 0 0 (Ql D ad cy below args s r0 h) 66 [(0, .ref (ad 29)), (1, .long a1), (3, .int a3), (4, .long x4), (6, .int x6)] [] h) (hf : fX6_blockDigest_66b k66 h a1 a3 x4 x6 = some r0) : AW p l e rmX6_blockDigest s m args below meth c 8 D ad cy 0 0 (Ql D ad cy below args s r0 h) 66 [(0, .ref (ad 29)), (1, .long a1), (3, .int a3), (4, .long x4), (6, .int x6)] [] h := by
  unfold fX6_blockDigest_66b at hf
  refine aw_iload C dX6_blockDigest_66 4 rfl ?_
  refine aw_bipush (v := 8) C dX6_blockDigest_68 (by decide) ?_
  refine aw_icmp_ge (tgt := 113) C dX6_blockDigest_70 (by decide) hf (fun hf => ?_) (fun hf => ?_)
  · refine aw_lload C dX6_blockDigest_113 3 rfl ?_
    exact aw_lretR C dX6_blockDigest_115 hf
  refine aw_iconst (v := 0) C dX6_blockDigest_73 (by decide) ?_
  refine aw_istore (lv1 := [(7, .int 0), (0, .ref (ad 29)), (1, .long a1), (3, .int a3), (4, .long x4), (6, .int x6)]) C dX6_blockDigest_74 (by decide) rfl ?_
  refine aw_sub [1, 2, 3, 4, 5, 0] rfl ?_
  exact tX6_blockDigest_76 C  H66 FU x4 x6 0 hf
set_option maxHeartbeats 4000000 in
set_option maxRecDepth 100000 in
theorem tX6_blockDigest_66 {h : AH} {a1 : Int64} {a3 : Int32} {r0 : Int64} (C : Cx p rmX6_blockDigest s m args meth c RX6 cX6_blockDigest 8 (some .long) wsX6_blockDigest D ad cy tb 0 0) : ∀ (n : Nat) (x4 : Int64) (x6 : Int32), fX6_blockDigest_66 h a1 a3 n x4 x6 = some r0 → AW p l e rmX6_blockDigest s m args below meth c 8 D ad cy 0 0 (Ql D ad cy below args s r0 h) 66 [(0, .ref (ad 29)), (1, .long a1), (3, .int a3), (4, .long x4), (6, .int x6)] [] h := by
  intro n
  induction n with
  | zero => intro x4 x6 hf; cases hf
  | succ n ih => intro x4 x6 hf; exact tX6_blockDigest_66b C  ih  hf
set_option maxHeartbeats 4000000 in
set_option maxRecDepth 100000 in
theorem tX6_blockDigest_16b {h : AH} {a1 : Int64} {a3 : Int32} {k16 : Int64 → Int32 → Option Int64} {x4 : Int64} {x6 : Int32} {r0 : Int64} (C : Cx p rmX6_blockDigest s m args meth c RX6 cX6_blockDigest 8 (some .long) wsX6_blockDigest D ad cy tb 0 0) (H16 : ∀ (x4 : Int64) (x6 : Int32), k16 x4 x6 = some r0 → AW p l e rmX6_blockDigest s m args below meth c 8 D ad cy 0 0 (Ql D ad cy below args s r0 h) 16 [(0, .ref (ad 29)), (1, .long a1), (3, .int a3), (4, .long x4), (6, .int x6)] [] h) (hf : fX6_blockDigest_16b k16 h a1 a3 x4 x6 = some r0) : AW p l e rmX6_blockDigest s m args below meth c 8 D ad cy 0 0 (Ql D ad cy below args s r0 h) 16 [(0, .ref (ad 29)), (1, .long a1), (3, .int a3), (4, .long x4), (6, .int x6)] [] h := by
  unfold fX6_blockDigest_16b at hf
  refine aw_iload C dX6_blockDigest_16 4 rfl ?_
  refine aw_bipush (v := 8) C dX6_blockDigest_18 (by decide) ?_
  refine aw_icmp_ge (tgt := 63) C dX6_blockDigest_20 (by decide) hf (fun hf => ?_) (fun hf => ?_)
  · refine aw_iconst (v := 0) C dX6_blockDigest_63 (by decide) ?_
    refine aw_istore (lv1 := [(6, .int 0), (0, .ref (ad 29)), (1, .long a1), (3, .int a3), (4, .long x4)]) C dX6_blockDigest_64 (by decide) rfl ?_
    refine aw_sub [1, 2, 3, 4, 0] rfl ?_
    exact tX6_blockDigest_66 C   FU x4 0 hf
  refine aw_iconst (v := 1) C dX6_blockDigest_23 (by decide) ?_
  refine aw_istore (lv1 := [(7, .int 1), (0, .ref (ad 29)), (1, .long a1), (3, .int a3), (4, .long x4), (6, .int x6)]) C dX6_blockDigest_24 (by decide) rfl ?_
  refine aw_sub [1, 2, 3, 4, 5, 0] rfl ?_
  exact tX6_blockDigest_26 C  H16 FU x4 x6 1 hf
set_option maxHeartbeats 4000000 in
set_option maxRecDepth 100000 in
theorem tX6_blockDigest_16 {h : AH} {a1 : Int64} {a3 : Int32} {r0 : Int64} (C : Cx p rmX6_blockDigest s m args meth c RX6 cX6_blockDigest 8 (some .long) wsX6_blockDigest D ad cy tb 0 0) : ∀ (n : Nat) (x4 : Int64) (x6 : Int32), fX6_blockDigest_16 h a1 a3 n x4 x6 = some r0 → AW p l e rmX6_blockDigest s m args below meth c 8 D ad cy 0 0 (Ql D ad cy below args s r0 h) 16 [(0, .ref (ad 29)), (1, .long a1), (3, .int a3), (4, .long x4), (6, .int x6)] [] h := by
  intro n
  induction n with
  | zero => intro x4 x6 hf; cases hf
  | succ n ih => intro x4 x6 hf; exact tX6_blockDigest_16b C  ih  hf
set_option maxHeartbeats 4000000 in
set_option maxRecDepth 100000 in
theorem tX6_blockDigest_0 {h : AH} {a1 : Int64} {a3 : Int32} {r0 : Int64} (C : Cx p rmX6_blockDigest s m args meth c RX6 cX6_blockDigest 8 (some .long) wsX6_blockDigest D ad cy tb 0 0) (hf : fX6_blockDigest h a1 a3 = some r0) : AW p l e rmX6_blockDigest s m args below meth c 8 D ad cy 0 0 (Ql D ad cy below args s r0 h) 0 [(0, .ref (ad 29)), (1, .long a1), (3, .int a3)] [] h := by
  unfold fX6_blockDigest at hf
  refine aw_ldc2 (v := 31) C (by decide +kernel) dX6_blockDigest_0 ?_
  refine aw_lload_n C dX6_blockDigest_3 rfl 1 rfl ?_
  refine aw_lmul C dX6_blockDigest_4 ?_
  refine aw_aload_n C dX6_blockDigest_5 rfl 0 rfl ?_
  refine aw_iload_n C dX6_blockDigest_6 rfl 2 rfl ?_
  obtain ⟨r1, hc, hf⟩ := bR_some hf
  refine aw_callVl (As := [.int a3]) (rest := [.long (31 * a1)]) C rfl (by decide) rfl (kX6_blockOf (l := l) (D := D) (ad := ad) (cy := cy) (tb := tb) C.2.2.2.2.2.2.2.2.1 hc) (fun ht _ => cwV 1 ht gX6_blockDigest_X6_blockOf rfl rfl rfl (by decide +kernel) ⟨Nat.le_of_ble_eq_true rfl, Nat.le_of_ble_eq_true rfl⟩) rfl rfl (Nat.le_of_ble_eq_true rfl) dX6_blockDigest_7 ?_
  refine aw_ladd C dX6_blockDigest_10 ?_
  refine aw_nmL hf (fun v2 hf => ?_)
  refine aw_lstore (lv1 := [(4, .long v2), (0, .ref (ad 29)), (1, .long a1), (3, .int a3)]) C dX6_blockDigest_11 (by decide) rfl ?_
  refine aw_iconst (v := 0) C dX6_blockDigest_13 (by decide) ?_
  refine aw_istore (lv1 := [(6, .int 0), (4, .long v2), (0, .ref (ad 29)), (1, .long a1), (3, .int a3)]) C dX6_blockDigest_14 (by decide) rfl ?_
  refine aw_sub [2, 3, 4, 1, 0] rfl ?_
  exact tX6_blockDigest_16 C   FU v2 0 hf
theorem kX6_blockDigest {h : AH} {a1 : Int64} {a3 : Int32} {r0 : Int64} (hi : Inj ad) (hf : fX6_blockDigest h a1 a3 = some r0) : Kl l yX6_blockDigest wsX6_blockDigest rmX6_blockDigest D ad cy tb [.ref (ad 29), .long a1, .int a3] h r0 h := met_l (lv := [(0, .ref (ad 29)), (1, .long a1), (3, .int a3)]) hi (by decide) rfl (Nat.le_of_ble_eq_true rfl) rfl rfl (fun _ _ _ _ _ _ _ _ C => tX6_blockDigest_0 C  hf)
