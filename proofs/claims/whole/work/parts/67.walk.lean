variable {p : Program} {l : Launch} {e : Env} {s : State} {m : MethodId} {args : Array Value} {below : List Frame} {meth : Method} {c : Code} {D : va_G} {ad : Nat → Nat} {cy : Nat → ClassId} {tb : Nat → Nat}
set_option maxRecDepth 20000 in
theorem ggX6_write_X6_isBlock : GoodIn wsX6_write wsX6_isBlock := goodIn_r _ [8, 9, 10, 11, 7, 12, 38, 39, 40, 41, 42, 43, 44, 45, 46, 47, 48, 49, 50, 51, 52, 53, 54, 55] (by decide +kernel) (by decide +kernel)
set_option maxRecDepth 20000 in
theorem gX6_write_X6_isBlock : GoodIn wsX6_write (wsV RX6 77 RX6 yX6_isBlock wsX6_isBlock) := goodIn_app (goodIn_of _ (by decide +kernel)) ggX6_write_X6_isBlock
set_option maxRecDepth 20000 in
theorem ggX6_write_X6_isSheet : GoodIn wsX6_write wsX6_isSheet := goodIn_r _ [15, 10, 11, 7, 12] (by decide +kernel) (by decide +kernel)
set_option maxRecDepth 20000 in
theorem gX6_write_X6_isSheet : GoodIn wsX6_write (va_wsS RX6 103 yX6_isSheet wsX6_isSheet) := goodIn_app (goodIn_of _ (by decide +kernel)) ggX6_write_X6_isSheet
set_option maxRecDepth 20000 in
theorem ggX6_write_X6_meets : GoodIn wsX6_write wsX6_meets := goodIn_r _ [19, 20, 38, 39, 40, 41, 42, 43, 44, 45, 46, 47, 48, 49, 50, 51, 52, 53, 54, 55] (by decide +kernel) (by decide +kernel)
set_option maxRecDepth 20000 in
theorem gX6_write_X6_meets : GoodIn wsX6_write (wsV RX6 106 RX6 yX6_meets wsX6_meets) := goodIn_app (goodIn_of _ (by decide +kernel)) ggX6_write_X6_meets
set_option maxRecDepth 20000 in
theorem ggX6_write_X6_blockOf : GoodIn wsX6_write wsX6_blockOf := goodIn_r _ [24, 25, 26, 27, 7, 28, 29, 30, 31, 32, 33, 34, 35, 36, 37, 38, 39, 40, 41, 42, 43, 44, 45, 46, 47, 48, 49, 50, 51, 52, 53, 54, 55] (by decide +kernel) (by decide +kernel)
set_option maxRecDepth 20000 in
theorem gX6_write_X6_blockOf : GoodIn wsX6_write (wsV RX6 122 RX6 yX6_blockOf wsX6_blockOf) := goodIn_app (goodIn_of _ (by decide +kernel)) ggX6_write_X6_blockOf
set_option maxRecDepth 20000 in
theorem ggX6_write_X6_bitOf : GoodIn wsX6_write wsX6_bitOf := goodIn_r _ [28, 29, 30, 31, 32, 33, 34, 7, 35, 36, 37, 38, 39, 40, 41, 42, 43, 44, 45, 46, 47, 48, 49, 50, 51, 52, 53, 54, 55] (by decide +kernel) (by decide +kernel)
set_option maxRecDepth 20000 in
theorem gX6_write_X6_bitOf : GoodIn wsX6_write (wsV RX6 115 RX6 yX6_bitOf wsX6_bitOf) := goodIn_app (goodIn_of _ (by decide +kernel)) ggX6_write_X6_bitOf
theorem dX6_write_0 : decode cX6_write 0 = .ok (.aload_n 0, 1) := by decide +kernel
theorem dX6_write_1 : decode cX6_write 1 = .ok (.iload_n 1, 1) := by decide +kernel
theorem dX6_write_2 : decode cX6_write 2 = .ok (.invokevirtual 77, 3) := by decide +kernel
theorem dX6_write_5 : decode cX6_write 5 = .ok (.ifCond .eq 10, 3) := by decide +kernel
theorem dX6_write_8 : decode cX6_write 8 = .ok (.iload_n 2, 1) := by decide +kernel
theorem dX6_write_9 : decode cX6_write 9 = .ok (.invokestatic 103, 3) := by decide +kernel
theorem dX6_write_12 : decode cX6_write 12 = .ok (.ifCond .ne 6, 3) := by decide +kernel
theorem dX6_write_15 : decode cX6_write 15 = .ok (.bipush (-2), 2) := by decide +kernel
theorem dX6_write_17 : decode cX6_write 17 = .ok (.ireturn, 1) := by decide +kernel
theorem dX6_write_18 : decode cX6_write 18 = .ok (.aload_n 0, 1) := by decide +kernel
theorem dX6_write_19 : decode cX6_write 19 = .ok (.getfield 42, 3) := by decide +kernel
theorem dX6_write_22 : decode cX6_write 22 = .ok (.iload_n 2, 1) := by decide +kernel
theorem dX6_write_23 : decode cX6_write 23 = .ok (.iaload, 1) := by decide +kernel
theorem dX6_write_24 : decode cX6_write 24 = .ok (.iconst (-1), 1) := by decide +kernel
theorem dX6_write_25 : decode cX6_write 25 = .ok (.if_icmp .ne 9, 3) := by decide +kernel
theorem dX6_write_28 : decode cX6_write 28 = .ok (.aload_n 0, 1) := by decide +kernel
theorem dX6_write_29 : decode cX6_write 29 = .ok (.iconst 1, 1) := by decide +kernel
theorem dX6_write_30 : decode cX6_write 30 = .ok (.invokevirtual 106, 3) := by decide +kernel
theorem dX6_write_33 : decode cX6_write 33 = .ok (.ireturn, 1) := by decide +kernel
theorem dX6_write_34 : decode cX6_write 34 = .ok (.aload_n 0, 1) := by decide +kernel
theorem dX6_write_35 : decode cX6_write 35 = .ok (.getfield 42, 3) := by decide +kernel
theorem dX6_write_38 : decode cX6_write 38 = .ok (.iload_n 2, 1) := by decide +kernel
theorem dX6_write_39 : decode cX6_write 39 = .ok (.iaload, 1) := by decide +kernel
theorem dX6_write_40 : decode cX6_write 40 = .ok (.iconst 1, 1) := by decide +kernel
theorem dX6_write_41 : decode cX6_write 41 = .ok (.if_icmp .ne 17, 3) := by decide +kernel
theorem dX6_write_44 : decode cX6_write 44 = .ok (.aload_n 0, 1) := by decide +kernel
theorem dX6_write_45 : decode cX6_write 45 = .ok (.getfield 45, 3) := by decide +kernel
theorem dX6_write_48 : decode cX6_write 48 = .ok (.iload_n 2, 1) := by decide +kernel
theorem dX6_write_49 : decode cX6_write 49 = .ok (.iaload, 1) := by decide +kernel
theorem dX6_write_50 : decode cX6_write 50 = .ok (.iconst 1, 1) := by decide +kernel
theorem dX6_write_51 : decode cX6_write 51 = .ok (.if_icmp .le 7, 3) := by decide +kernel
theorem dX6_write_54 : decode cX6_write 54 = .ok (.iconst 1, 1) := by decide +kernel
theorem dX6_write_55 : decode cX6_write 55 = .ok (.goto 9, 3) := by decide +kernel
theorem dX6_write_58 : decode cX6_write 58 = .ok (.aload_n 0, 1) := by decide +kernel
theorem dX6_write_59 : decode cX6_write 59 = .ok (.getfield 45, 3) := by decide +kernel
theorem dX6_write_62 : decode cX6_write 62 = .ok (.iload_n 2, 1) := by decide +kernel
theorem dX6_write_63 : decode cX6_write 63 = .ok (.iaload, 1) := by decide +kernel
theorem dX6_write_64 : decode cX6_write 64 = .ok (.istore_n 3, 1) := by decide +kernel
theorem dX6_write_65 : decode cX6_write 65 = .ok (.iconst 0, 1) := by decide +kernel
theorem dX6_write_66 : decode cX6_write 66 = .ok (.istore 4, 2) := by decide +kernel
theorem dX6_write_68 : decode cX6_write 68 = .ok (.iload 4, 2) := by decide +kernel
theorem dX6_write_70 : decode cX6_write 70 = .ok (.iload_n 3, 1) := by decide +kernel
theorem dX6_write_71 : decode cX6_write 71 = .ok (.if_icmp .ge 52, 3) := by decide +kernel
theorem dX6_write_74 : decode cX6_write 74 = .ok (.aload_n 0, 1) := by decide +kernel
theorem dX6_write_75 : decode cX6_write 75 = .ok (.getfield 48, 3) := by decide +kernel
theorem dX6_write_78 : decode cX6_write 78 = .ok (.bipush 64, 2) := by decide +kernel
theorem dX6_write_80 : decode cX6_write 80 = .ok (.iload_n 2, 1) := by decide +kernel
theorem dX6_write_81 : decode cX6_write 81 = .ok (.imul, 1) := by decide +kernel
theorem dX6_write_82 : decode cX6_write 82 = .ok (.iload 4, 2) := by decide +kernel
theorem dX6_write_84 : decode cX6_write 84 = .ok (.iadd, 1) := by decide +kernel
theorem dX6_write_85 : decode cX6_write 85 = .ok (.aload_n 0, 1) := by decide +kernel
theorem dX6_write_86 : decode cX6_write 86 = .ok (.getfield 42, 3) := by decide +kernel
theorem dX6_write_89 : decode cX6_write 89 = .ok (.iload_n 2, 1) := by decide +kernel
theorem dX6_write_90 : decode cX6_write 90 = .ok (.iaload, 1) := by decide +kernel
theorem dX6_write_91 : decode cX6_write 91 = .ok (.iconst 1, 1) := by decide +kernel
theorem dX6_write_92 : decode cX6_write 92 = .ok (.if_icmp .ne 11, 3) := by decide +kernel
theorem dX6_write_95 : decode cX6_write 95 = .ok (.aload_n 0, 1) := by decide +kernel
theorem dX6_write_96 : decode cX6_write 96 = .ok (.iload_n 1, 1) := by decide +kernel
theorem dX6_write_97 : decode cX6_write 97 = .ok (.invokevirtual 122, 3) := by decide +kernel
theorem dX6_write_100 : decode cX6_write 100 = .ok (.goto 16, 3) := by decide +kernel
theorem dX6_write_103 : decode cX6_write 103 = .ok (.aload_n 0, 1) := by decide +kernel
theorem dX6_write_104 : decode cX6_write 104 = .ok (.bipush 64, 2) := by decide +kernel
theorem dX6_write_106 : decode cX6_write 106 = .ok (.iload_n 1, 1) := by decide +kernel
theorem dX6_write_107 : decode cX6_write 107 = .ok (.imul, 1) := by decide +kernel
theorem dX6_write_108 : decode cX6_write 108 = .ok (.iload 4, 2) := by decide +kernel
theorem dX6_write_110 : decode cX6_write 110 = .ok (.iadd, 1) := by decide +kernel
theorem dX6_write_111 : decode cX6_write 111 = .ok (.iconst 0, 1) := by decide +kernel
theorem dX6_write_112 : decode cX6_write 112 = .ok (.invokevirtual 115, 3) := by decide +kernel
theorem dX6_write_115 : decode cX6_write 115 = .ok (.i2l, 1) := by decide +kernel
theorem dX6_write_116 : decode cX6_write 116 = .ok (.lastore, 1) := by decide +kernel
theorem dX6_write_117 : decode cX6_write 117 = .ok (.iinc 4 1, 3) := by decide +kernel
theorem dX6_write_120 : decode cX6_write 120 = .ok (.goto (-52), 3) := by decide +kernel
theorem dX6_write_123 : decode cX6_write 123 = .ok (.iload_n 3, 1) := by decide +kernel
theorem dX6_write_124 : decode cX6_write 124 = .ok (.ireturn, 1) := by decide +kernel
abbrev rmX6_write : Room := { frames := 3, cells := 0, slots := 0, locals := 69 }
set_option maxRecDepth 100000 in
theorem hinX6_write_6 : ∀ w ∈ wsX60, w ∈ wsX6_write := by decide +kernel
set_option maxHeartbeats 4000000 in
set_option maxRecDepth 100000 in
theorem tX6_write_116 {h : AH} {a1 : Int32} {a2 : Int32} {k68 : AH → Int32 → Int32 → Option (Int32 × AH)} {x3 : Int32} {x4 : Int32} {s1 : Int32} {s2 : Int64} {r0 : Int32} {h0 : AH} (C : Cx p rmX6_write s m args meth c RX6 cX6_write 5 (some .int) wsX6_write D ad cy tb 0 0) (H68 : ∀ (h : AH) (x3 : Int32) (x4 : Int32), k68 h x3 x4 = some (r0, h0) → AW p l e rmX6_write s m args below meth c 5 D ad cy 0 0 (Qi D ad cy below args s r0 h0) 68 [(0, .ref (ad 29)), (1, .int a1), (2, .int a2), (3, .int x3), (4, .int x4)] [] h) (hf : fX6_write_116 k68 a1 a2 h x3 x4 s1 s2 = some (r0, h0)) : AW p l e rmX6_write s m args below meth c 5 D ad cy 0 0 (Qi D ad cy below args s r0 h0) 116 [(0, .ref (ad 29)), (1, .int a1), (2, .int a2), (3, .int x3), (4, .int x4)] [.long s2, .int s1, .ref (ad 41)] h := by
  unfold fX6_write_116 at hf
  refine aw_last C rfl rfl hf dX6_write_116 (fun hf => ?_)
  refine aw_nmH hf (fun h1 hf => ?_)
  obtain ⟨v2, hvv2, hf⟩ := nm_ex hf
  refine aw_iinc (j := 4) (v := v2) (lv1 := [(4, .int v2), (0, .ref (ad 29)), (1, .int a1), (2, .int a2), (3, .int x3)]) C dX6_write_117 rfl hvv2 (by decide) rfl ?_
  refine aw_goto (tgt := 68) C dX6_write_120 (by decide) ?_
  refine aw_sub [1, 2, 3, 4, 0] rfl ?_
  exact H68 h1 x3 v2 hf
set_option maxHeartbeats 4000000 in
set_option maxRecDepth 100000 in
theorem tX6_write_68b {h : AH} {a1 : Int32} {a2 : Int32} {k68 : AH → Int32 → Int32 → Option (Int32 × AH)} {x3 : Int32} {x4 : Int32} {r0 : Int32} {h0 : AH} (C : Cx p rmX6_write s m args meth c RX6 cX6_write 5 (some .int) wsX6_write D ad cy tb 0 0) (H68 : ∀ (h : AH) (x3 : Int32) (x4 : Int32), k68 h x3 x4 = some (r0, h0) → AW p l e rmX6_write s m args below meth c 5 D ad cy 0 0 (Qi D ad cy below args s r0 h0) 68 [(0, .ref (ad 29)), (1, .int a1), (2, .int a2), (3, .int x3), (4, .int x4)] [] h) (hf : fX6_write_68b k68 a1 a2 h x3 x4 = some (r0, h0)) : AW p l e rmX6_write s m args below meth c 5 D ad cy 0 0 (Qi D ad cy below args s r0 h0) 68 [(0, .ref (ad 29)), (1, .int a1), (2, .int a2), (3, .int x3), (4, .int x4)] [] h := by
  unfold fX6_write_68b at hf
  refine aw_iload C dX6_write_68 4 rfl ?_
  refine aw_iload_n C dX6_write_70 rfl 3 rfl ?_
  refine aw_icmp_ge (tgt := 123) C dX6_write_71 (by decide) hf (fun hf => ?_) (fun hf => ?_)
  · refine aw_iload_n C dX6_write_123 rfl 3 rfl ?_
    exact aw_iretW C dX6_write_124 hf
  refine aw_aload_n C dX6_write_74 rfl 0 rfl ?_
  refine aw_get C (kd_lt rfl (by decide)) (ce_6 rfl) rfl hinX6_write_6 15 (by decide) rfl (by decide +kernel) rfl dX6_write_75 ?_
  refine aw_bipush (v := 64) C dX6_write_78 (by decide) ?_
  refine aw_iload_n C dX6_write_80 rfl 2 rfl ?_
  refine aw_imul C dX6_write_81 ?_
  refine aw_iload C dX6_write_82 4 rfl ?_
  refine aw_iadd C dX6_write_84 ?_
  refine aw_aload_n C dX6_write_85 rfl 0 rfl ?_
  refine aw_get C (kd_lt rfl (by decide)) (ce_6 rfl) rfl hinX6_write_6 13 (by decide) rfl (by decide +kernel) rfl dX6_write_86 ?_
  refine aw_iload_n C dX6_write_89 rfl 2 rfl ?_
  refine aw_iald C rfl rfl hf dX6_write_90 (fun hf => ?_)
  refine aw_iconst (v := 1) C dX6_write_91 (by decide) ?_
  refine aw_icmp_ne (tgt := 103) C dX6_write_92 (by decide) hf (fun hf => ?_) (fun hf => ?_)
  · refine aw_aload_n C dX6_write_103 rfl 0 rfl ?_
    refine aw_bipush (v := 64) C dX6_write_104 (by decide) ?_
    refine aw_iload_n C dX6_write_106 rfl 1 rfl ?_
    refine aw_imul C dX6_write_107 ?_
    refine aw_iload C dX6_write_108 4 rfl ?_
    refine aw_iadd C dX6_write_110 ?_
    refine aw_iconst (v := 0) C dX6_write_111 (by decide) ?_
    obtain ⟨r1, hc, hf⟩ := bR_some hf
    refine aw_callVi (As := [.int ((64 * a1) + x4), .int 0]) (rest := [.int ((64 * a2) + x4), .ref (ad 41)]) C rfl (by decide) rfl (kX6_bitOf (l := l) (D := D) (ad := ad) (cy := cy) (tb := tb) C.2.2.2.2.2.2.2.2.1 hc) (fun ht _ => cwV 2 ht gX6_write_X6_bitOf rfl rfl rfl (by decide +kernel) ⟨Nat.le_of_ble_eq_true rfl, Nat.le_of_ble_eq_true rfl⟩) rfl rfl (Nat.le_of_ble_eq_true rfl) dX6_write_112 ?_
    refine aw_i2l C dX6_write_115 ?_
    refine aw_sub [0, 1, 2, 3, 4] rfl ?_
    exact tX6_write_116 C  H68 hf
  refine aw_aload_n C dX6_write_95 rfl 0 rfl ?_
  refine aw_iload_n C dX6_write_96 rfl 1 rfl ?_
  obtain ⟨r2, hc, hf⟩ := bR_some hf
  refine aw_callVl (As := [.int a1]) (rest := [.int ((64 * a2) + x4), .ref (ad 41)]) C rfl (by decide) rfl (kX6_blockOf (l := l) (D := D) (ad := ad) (cy := cy) (tb := tb) C.2.2.2.2.2.2.2.2.1 hc) (fun ht _ => cwV 1 ht gX6_write_X6_blockOf rfl rfl rfl (by decide +kernel) ⟨Nat.le_of_ble_eq_true rfl, Nat.le_of_ble_eq_true rfl⟩) rfl rfl (Nat.le_of_ble_eq_true rfl) dX6_write_97 ?_
  refine aw_goto (tgt := 116) C dX6_write_100 (by decide) ?_
  refine aw_sub [0, 1, 2, 3, 4] rfl ?_
  exact tX6_write_116 C  H68 hf
set_option maxHeartbeats 4000000 in
set_option maxRecDepth 100000 in
theorem tX6_write_68  {a1 : Int32} {a2 : Int32} {r0 : Int32} {h0 : AH} (C : Cx p rmX6_write s m args meth c RX6 cX6_write 5 (some .int) wsX6_write D ad cy tb 0 0) : ∀ (n : Nat) (h : AH) (x3 : Int32) (x4 : Int32), fX6_write_68 a1 a2 n h x3 x4 = some (r0, h0) → AW p l e rmX6_write s m args below meth c 5 D ad cy 0 0 (Qi D ad cy below args s r0 h0) 68 [(0, .ref (ad 29)), (1, .int a1), (2, .int a2), (3, .int x3), (4, .int x4)] [] h := by
  intro n
  induction n with
  | zero => intro h x3 x4 hf; cases hf
  | succ n ih => intro h x3 x4 hf; exact tX6_write_68b C  ih  hf
set_option maxHeartbeats 4000000 in
set_option maxRecDepth 100000 in
theorem tX6_write_64 {h : AH} {a1 : Int32} {a2 : Int32} {s0 : Int32} {r0 : Int32} {h0 : AH} (C : Cx p rmX6_write s m args meth c RX6 cX6_write 5 (some .int) wsX6_write D ad cy tb 0 0) (hf : fX6_write_64 a1 a2 h s0 = some (r0, h0)) : AW p l e rmX6_write s m args below meth c 5 D ad cy 0 0 (Qi D ad cy below args s r0 h0) 64 [(0, .ref (ad 29)), (1, .int a1), (2, .int a2)] [.int s0] h := by
  unfold fX6_write_64 at hf
  refine aw_istore_n (lv1 := [(3, .int s0), (0, .ref (ad 29)), (1, .int a1), (2, .int a2)]) C dX6_write_64 rfl (by decide) rfl ?_
  refine aw_iconst (v := 0) C dX6_write_65 (by decide) ?_
  refine aw_istore (lv1 := [(4, .int 0), (3, .int s0), (0, .ref (ad 29)), (1, .int a1), (2, .int a2)]) C dX6_write_66 (by decide) rfl ?_
  refine aw_sub [2, 3, 4, 1, 0] rfl ?_
  exact tX6_write_68 C   FU h s0 0 hf
set_option maxHeartbeats 4000000 in
set_option maxRecDepth 100000 in
theorem tX6_write_58 {h : AH} {a1 : Int32} {a2 : Int32} {r0 : Int32} {h0 : AH} (C : Cx p rmX6_write s m args meth c RX6 cX6_write 5 (some .int) wsX6_write D ad cy tb 0 0) (hf : fX6_write_58 a1 a2 h = some (r0, h0)) : AW p l e rmX6_write s m args below meth c 5 D ad cy 0 0 (Qi D ad cy below args s r0 h0) 58 [(0, .ref (ad 29)), (1, .int a1), (2, .int a2)] [] h := by
  unfold fX6_write_58 at hf
  refine aw_aload_n C dX6_write_58 rfl 0 rfl ?_
  refine aw_get C (kd_lt rfl (by decide)) (ce_6 rfl) rfl hinX6_write_6 14 (by decide) rfl (by decide +kernel) rfl dX6_write_59 ?_
  refine aw_iload_n C dX6_write_62 rfl 2 rfl ?_
  refine aw_iald C rfl rfl hf dX6_write_63 (fun hf => ?_)
  refine aw_sub [0, 1, 2] rfl ?_
  exact tX6_write_64 C   hf
set_option maxHeartbeats 4000000 in
set_option maxRecDepth 100000 in
theorem tX6_write_0 {h : AH} {a1 : Int32} {a2 : Int32} {r0 : Int32} {h0 : AH} (C : Cx p rmX6_write s m args meth c RX6 cX6_write 5 (some .int) wsX6_write D ad cy tb 0 0) (hf : fX6_write h a1 a2 = some (r0, h0)) : AW p l e rmX6_write s m args below meth c 5 D ad cy 0 0 (Qi D ad cy below args s r0 h0) 0 [(0, .ref (ad 29)), (1, .int a1), (2, .int a2)] [] h := by
  unfold fX6_write at hf
  refine aw_aload_n C dX6_write_0 rfl 0 rfl ?_
  refine aw_iload_n C dX6_write_1 rfl 1 rfl ?_
  obtain ⟨r1, hc, hf⟩ := bR_some hf
  refine aw_callVi (As := [.int a1]) (rest := []) C rfl (by decide) rfl (kX6_isBlock (l := l) (D := D) (ad := ad) (cy := cy) (tb := tb) C.2.2.2.2.2.2.2.2.1 hc) (fun ht _ => cwV 1 ht gX6_write_X6_isBlock rfl rfl rfl (by decide +kernel) ⟨Nat.le_of_ble_eq_true rfl, Nat.le_of_ble_eq_true rfl⟩) rfl rfl (Nat.le_of_ble_eq_true rfl) dX6_write_2 ?_
  refine aw_if_eq (tgt := 15) C dX6_write_5 (by decide) hf (fun hf => ?_) (fun hf => ?_)
  · refine aw_bipush (v := (-2)) C dX6_write_15 (by decide) ?_
    exact aw_iretW C dX6_write_17 hf
  refine aw_iload_n C dX6_write_8 rfl 2 rfl ?_
  obtain ⟨r2, hc, hf⟩ := bR_some hf
  refine aw_callSi (As := [.int a2]) (rest := []) C (kX6_isSheet (l := l) (D := D) (ad := ad) (cy := cy) (tb := tb) C.2.2.2.2.2.2.2.2.1 hc) (fun ht _ => va_cwS 1 ht gX6_write_X6_isSheet rfl rfl rfl (by decide +kernel) ⟨Nat.le_of_ble_eq_true rfl, Nat.le_of_ble_eq_true rfl⟩) rfl rfl (Nat.le_of_ble_eq_true rfl) dX6_write_9 ?_
  refine aw_if_ne (tgt := 18) C dX6_write_12 (by decide) hf (fun hf => ?_) (fun hf => ?_)
  · refine aw_aload_n C dX6_write_18 rfl 0 rfl ?_
    refine aw_get C (kd_lt rfl (by decide)) (ce_6 rfl) rfl hinX6_write_6 13 (by decide) rfl (by decide +kernel) rfl dX6_write_19 ?_
    refine aw_iload_n C dX6_write_22 rfl 2 rfl ?_
    refine aw_iald C rfl rfl hf dX6_write_23 (fun hf => ?_)
    refine aw_iconst (v := (-1)) C dX6_write_24 (by decide) ?_
    refine aw_icmp_ne (tgt := 34) C dX6_write_25 (by decide) hf (fun hf => ?_) (fun hf => ?_)
    · refine aw_aload_n C dX6_write_34 rfl 0 rfl ?_
      refine aw_get C (kd_lt rfl (by decide)) (ce_6 rfl) rfl hinX6_write_6 13 (by decide) rfl (by decide +kernel) rfl dX6_write_35 ?_
      refine aw_iload_n C dX6_write_38 rfl 2 rfl ?_
      refine aw_iald C rfl rfl hf dX6_write_39 (fun hf => ?_)
      refine aw_iconst (v := 1) C dX6_write_40 (by decide) ?_
      refine aw_icmp_ne (tgt := 58) C dX6_write_41 (by decide) hf (fun hf => ?_) (fun hf => ?_)
      · refine aw_sub [0, 1, 2] rfl ?_
        exact tX6_write_58 C   hf
      refine aw_aload_n C dX6_write_44 rfl 0 rfl ?_
      refine aw_get C (kd_lt rfl (by decide)) (ce_6 rfl) rfl hinX6_write_6 14 (by decide) rfl (by decide +kernel) rfl dX6_write_45 ?_
      refine aw_iload_n C dX6_write_48 rfl 2 rfl ?_
      refine aw_iald C rfl rfl hf dX6_write_49 (fun hf => ?_)
      refine aw_iconst (v := 1) C dX6_write_50 (by decide) ?_
      refine aw_icmp_le (tgt := 58) C dX6_write_51 (by decide) hf (fun hf => ?_) (fun hf => ?_)
      · refine aw_sub [0, 1, 2] rfl ?_
        exact tX6_write_58 C   hf
      refine aw_iconst (v := 1) C dX6_write_54 (by decide) ?_
      refine aw_goto (tgt := 64) C dX6_write_55 (by decide) ?_
      refine aw_sub [0, 1, 2] rfl ?_
      exact tX6_write_64 C   hf
    refine aw_aload_n C dX6_write_28 rfl 0 rfl ?_
    refine aw_iconst (v := 1) C dX6_write_29 (by decide) ?_
    obtain ⟨r4, h3, hc, hf⟩ := bW_some hf
    refine aw_callVi (As := [.int 1]) (rest := []) C rfl (by decide) rfl (kX6_meets (l := l) (D := D) (ad := ad) (cy := cy) (tb := tb) C.2.2.2.2.2.2.2.2.1 hc) (fun ht _ => cwV 1 ht gX6_write_X6_meets rfl rfl rfl (by decide +kernel) ⟨Nat.le_of_ble_eq_true rfl, Nat.le_of_ble_eq_true rfl⟩) rfl rfl (Nat.le_of_ble_eq_true rfl) dX6_write_30 ?_
    exact aw_iretW C dX6_write_33 hf
  refine aw_bipush (v := (-2)) C dX6_write_15 (by decide) ?_
  exact aw_iretW C dX6_write_17 hf
theorem kX6_write {h : AH} {a1 : Int32} {a2 : Int32} {r0 : Int32} {h0 : AH} (hi : Inj ad) (hf : fX6_write h a1 a2 = some (r0, h0)) : Ki l yX6_write wsX6_write rmX6_write D ad cy tb [.ref (ad 29), .int a1, .int a2] h r0 h0 := met_i (lv := [(0, .ref (ad 29)), (1, .int a1), (2, .int a2)]) hi (by decide) rfl (Nat.le_of_ble_eq_true rfl) rfl rfl (fun _ _ _ _ _ _ _ _ C => tX6_write_0 C  hf)
set_option maxRecDepth 20000 in
theorem ggX4_stalledWords_X4_endOfWords : GoodIn wsX4_stalledWords wsX4_endOfWords := goodIn_r _ [5, 6, 20, 21, 22] (by decide +kernel) (by decide +kernel)
set_option maxRecDepth 20000 in
theorem gX4_stalledWords_X4_endOfWords : GoodIn wsX4_stalledWords (wsV RX4 72 RX4 yX4_endOfWords wsX4_endOfWords) := goodIn_app (goodIn_of _ (by decide +kernel)) ggX4_stalledWords_X4_endOfWords
set_option maxRecDepth 20000 in
theorem ggX4_stalledWords_X4_isStalled : GoodIn wsX4_stalledWords wsX4_isStalled := goodIn_r _ [10, 11, 12, 13, 4, 14, 15, 16, 17, 18, 19, 20, 21, 22] (by decide +kernel) (by decide +kernel)
set_option maxRecDepth 20000 in
theorem gX4_stalledWords_X4_isStalled : GoodIn wsX4_stalledWords (wsV RX4 76 RX4 yX4_isStalled wsX4_isStalled) := goodIn_app (goodIn_of _ (by decide +kernel)) ggX4_stalledWords_X4_isStalled
theorem dX4_stalledWords_0 : decode cX4_stalledWords 0 = .ok (.iconst 0, 1) := by decide +kernel
theorem dX4_stalledWords_1 : decode cX4_stalledWords 1 = .ok (.istore_n 1, 1) := by decide +kernel
theorem dX4_stalledWords_2 : decode cX4_stalledWords 2 = .ok (.aload_n 0, 1) := by decide +kernel
theorem dX4_stalledWords_3 : decode cX4_stalledWords 3 = .ok (.invokevirtual 72, 3) := by decide +kernel
theorem dX4_stalledWords_6 : decode cX4_stalledWords 6 = .ok (.istore_n 2, 1) := by decide +kernel
theorem dX4_stalledWords_7 : decode cX4_stalledWords 7 = .ok (.bipush 8, 2) := by decide +kernel
theorem dX4_stalledWords_9 : decode cX4_stalledWords 9 = .ok (.istore_n 3, 1) := by decide +kernel
theorem dX4_stalledWords_10 : decode cX4_stalledWords 10 = .ok (.iload_n 3, 1) := by decide +kernel
theorem dX4_stalledWords_11 : decode cX4_stalledWords 11 = .ok (.iload_n 2, 1) := by decide +kernel
theorem dX4_stalledWords_12 : decode cX4_stalledWords 12 = .ok (.if_icmp .ge 20, 3) := by decide +kernel
theorem dX4_stalledWords_15 : decode cX4_stalledWords 15 = .ok (.aload_n 0, 1) := by decide +kernel
theorem dX4_stalledWords_16 : decode cX4_stalledWords 16 = .ok (.iload_n 3, 1) := by decide +kernel
theorem dX4_stalledWords_17 : decode cX4_stalledWords 17 = .ok (.invokevirtual 76, 3) := by decide +kernel
theorem dX4_stalledWords_20 : decode cX4_stalledWords 20 = .ok (.ifCond .eq 6, 3) := by decide +kernel
theorem dX4_stalledWords_23 : decode cX4_stalledWords 23 = .ok (.iinc 1 1, 3) := by decide +kernel
theorem dX4_stalledWords_26 : decode cX4_stalledWords 26 = .ok (.iinc 3 1, 3) := by decide +kernel
theorem dX4_stalledWords_29 : decode cX4_stalledWords 29 = .ok (.goto (-19), 3) := by decide +kernel
theorem dX4_stalledWords_32 : decode cX4_stalledWords 32 = .ok (.iload_n 1, 1) := by decide +kernel
theorem dX4_stalledWords_33 : decode cX4_stalledWords 33 = .ok (.ireturn, 1) := by decide +kernel
abbrev rmX4_stalledWords : Room := { frames := 2, cells := 0, slots := 0, locals := 42 }
set_option maxHeartbeats 4000000 in
set_option maxRecDepth 100000 in
theorem tX4_stalledWords_26 {h : AH} {a0 : Nat} {k10 : Int32 → Int32 → Int32 → Option Int32} {x1 : Int32} {x2 : Int32} {x3 : Int32} {r0 : Int32} (C : Cx p rmX4_stalledWords s m args meth c RX4 cX4_stalledWords 4 (some .int) wsX4_stalledWords D ad cy tb 0 0) (hk0 : kd a0 = 4) (H10 : ∀ (x1 : Int32) (x2 : Int32) (x3 : Int32), k10 x1 x2 x3 = some r0 → AW p l e rmX4_stalledWords s m args below meth c 4 D ad cy 0 0 (Qi D ad cy below args s r0 h) 10 [(0, .ref (ad a0)), (1, .int x1), (2, .int x2), (3, .int x3)] [] h) (hf : fX4_stalledWords_26 k10 h a0 x1 x2 x3 = some r0) : AW p l e rmX4_stalledWords s m args below meth c 4 D ad cy 0 0 (Qi D ad cy below args s r0 h) 26 [(0, .ref (ad a0)), (1, .int x1), (2, .int x2), (3, .int x3)] [] h := by
  unfold fX4_stalledWords_26 at hf
  obtain ⟨v1, hvv1, hf⟩ := nm_ex hf
  refine aw_iinc (j := 3) (v := v1) (lv1 := [(3, .int v1), (0, .ref (ad a0)), (1, .int x1), (2, .int x2)]) C dX4_stalledWords_26 rfl hvv1 (by decide) rfl ?_
  refine aw_goto (tgt := 10) C dX4_stalledWords_29 (by decide) ?_
  refine aw_sub [1, 2, 3, 0] rfl ?_
  exact H10 x1 x2 v1 hf
set_option maxHeartbeats 4000000 in
set_option maxRecDepth 100000 in
theorem tX4_stalledWords_10b {h : AH} {a0 : Nat} {k10 : Int32 → Int32 → Int32 → Option Int32} {x1 : Int32} {x2 : Int32} {x3 : Int32} {r0 : Int32} (C : Cx p rmX4_stalledWords s m args meth c RX4 cX4_stalledWords 4 (some .int) wsX4_stalledWords D ad cy tb 0 0) (hk0 : kd a0 = 4) (H10 : ∀ (x1 : Int32) (x2 : Int32) (x3 : Int32), k10 x1 x2 x3 = some r0 → AW p l e rmX4_stalledWords s m args below meth c 4 D ad cy 0 0 (Qi D ad cy below args s r0 h) 10 [(0, .ref (ad a0)), (1, .int x1), (2, .int x2), (3, .int x3)] [] h) (hf : fX4_stalledWords_10b k10 h a0 x1 x2 x3 = some r0) : AW p l e rmX4_stalledWords s m args below meth c 4 D ad cy 0 0 (Qi D ad cy below args s r0 h) 10 [(0, .ref (ad a0)), (1, .int x1), (2, .int x2), (3, .int x3)] [] h := by
  unfold fX4_stalledWords_10b at hf
  refine aw_iload_n C dX4_stalledWords_10 rfl 3 rfl ?_
  refine aw_iload_n C dX4_stalledWords_11 rfl 2 rfl ?_
  refine aw_icmp_ge (tgt := 32) C dX4_stalledWords_12 (by decide) hf (fun hf => ?_) (fun hf => ?_)
  · refine aw_iload_n C dX4_stalledWords_32 rfl 1 rfl ?_
    exact aw_iretR C dX4_stalledWords_33 hf
  refine aw_aload_n C dX4_stalledWords_15 rfl 0 rfl ?_
  refine aw_iload_n C dX4_stalledWords_16 rfl 3 rfl ?_
  obtain ⟨r1, hc, hf⟩ := bR_some hf
  refine aw_callVi (As := [.int x3]) (rest := []) C hk0 (by decide) rfl (kX4_isStalled (l := l) (D := D) (ad := ad) (cy := cy) (tb := tb) C.2.2.2.2.2.2.2.2.1 hk0 hc) (fun ht _ => cwV 1 ht gX4_stalledWords_X4_isStalled rfl rfl rfl (by decide +kernel) ⟨Nat.le_of_ble_eq_true rfl, Nat.le_of_ble_eq_true rfl⟩) rfl rfl (Nat.le_of_ble_eq_true rfl) dX4_stalledWords_17 ?_
  refine aw_if_eq (tgt := 26) C dX4_stalledWords_20 (by decide) hf (fun hf => ?_) (fun hf => ?_)
  · refine aw_sub [0, 1, 2, 3] rfl ?_
    exact tX4_stalledWords_26 C hk0 H10 hf
  obtain ⟨v2, hvv2, hf⟩ := nm_ex hf
  refine aw_iinc (j := 1) (v := v2) (lv1 := [(1, .int v2), (0, .ref (ad a0)), (2, .int x2), (3, .int x3)]) C dX4_stalledWords_23 rfl hvv2 (by decide) rfl ?_
  refine aw_sub [1, 0, 2, 3] rfl ?_
  exact tX4_stalledWords_26 C hk0 H10 hf
set_option maxHeartbeats 4000000 in
set_option maxRecDepth 100000 in
theorem tX4_stalledWords_10 {h : AH} {a0 : Nat} {r0 : Int32} (C : Cx p rmX4_stalledWords s m args meth c RX4 cX4_stalledWords 4 (some .int) wsX4_stalledWords D ad cy tb 0 0) (hk0 : kd a0 = 4) : ∀ (n : Nat) (x1 : Int32) (x2 : Int32) (x3 : Int32), fX4_stalledWords_10 h a0 n x1 x2 x3 = some r0 → AW p l e rmX4_stalledWords s m args below meth c 4 D ad cy 0 0 (Qi D ad cy below args s r0 h) 10 [(0, .ref (ad a0)), (1, .int x1), (2, .int x2), (3, .int x3)] [] h := by
  intro n
  induction n with
  | zero => intro x1 x2 x3 hf; cases hf
  | succ n ih => intro x1 x2 x3 hf; exact tX4_stalledWords_10b C hk0 ih  hf
set_option maxHeartbeats 4000000 in
set_option maxRecDepth 100000 in
theorem tX4_stalledWords_0 {h : AH} {a0 : Nat} {r0 : Int32} (C : Cx p rmX4_stalledWords s m args meth c RX4 cX4_stalledWords 4 (some .int) wsX4_stalledWords D ad cy tb 0 0) (hk0 : kd a0 = 4) (hf : fX4_stalledWords h a0 = some r0) : AW p l e rmX4_stalledWords s m args below meth c 4 D ad cy 0 0 (Qi D ad cy below args s r0 h) 0 [(0, .ref (ad a0))] [] h := by
  unfold fX4_stalledWords at hf
  refine aw_iconst (v := 0) C dX4_stalledWords_0 (by decide) ?_
  refine aw_istore_n (lv1 := [(1, .int 0), (0, .ref (ad a0))]) C dX4_stalledWords_1 rfl (by decide) rfl ?_
  refine aw_aload_n C dX4_stalledWords_2 rfl 1 rfl ?_
  obtain ⟨r1, hc, hf⟩ := bR_some hf
  refine aw_callVi (As := []) (rest := []) C hk0 (by decide) rfl (kX4_endOfWords (l := l) (D := D) (ad := ad) (cy := cy) (tb := tb) C.2.2.2.2.2.2.2.2.1 hk0 hc) (fun ht _ => cwV 0 ht gX4_stalledWords_X4_endOfWords rfl rfl rfl (by decide +kernel) ⟨Nat.le_of_ble_eq_true rfl, Nat.le_of_ble_eq_true rfl⟩) rfl rfl (Nat.le_of_ble_eq_true rfl) dX4_stalledWords_3 ?_
  refine aw_istore_n (lv1 := [(2, .int r1), (1, .int 0), (0, .ref (ad a0))]) C dX4_stalledWords_6 rfl (by decide) rfl ?_
  refine aw_bipush (v := 8) C dX4_stalledWords_7 (by decide) ?_
  refine aw_istore_n (lv1 := [(3, .int 8), (2, .int r1), (1, .int 0), (0, .ref (ad a0))]) C dX4_stalledWords_9 rfl (by decide) rfl ?_
  refine aw_sub [3, 2, 1, 0] rfl ?_
  exact tX4_stalledWords_10 C hk0  FU 0 r1 8 hf
theorem kX4_stalledWords {h : AH} {a0 : Nat} {r0 : Int32} (hi : Inj ad) (hk0 : kd a0 = 4) (hf : fX4_stalledWords h a0 = some r0) : Ki l yX4_stalledWords wsX4_stalledWords rmX4_stalledWords D ad cy tb [.ref (ad a0)] h r0 h := met_i (lv := [(0, .ref (ad a0))]) hi (by decide) rfl (Nat.le_of_ble_eq_true rfl) rfl rfl (fun _ _ _ _ _ _ _ _ C => tX4_stalledWords_0 C hk0 hf)
set_option maxRecDepth 20000 in
theorem ggX5_falseBits_J13_bitCount_95d88 : GoodIn wsX5_falseBits wsJ13_bitCount_95d88 := goodIn_r _ [7, 8, 9, 10] (by decide +kernel) (by decide +kernel)
set_option maxRecDepth 20000 in
theorem gX5_falseBits_J13_bitCount_95d88 : GoodIn wsX5_falseBits (va_wsS RX5 304 yJ13_bitCount_95d88 wsJ13_bitCount_95d88) := goodIn_app (goodIn_of _ (by decide +kernel)) ggX5_falseBits_J13_bitCount_95d88
theorem dX5_falseBits_0 : decode cX5_falseBits 0 = .ok (.iconst 0, 1) := by decide +kernel
theorem dX5_falseBits_1 : decode cX5_falseBits 1 = .ok (.istore_n 1, 1) := by decide +kernel
theorem dX5_falseBits_2 : decode cX5_falseBits 2 = .ok (.iconst 1, 1) := by decide +kernel
theorem dX5_falseBits_3 : decode cX5_falseBits 3 = .ok (.istore_n 2, 1) := by decide +kernel
theorem dX5_falseBits_4 : decode cX5_falseBits 4 = .ok (.iload_n 2, 1) := by decide +kernel
theorem dX5_falseBits_5 : decode cX5_falseBits 5 = .ok (.aload_n 0, 1) := by decide +kernel
theorem dX5_falseBits_6 : decode cX5_falseBits 6 = .ok (.getfield 12, 3) := by decide +kernel
theorem dX5_falseBits_9 : decode cX5_falseBits 9 = .ok (.getfield 58, 3) := by decide +kernel
theorem dX5_falseBits_12 : decode cX5_falseBits 12 = .ok (.if_icmp .gt 35, 3) := by decide +kernel
theorem dX5_falseBits_15 : decode cX5_falseBits 15 = .ok (.iload_n 1, 1) := by decide +kernel
theorem dX5_falseBits_16 : decode cX5_falseBits 16 = .ok (.aload_n 0, 1) := by decide +kernel
theorem dX5_falseBits_17 : decode cX5_falseBits 17 = .ok (.getfield 12, 3) := by decide +kernel
theorem dX5_falseBits_20 : decode cX5_falseBits 20 = .ok (.getfield 140, 3) := by decide +kernel
theorem dX5_falseBits_23 : decode cX5_falseBits 23 = .ok (.iload_n 2, 1) := by decide +kernel
theorem dX5_falseBits_24 : decode cX5_falseBits 24 = .ok (.laload, 1) := by decide +kernel
theorem dX5_falseBits_25 : decode cX5_falseBits 25 = .ok (.aload_n 0, 1) := by decide +kernel
theorem dX5_falseBits_26 : decode cX5_falseBits 26 = .ok (.getfield 26, 3) := by decide +kernel
theorem dX5_falseBits_29 : decode cX5_falseBits 29 = .ok (.iload_n 2, 1) := by decide +kernel
theorem dX5_falseBits_30 : decode cX5_falseBits 30 = .ok (.laload, 1) := by decide +kernel
theorem dX5_falseBits_31 : decode cX5_falseBits 31 = .ok (.ldc2_w 302, 3) := by decide +kernel
theorem dX5_falseBits_34 : decode cX5_falseBits 34 = .ok (.lxor, 1) := by decide +kernel
theorem dX5_falseBits_35 : decode cX5_falseBits 35 = .ok (.land, 1) := by decide +kernel
theorem dX5_falseBits_36 : decode cX5_falseBits 36 = .ok (.invokestatic 304, 3) := by decide +kernel
theorem dX5_falseBits_39 : decode cX5_falseBits 39 = .ok (.iadd, 1) := by decide +kernel
theorem dX5_falseBits_40 : decode cX5_falseBits 40 = .ok (.istore_n 1, 1) := by decide +kernel
theorem dX5_falseBits_41 : decode cX5_falseBits 41 = .ok (.iinc 2 1, 3) := by decide +kernel
theorem dX5_falseBits_44 : decode cX5_falseBits 44 = .ok (.goto (-40), 3) := by decide +kernel
theorem dX5_falseBits_47 : decode cX5_falseBits 47 = .ok (.iload_n 1, 1) := by decide +kernel
theorem dX5_falseBits_48 : decode cX5_falseBits 48 = .ok (.ireturn, 1) := by decide +kernel
abbrev rmX5_falseBits : Room := { frames := 1, cells := 0, slots := 0, locals := 21 }
set_option maxRecDepth 100000 in
theorem hinX5_falseBits_5 : ∀ w ∈ wsX50, w ∈ wsX5_falseBits := by decide +kernel
set_option maxRecDepth 100000 in
theorem hinX5_falseBits_4 : ∀ w ∈ wsX40, w ∈ wsX5_falseBits := by decide +kernel
set_option maxHeartbeats 4000000 in
set_option maxRecDepth 100000 in
theorem tX5_falseBits_4b {h : AH} {k4 : Int32 → Int32 → Option Int32} {x1 : Int32} {x2 : Int32} {r0 : Int32} (C : Cx p rmX5_falseBits s m args meth c RX5 cX5_falseBits 3 (some .int) wsX5_falseBits D ad cy tb 0 0) (H4 : ∀ (x1 : Int32) (x2 : Int32), k4 x1 x2 = some r0 → AW p l e rmX5_falseBits s m args below meth c 3 D ad cy 0 0 (Qi D ad cy below args s r0 h) 4 [(0, .ref (ad 0)), (1, .int x1), (2, .int x2)] [] h) (hf : fX5_falseBits_4b k4 h x1 x2 = some r0) : AW p l e rmX5_falseBits s m args below meth c 3 D ad cy 0 0 (Qi D ad cy below args s r0 h) 4 [(0, .ref (ad 0)), (1, .int x1), (2, .int x2)] [] h := by
  unfold fX5_falseBits_4b at hf
  refine aw_iload_n C dX5_falseBits_4 rfl 2 rfl ?_
  refine aw_aload_n C dX5_falseBits_5 rfl 0 rfl ?_
  refine aw_get C (kd_lt rfl (by decide)) (ce_5 rfl) rfl hinX5_falseBits_5 0 (by decide) rfl (by decide +kernel) rfl dX5_falseBits_6 ?_
  refine aw_getN (host := "StairCodes") C (kd_lt rfl (by decide)) (ce_4 rfl) rfl hinX5_falseBits_4 0 (by decide) rfl (by decide +kernel) rfl dX5_falseBits_9 ?_
  refine aw_icmp_gt (tgt := 47) C dX5_falseBits_12 (by decide) hf (fun hf => ?_) (fun hf => ?_)
  · refine aw_iload_n C dX5_falseBits_47 rfl 1 rfl ?_
    exact aw_iretR C dX5_falseBits_48 hf
  refine aw_iload_n C dX5_falseBits_15 rfl 1 rfl ?_
  refine aw_aload_n C dX5_falseBits_16 rfl 0 rfl ?_
  refine aw_get C (kd_lt rfl (by decide)) (ce_5 rfl) rfl hinX5_falseBits_5 0 (by decide) rfl (by decide +kernel) rfl dX5_falseBits_17 ?_
  refine aw_getN (host := "StairCodes") C (kd_lt rfl (by decide)) (ce_4 rfl) rfl hinX5_falseBits_4 1 (by decide) rfl (by decide +kernel) rfl dX5_falseBits_20 ?_
  refine aw_iload_n C dX5_falseBits_23 rfl 2 rfl ?_
  refine aw_lald C rfl rfl hf dX5_falseBits_24 (fun hf => ?_)
  refine aw_aload_n C dX5_falseBits_25 rfl 0 rfl ?_
  refine aw_get C (kd_lt rfl (by decide)) (ce_5 rfl) rfl hinX5_falseBits_5 3 (by decide) rfl (by decide +kernel) rfl dX5_falseBits_26 ?_
  refine aw_iload_n C dX5_falseBits_29 rfl 2 rfl ?_
  refine aw_lald C rfl rfl hf dX5_falseBits_30 (fun hf => ?_)
  refine aw_ldc2 (v := (-1)) C (by decide +kernel) dX5_falseBits_31 ?_
  refine aw_lxor C dX5_falseBits_34 ?_
  refine aw_land C dX5_falseBits_35 ?_
  obtain ⟨r1, hc, hf⟩ := bR_some hf
  refine aw_callSi (As := [.long ((h.2 2 x2.toNatClampNeg) &&& ((h.2 10 x2.toNatClampNeg) ^^^ (-1)))]) (rest := [.int x1]) C (kJ13_bitCount_95d88 (l := l) (D := D) (ad := ad) (cy := cy) (tb := tb) C.2.2.2.2.2.2.2.2.1 hc) (fun ht _ => va_cwS 1 ht gX5_falseBits_J13_bitCount_95d88 rfl rfl rfl (by decide +kernel) ⟨Nat.le_of_ble_eq_true rfl, Nat.le_of_ble_eq_true rfl⟩) rfl rfl (Nat.le_of_ble_eq_true rfl) dX5_falseBits_36 ?_
  refine aw_iadd C dX5_falseBits_39 ?_
  refine aw_nmI hf (fun v2 hf => ?_)
  refine aw_istore_n (lv1 := [(1, .int v2), (0, .ref (ad 0)), (2, .int x2)]) C dX5_falseBits_40 rfl (by decide) rfl ?_
  obtain ⟨v3, hvv3, hf⟩ := nm_ex hf
  refine aw_iinc (j := 2) (v := v3) (lv1 := [(2, .int v3), (1, .int v2), (0, .ref (ad 0))]) C dX5_falseBits_41 rfl hvv3 (by decide) rfl ?_
  refine aw_goto (tgt := 4) C dX5_falseBits_44 (by decide) ?_
  refine aw_sub [2, 1, 0] rfl ?_
  exact H4 v2 v3 hf
set_option maxHeartbeats 4000000 in
set_option maxRecDepth 100000 in
theorem tX5_falseBits_4 {h : AH} {r0 : Int32} (C : Cx p rmX5_falseBits s m args meth c RX5 cX5_falseBits 3 (some .int) wsX5_falseBits D ad cy tb 0 0) : ∀ (n : Nat) (x1 : Int32) (x2 : Int32), fX5_falseBits_4 h n x1 x2 = some r0 → AW p l e rmX5_falseBits s m args below meth c 3 D ad cy 0 0 (Qi D ad cy below args s r0 h) 4 [(0, .ref (ad 0)), (1, .int x1), (2, .int x2)] [] h := by
  intro n
  induction n with
  | zero => intro x1 x2 hf; cases hf
  | succ n ih => intro x1 x2 hf; exact tX5_falseBits_4b C  ih  hf
set_option maxHeartbeats 4000000 in
set_option maxRecDepth 100000 in
theorem tX5_falseBits_0 {h : AH} {r0 : Int32} (C : Cx p rmX5_falseBits s m args meth c RX5 cX5_falseBits 3 (some .int) wsX5_falseBits D ad cy tb 0 0) (hf : fX5_falseBits h = some r0) : AW p l e rmX5_falseBits s m args below meth c 3 D ad cy 0 0 (Qi D ad cy below args s r0 h) 0 [(0, .ref (ad 0))] [] h := by
  unfold fX5_falseBits at hf
  refine aw_iconst (v := 0) C dX5_falseBits_0 (by decide) ?_
  refine aw_istore_n (lv1 := [(1, .int 0), (0, .ref (ad 0))]) C dX5_falseBits_1 rfl (by decide) rfl ?_
  refine aw_iconst (v := 1) C dX5_falseBits_2 (by decide) ?_
  refine aw_istore_n (lv1 := [(2, .int 1), (1, .int 0), (0, .ref (ad 0))]) C dX5_falseBits_3 rfl (by decide) rfl ?_
  refine aw_sub [2, 1, 0] rfl ?_
  exact tX5_falseBits_4 C   FU 0 1 hf
theorem kX5_falseBits {h : AH} {r0 : Int32} (hi : Inj ad) (hf : fX5_falseBits h = some r0) : Ki l yX5_falseBits wsX5_falseBits rmX5_falseBits D ad cy tb [.ref (ad 0)] h r0 h := met_i (lv := [(0, .ref (ad 0))]) hi (by decide) rfl (Nat.le_of_ble_eq_true rfl) rfl rfl (fun _ _ _ _ _ _ _ _ C => tX5_falseBits_0 C  hf)
theorem dX1_stuckOnes_0 : decode cX1_stuckOnes 0 = .ok (.iconst 0, 1) := by decide +kernel
theorem dX1_stuckOnes_1 : decode cX1_stuckOnes 1 = .ok (.istore_n 1, 1) := by decide +kernel
theorem dX1_stuckOnes_2 : decode cX1_stuckOnes 2 = .ok (.iconst 0, 1) := by decide +kernel
theorem dX1_stuckOnes_3 : decode cX1_stuckOnes 3 = .ok (.istore_n 2, 1) := by decide +kernel
theorem dX1_stuckOnes_4 : decode cX1_stuckOnes 4 = .ok (.iload_n 2, 1) := by decide +kernel
theorem dX1_stuckOnes_5 : decode cX1_stuckOnes 5 = .ok (.aload_n 0, 1) := by decide +kernel
theorem dX1_stuckOnes_6 : decode cX1_stuckOnes 6 = .ok (.getfield 31, 3) := by decide +kernel
theorem dX1_stuckOnes_9 : decode cX1_stuckOnes 9 = .ok (.if_icmp .ge 18, 3) := by decide +kernel
theorem dX1_stuckOnes_12 : decode cX1_stuckOnes 12 = .ok (.iload_n 1, 1) := by decide +kernel
theorem dX1_stuckOnes_13 : decode cX1_stuckOnes 13 = .ok (.aload_n 0, 1) := by decide +kernel
theorem dX1_stuckOnes_14 : decode cX1_stuckOnes 14 = .ok (.getfield 18, 3) := by decide +kernel
theorem dX1_stuckOnes_17 : decode cX1_stuckOnes 17 = .ok (.iload_n 2, 1) := by decide +kernel
theorem dX1_stuckOnes_18 : decode cX1_stuckOnes 18 = .ok (.iaload, 1) := by decide +kernel
theorem dX1_stuckOnes_19 : decode cX1_stuckOnes 19 = .ok (.iadd, 1) := by decide +kernel
theorem dX1_stuckOnes_20 : decode cX1_stuckOnes 20 = .ok (.istore_n 1, 1) := by decide +kernel
theorem dX1_stuckOnes_21 : decode cX1_stuckOnes 21 = .ok (.iinc 2 1, 3) := by decide +kernel
theorem dX1_stuckOnes_24 : decode cX1_stuckOnes 24 = .ok (.goto (-20), 3) := by decide +kernel
theorem dX1_stuckOnes_27 : decode cX1_stuckOnes 27 = .ok (.iload_n 1, 1) := by decide +kernel
theorem dX1_stuckOnes_28 : decode cX1_stuckOnes 28 = .ok (.ireturn, 1) := by decide +kernel
abbrev rmX1_stuckOnes : Room := { frames := 0, cells := 0, slots := 0, locals := 0 }
set_option maxRecDepth 100000 in
theorem hinX1_stuckOnes_1 : ∀ w ∈ wsX10, w ∈ wsX1_stuckOnes := by decide +kernel
set_option maxHeartbeats 4000000 in
set_option maxRecDepth 100000 in
theorem tX1_stuckOnes_4b {h : AH} {k4 : Int32 → Int32 → Option Int32} {x1 : Int32} {x2 : Int32} {r0 : Int32} (C : Cx p rmX1_stuckOnes s m args meth c RX1 cX1_stuckOnes 3 (some .int) wsX1_stuckOnes D ad cy tb 0 0) (H4 : ∀ (x1 : Int32) (x2 : Int32), k4 x1 x2 = some r0 → AW p l e rmX1_stuckOnes s m args below meth c 3 D ad cy 0 0 (Qi D ad cy below args s r0 h) 4 [(0, .ref (ad 13)), (1, .int x1), (2, .int x2)] [] h) (hf : fX1_stuckOnes_4b k4 h x1 x2 = some r0) : AW p l e rmX1_stuckOnes s m args below meth c 3 D ad cy 0 0 (Qi D ad cy below args s r0 h) 4 [(0, .ref (ad 13)), (1, .int x1), (2, .int x2)] [] h := by
  unfold fX1_stuckOnes_4b at hf
  refine aw_iload_n C dX1_stuckOnes_4 rfl 2 rfl ?_
  refine aw_aload_n C dX1_stuckOnes_5 rfl 0 rfl ?_
  refine aw_get C (kd_lt rfl (by decide)) (ce_1 rfl) rfl hinX1_stuckOnes_1 0 (by decide) rfl (by decide +kernel) rfl dX1_stuckOnes_6 ?_
  refine aw_icmp_ge (tgt := 27) C dX1_stuckOnes_9 (by decide) hf (fun hf => ?_) (fun hf => ?_)
  · refine aw_iload_n C dX1_stuckOnes_27 rfl 1 rfl ?_
    exact aw_iretR C dX1_stuckOnes_28 hf
  refine aw_iload_n C dX1_stuckOnes_12 rfl 1 rfl ?_
  refine aw_aload_n C dX1_stuckOnes_13 rfl 0 rfl ?_
  refine aw_get C (kd_lt rfl (by decide)) (ce_1 rfl) rfl hinX1_stuckOnes_1 3 (by decide) rfl (by decide +kernel) rfl dX1_stuckOnes_14 ?_
  refine aw_iload_n C dX1_stuckOnes_17 rfl 2 rfl ?_
  refine aw_iald C rfl rfl hf dX1_stuckOnes_18 (fun hf => ?_)
  refine aw_iadd C dX1_stuckOnes_19 ?_
  refine aw_nmI hf (fun v1 hf => ?_)
  refine aw_istore_n (lv1 := [(1, .int v1), (0, .ref (ad 13)), (2, .int x2)]) C dX1_stuckOnes_20 rfl (by decide) rfl ?_
  obtain ⟨v2, hvv2, hf⟩ := nm_ex hf
  refine aw_iinc (j := 2) (v := v2) (lv1 := [(2, .int v2), (1, .int v1), (0, .ref (ad 13))]) C dX1_stuckOnes_21 rfl hvv2 (by decide) rfl ?_
  refine aw_goto (tgt := 4) C dX1_stuckOnes_24 (by decide) ?_
  refine aw_sub [2, 1, 0] rfl ?_
  exact H4 v1 v2 hf
set_option maxHeartbeats 4000000 in
set_option maxRecDepth 100000 in
theorem tX1_stuckOnes_4 {h : AH} {r0 : Int32} (C : Cx p rmX1_stuckOnes s m args meth c RX1 cX1_stuckOnes 3 (some .int) wsX1_stuckOnes D ad cy tb 0 0) : ∀ (n : Nat) (x1 : Int32) (x2 : Int32), fX1_stuckOnes_4 h n x1 x2 = some r0 → AW p l e rmX1_stuckOnes s m args below meth c 3 D ad cy 0 0 (Qi D ad cy below args s r0 h) 4 [(0, .ref (ad 13)), (1, .int x1), (2, .int x2)] [] h := by
  intro n
  induction n with
  | zero => intro x1 x2 hf; cases hf
  | succ n ih => intro x1 x2 hf; exact tX1_stuckOnes_4b C  ih  hf
set_option maxHeartbeats 4000000 in
set_option maxRecDepth 100000 in
theorem tX1_stuckOnes_0 {h : AH} {r0 : Int32} (C : Cx p rmX1_stuckOnes s m args meth c RX1 cX1_stuckOnes 3 (some .int) wsX1_stuckOnes D ad cy tb 0 0) (hf : fX1_stuckOnes h = some r0) : AW p l e rmX1_stuckOnes s m args below meth c 3 D ad cy 0 0 (Qi D ad cy below args s r0 h) 0 [(0, .ref (ad 13))] [] h := by
  unfold fX1_stuckOnes at hf
  refine aw_iconst (v := 0) C dX1_stuckOnes_0 (by decide) ?_
  refine aw_istore_n (lv1 := [(1, .int 0), (0, .ref (ad 13))]) C dX1_stuckOnes_1 rfl (by decide) rfl ?_
  refine aw_iconst (v := 0) C dX1_stuckOnes_2 (by decide) ?_
  refine aw_istore_n (lv1 := [(2, .int 0), (1, .int 0), (0, .ref (ad 13))]) C dX1_stuckOnes_3 rfl (by decide) rfl ?_
  refine aw_sub [2, 1, 0] rfl ?_
  exact tX1_stuckOnes_4 C   FU 0 0 hf
theorem kX1_stuckOnes {h : AH} {r0 : Int32} (hi : Inj ad) (hf : fX1_stuckOnes h = some r0) : Ki l yX1_stuckOnes wsX1_stuckOnes rmX1_stuckOnes D ad cy tb [.ref (ad 13)] h r0 h := met_i (lv := [(0, .ref (ad 13))]) hi (by decide) rfl (Nat.le_of_ble_eq_true rfl) rfl rfl (fun _ _ _ _ _ _ _ _ C => tX1_stuckOnes_0 C  hf)
set_option maxRecDepth 20000 in
theorem ggX5_count_X4_wrongBits : GoodIn wsX5_count wsX4_wrongBits := goodIn_r _ [9, 10, 11, 12, 13, 14, 15, 16, 17, 18, 118, 119, 120] (by decide +kernel) (by decide +kernel)
set_option maxRecDepth 20000 in
theorem gX5_count_X4_wrongBits : GoodIn wsX5_count (wsV RX5 101 RX4 yX4_wrongBits wsX4_wrongBits) := goodIn_app (goodIn_of _ (by decide +kernel)) ggX5_count_X4_wrongBits
set_option maxRecDepth 20000 in
theorem ggX5_count_X4_unsoundWords : GoodIn wsX5_count wsX4_unsoundWords := goodIn_r _ [22, 23, 24, 25, 8, 26, 10, 27, 28, 29, 30, 31, 118, 119, 120] (by decide +kernel) (by decide +kernel)
set_option maxRecDepth 20000 in
theorem gX5_count_X4_unsoundWords : GoodIn wsX5_count (wsV RX5 200 RX4 yX4_unsoundWords wsX4_unsoundWords) := goodIn_app (goodIn_of _ (by decide +kernel)) ggX5_count_X4_unsoundWords
set_option maxRecDepth 20000 in
theorem ggX5_count_X4_stalledWords : GoodIn wsX5_count wsX4_stalledWords := goodIn_r _ [35, 23, 24, 25, 8, 26, 10, 36, 37, 38, 39, 40, 41, 42, 43, 31, 27, 28, 29, 30, 118, 119, 120] (by decide +kernel) (by decide +kernel)
set_option maxRecDepth 20000 in
theorem gX5_count_X4_stalledWords : GoodIn wsX5_count (wsV RX5 254 RX4 yX4_stalledWords wsX4_stalledWords) := goodIn_app (goodIn_of _ (by decide +kernel)) ggX5_count_X4_stalledWords
set_option maxRecDepth 20000 in
theorem ggX5_count_X5_falseBits : GoodIn wsX5_count wsX5_falseBits := goodIn_r _ [48, 1, 49, 50, 51, 13, 14, 15, 16, 17, 18, 109, 110, 111, 112, 113, 114, 115, 116, 117, 118, 119, 120] (by decide +kernel) (by decide +kernel)
set_option maxRecDepth 20000 in
theorem gX5_count_X5_falseBits : GoodIn wsX5_count (wsV RX5 257 RX5 yX5_falseBits wsX5_falseBits) := goodIn_app (goodIn_of _ (by decide +kernel)) ggX5_count_X5_falseBits
set_option maxRecDepth 20000 in
theorem ggX5_count_X1_find : GoodIn wsX5_count wsX1_find := goodIn_r _ [56, 57, 58, 59, 60, 24, 25, 8, 26, 10, 61, 62, 63, 64, 11, 65, 47, 66, 67, 68, 69, 70, 71, 72, 73, 74, 75, 76, 55, 77, 78, 79, 80, 81, 82, 83, 84, 85, 86, 87, 88, 89, 90, 91, 92, 93, 94, 95, 96, 97, 12, 13, 14, 15, 16, 17, 18, 98, 99, 100, 101, 102, 103, 104, 124, 125, 126, 127, 128, 129, 130, 131, 118, 119, 120] (by decide +kernel) (by decide +kernel)
set_option maxRecDepth 20000 in
theorem gX5_count_X1_find : GoodIn wsX5_count (wsV RX5 216 RX1 yX1_find wsX1_find) := goodIn_app (goodIn_of _ (by decide +kernel)) ggX5_count_X1_find
set_option maxRecDepth 20000 in
theorem ggX5_count_X1_stuckOnes : GoodIn wsX5_count wsX1_stuckOnes := goodIn_r _ [108, 57, 82, 124, 125, 126, 127, 128, 129, 130, 131] (by decide +kernel) (by decide +kernel)
set_option maxRecDepth 20000 in
theorem gX5_count_X1_stuckOnes : GoodIn wsX5_count (wsV RX5 263 RX1 yX1_stuckOnes wsX1_stuckOnes) := goodIn_app (goodIn_of _ (by decide +kernel)) ggX5_count_X1_stuckOnes
theorem dX5_count_0 : decode cX5_count 0 = .ok (.iload_n 1, 1) := by decide +kernel
theorem dX5_count_1 : decode cX5_count 1 = .ok (.tableswitch 139 0 8 #[51, 59, 67, 75, 83, 91, 96, 115, 134], 51) := by decide +kernel
theorem dX5_count_52 : decode cX5_count 52 = .ok (.aload_n 0, 1) := by decide +kernel
theorem dX5_count_53 : decode cX5_count 53 = .ok (.getfield 12, 3) := by decide +kernel
theorem dX5_count_56 : decode cX5_count 56 = .ok (.getfield 58, 3) := by decide +kernel
theorem dX5_count_59 : decode cX5_count 59 = .ok (.ireturn, 1) := by decide +kernel
theorem dX5_count_60 : decode cX5_count 60 = .ok (.aload_n 0, 1) := by decide +kernel
theorem dX5_count_61 : decode cX5_count 61 = .ok (.getfield 12, 3) := by decide +kernel
theorem dX5_count_64 : decode cX5_count 64 = .ok (.invokevirtual 101, 3) := by decide +kernel
theorem dX5_count_67 : decode cX5_count 67 = .ok (.ireturn, 1) := by decide +kernel
theorem dX5_count_68 : decode cX5_count 68 = .ok (.aload_n 0, 1) := by decide +kernel
theorem dX5_count_69 : decode cX5_count 69 = .ok (.getfield 12, 3) := by decide +kernel
theorem dX5_count_72 : decode cX5_count 72 = .ok (.invokevirtual 200, 3) := by decide +kernel
theorem dX5_count_75 : decode cX5_count 75 = .ok (.ireturn, 1) := by decide +kernel
theorem dX5_count_76 : decode cX5_count 76 = .ok (.aload_n 0, 1) := by decide +kernel
theorem dX5_count_77 : decode cX5_count 77 = .ok (.getfield 12, 3) := by decide +kernel
theorem dX5_count_80 : decode cX5_count 80 = .ok (.invokevirtual 254, 3) := by decide +kernel
theorem dX5_count_83 : decode cX5_count 83 = .ok (.ireturn, 1) := by decide +kernel
theorem dX5_count_84 : decode cX5_count 84 = .ok (.aload_n 0, 1) := by decide +kernel
theorem dX5_count_85 : decode cX5_count 85 = .ok (.getfield 33, 3) := by decide +kernel
theorem dX5_count_88 : decode cX5_count 88 = .ok (.getfield 203, 3) := by decide +kernel
theorem dX5_count_91 : decode cX5_count 91 = .ok (.ireturn, 1) := by decide +kernel
theorem dX5_count_92 : decode cX5_count 92 = .ok (.aload_n 0, 1) := by decide +kernel
theorem dX5_count_93 : decode cX5_count 93 = .ok (.invokevirtual 257, 3) := by decide +kernel
theorem dX5_count_96 : decode cX5_count 96 = .ok (.ireturn, 1) := by decide +kernel
theorem dX5_count_97 : decode cX5_count 97 = .ok (.aload_n 0, 1) := by decide +kernel
theorem dX5_count_98 : decode cX5_count 98 = .ok (.getfield 40, 3) := by decide +kernel
theorem dX5_count_101 : decode cX5_count 101 = .ok (.aload_n 0, 1) := by decide +kernel
theorem dX5_count_102 : decode cX5_count 102 = .ok (.getfield 12, 3) := by decide +kernel
theorem dX5_count_105 : decode cX5_count 105 = .ok (.invokevirtual 216, 3) := by decide +kernel
theorem dX5_count_108 : decode cX5_count 108 = .ok (.aload_n 0, 1) := by decide +kernel
theorem dX5_count_109 : decode cX5_count 109 = .ok (.getfield 40, 3) := by decide +kernel
theorem dX5_count_112 : decode cX5_count 112 = .ok (.getfield 260, 3) := by decide +kernel
theorem dX5_count_115 : decode cX5_count 115 = .ok (.ireturn, 1) := by decide +kernel
theorem dX5_count_116 : decode cX5_count 116 = .ok (.aload_n 0, 1) := by decide +kernel
theorem dX5_count_117 : decode cX5_count 117 = .ok (.getfield 40, 3) := by decide +kernel
theorem dX5_count_120 : decode cX5_count 120 = .ok (.aload_n 0, 1) := by decide +kernel
theorem dX5_count_121 : decode cX5_count 121 = .ok (.getfield 12, 3) := by decide +kernel
theorem dX5_count_124 : decode cX5_count 124 = .ok (.invokevirtual 216, 3) := by decide +kernel
theorem dX5_count_127 : decode cX5_count 127 = .ok (.aload_n 0, 1) := by decide +kernel
theorem dX5_count_128 : decode cX5_count 128 = .ok (.getfield 40, 3) := by decide +kernel
theorem dX5_count_131 : decode cX5_count 131 = .ok (.invokevirtual 263, 3) := by decide +kernel
theorem dX5_count_134 : decode cX5_count 134 = .ok (.ireturn, 1) := by decide +kernel
theorem dX5_count_135 : decode cX5_count 135 = .ok (.aload_n 0, 1) := by decide +kernel
theorem dX5_count_136 : decode cX5_count 136 = .ok (.getfield 55, 3) := by decide +kernel
theorem dX5_count_139 : decode cX5_count 139 = .ok (.ireturn, 1) := by decide +kernel
theorem dX5_count_140 : decode cX5_count 140 = .ok (.bipush (-2), 2) := by decide +kernel
theorem dX5_count_142 : decode cX5_count 142 = .ok (.ireturn, 1) := by decide +kernel
abbrev rmX5_count : Room := { frames := 5, cells := 0, slots := 0, locals := 120 }
set_option maxRecDepth 100000 in
theorem hinX5_count_5 : ∀ w ∈ wsX50, w ∈ wsX5_count := by decide +kernel
set_option maxRecDepth 100000 in
theorem hinX5_count_0 : ∀ w ∈ wsX00, w ∈ wsX5_count := by decide +kernel
set_option maxRecDepth 100000 in
theorem hinX5_count_1 : ∀ w ∈ wsX10, w ∈ wsX5_count := by decide +kernel
set_option maxRecDepth 100000 in
theorem hinX5_count_4 : ∀ w ∈ wsX40, w ∈ wsX5_count := by decide +kernel
set_option maxHeartbeats 4000000 in
set_option maxRecDepth 100000 in
theorem tX5_count_0 {h : AH} {a1 : Int32} {r0 : Int32} {h0 : AH} (C : Cx p rmX5_count s m args meth c RX5 cX5_count 2 (some .int) wsX5_count D ad cy tb 0 0) (hf : fX5_count h a1 = some (r0, h0)) : AW p l e rmX5_count s m args below meth c 2 D ad cy 0 0 (Qi D ad cy below args s r0 h0) 0 [(0, .ref (ad 0)), (1, .int a1)] [] h := by
  unfold fX5_count at hf
  refine aw_iload_n C dX5_count_0 rfl 1 rfl ?_
  rcases Decidable.em (a1 = 0) with hx0 | hx0
  · rw [if_pos hx0] at hf
    refine aw_tabIn (tgt := 52) C dX5_count_1 (by rw [hx0]; decide) (by rw [hx0]; decide) (by rw [hx0]; rfl) (by decide) ?_
    refine aw_aload_n C dX5_count_52 rfl 0 rfl ?_
    refine aw_get C (kd_lt rfl (by decide)) (ce_5 rfl) rfl hinX5_count_5 0 (by decide) rfl (by decide +kernel) rfl dX5_count_53 ?_
    refine aw_getN (host := "StairCodes") C (kd_lt rfl (by decide)) (ce_4 rfl) rfl hinX5_count_4 0 (by decide) rfl (by decide +kernel) rfl dX5_count_56 ?_
    exact aw_iretW C dX5_count_59 hf
  rw [if_neg hx0] at hf
  rcases Decidable.em (a1 = 1) with hx1 | hx1
  · rw [if_pos hx1] at hf
    refine aw_tabIn (tgt := 60) C dX5_count_1 (by rw [hx1]; decide) (by rw [hx1]; decide) (by rw [hx1]; rfl) (by decide) ?_
    refine aw_aload_n C dX5_count_60 rfl 0 rfl ?_
    refine aw_get C (kd_lt rfl (by decide)) (ce_5 rfl) rfl hinX5_count_5 0 (by decide) rfl (by decide +kernel) rfl dX5_count_61 ?_
    obtain ⟨r1, hc, hf⟩ := bR_some hf
    refine aw_callVi (As := []) (rest := []) C rfl (by decide) rfl (kX4_wrongBits (l := l) (D := D) (ad := ad) (cy := cy) (tb := tb) C.2.2.2.2.2.2.2.2.1 rfl hc) (fun ht _ => cwV 0 ht gX5_count_X4_wrongBits rfl rfl rfl (by decide +kernel) ⟨Nat.le_of_ble_eq_true rfl, Nat.le_of_ble_eq_true rfl⟩) rfl rfl (Nat.le_of_ble_eq_true rfl) dX5_count_64 ?_
    exact aw_iretW C dX5_count_67 hf
  rw [if_neg hx1] at hf
  rcases Decidable.em (a1 = 2) with hx2 | hx2
  · rw [if_pos hx2] at hf
    refine aw_tabIn (tgt := 68) C dX5_count_1 (by rw [hx2]; decide) (by rw [hx2]; decide) (by rw [hx2]; rfl) (by decide) ?_
    refine aw_aload_n C dX5_count_68 rfl 0 rfl ?_
    refine aw_get C (kd_lt rfl (by decide)) (ce_5 rfl) rfl hinX5_count_5 0 (by decide) rfl (by decide +kernel) rfl dX5_count_69 ?_
    obtain ⟨r2, hc, hf⟩ := bR_some hf
    refine aw_callVi (As := []) (rest := []) C rfl (by decide) rfl (kX4_unsoundWords (l := l) (D := D) (ad := ad) (cy := cy) (tb := tb) C.2.2.2.2.2.2.2.2.1 rfl hc) (fun ht _ => cwV 0 ht gX5_count_X4_unsoundWords rfl rfl rfl (by decide +kernel) ⟨Nat.le_of_ble_eq_true rfl, Nat.le_of_ble_eq_true rfl⟩) rfl rfl (Nat.le_of_ble_eq_true rfl) dX5_count_72 ?_
    exact aw_iretW C dX5_count_75 hf
  rw [if_neg hx2] at hf
  rcases Decidable.em (a1 = 3) with hx3 | hx3
  · rw [if_pos hx3] at hf
    refine aw_tabIn (tgt := 76) C dX5_count_1 (by rw [hx3]; decide) (by rw [hx3]; decide) (by rw [hx3]; rfl) (by decide) ?_
    refine aw_aload_n C dX5_count_76 rfl 0 rfl ?_
    refine aw_get C (kd_lt rfl (by decide)) (ce_5 rfl) rfl hinX5_count_5 0 (by decide) rfl (by decide +kernel) rfl dX5_count_77 ?_
    obtain ⟨r3, hc, hf⟩ := bR_some hf
    refine aw_callVi (As := []) (rest := []) C rfl (by decide) rfl (kX4_stalledWords (l := l) (D := D) (ad := ad) (cy := cy) (tb := tb) C.2.2.2.2.2.2.2.2.1 rfl hc) (fun ht _ => cwV 0 ht gX5_count_X4_stalledWords rfl rfl rfl (by decide +kernel) ⟨Nat.le_of_ble_eq_true rfl, Nat.le_of_ble_eq_true rfl⟩) rfl rfl (Nat.le_of_ble_eq_true rfl) dX5_count_80 ?_
    exact aw_iretW C dX5_count_83 hf
  rw [if_neg hx3] at hf
  rcases Decidable.em (a1 = 4) with hx4 | hx4
  · rw [if_pos hx4] at hf
    refine aw_tabIn (tgt := 84) C dX5_count_1 (by rw [hx4]; decide) (by rw [hx4]; decide) (by rw [hx4]; rfl) (by decide) ?_
    refine aw_aload_n C dX5_count_84 rfl 0 rfl ?_
    refine aw_get C (kd_lt rfl (by decide)) (ce_5 rfl) rfl hinX5_count_5 4 (by decide) rfl (by decide +kernel) rfl dX5_count_85 ?_
    refine aw_getN (host := "StairCodes") C (kd_lt rfl (by decide)) (ce_0 rfl) rfl hinX5_count_0 2 (by decide) rfl (by decide +kernel) rfl dX5_count_88 ?_
    exact aw_iretW C dX5_count_91 hf
  rw [if_neg hx4] at hf
  rcases Decidable.em (a1 = 5) with hx5 | hx5
  · rw [if_pos hx5] at hf
    refine aw_tabIn (tgt := 92) C dX5_count_1 (by rw [hx5]; decide) (by rw [hx5]; decide) (by rw [hx5]; rfl) (by decide) ?_
    refine aw_aload_n C dX5_count_92 rfl 0 rfl ?_
    obtain ⟨r4, hc, hf⟩ := bR_some hf
    refine aw_callVi (As := []) (rest := []) C rfl (by decide) rfl (kX5_falseBits (l := l) (D := D) (ad := ad) (cy := cy) (tb := tb) C.2.2.2.2.2.2.2.2.1 hc) (fun ht _ => cwV 0 ht gX5_count_X5_falseBits rfl rfl rfl (by decide +kernel) ⟨Nat.le_of_ble_eq_true rfl, Nat.le_of_ble_eq_true rfl⟩) rfl rfl (Nat.le_of_ble_eq_true rfl) dX5_count_93 ?_
    exact aw_iretW C dX5_count_96 hf
  rw [if_neg hx5] at hf
  rcases Decidable.em (a1 = 6) with hx6 | hx6
  · rw [if_pos hx6] at hf
    refine aw_tabIn (tgt := 97) C dX5_count_1 (by rw [hx6]; decide) (by rw [hx6]; decide) (by rw [hx6]; rfl) (by decide) ?_
    refine aw_aload_n C dX5_count_97 rfl 0 rfl ?_
    refine aw_get C (kd_lt rfl (by decide)) (ce_5 rfl) rfl hinX5_count_5 5 (by decide) rfl (by decide +kernel) rfl dX5_count_98 ?_
    refine aw_aload_n C dX5_count_101 rfl 0 rfl ?_
    refine aw_get C (kd_lt rfl (by decide)) (ce_5 rfl) rfl hinX5_count_5 0 (by decide) rfl (by decide +kernel) rfl dX5_count_102 ?_
    obtain ⟨h5, hc, hf⟩ := bR_some hf
    refine aw_callVv (As := [.ref (ad 1)]) (rest := []) C rfl (by decide) rfl (kX1_find (l := l) (D := D) (ad := ad) (cy := cy) (tb := tb) C.2.2.2.2.2.2.2.2.1 rfl hc) (fun ht _ => cwV 1 ht gX5_count_X1_find rfl rfl rfl (by decide +kernel) ⟨Nat.le_of_ble_eq_true rfl, Nat.le_of_ble_eq_true rfl⟩) rfl rfl (Nat.le_of_ble_eq_true rfl) dX5_count_105 ?_
    refine aw_aload_n C dX5_count_108 rfl 0 rfl ?_
    refine aw_get C (kd_lt rfl (by decide)) (ce_5 rfl) rfl hinX5_count_5 5 (by decide) rfl (by decide +kernel) rfl dX5_count_109 ?_
    refine aw_getN (host := "StairCodes") C (kd_lt rfl (by decide)) (ce_1 rfl) rfl hinX5_count_1 0 (by decide) rfl (by decide +kernel) rfl dX5_count_112 ?_
    exact aw_iretW C dX5_count_115 hf
  rw [if_neg hx6] at hf
  rcases Decidable.em (a1 = 7) with hx7 | hx7
  · rw [if_pos hx7] at hf
    refine aw_tabIn (tgt := 116) C dX5_count_1 (by rw [hx7]; decide) (by rw [hx7]; decide) (by rw [hx7]; rfl) (by decide) ?_
    refine aw_aload_n C dX5_count_116 rfl 0 rfl ?_
    refine aw_get C (kd_lt rfl (by decide)) (ce_5 rfl) rfl hinX5_count_5 5 (by decide) rfl (by decide +kernel) rfl dX5_count_117 ?_
    refine aw_aload_n C dX5_count_120 rfl 0 rfl ?_
    refine aw_get C (kd_lt rfl (by decide)) (ce_5 rfl) rfl hinX5_count_5 0 (by decide) rfl (by decide +kernel) rfl dX5_count_121 ?_
    obtain ⟨h6, hc, hf⟩ := bR_some hf
    refine aw_callVv (As := [.ref (ad 1)]) (rest := []) C rfl (by decide) rfl (kX1_find (l := l) (D := D) (ad := ad) (cy := cy) (tb := tb) C.2.2.2.2.2.2.2.2.1 rfl hc) (fun ht _ => cwV 1 ht gX5_count_X1_find rfl rfl rfl (by decide +kernel) ⟨Nat.le_of_ble_eq_true rfl, Nat.le_of_ble_eq_true rfl⟩) rfl rfl (Nat.le_of_ble_eq_true rfl) dX5_count_124 ?_
    refine aw_aload_n C dX5_count_127 rfl 0 rfl ?_
    refine aw_get C (kd_lt rfl (by decide)) (ce_5 rfl) rfl hinX5_count_5 5 (by decide) rfl (by decide +kernel) rfl dX5_count_128 ?_
    obtain ⟨r7, hc, hf⟩ := bR_some hf
    refine aw_callVi (As := []) (rest := []) C rfl (by decide) rfl (kX1_stuckOnes (l := l) (D := D) (ad := ad) (cy := cy) (tb := tb) C.2.2.2.2.2.2.2.2.1 hc) (fun ht _ => cwV 0 ht gX5_count_X1_stuckOnes rfl rfl rfl (by decide +kernel) ⟨Nat.le_of_ble_eq_true rfl, Nat.le_of_ble_eq_true rfl⟩) rfl rfl (Nat.le_of_ble_eq_true rfl) dX5_count_131 ?_
    exact aw_iretW C dX5_count_134 hf
  rw [if_neg hx7] at hf
  rcases Decidable.em (a1 = 8) with hx8 | hx8
  · rw [if_pos hx8] at hf
    refine aw_tabIn (tgt := 135) C dX5_count_1 (by rw [hx8]; decide) (by rw [hx8]; decide) (by rw [hx8]; rfl) (by decide) ?_
    refine aw_aload_n C dX5_count_135 rfl 0 rfl ?_
    refine aw_get C (kd_lt rfl (by decide)) (ce_5 rfl) rfl hinX5_count_5 8 (by decide) rfl (by decide +kernel) rfl dX5_count_136 ?_
    exact aw_iretW C dX5_count_139 hf
  rw [if_neg hx8] at hf
  have hsw := sw_out (x := a1) 9 (by decide) (fun j hj => by
    rcases (show j = 0 ∨ j = 1 ∨ j = 2 ∨ j = 3 ∨ j = 4 ∨ j = 5 ∨ j = 6 ∨ j = 7 ∨ j = 8 by omega) with rfl | rfl | rfl | rfl | rfl | rfl | rfl | rfl | rfl
    · exact hx0
    · exact hx1
    · exact hx2
    · exact hx3
    · exact hx4
    · exact hx5
    · exact hx6
    · exact hx7
    · exact hx8)
  refine aw_tabOut (tgt := 140) C dX5_count_1 (by omega) (by decide) ?_
  refine aw_bipush (v := (-2)) C dX5_count_140 (by decide) ?_
  exact aw_iretW C dX5_count_142 hf
theorem kX5_count {h : AH} {a1 : Int32} {r0 : Int32} {h0 : AH} (hi : Inj ad) (hf : fX5_count h a1 = some (r0, h0)) : Ki l yX5_count wsX5_count rmX5_count D ad cy tb [.ref (ad 0), .int a1] h r0 h0 := met_i (lv := [(0, .ref (ad 0)), (1, .int a1)]) hi (by decide) rfl (Nat.le_of_ble_eq_true rfl) rfl rfl (fun _ _ _ _ _ _ _ _ C => tX5_count_0 C  hf)
theorem dX6_falseNow_0 : decode cX6_falseNow 0 = .ok (.iconst 0, 1) := by decide +kernel
theorem dX6_falseNow_1 : decode cX6_falseNow 1 = .ok (.istore_n 1, 1) := by decide +kernel
theorem dX6_falseNow_2 : decode cX6_falseNow 2 = .ok (.iconst 0, 1) := by decide +kernel
theorem dX6_falseNow_3 : decode cX6_falseNow 3 = .ok (.istore_n 2, 1) := by decide +kernel
theorem dX6_falseNow_4 : decode cX6_falseNow 4 = .ok (.iload_n 2, 1) := by decide +kernel
theorem dX6_falseNow_5 : decode cX6_falseNow 5 = .ok (.sipush 448, 3) := by decide +kernel
theorem dX6_falseNow_8 : decode cX6_falseNow 8 = .ok (.if_icmp .ge 35, 3) := by decide +kernel
theorem dX6_falseNow_11 : decode cX6_falseNow 11 = .ok (.iload_n 1, 1) := by decide +kernel
theorem dX6_falseNow_12 : decode cX6_falseNow 12 = .ok (.aload_n 0, 1) := by decide +kernel
theorem dX6_falseNow_13 : decode cX6_falseNow 13 = .ok (.getfield 21, 3) := by decide +kernel
theorem dX6_falseNow_16 : decode cX6_falseNow 16 = .ok (.iload_n 2, 1) := by decide +kernel
theorem dX6_falseNow_17 : decode cX6_falseNow 17 = .ok (.baload, 1) := by decide +kernel
theorem dX6_falseNow_18 : decode cX6_falseNow 18 = .ok (.ifCond .eq 16, 3) := by decide +kernel
theorem dX6_falseNow_21 : decode cX6_falseNow 21 = .ok (.aload_n 0, 1) := by decide +kernel
theorem dX6_falseNow_22 : decode cX6_falseNow 22 = .ok (.getfield 24, 3) := by decide +kernel
theorem dX6_falseNow_25 : decode cX6_falseNow 25 = .ok (.iload_n 2, 1) := by decide +kernel
theorem dX6_falseNow_26 : decode cX6_falseNow 26 = .ok (.baload, 1) := by decide +kernel
theorem dX6_falseNow_27 : decode cX6_falseNow 27 = .ok (.ifCond .ne 7, 3) := by decide +kernel
theorem dX6_falseNow_30 : decode cX6_falseNow 30 = .ok (.iconst 1, 1) := by decide +kernel
theorem dX6_falseNow_31 : decode cX6_falseNow 31 = .ok (.goto 4, 3) := by decide +kernel
theorem dX6_falseNow_34 : decode cX6_falseNow 34 = .ok (.iconst 0, 1) := by decide +kernel
theorem dX6_falseNow_35 : decode cX6_falseNow 35 = .ok (.iadd, 1) := by decide +kernel
theorem dX6_falseNow_36 : decode cX6_falseNow 36 = .ok (.istore_n 1, 1) := by decide +kernel
theorem dX6_falseNow_37 : decode cX6_falseNow 37 = .ok (.iinc 2 1, 3) := by decide +kernel
theorem dX6_falseNow_40 : decode cX6_falseNow 40 = .ok (.goto (-36), 3) := by decide +kernel
theorem dX6_falseNow_43 : decode cX6_falseNow 43 = .ok (.iload_n 1, 1) := by decide +kernel
theorem dX6_falseNow_44 : decode cX6_falseNow 44 = .ok (.ireturn, 1) := by decide +kernel
abbrev rmX6_falseNow : Room := { frames := 0, cells := 0, slots := 0, locals := 0 }
set_option maxRecDepth 100000 in
theorem hinX6_falseNow_6 : ∀ w ∈ wsX60, w ∈ wsX6_falseNow := by decide +kernel
set_option maxHeartbeats 4000000 in
set_option maxRecDepth 100000 in
theorem tX6_falseNow_35 {h : AH} {k4 : Int32 → Int32 → Option Int32} {x2 : Int32} {s0 : Int32} {s1 : Int32} {r0 : Int32} (C : Cx p rmX6_falseNow s m args meth c RX6 cX6_falseNow 3 (some .int) wsX6_falseNow D ad cy tb 0 0) (H4 : ∀ (x1 : Int32) (x2 : Int32), k4 x1 x2 = some r0 → AW p l e rmX6_falseNow s m args below meth c 3 D ad cy 0 0 (Qi D ad cy below args s r0 h) 4 [(0, .ref (ad 29)), (1, .int x1), (2, .int x2)] [] h) (hf : fX6_falseNow_35 k4 h x2 s0 s1 = some r0) : AW p l e rmX6_falseNow s m args below meth c 3 D ad cy 0 0 (Qi D ad cy below args s r0 h) 35 [(0, .ref (ad 29)), (2, .int x2)] [.int s1, .int s0] h := by
  unfold fX6_falseNow_35 at hf
  refine aw_iadd C dX6_falseNow_35 ?_
  refine aw_nmI hf (fun v1 hf => ?_)
  refine aw_istore_n (lv1 := [(1, .int v1), (0, .ref (ad 29)), (2, .int x2)]) C dX6_falseNow_36 rfl (by decide) rfl ?_
  obtain ⟨v2, hvv2, hf⟩ := nm_ex hf
  refine aw_iinc (j := 2) (v := v2) (lv1 := [(2, .int v2), (1, .int v1), (0, .ref (ad 29))]) C dX6_falseNow_37 rfl hvv2 (by decide) rfl ?_
  refine aw_goto (tgt := 4) C dX6_falseNow_40 (by decide) ?_
  refine aw_sub [2, 1, 0] rfl ?_
  exact H4 v1 v2 hf
set_option maxHeartbeats 4000000 in
set_option maxRecDepth 100000 in
theorem tX6_falseNow_34 {h : AH} {k4 : Int32 → Int32 → Option Int32} {x2 : Int32} {s0 : Int32} {r0 : Int32} (C : Cx p rmX6_falseNow s m args meth c RX6 cX6_falseNow 3 (some .int) wsX6_falseNow D ad cy tb 0 0) (H4 : ∀ (x1 : Int32) (x2 : Int32), k4 x1 x2 = some r0 → AW p l e rmX6_falseNow s m args below meth c 3 D ad cy 0 0 (Qi D ad cy below args s r0 h) 4 [(0, .ref (ad 29)), (1, .int x1), (2, .int x2)] [] h) (hf : fX6_falseNow_34 k4 h x2 s0 = some r0) : AW p l e rmX6_falseNow s m args below meth c 3 D ad cy 0 0 (Qi D ad cy below args s r0 h) 34 [(0, .ref (ad 29)), (2, .int x2)] [.int s0] h := by
  unfold fX6_falseNow_34 at hf
  refine aw_iconst (v := 0) C dX6_falseNow_34 (by decide) ?_
  refine aw_sub [0, 1] rfl ?_
  exact tX6_falseNow_35 C  H4 hf
set_option maxHeartbeats 4000000 in
set_option maxRecDepth 100000 in
theorem tX6_falseNow_4b {h : AH} {k4 : Int32 → Int32 → Option Int32} {x1 : Int32} {x2 : Int32} {r0 : Int32} (C : Cx p rmX6_falseNow s m args meth c RX6 cX6_falseNow 3 (some .int) wsX6_falseNow D ad cy tb 0 0) (H4 : ∀ (x1 : Int32) (x2 : Int32), k4 x1 x2 = some r0 → AW p l e rmX6_falseNow s m args below meth c 3 D ad cy 0 0 (Qi D ad cy below args s r0 h) 4 [(0, .ref (ad 29)), (1, .int x1), (2, .int x2)] [] h) (hf : fX6_falseNow_4b k4 h x1 x2 = some r0) : AW p l e rmX6_falseNow s m args below meth c 3 D ad cy 0 0 (Qi D ad cy below args s r0 h) 4 [(0, .ref (ad 29)), (1, .int x1), (2, .int x2)] [] h := by
  unfold fX6_falseNow_4b at hf
  refine aw_iload_n C dX6_falseNow_4 rfl 2 rfl ?_
  refine aw_sipush (v := 448) C dX6_falseNow_5 (by decide) ?_
  refine aw_icmp_ge (tgt := 43) C dX6_falseNow_8 (by decide) hf (fun hf => ?_) (fun hf => ?_)
  · refine aw_iload_n C dX6_falseNow_43 rfl 1 rfl ?_
    exact aw_iretR C dX6_falseNow_44 hf
  refine aw_iload_n C dX6_falseNow_11 rfl 1 rfl ?_
  refine aw_aload_n C dX6_falseNow_12 rfl 0 rfl ?_
  refine aw_get C (kd_lt rfl (by decide)) (ce_6 rfl) rfl hinX6_falseNow_6 4 (by decide) rfl (by decide +kernel) rfl dX6_falseNow_13 ?_
  refine aw_iload_n C dX6_falseNow_16 rfl 2 rfl ?_
  refine aw_zald C rfl rfl hf dX6_falseNow_17 (fun hf => ?_)
  refine aw_if_eq (tgt := 34) C dX6_falseNow_18 (by decide) hf (fun hf => ?_) (fun hf => ?_)
  · refine aw_sub [0, 2] rfl ?_
    exact tX6_falseNow_34 C  H4 hf
  refine aw_aload_n C dX6_falseNow_21 rfl 0 rfl ?_
  refine aw_get C (kd_lt rfl (by decide)) (ce_6 rfl) rfl hinX6_falseNow_6 5 (by decide) rfl (by decide +kernel) rfl dX6_falseNow_22 ?_
  refine aw_iload_n C dX6_falseNow_25 rfl 2 rfl ?_
  refine aw_zald C rfl rfl hf dX6_falseNow_26 (fun hf => ?_)
  refine aw_if_ne (tgt := 34) C dX6_falseNow_27 (by decide) hf (fun hf => ?_) (fun hf => ?_)
  · refine aw_sub [0, 2] rfl ?_
    exact tX6_falseNow_34 C  H4 hf
  refine aw_iconst (v := 1) C dX6_falseNow_30 (by decide) ?_
  refine aw_goto (tgt := 35) C dX6_falseNow_31 (by decide) ?_
  refine aw_sub [0, 2] rfl ?_
  exact tX6_falseNow_35 C  H4 hf
set_option maxHeartbeats 4000000 in
set_option maxRecDepth 100000 in
theorem tX6_falseNow_4 {h : AH} {r0 : Int32} (C : Cx p rmX6_falseNow s m args meth c RX6 cX6_falseNow 3 (some .int) wsX6_falseNow D ad cy tb 0 0) : ∀ (n : Nat) (x1 : Int32) (x2 : Int32), fX6_falseNow_4 h n x1 x2 = some r0 → AW p l e rmX6_falseNow s m args below meth c 3 D ad cy 0 0 (Qi D ad cy below args s r0 h) 4 [(0, .ref (ad 29)), (1, .int x1), (2, .int x2)] [] h := by
  intro n
  induction n with
  | zero => intro x1 x2 hf; cases hf
  | succ n ih => intro x1 x2 hf; exact tX6_falseNow_4b C  ih  hf
set_option maxHeartbeats 4000000 in
set_option maxRecDepth 100000 in
theorem tX6_falseNow_0 {h : AH} {r0 : Int32} (C : Cx p rmX6_falseNow s m args meth c RX6 cX6_falseNow 3 (some .int) wsX6_falseNow D ad cy tb 0 0) (hf : fX6_falseNow h = some r0) : AW p l e rmX6_falseNow s m args below meth c 3 D ad cy 0 0 (Qi D ad cy below args s r0 h) 0 [(0, .ref (ad 29))] [] h := by
  unfold fX6_falseNow at hf
  refine aw_iconst (v := 0) C dX6_falseNow_0 (by decide) ?_
  refine aw_istore_n (lv1 := [(1, .int 0), (0, .ref (ad 29))]) C dX6_falseNow_1 rfl (by decide) rfl ?_
  refine aw_iconst (v := 0) C dX6_falseNow_2 (by decide) ?_
  refine aw_istore_n (lv1 := [(2, .int 0), (1, .int 0), (0, .ref (ad 29))]) C dX6_falseNow_3 rfl (by decide) rfl ?_
  refine aw_sub [2, 1, 0] rfl ?_
  exact tX6_falseNow_4 C   FU 0 0 hf
theorem kX6_falseNow {h : AH} {r0 : Int32} (hi : Inj ad) (hf : fX6_falseNow h = some r0) : Ki l yX6_falseNow wsX6_falseNow rmX6_falseNow D ad cy tb [.ref (ad 29)] h r0 h := met_i (lv := [(0, .ref (ad 29))]) hi (by decide) rfl (Nat.le_of_ble_eq_true rfl) rfl rfl (fun _ _ _ _ _ _ _ _ C => tX6_falseNow_0 C  hf)
set_option maxRecDepth 20000 in
theorem ggX6_piecesNow_X6_findsPieces : GoodIn wsX6_piecesNow wsX6_findsPieces := goodIn_r _ [6, 1, 7, 8, 9, 10, 11, 12, 13, 5, 14, 15, 16, 17, 18, 19, 20, 21, 22, 23, 24, 25, 26, 27, 28, 29, 30, 31, 32, 33, 34, 35] (by decide +kernel) (by decide +kernel)
set_option maxRecDepth 20000 in
theorem gX6_piecesNow_X6_findsPieces : GoodIn wsX6_piecesNow (wsV RX6 181 RX6 yX6_findsPieces wsX6_findsPieces) := goodIn_app (goodIn_of _ (by decide +kernel)) ggX6_piecesNow_X6_findsPieces
theorem dX6_piecesNow_0 : decode cX6_piecesNow 0 = .ok (.aload_n 0, 1) := by decide +kernel
theorem dX6_piecesNow_1 : decode cX6_piecesNow 1 = .ok (.invokevirtual 181, 3) := by decide +kernel
theorem dX6_piecesNow_4 : decode cX6_piecesNow 4 = .ok (.aload_n 0, 1) := by decide +kernel
theorem dX6_piecesNow_5 : decode cX6_piecesNow 5 = .ok (.getfield 172, 3) := by decide +kernel
theorem dX6_piecesNow_8 : decode cX6_piecesNow 8 = .ok (.ireturn, 1) := by decide +kernel
abbrev rmX6_piecesNow : Room := { frames := 3, cells := 0, slots := 0, locals := 71 }
set_option maxRecDepth 100000 in
theorem hinX6_piecesNow_6 : ∀ w ∈ wsX60, w ∈ wsX6_piecesNow := by decide +kernel
set_option maxHeartbeats 4000000 in
set_option maxRecDepth 100000 in
theorem tX6_piecesNow_0 {h : AH} {r0 : Int32} {h0 : AH} (C : Cx p rmX6_piecesNow s m args meth c RX6 cX6_piecesNow 1 (some .int) wsX6_piecesNow D ad cy tb 0 0) (hf : fX6_piecesNow h = some (r0, h0)) : AW p l e rmX6_piecesNow s m args below meth c 1 D ad cy 0 0 (Qi D ad cy below args s r0 h0) 0 [(0, .ref (ad 29))] [] h := by
  unfold fX6_piecesNow at hf
  refine aw_aload_n C dX6_piecesNow_0 rfl 0 rfl ?_
  obtain ⟨h1, hc, hf⟩ := bR_some hf
  refine aw_callVv (As := []) (rest := []) C rfl (by decide) rfl (kX6_findsPieces (l := l) (D := D) (ad := ad) (cy := cy) (tb := tb) C.2.2.2.2.2.2.2.2.1 hc) (fun ht _ => cwV 0 ht gX6_piecesNow_X6_findsPieces rfl rfl rfl (by decide +kernel) ⟨Nat.le_of_ble_eq_true rfl, Nat.le_of_ble_eq_true rfl⟩) rfl rfl (Nat.le_of_ble_eq_true rfl) dX6_piecesNow_1 ?_
  refine aw_aload_n C dX6_piecesNow_4 rfl 0 rfl ?_
  refine aw_get C (kd_lt rfl (by decide)) (ce_6 rfl) rfl hinX6_piecesNow_6 10 (by decide) rfl (by decide +kernel) rfl dX6_piecesNow_5 ?_
  exact aw_iretW C dX6_piecesNow_8 hf
theorem kX6_piecesNow {h : AH} {r0 : Int32} {h0 : AH} (hi : Inj ad) (hf : fX6_piecesNow h = some (r0, h0)) : Ki l yX6_piecesNow wsX6_piecesNow rmX6_piecesNow D ad cy tb [.ref (ad 29)] h r0 h0 := met_i (lv := [(0, .ref (ad 29))]) hi (by decide) rfl (Nat.le_of_ble_eq_true rfl) rfl rfl (fun _ _ _ _ _ _ _ _ C => tX6_piecesNow_0 C  hf)
set_option maxRecDepth 20000 in
theorem ggX6_stuckNow_X6_findsPieces : GoodIn wsX6_stuckNow wsX6_findsPieces := goodIn_r _ [6, 1, 7, 8, 9, 10, 11, 12, 13, 5, 14, 15, 16, 17, 29, 30, 31, 32, 33, 34, 35, 36, 37, 38, 39, 40, 41, 42, 43, 44, 45, 46] (by decide +kernel) (by decide +kernel)
set_option maxRecDepth 20000 in
theorem gX6_stuckNow_X6_findsPieces : GoodIn wsX6_stuckNow (wsV RX6 181 RX6 yX6_findsPieces wsX6_findsPieces) := goodIn_app (goodIn_of _ (by decide +kernel)) ggX6_stuckNow_X6_findsPieces
set_option maxRecDepth 20000 in
theorem ggX6_stuckNow_X6_pieceBy : GoodIn wsX6_stuckNow wsX6_pieceBy := goodIn_r _ [21, 7, 10, 8, 22, 23, 24, 5, 25, 15, 16, 17, 26, 27, 28, 29, 30, 31, 32, 33, 34, 35, 36, 37, 38, 39, 40, 41, 42, 43, 44, 45, 46] (by decide +kernel) (by decide +kernel)
set_option maxRecDepth 20000 in
theorem gX6_stuckNow_X6_pieceBy : GoodIn wsX6_stuckNow (wsV RX6 184 RX6 yX6_pieceBy wsX6_pieceBy) := goodIn_app (goodIn_of _ (by decide +kernel)) ggX6_stuckNow_X6_pieceBy
theorem dX6_stuckNow_0 : decode cX6_stuckNow 0 = .ok (.aload_n 0, 1) := by decide +kernel
theorem dX6_stuckNow_1 : decode cX6_stuckNow 1 = .ok (.invokevirtual 181, 3) := by decide +kernel
theorem dX6_stuckNow_4 : decode cX6_stuckNow 4 = .ok (.iconst 0, 1) := by decide +kernel
theorem dX6_stuckNow_5 : decode cX6_stuckNow 5 = .ok (.istore_n 1, 1) := by decide +kernel
theorem dX6_stuckNow_6 : decode cX6_stuckNow 6 = .ok (.iconst 0, 1) := by decide +kernel
theorem dX6_stuckNow_7 : decode cX6_stuckNow 7 = .ok (.istore_n 2, 1) := by decide +kernel
theorem dX6_stuckNow_8 : decode cX6_stuckNow 8 = .ok (.iload_n 2, 1) := by decide +kernel
theorem dX6_stuckNow_9 : decode cX6_stuckNow 9 = .ok (.aload_n 0, 1) := by decide +kernel
theorem dX6_stuckNow_10 : decode cX6_stuckNow 10 = .ok (.getfield 172, 3) := by decide +kernel
theorem dX6_stuckNow_13 : decode cX6_stuckNow 13 = .ok (.if_icmp .ge 18, 3) := by decide +kernel
theorem dX6_stuckNow_16 : decode cX6_stuckNow 16 = .ok (.iload_n 1, 1) := by decide +kernel
theorem dX6_stuckNow_17 : decode cX6_stuckNow 17 = .ok (.aload_n 0, 1) := by decide +kernel
theorem dX6_stuckNow_18 : decode cX6_stuckNow 18 = .ok (.iload_n 2, 1) := by decide +kernel
theorem dX6_stuckNow_19 : decode cX6_stuckNow 19 = .ok (.iconst 2, 1) := by decide +kernel
theorem dX6_stuckNow_20 : decode cX6_stuckNow 20 = .ok (.invokevirtual 184, 3) := by decide +kernel
theorem dX6_stuckNow_23 : decode cX6_stuckNow 23 = .ok (.iadd, 1) := by decide +kernel
theorem dX6_stuckNow_24 : decode cX6_stuckNow 24 = .ok (.istore_n 1, 1) := by decide +kernel
theorem dX6_stuckNow_25 : decode cX6_stuckNow 25 = .ok (.iinc 2 1, 3) := by decide +kernel
theorem dX6_stuckNow_28 : decode cX6_stuckNow 28 = .ok (.goto (-20), 3) := by decide +kernel
theorem dX6_stuckNow_31 : decode cX6_stuckNow 31 = .ok (.iload_n 1, 1) := by decide +kernel
theorem dX6_stuckNow_32 : decode cX6_stuckNow 32 = .ok (.ireturn, 1) := by decide +kernel
abbrev rmX6_stuckNow : Room := { frames := 3, cells := 0, slots := 0, locals := 77 }
set_option maxRecDepth 100000 in
theorem hinX6_stuckNow_6 : ∀ w ∈ wsX60, w ∈ wsX6_stuckNow := by decide +kernel
set_option maxHeartbeats 4000000 in
set_option maxRecDepth 100000 in
theorem tX6_stuckNow_8b {h : AH} {k8 : AH → Int32 → Int32 → Option (Int32 × AH)} {x1 : Int32} {x2 : Int32} {r0 : Int32} {h0 : AH} (C : Cx p rmX6_stuckNow s m args meth c RX6 cX6_stuckNow 3 (some .int) wsX6_stuckNow D ad cy tb 0 0) (H8 : ∀ (h : AH) (x1 : Int32) (x2 : Int32), k8 h x1 x2 = some (r0, h0) → AW p l e rmX6_stuckNow s m args below meth c 3 D ad cy 0 0 (Qi D ad cy below args s r0 h0) 8 [(0, .ref (ad 29)), (1, .int x1), (2, .int x2)] [] h) (hf : fX6_stuckNow_8b k8 h x1 x2 = some (r0, h0)) : AW p l e rmX6_stuckNow s m args below meth c 3 D ad cy 0 0 (Qi D ad cy below args s r0 h0) 8 [(0, .ref (ad 29)), (1, .int x1), (2, .int x2)] [] h := by
  unfold fX6_stuckNow_8b at hf
  refine aw_iload_n C dX6_stuckNow_8 rfl 2 rfl ?_
  refine aw_aload_n C dX6_stuckNow_9 rfl 0 rfl ?_
  refine aw_get C (kd_lt rfl (by decide)) (ce_6 rfl) rfl hinX6_stuckNow_6 10 (by decide) rfl (by decide +kernel) rfl dX6_stuckNow_10 ?_
  refine aw_icmp_ge (tgt := 31) C dX6_stuckNow_13 (by decide) hf (fun hf => ?_) (fun hf => ?_)
  · refine aw_iload_n C dX6_stuckNow_31 rfl 1 rfl ?_
    exact aw_iretW C dX6_stuckNow_32 hf
  refine aw_iload_n C dX6_stuckNow_16 rfl 1 rfl ?_
  refine aw_aload_n C dX6_stuckNow_17 rfl 0 rfl ?_
  refine aw_iload_n C dX6_stuckNow_18 rfl 2 rfl ?_
  refine aw_iconst (v := 2) C dX6_stuckNow_19 (by decide) ?_
  obtain ⟨r1, hc, hf⟩ := bR_some hf
  refine aw_callVi (As := [.int x2, .int 2]) (rest := [.int x1]) C rfl (by decide) rfl (kX6_pieceBy (l := l) (D := D) (ad := ad) (cy := cy) (tb := tb) C.2.2.2.2.2.2.2.2.1 hc) (fun ht _ => cwV 2 ht gX6_stuckNow_X6_pieceBy rfl rfl rfl (by decide +kernel) ⟨Nat.le_of_ble_eq_true rfl, Nat.le_of_ble_eq_true rfl⟩) rfl rfl (Nat.le_of_ble_eq_true rfl) dX6_stuckNow_20 ?_
  refine aw_iadd C dX6_stuckNow_23 ?_
  refine aw_nmI hf (fun v2 hf => ?_)
  refine aw_istore_n (lv1 := [(1, .int v2), (0, .ref (ad 29)), (2, .int x2)]) C dX6_stuckNow_24 rfl (by decide) rfl ?_
  obtain ⟨v3, hvv3, hf⟩ := nm_ex hf
  refine aw_iinc (j := 2) (v := v3) (lv1 := [(2, .int v3), (1, .int v2), (0, .ref (ad 29))]) C dX6_stuckNow_25 rfl hvv3 (by decide) rfl ?_
  refine aw_goto (tgt := 8) C dX6_stuckNow_28 (by decide) ?_
  refine aw_sub [2, 1, 0] rfl ?_
  exact H8 h v2 v3 hf
set_option maxHeartbeats 4000000 in
set_option maxRecDepth 100000 in
theorem tX6_stuckNow_8  {r0 : Int32} {h0 : AH} (C : Cx p rmX6_stuckNow s m args meth c RX6 cX6_stuckNow 3 (some .int) wsX6_stuckNow D ad cy tb 0 0) : ∀ (n : Nat) (h : AH) (x1 : Int32) (x2 : Int32), fX6_stuckNow_8 n h x1 x2 = some (r0, h0) → AW p l e rmX6_stuckNow s m args below meth c 3 D ad cy 0 0 (Qi D ad cy below args s r0 h0) 8 [(0, .ref (ad 29)), (1, .int x1), (2, .int x2)] [] h := by
  intro n
  induction n with
  | zero => intro h x1 x2 hf; cases hf
  | succ n ih => intro h x1 x2 hf; exact tX6_stuckNow_8b C  ih  hf
set_option maxHeartbeats 4000000 in
set_option maxRecDepth 100000 in
theorem tX6_stuckNow_0 {h : AH} {r0 : Int32} {h0 : AH} (C : Cx p rmX6_stuckNow s m args meth c RX6 cX6_stuckNow 3 (some .int) wsX6_stuckNow D ad cy tb 0 0) (hf : fX6_stuckNow h = some (r0, h0)) : AW p l e rmX6_stuckNow s m args below meth c 3 D ad cy 0 0 (Qi D ad cy below args s r0 h0) 0 [(0, .ref (ad 29))] [] h := by
  unfold fX6_stuckNow at hf
  refine aw_aload_n C dX6_stuckNow_0 rfl 0 rfl ?_
  obtain ⟨h1, hc, hf⟩ := bR_some hf
  refine aw_callVv (As := []) (rest := []) C rfl (by decide) rfl (kX6_findsPieces (l := l) (D := D) (ad := ad) (cy := cy) (tb := tb) C.2.2.2.2.2.2.2.2.1 hc) (fun ht _ => cwV 0 ht gX6_stuckNow_X6_findsPieces rfl rfl rfl (by decide +kernel) ⟨Nat.le_of_ble_eq_true rfl, Nat.le_of_ble_eq_true rfl⟩) rfl rfl (Nat.le_of_ble_eq_true rfl) dX6_stuckNow_1 ?_
  refine aw_iconst (v := 0) C dX6_stuckNow_4 (by decide) ?_
  refine aw_istore_n (lv1 := [(1, .int 0), (0, .ref (ad 29))]) C dX6_stuckNow_5 rfl (by decide) rfl ?_
  refine aw_iconst (v := 0) C dX6_stuckNow_6 (by decide) ?_
  refine aw_istore_n (lv1 := [(2, .int 0), (1, .int 0), (0, .ref (ad 29))]) C dX6_stuckNow_7 rfl (by decide) rfl ?_
  refine aw_sub [2, 1, 0] rfl ?_
  exact tX6_stuckNow_8 C   FU h1 0 0 hf
theorem kX6_stuckNow {h : AH} {r0 : Int32} {h0 : AH} (hi : Inj ad) (hf : fX6_stuckNow h = some (r0, h0)) : Ki l yX6_stuckNow wsX6_stuckNow rmX6_stuckNow D ad cy tb [.ref (ad 29)] h r0 h0 := met_i (lv := [(0, .ref (ad 29))]) hi (by decide) rfl (Nat.le_of_ble_eq_true rfl) rfl rfl (fun _ _ _ _ _ _ _ _ C => tX6_stuckNow_0 C  hf)
set_option maxRecDepth 20000 in
theorem ggX6_count_X6_wrongMany : GoodIn wsX6_count wsX6_wrongMany := goodIn_r _ [8, 9, 70, 71, 72, 73, 74, 75, 76, 77, 78, 79, 80, 81, 82, 83, 84, 85, 86, 87] (by decide +kernel) (by decide +kernel)
set_option maxRecDepth 20000 in
theorem gX6_count_X6_wrongMany : GoodIn wsX6_count (wsV RX6 98 RX6 yX6_wrongMany wsX6_wrongMany) := goodIn_app (goodIn_of _ (by decide +kernel)) ggX6_count_X6_wrongMany
set_option maxRecDepth 20000 in
theorem ggX6_count_X6_wordsOf : GoodIn wsX6_count wsX6_wordsOf := goodIn_r _ [13, 1, 14, 15, 16, 7, 17, 18, 19, 20, 21, 9, 22, 23, 24, 25, 26, 27, 28, 29, 30, 31, 32, 33, 34, 35, 36, 37, 70, 71, 72, 73, 74, 75, 76, 77, 78, 79, 80, 81, 82, 83, 84, 85, 86, 87] (by decide +kernel) (by decide +kernel)
set_option maxRecDepth 20000 in
theorem gX6_count_X6_wordsOf : GoodIn wsX6_count (wsV RX6 166 RX6 yX6_wordsOf wsX6_wordsOf) := goodIn_app (goodIn_of _ (by decide +kernel)) ggX6_count_X6_wordsOf
set_option maxRecDepth 20000 in
theorem ggX6_count_X6_falseNow : GoodIn wsX6_count wsX6_falseNow := goodIn_r _ [41, 9, 42, 70, 71, 72, 73, 74, 75, 76, 77, 78, 79, 80, 81, 82, 83, 84, 85, 86, 87] (by decide +kernel) (by decide +kernel)
set_option maxRecDepth 20000 in
theorem gX6_count_X6_falseNow : GoodIn wsX6_count (wsV RX6 205 RX6 yX6_falseNow wsX6_falseNow) := goodIn_app (goodIn_of _ (by decide +kernel)) ggX6_count_X6_falseNow
set_option maxRecDepth 20000 in
theorem ggX6_count_X6_piecesNow : GoodIn wsX6_count wsX6_piecesNow := goodIn_r _ [46, 47, 48, 49, 50, 7, 51, 52, 9, 53, 1, 54, 55, 56, 57, 25, 26, 27, 70, 71, 72, 73, 74, 75, 76, 77, 78, 79, 80, 81, 82, 83, 84, 85, 86, 87] (by decide +kernel) (by decide +kernel)
set_option maxRecDepth 20000 in
theorem gX6_count_X6_piecesNow : GoodIn wsX6_count (wsV RX6 208 RX6 yX6_piecesNow wsX6_piecesNow) := goodIn_app (goodIn_of _ (by decide +kernel)) ggX6_count_X6_piecesNow
set_option maxRecDepth 20000 in
theorem ggX6_count_X6_stuckNow : GoodIn wsX6_count wsX6_stuckNow := goodIn_r _ [61, 47, 48, 49, 50, 7, 51, 52, 9, 53, 1, 54, 55, 56, 57, 25, 26, 27, 62, 63, 64, 65, 66, 67, 68, 69, 22, 23, 24, 70, 71, 72, 73, 74, 75, 76, 77, 78, 79, 80, 81, 82, 83, 84, 85, 86, 87] (by decide +kernel) (by decide +kernel)
set_option maxRecDepth 20000 in
theorem gX6_count_X6_stuckNow : GoodIn wsX6_count (wsV RX6 211 RX6 yX6_stuckNow wsX6_stuckNow) := goodIn_app (goodIn_of _ (by decide +kernel)) ggX6_count_X6_stuckNow
theorem dX6_count_0 : decode cX6_count 0 = .ok (.iload_n 1, 1) := by decide +kernel
theorem dX6_count_1 : decode cX6_count 1 = .ok (.tableswitch 98 0 8 #[51, 56, 61, 67, 73, 78, 83, 88, 93], 51) := by decide +kernel
theorem dX6_count_52 : decode cX6_count 52 = .ok (.aload_n 0, 1) := by decide +kernel
theorem dX6_count_53 : decode cX6_count 53 = .ok (.getfield 7, 3) := by decide +kernel
theorem dX6_count_56 : decode cX6_count 56 = .ok (.ireturn, 1) := by decide +kernel
theorem dX6_count_57 : decode cX6_count 57 = .ok (.aload_n 0, 1) := by decide +kernel
theorem dX6_count_58 : decode cX6_count 58 = .ok (.invokevirtual 98, 3) := by decide +kernel
theorem dX6_count_61 : decode cX6_count 61 = .ok (.ireturn, 1) := by decide +kernel
theorem dX6_count_62 : decode cX6_count 62 = .ok (.aload_n 0, 1) := by decide +kernel
theorem dX6_count_63 : decode cX6_count 63 = .ok (.iconst 0, 1) := by decide +kernel
theorem dX6_count_64 : decode cX6_count 64 = .ok (.invokevirtual 166, 3) := by decide +kernel
theorem dX6_count_67 : decode cX6_count 67 = .ok (.ireturn, 1) := by decide +kernel
theorem dX6_count_68 : decode cX6_count 68 = .ok (.aload_n 0, 1) := by decide +kernel
theorem dX6_count_69 : decode cX6_count 69 = .ok (.iconst 1, 1) := by decide +kernel
theorem dX6_count_70 : decode cX6_count 70 = .ok (.invokevirtual 166, 3) := by decide +kernel
theorem dX6_count_73 : decode cX6_count 73 = .ok (.ireturn, 1) := by decide +kernel
theorem dX6_count_74 : decode cX6_count 74 = .ok (.aload_n 0, 1) := by decide +kernel
theorem dX6_count_75 : decode cX6_count 75 = .ok (.getfield 85, 3) := by decide +kernel
theorem dX6_count_78 : decode cX6_count 78 = .ok (.ireturn, 1) := by decide +kernel
theorem dX6_count_79 : decode cX6_count 79 = .ok (.aload_n 0, 1) := by decide +kernel
theorem dX6_count_80 : decode cX6_count 80 = .ok (.invokevirtual 205, 3) := by decide +kernel
theorem dX6_count_83 : decode cX6_count 83 = .ok (.ireturn, 1) := by decide +kernel
theorem dX6_count_84 : decode cX6_count 84 = .ok (.aload_n 0, 1) := by decide +kernel
theorem dX6_count_85 : decode cX6_count 85 = .ok (.invokevirtual 208, 3) := by decide +kernel
theorem dX6_count_88 : decode cX6_count 88 = .ok (.ireturn, 1) := by decide +kernel
theorem dX6_count_89 : decode cX6_count 89 = .ok (.aload_n 0, 1) := by decide +kernel
theorem dX6_count_90 : decode cX6_count 90 = .ok (.invokevirtual 211, 3) := by decide +kernel
theorem dX6_count_93 : decode cX6_count 93 = .ok (.ireturn, 1) := by decide +kernel
theorem dX6_count_94 : decode cX6_count 94 = .ok (.aload_n 0, 1) := by decide +kernel
theorem dX6_count_95 : decode cX6_count 95 = .ok (.getfield 199, 3) := by decide +kernel
theorem dX6_count_98 : decode cX6_count 98 = .ok (.ireturn, 1) := by decide +kernel
theorem dX6_count_99 : decode cX6_count 99 = .ok (.bipush (-2), 2) := by decide +kernel
theorem dX6_count_101 : decode cX6_count 101 = .ok (.ireturn, 1) := by decide +kernel
abbrev rmX6_count : Room := { frames := 5, cells := 0, slots := 0, locals := 117 }
set_option maxRecDepth 100000 in
theorem hinX6_count_6 : ∀ w ∈ wsX60, w ∈ wsX6_count := by decide +kernel
set_option maxHeartbeats 4000000 in
set_option maxRecDepth 100000 in
theorem tX6_count_0 {h : AH} {a1 : Int32} {r0 : Int32} {h0 : AH} (C : Cx p rmX6_count s m args meth c RX6 cX6_count 2 (some .int) wsX6_count D ad cy tb 0 0) (hf : fX6_count h a1 = some (r0, h0)) : AW p l e rmX6_count s m args below meth c 2 D ad cy 0 0 (Qi D ad cy below args s r0 h0) 0 [(0, .ref (ad 29)), (1, .int a1)] [] h := by
  unfold fX6_count at hf
  refine aw_iload_n C dX6_count_0 rfl 1 rfl ?_
  rcases Decidable.em (a1 = 0) with hx0 | hx0
  · rw [if_pos hx0] at hf
    refine aw_tabIn (tgt := 52) C dX6_count_1 (by rw [hx0]; decide) (by rw [hx0]; decide) (by rw [hx0]; rfl) (by decide) ?_
    refine aw_aload_n C dX6_count_52 rfl 0 rfl ?_
    refine aw_get C (kd_lt rfl (by decide)) (ce_6 rfl) rfl hinX6_count_6 0 (by decide) rfl (by decide +kernel) rfl dX6_count_53 ?_
    exact aw_iretW C dX6_count_56 hf
  rw [if_neg hx0] at hf
  rcases Decidable.em (a1 = 1) with hx1 | hx1
  · rw [if_pos hx1] at hf
    refine aw_tabIn (tgt := 57) C dX6_count_1 (by rw [hx1]; decide) (by rw [hx1]; decide) (by rw [hx1]; rfl) (by decide) ?_
    refine aw_aload_n C dX6_count_57 rfl 0 rfl ?_
    obtain ⟨r1, hc, hf⟩ := bR_some hf
    refine aw_callVi (As := []) (rest := []) C rfl (by decide) rfl (kX6_wrongMany (l := l) (D := D) (ad := ad) (cy := cy) (tb := tb) C.2.2.2.2.2.2.2.2.1 hc) (fun ht _ => cwV 0 ht gX6_count_X6_wrongMany rfl rfl rfl (by decide +kernel) ⟨Nat.le_of_ble_eq_true rfl, Nat.le_of_ble_eq_true rfl⟩) rfl rfl (Nat.le_of_ble_eq_true rfl) dX6_count_58 ?_
    exact aw_iretW C dX6_count_61 hf
  rw [if_neg hx1] at hf
  rcases Decidable.em (a1 = 2) with hx2 | hx2
  · rw [if_pos hx2] at hf
    refine aw_tabIn (tgt := 62) C dX6_count_1 (by rw [hx2]; decide) (by rw [hx2]; decide) (by rw [hx2]; rfl) (by decide) ?_
    refine aw_aload_n C dX6_count_62 rfl 0 rfl ?_
    refine aw_iconst (v := 0) C dX6_count_63 (by decide) ?_
    obtain ⟨r2, hc, hf⟩ := bR_some hf
    refine aw_callVi (As := [.int 0]) (rest := []) C rfl (by decide) rfl (kX6_wordsOf (l := l) (D := D) (ad := ad) (cy := cy) (tb := tb) C.2.2.2.2.2.2.2.2.1 hc) (fun ht _ => cwV 1 ht gX6_count_X6_wordsOf rfl rfl rfl (by decide +kernel) ⟨Nat.le_of_ble_eq_true rfl, Nat.le_of_ble_eq_true rfl⟩) rfl rfl (Nat.le_of_ble_eq_true rfl) dX6_count_64 ?_
    exact aw_iretW C dX6_count_67 hf
  rw [if_neg hx2] at hf
  rcases Decidable.em (a1 = 3) with hx3 | hx3
  · rw [if_pos hx3] at hf
    refine aw_tabIn (tgt := 68) C dX6_count_1 (by rw [hx3]; decide) (by rw [hx3]; decide) (by rw [hx3]; rfl) (by decide) ?_
    refine aw_aload_n C dX6_count_68 rfl 0 rfl ?_
    refine aw_iconst (v := 1) C dX6_count_69 (by decide) ?_
    obtain ⟨r3, hc, hf⟩ := bR_some hf
    refine aw_callVi (As := [.int 1]) (rest := []) C rfl (by decide) rfl (kX6_wordsOf (l := l) (D := D) (ad := ad) (cy := cy) (tb := tb) C.2.2.2.2.2.2.2.2.1 hc) (fun ht _ => cwV 1 ht gX6_count_X6_wordsOf rfl rfl rfl (by decide +kernel) ⟨Nat.le_of_ble_eq_true rfl, Nat.le_of_ble_eq_true rfl⟩) rfl rfl (Nat.le_of_ble_eq_true rfl) dX6_count_70 ?_
    exact aw_iretW C dX6_count_73 hf
  rw [if_neg hx3] at hf
  rcases Decidable.em (a1 = 4) with hx4 | hx4
  · rw [if_pos hx4] at hf
    refine aw_tabIn (tgt := 74) C dX6_count_1 (by rw [hx4]; decide) (by rw [hx4]; decide) (by rw [hx4]; rfl) (by decide) ?_
    refine aw_aload_n C dX6_count_74 rfl 0 rfl ?_
    refine aw_get C (kd_lt rfl (by decide)) (ce_6 rfl) rfl hinX6_count_6 7 (by decide) rfl (by decide +kernel) rfl dX6_count_75 ?_
    exact aw_iretW C dX6_count_78 hf
  rw [if_neg hx4] at hf
  rcases Decidable.em (a1 = 5) with hx5 | hx5
  · rw [if_pos hx5] at hf
    refine aw_tabIn (tgt := 79) C dX6_count_1 (by rw [hx5]; decide) (by rw [hx5]; decide) (by rw [hx5]; rfl) (by decide) ?_
    refine aw_aload_n C dX6_count_79 rfl 0 rfl ?_
    obtain ⟨r4, hc, hf⟩ := bR_some hf
    refine aw_callVi (As := []) (rest := []) C rfl (by decide) rfl (kX6_falseNow (l := l) (D := D) (ad := ad) (cy := cy) (tb := tb) C.2.2.2.2.2.2.2.2.1 hc) (fun ht _ => cwV 0 ht gX6_count_X6_falseNow rfl rfl rfl (by decide +kernel) ⟨Nat.le_of_ble_eq_true rfl, Nat.le_of_ble_eq_true rfl⟩) rfl rfl (Nat.le_of_ble_eq_true rfl) dX6_count_80 ?_
    exact aw_iretW C dX6_count_83 hf
  rw [if_neg hx5] at hf
  rcases Decidable.em (a1 = 6) with hx6 | hx6
  · rw [if_pos hx6] at hf
    refine aw_tabIn (tgt := 84) C dX6_count_1 (by rw [hx6]; decide) (by rw [hx6]; decide) (by rw [hx6]; rfl) (by decide) ?_
    refine aw_aload_n C dX6_count_84 rfl 0 rfl ?_
    obtain ⟨r6, h5, hc, hf⟩ := bW_some hf
    refine aw_callVi (As := []) (rest := []) C rfl (by decide) rfl (kX6_piecesNow (l := l) (D := D) (ad := ad) (cy := cy) (tb := tb) C.2.2.2.2.2.2.2.2.1 hc) (fun ht _ => cwV 0 ht gX6_count_X6_piecesNow rfl rfl rfl (by decide +kernel) ⟨Nat.le_of_ble_eq_true rfl, Nat.le_of_ble_eq_true rfl⟩) rfl rfl (Nat.le_of_ble_eq_true rfl) dX6_count_85 ?_
    exact aw_iretW C dX6_count_88 hf
  rw [if_neg hx6] at hf
  rcases Decidable.em (a1 = 7) with hx7 | hx7
  · rw [if_pos hx7] at hf
    refine aw_tabIn (tgt := 89) C dX6_count_1 (by rw [hx7]; decide) (by rw [hx7]; decide) (by rw [hx7]; rfl) (by decide) ?_
    refine aw_aload_n C dX6_count_89 rfl 0 rfl ?_
    obtain ⟨r8, h7, hc, hf⟩ := bW_some hf
    refine aw_callVi (As := []) (rest := []) C rfl (by decide) rfl (kX6_stuckNow (l := l) (D := D) (ad := ad) (cy := cy) (tb := tb) C.2.2.2.2.2.2.2.2.1 hc) (fun ht _ => cwV 0 ht gX6_count_X6_stuckNow rfl rfl rfl (by decide +kernel) ⟨Nat.le_of_ble_eq_true rfl, Nat.le_of_ble_eq_true rfl⟩) rfl rfl (Nat.le_of_ble_eq_true rfl) dX6_count_90 ?_
    exact aw_iretW C dX6_count_93 hf
  rw [if_neg hx7] at hf
  rcases Decidable.em (a1 = 8) with hx8 | hx8
  · rw [if_pos hx8] at hf
    refine aw_tabIn (tgt := 94) C dX6_count_1 (by rw [hx8]; decide) (by rw [hx8]; decide) (by rw [hx8]; rfl) (by decide) ?_
    refine aw_aload_n C dX6_count_94 rfl 0 rfl ?_
    refine aw_get C (kd_lt rfl (by decide)) (ce_6 rfl) rfl hinX6_count_6 17 (by decide) rfl (by decide +kernel) rfl dX6_count_95 ?_
    exact aw_iretW C dX6_count_98 hf
  rw [if_neg hx8] at hf
  have hsw := sw_out (x := a1) 9 (by decide) (fun j hj => by
    rcases (show j = 0 ∨ j = 1 ∨ j = 2 ∨ j = 3 ∨ j = 4 ∨ j = 5 ∨ j = 6 ∨ j = 7 ∨ j = 8 by omega) with rfl | rfl | rfl | rfl | rfl | rfl | rfl | rfl | rfl
    · exact hx0
    · exact hx1
    · exact hx2
    · exact hx3
    · exact hx4
    · exact hx5
    · exact hx6
    · exact hx7
    · exact hx8)
  refine aw_tabOut (tgt := 99) C dX6_count_1 (by omega) (by decide) ?_
  refine aw_bipush (v := (-2)) C dX6_count_99 (by decide) ?_
  exact aw_iretW C dX6_count_101 hf
theorem kX6_count {h : AH} {a1 : Int32} {r0 : Int32} {h0 : AH} (hi : Inj ad) (hf : fX6_count h a1 = some (r0, h0)) : Ki l yX6_count wsX6_count rmX6_count D ad cy tb [.ref (ad 29), .int a1] h r0 h0 := met_i (lv := [(0, .ref (ad 29)), (1, .int a1)]) hi (by decide) rfl (Nat.le_of_ble_eq_true rfl) rfl rfl (fun _ _ _ _ _ _ _ _ C => tX6_count_0 C  hf)
