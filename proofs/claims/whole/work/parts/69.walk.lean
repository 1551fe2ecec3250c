variable {p : Program} {l : Launch} {e : Env} {s : State} {m : MethodId} {args : Array Value} {below : List Frame} {meth : Method} {c : Code} {D : va_G} {ad : Nat → Nat} {cy : Nat → ClassId} {tb : Nat → Nat}
set_option maxRecDepth 20000 in
theorem ggX6_stuckDigest_X6_wordsOf : GoodIn wsX6_stuckDigest wsX6_wordsOf := goodIn_r _ [7, 8, 9, 10, 11, 6, 12, 13, 14, 15, 16, 17, 18, 19, 20, 21, 22, 23, 24, 25, 26, 27, 28, 29, 30, 31, 32, 33, 56, 57, 58, 59, 60, 61, 62, 63, 64, 65, 66, 67, 68, 69, 70, 71, 72, 73] (by decide +kernel) (by decide +kernel)
set_option maxRecDepth 20000 in
theorem gX6_stuckDigest_X6_wordsOf : GoodIn wsX6_stuckDigest (wsV RX6 166 RX6 yX6_wordsOf wsX6_wordsOf) := goodIn_app (goodIn_of _ (by decide +kernel)) ggX6_stuckDigest_X6_wordsOf
set_option maxRecDepth 20000 in
theorem ggX6_stuckDigest_X6_stallOf : GoodIn wsX6_stuckDigest wsX6_stallOf := goodIn_r _ [37, 8, 9, 10, 11, 6, 12, 13, 14, 15, 16, 17, 18, 19, 20, 21, 22, 23, 24, 25, 26, 27, 28, 29, 30, 31, 32, 33, 56, 57, 58, 59, 60, 61, 62, 63, 64, 65, 66, 67, 68, 69, 70, 71, 72, 73] (by decide +kernel) (by decide +kernel)
set_option maxRecDepth 20000 in
theorem gX6_stuckDigest_X6_stallOf : GoodIn wsX6_stuckDigest (wsV RX6 169 RX6 yX6_stallOf wsX6_stallOf) := goodIn_app (goodIn_of _ (by decide +kernel)) ggX6_stuckDigest_X6_stallOf
set_option maxRecDepth 20000 in
theorem ggX6_stuckDigest_X6_findsPieces : GoodIn wsX6_stuckDigest wsX6_findsPieces := goodIn_r _ [41, 2, 42, 17, 43, 8, 44, 45, 46, 6, 47, 21, 22, 23, 56, 57, 58, 59, 60, 61, 62, 63, 64, 65, 66, 67, 68, 69, 70, 71, 72, 73] (by decide +kernel) (by decide +kernel)
set_option maxRecDepth 20000 in
theorem gX6_stuckDigest_X6_findsPieces : GoodIn wsX6_stuckDigest (wsV RX6 181 RX6 yX6_findsPieces wsX6_findsPieces) := goodIn_app (goodIn_of _ (by decide +kernel)) ggX6_stuckDigest_X6_findsPieces
set_option maxRecDepth 20000 in
theorem ggX6_stuckDigest_X6_pieceBy : GoodIn wsX6_stuckDigest wsX6_pieceBy := goodIn_r _ [51, 42, 8, 17, 52, 53, 54, 6, 55, 21, 22, 23, 18, 19, 20, 56, 57, 58, 59, 60, 61, 62, 63, 64, 65, 66, 67, 68, 69, 70, 71, 72, 73] (by decide +kernel) (by decide +kernel)
set_option maxRecDepth 20000 in
theorem gX6_stuckDigest_X6_pieceBy : GoodIn wsX6_stuckDigest (wsV RX6 184 RX6 yX6_pieceBy wsX6_pieceBy) := goodIn_app (goodIn_of _ (by decide +kernel)) ggX6_stuckDigest_X6_pieceBy
theorem dX6_stuckDigest_0 : decode cX6_stuckDigest 0 = .ok (.lload_n 1, 1) := by decide +kernel
theorem dX6_stuckDigest_1 : decode cX6_stuckDigest 1 = .ok (.lstore_n 3, 1) := by decide +kernel
theorem dX6_stuckDigest_2 : decode cX6_stuckDigest 2 = .ok (.aload_n 0, 1) := by decide +kernel
theorem dX6_stuckDigest_3 : decode cX6_stuckDigest 3 = .ok (.iconst 1, 1) := by decide +kernel
theorem dX6_stuckDigest_4 : decode cX6_stuckDigest 4 = .ok (.invokevirtual 166, 3) := by decide +kernel
theorem dX6_stuckDigest_7 : decode cX6_stuckDigest 7 = .ok (.istore 5, 2) := by decide +kernel
theorem dX6_stuckDigest_9 : decode cX6_stuckDigest 9 = .ok (.iconst 0, 1) := by decide +kernel
theorem dX6_stuckDigest_10 : decode cX6_stuckDigest 10 = .ok (.istore 6, 2) := by decide +kernel
theorem dX6_stuckDigest_12 : decode cX6_stuckDigest 12 = .ok (.iload 6, 2) := by decide +kernel
theorem dX6_stuckDigest_14 : decode cX6_stuckDigest 14 = .ok (.iload 5, 2) := by decide +kernel
theorem dX6_stuckDigest_16 : decode cX6_stuckDigest 16 = .ok (.if_icmp .ge 23, 3) := by decide +kernel
theorem dX6_stuckDigest_19 : decode cX6_stuckDigest 19 = .ok (.ldc2_w 214, 3) := by decide +kernel
theorem dX6_stuckDigest_22 : decode cX6_stuckDigest 22 = .ok (.lload_n 3, 1) := by decide +kernel
theorem dX6_stuckDigest_23 : decode cX6_stuckDigest 23 = .ok (.lmul, 1) := by decide +kernel
theorem dX6_stuckDigest_24 : decode cX6_stuckDigest 24 = .ok (.aload_n 0, 1) := by decide +kernel
theorem dX6_stuckDigest_25 : decode cX6_stuckDigest 25 = .ok (.iload 6, 2) := by decide +kernel
theorem dX6_stuckDigest_27 : decode cX6_stuckDigest 27 = .ok (.invokevirtual 169, 3) := by decide +kernel
theorem dX6_stuckDigest_30 : decode cX6_stuckDigest 30 = .ok (.i2l, 1) := by decide +kernel
theorem dX6_stuckDigest_31 : decode cX6_stuckDigest 31 = .ok (.ladd, 1) := by decide +kernel
theorem dX6_stuckDigest_32 : decode cX6_stuckDigest 32 = .ok (.lstore_n 3, 1) := by decide +kernel
theorem dX6_stuckDigest_33 : decode cX6_stuckDigest 33 = .ok (.iinc 6 1, 3) := by decide +kernel
theorem dX6_stuckDigest_36 : decode cX6_stuckDigest 36 = .ok (.goto (-24), 3) := by decide +kernel
theorem dX6_stuckDigest_39 : decode cX6_stuckDigest 39 = .ok (.aload_n 0, 1) := by decide +kernel
theorem dX6_stuckDigest_40 : decode cX6_stuckDigest 40 = .ok (.invokevirtual 181, 3) := by decide +kernel
theorem dX6_stuckDigest_43 : decode cX6_stuckDigest 43 = .ok (.iconst 0, 1) := by decide +kernel
theorem dX6_stuckDigest_44 : decode cX6_stuckDigest 44 = .ok (.istore 6, 2) := by decide +kernel
theorem dX6_stuckDigest_46 : decode cX6_stuckDigest 46 = .ok (.iload 6, 2) := by decide +kernel
theorem dX6_stuckDigest_48 : decode cX6_stuckDigest 48 = .ok (.aload_n 0, 1) := by decide +kernel
theorem dX6_stuckDigest_49 : decode cX6_stuckDigest 49 = .ok (.getfield 172, 3) := by decide +kernel
theorem dX6_stuckDigest_52 : decode cX6_stuckDigest 52 = .ok (.if_icmp .ge 40, 3) := by decide +kernel
theorem dX6_stuckDigest_55 : decode cX6_stuckDigest 55 = .ok (.iconst 0, 1) := by decide +kernel
theorem dX6_stuckDigest_56 : decode cX6_stuckDigest 56 = .ok (.istore 7, 2) := by decide +kernel
theorem dX6_stuckDigest_58 : decode cX6_stuckDigest 58 = .ok (.iload 7, 2) := by decide +kernel
theorem dX6_stuckDigest_60 : decode cX6_stuckDigest 60 = .ok (.iconst 4, 1) := by decide +kernel
theorem dX6_stuckDigest_61 : decode cX6_stuckDigest 61 = .ok (.if_icmp .ge 25, 3) := by decide +kernel
theorem dX6_stuckDigest_64 : decode cX6_stuckDigest 64 = .ok (.ldc2_w 214, 3) := by decide +kernel
theorem dX6_stuckDigest_67 : decode cX6_stuckDigest 67 = .ok (.lload_n 3, 1) := by decide +kernel
theorem dX6_stuckDigest_68 : decode cX6_stuckDigest 68 = .ok (.lmul, 1) := by decide +kernel
theorem dX6_stuckDigest_69 : decode cX6_stuckDigest 69 = .ok (.aload_n 0, 1) := by decide +kernel
theorem dX6_stuckDigest_70 : decode cX6_stuckDigest 70 = .ok (.iload 6, 2) := by decide +kernel
theorem dX6_stuckDigest_72 : decode cX6_stuckDigest 72 = .ok (.iload 7, 2) := by decide +kernel
theorem dX6_stuckDigest_74 : decode cX6_stuckDigest 74 = .ok (.invokevirtual 184, 3) := by decide +kernel
theorem dX6_stuckDigest_77 : decode cX6_stuckDigest 77 = .ok (.i2l, 1) := by decide +kernel
theorem dX6_stuckDigest_78 : decode cX6_stuckDigest 78 = .ok (.ladd, 1) := by decide +kernel
theorem dX6_stuckDigest_79 : decode cX6_stuckDigest 79 = .ok (.lstore_n 3, 1) := by decide +kernel
theorem dX6_stuckDigest_80 : decode cX6_stuckDigest 80 = .ok (.iinc 7 1, 3) := by decide +kernel
theorem dX6_stuckDigest_83 : decode cX6_stuckDigest 83 = .ok (.goto (-25), 3) := by decide +kernel
theorem dX6_stuckDigest_86 : decode cX6_stuckDigest 86 = .ok (.iinc 6 1, 3) := by decide +kernel
theorem dX6_stuckDigest_89 : decode cX6_stuckDigest 89 = .ok (.goto (-43), 3) := by decide +kernel
theorem dX6_stuckDigest_92 : decode cX6_stuckDigest 92 = .ok (.lload_n 3, 1) := by decide +kernel
theorem dX6_stuckDigest_93 : decode cX6_stuckDigest 93 = .ok (.lreturn, 1) := by decide +kernel
abbrev rmX6_stuckDigest : Room := { frames := 5, cells := 0, slots := 0, locals := 118 }
set_option maxRecDepth 100000 in
theorem hinX6_stuckDigest_6 : ∀ w ∈ wsX60, w ∈ wsX6_stuckDigest := by decide +kernel
set_option maxHeartbeats 4000000 in
set_option maxRecDepth 100000 in
theorem tX6_stuckDigest_58b {h : AH} {a1 : Int64} {k46 : AH → Int64 → Int32 → Option (Int64 × AH)} {k58 : AH → Int64 → Int32 → Int32 → Option (Int64 × AH)} {x3 : Int64} {x6 : Int32} {x7 : Int32} {r0 : Int64} {h0 : AH} (C : Cx p rmX6_stuckDigest s m args meth c RX6 cX6_stuckDigest 8 (some .long) wsX6_stuckDigest D ad cy tb 0 0) (H46 : ∀ (h : AH) (x3 : Int64) (x6 : Int32), k46 h x3 x6 = some (r0, h0) → AW p l e rmX6_stuckDigest s m args below meth c 8 D ad cy 0 0 (Ql D ad cy below args s r0 h0) 46 [(0, .ref (ad 29)), (1, .long a1), (3, .long x3), (6, .int x6)] [] h) (H58 : ∀ (h : AH) (x3 : Int64) (x6 : Int32) (x7 : Int32), k58 h x3 x6 x7 = some (r0, h0) → AW p l e rmX6_stuckDigest s m args below meth c 8 D ad cy 0 0 (Ql D ad cy below args s r0 h0) 58 [(0, .ref (ad 29)), (1, .long a1), (3, .long x3), (6, .int x6), (7, .int x7)] [] h) (hf : fX6_stuckDigest_58b k46 k58 a1 h x3 x6 x7 = some (r0, h0)) : AW p l e rmX6_stuckDigest s m args below meth c 8 D ad cy 0 0 (Ql D ad cy below args s r0 h0) 58 [(0, .ref (ad 29)), (1, .long a1), (3, .long x3), (6, .int x6), (7, .int x7)] [] h := by
  unfold fX6_stuckDigest_58b at hf
  refine aw_iload C dX6_stuckDigest_58 4 rfl ?_
  refine aw_iconst (v := 4) C dX6_stuckDigest_60 (by decide) ?_
  refine aw_icmp_ge (tgt := 86) C dX6_stuckDigest_61 (by decide) hf (fun hf => ?_) (fun hf => ?_)
  · obtain ⟨v1, hvv1, hf⟩ := nm_ex hf
    refine aw_iinc (j := 3) (v := v1) (lv1 := [(6, .int v1), (0, .ref (ad 29)), (1, .long a1), (3, .long x3), (7, .int x7)]) C dX6_stuckDigest_86 rfl hvv1 (by decide) rfl ?_
    refine aw_goto (tgt := 46) C dX6_stuckDigest_89 (by decide) ?_
    refine aw_sub [1, 2, 3, 0] rfl ?_
    exact H46 h x3 v1 hf
  refine aw_ldc2 (v := 31) C (by decide +kernel) dX6_stuckDigest_64 ?_
  refine aw_lload_n C dX6_stuckDigest_67 rfl 2 rfl ?_
  refine aw_lmul C dX6_stuckDigest_68 ?_
  refine aw_aload_n C dX6_stuckDigest_69 rfl 0 rfl ?_
  refine aw_iload C dX6_stuckDigest_70 3 rfl ?_
  refine aw_iload C dX6_stuckDigest_72 4 rfl ?_
  obtain ⟨r2, hc, hf⟩ := bR_some hf
  refine aw_callVi (As := [.int x6, .int x7]) (rest := [.long (31 * x3)]) C rfl (by decide) rfl (kX6_pieceBy (l := l) (D := D) (ad := ad) (cy := cy) (tb := tb) C.2.2.2.2.2.2.2.2.1 hc) (fun ht _ => cwV 2 ht gX6_stuckDigest_X6_pieceBy rfl rfl rfl (by decide +kernel) ⟨Nat.le_of_ble_eq_true rfl, Nat.le_of_ble_eq_true rfl⟩) rfl rfl (Nat.le_of_ble_eq_true rfl) dX6_stuckDigest_74 ?_
  refine aw_i2l C dX6_stuckDigest_77 ?_
  refine aw_ladd C dX6_stuckDigest_78 ?_
  refine aw_nmL hf (fun v3 hf => ?_)
  refine aw_lstore_n (lv1 := [(3, .long v3), (0, .ref (ad 29)), (1, .long a1), (6, .int x6), (7, .int x7)]) C dX6_stuckDigest_79 rfl (by decide) rfl ?_
  obtain ⟨v4, hvv4, hf⟩ := nm_ex hf
  refine aw_iinc (j := 4) (v := v4) (lv1 := [(7, .int v4), (3, .long v3), (0, .ref (ad 29)), (1, .long a1), (6, .int x6)]) C dX6_stuckDigest_80 rfl hvv4 (by decide) rfl ?_
  refine aw_goto (tgt := 58) C dX6_stuckDigest_83 (by decide) ?_
  refine aw_sub [2, 3, 1, 4, 0] rfl ?_
  exact H58 h v3 x6 v4 hf
set_option maxHeartbeats 4000000 in
set_option maxRecDepth 100000 in
theorem tX6_stuckDigest_58  {a1 : Int64} {k46 : AH → Int64 → Int32 → Option (Int64 × AH)} {r0 : Int64} {h0 : AH} (C : Cx p rmX6_stuckDigest s m args meth c RX6 cX6_stuckDigest 8 (some .long) wsX6_stuckDigest D ad cy tb 0 0) (H46 : ∀ (h : AH) (x3 : Int64) (x6 : Int32), k46 h x3 x6 = some (r0, h0) → AW p l e rmX6_stuckDigest s m args below meth c 8 D ad cy 0 0 (Ql D ad cy below args s r0 h0) 46 [(0, .ref (ad 29)), (1, .long a1), (3, .long x3), (6, .int x6)] [] h) : ∀ (n : Nat) (h : AH) (x3 : Int64) (x6 : Int32) (x7 : Int32), fX6_stuckDigest_58 k46 a1 n h x3 x6 x7 = some (r0, h0) → AW p l e rmX6_stuckDigest s m args below meth c 8 D ad cy 0 0 (Ql D ad cy below args s r0 h0) 58 [(0, .ref (ad 29)), (1, .long a1), (3, .long x3), (6, .int x6), (7, .int x7)] [] h := by
  intro n
  induction n with
  | zero => intro h x3 x6 x7 hf; cases hf
  | succ n ih => intro h x3 x6 x7 hf; exact tX6_stuckDigest_58b C  H46 ih  hf
set_option maxHeartbeats 4000000 in
set_option maxRecDepth 100000 in
theorem tX6_stuckDigest_46b {h : AH} {a1 : Int64} {k46 : AH → Int64 → Int32 → Option (Int64 × AH)} {x3 : Int64} {x6 : Int32} {r0 : Int64} {h0 : AH} (C : Cx p rmX6_stuckDigest s m args meth c RX6 cX6_stuckDigest 8 (some .long) wsX6_stuckDigest D ad cy tb 0 0) (H46 : ∀ (h : AH) (x3 : Int64) (x6 : Int32), k46 h x3 x6 = some (r0, h0) → AW p l e rmX6_stuckDigest s m args below meth c 8 D ad cy 0 0 (Ql D ad cy below args s r0 h0) 46 [(0, .ref (ad 29)), (1, .long a1), (3, .long x3), (6, .int x6)] [] h) (hf : fX6_stuckDigest_46b k46 a1 h x3 x6 = some (r0, h0)) : AW p l e rmX6_stuckDigest s m args below meth c 8 D ad cy 0 0 (Ql D ad cy below args s r0 h0) 46 [(0, .ref (ad 29)), (1, .long a1), (3, .long x3), (6, .int x6)] [] h := by
  unfold fX6_stuckDigest_46b at hf
  refine aw_iload C dX6_stuckDigest_46 3 rfl ?_
  refine aw_aload_n C dX6_stuckDigest_48 rfl 0 rfl ?_
  refine aw_get C (kd_lt rfl (by decide)) (ce_6 rfl) rfl hinX6_stuckDigest_6 10 (by decide) rfl (by decide +kernel) rfl dX6_stuckDigest_49 ?_
  refine aw_icmp_ge (tgt := 92) C dX6_stuckDigest_52 (by decide) hf (fun hf => ?_) (fun hf => ?_)
  · refine aw_lload_n C dX6_stuckDigest_92 rfl 2 rfl ?_
    exact aw_lretW C dX6_stuckDigest_93 hf
  refine aw_iconst (v := 0) C dX6_stuckDigest_55 (by decide) ?_
  refine aw_istore (lv1 := [(7, .int 0), (0, .ref (ad 29)), (1, .long a1), (3, .long x3), (6, .int x6)]) C dX6_stuckDigest_56 (by decide) rfl ?_
  refine aw_sub [1, 2, 3, 4, 0] rfl ?_
  exact tX6_stuckDigest_58 C  H46 FU h x3 x6 0 hf
set_option maxHeartbeats 4000000 in
set_option maxRecDepth 100000 in
theorem tX6_stuckDigest_46  {a1 : Int64} {r0 : Int64} {h0 : AH} (C : Cx p rmX6_stuckDigest s m args meth c RX6 cX6_stuckDigest 8 (some .long) wsX6_stuckDigest D ad cy tb 0 0) : ∀ (n : Nat) (h : AH) (x3 : Int64) (x6 : Int32), fX6_stuckDigest_46 a1 n h x3 x6 = some (r0, h0) → AW p l e rmX6_stuckDigest s m args below meth c 8 D ad cy 0 0 (Ql D ad cy below args s r0 h0) 46 [(0, .ref (ad 29)), (1, .long a1), (3, .long x3), (6, .int x6)] [] h := by
  intro n
  induction n with
  | zero => intro h x3 x6 hf; cases hf
  | succ n ih => intro h x3 x6 hf; exact tX6_stuckDigest_46b C  ih  hf
set_option maxHeartbeats 4000000 in
set_option maxRecDepth 100000 in
theorem tX6_stuckDigest_12b {h : AH} {a1 : Int64} {k12 : AH → Int64 → Int32 → Int32 → Option (Int64 × AH)} {x3 : Int64} {x5 : Int32} {x6 : Int32} {r0 : Int64} {h0 : AH} (C : Cx p rmX6_stuckDigest s m args meth c RX6 cX6_stuckDigest 8 (some .long) wsX6_stuckDigest D ad cy tb 0 0) (H12 : ∀ (h : AH) (x3 : Int64) (x5 : Int32) (x6 : Int32), k12 h x3 x5 x6 = some (r0, h0) → AW p l e rmX6_stuckDigest s m args below meth c 8 D ad cy 0 0 (Ql D ad cy below args s r0 h0) 12 [(0, .ref (ad 29)), (1, .long a1), (3, .long x3), (5, .int x5), (6, .int x6)] [] h) (hf : fX6_stuckDigest_12b k12 a1 h x3 x5 x6 = some (r0, h0)) : AW p l e rmX6_stuckDigest s m args below meth c 8 D ad cy 0 0 (Ql D ad cy below args s r0 h0) 12 [(0, .ref (ad 29)), (1, .long a1), (3, .long x3), (5, .int x5), (6, .int x6)] [] h := by
  unfold fX6_stuckDigest_12b at hf
  refine aw_iload C dX6_stuckDigest_12 4 rfl ?_
  refine aw_iload C dX6_stuckDigest_14 3 rfl ?_
  refine aw_icmp_ge (tgt := 39) C dX6_stuckDigest_16 (by decide) hf (fun hf => ?_) (fun hf => ?_)
  · refine aw_aload_n C dX6_stuckDigest_39 rfl 0 rfl ?_
    obtain ⟨h1, hc, hf⟩ := bR_some hf
    refine aw_callVv (As := []) (rest := []) C rfl (by decide) rfl (kX6_findsPieces (l := l) (D := D) (ad := ad) (cy := cy) (tb := tb) C.2.2.2.2.2.2.2.2.1 hc) (fun ht _ => cwV 0 ht gX6_stuckDigest_X6_findsPieces rfl rfl rfl (by decide +kernel) ⟨Nat.le_of_ble_eq_true rfl, Nat.le_of_ble_eq_true rfl⟩) rfl rfl (Nat.le_of_ble_eq_true rfl) dX6_stuckDigest_40 ?_
    refine aw_iconst (v := 0) C dX6_stuckDigest_43 (by decide) ?_
    refine aw_istore (lv1 := [(6, .int 0), (0, .ref (ad 29)), (1, .long a1), (3, .long x3), (5, .int x5)]) C dX6_stuckDigest_44 (by decide) rfl ?_
    refine aw_sub [1, 2, 3, 0] rfl ?_
    exact tX6_stuckDigest_46 C   FU h1 x3 0 hf
  refine aw_ldc2 (v := 31) C (by decide +kernel) dX6_stuckDigest_19 ?_
  refine aw_lload_n C dX6_stuckDigest_22 rfl 2 rfl ?_
  refine aw_lmul C dX6_stuckDigest_23 ?_
  refine aw_aload_n C dX6_stuckDigest_24 rfl 0 rfl ?_
  refine aw_iload C dX6_stuckDigest_25 4 rfl ?_
  obtain ⟨r2, hc, hf⟩ := bR_some hf
  refine aw_callVi (As := [.int x6]) (rest := [.long (31 * x3)]) C rfl (by decide) rfl (kX6_stallOf (l := l) (D := D) (ad := ad) (cy := cy) (tb := tb) C.2.2.2.2.2.2.2.2.1 hc) (fun ht _ => cwV 1 ht gX6_stuckDigest_X6_stallOf rfl rfl rfl (by decide +kernel) ⟨Nat.le_of_ble_eq_true rfl, Nat.le_of_ble_eq_true rfl⟩) rfl rfl (Nat.le_of_ble_eq_true rfl) dX6_stuckDigest_27 ?_
  refine aw_i2l C dX6_stuckDigest_30 ?_
  refine aw_ladd C dX6_stuckDigest_31 ?_
  refine aw_nmL hf (fun v3 hf => ?_)
  refine aw_lstore_n (lv1 := [(3, .long v3), (0, .ref (ad 29)), (1, .long a1), (5, .int x5), (6, .int x6)]) C dX6_stuckDigest_32 rfl (by decide) rfl ?_
  obtain ⟨v4, hvv4, hf⟩ := nm_ex hf
  refine aw_iinc (j := 4) (v := v4) (lv1 := [(6, .int v4), (3, .long v3), (0, .ref (ad 29)), (1, .long a1), (5, .int x5)]) C dX6_stuckDigest_33 rfl hvv4 (by decide) rfl ?_
  refine aw_goto (tgt := 12) C dX6_stuckDigest_36 (by decide) ?_
  refine aw_sub [2, 3, 1, 4, 0] rfl ?_
  exact H12 h v3 x5 v4 hf
set_option maxHeartbeats 4000000 in
set_option maxRecDepth 100000 in
theorem tX6_stuckDigest_12  {a1 : Int64} {r0 : Int64} {h0 : AH} (C : Cx p rmX6_stuckDigest s m args meth c RX6 cX6_stuckDigest 8 (some .long) wsX6_stuckDigest D ad cy tb 0 0) : ∀ (n : Nat) (h : AH) (x3 : Int64) (x5 : Int32) (x6 : Int32), fX6_stuckDigest_12 a1 n h x3 x5 x6 = some (r0, h0) → AW p l e rmX6_stuckDigest s m args below meth c 8 D ad cy 0 0 (Ql D ad cy below args s r0 h0) 12 [(0, .ref (ad 29)), (1, .long a1), (3, .long x3), (5, .int x5), (6, .int x6)] [] h := by
  intro n
  induction n with
  | zero => intro h x3 x5 x6 hf; cases hf
  | succ n ih => intro h x3 x5 x6 hf; exact tX6_stuckDigest_12b C  ih  hf
set_option maxHeartbeats 4000000 in
set_option maxRecDepth 100000 in
theorem tX6_stuckDigest_0 {h : AH} {a1 : Int64} {r0 : Int64} {h0 : AH} (C : Cx p rmX6_stuckDigest s m args meth c RX6 cX6_stuckDigest 8 (some .long) wsX6_stuckDigest D ad cy tb 0 0) (hf : fX6_stuckDigest h a1 = some (r0, h0)) : AW p l e rmX6_stuckDigest s m args below meth c 8 D ad cy 0 0 (Ql D ad cy below args s r0 h0) 0 [(0, .ref (ad 29)), (1, .long a1)] [] h := by
  unfold fX6_stuckDigest at hf
  refine aw_lload_n C dX6_stuckDigest_0 rfl 1 rfl ?_
  refine aw_lstore_n (lv1 := [(3, .long a1), (0, .ref (ad 29)), (1, .long a1)]) C dX6_stuckDigest_1 rfl (by decide) rfl ?_
  refine aw_aload_n C dX6_stuckDigest_2 rfl 1 rfl ?_
  refine aw_iconst (v := 1) C dX6_stuckDigest_3 (by decide) ?_
  obtain ⟨r1, hc, hf⟩ := bR_some hf
  refine aw_callVi (As := [.int 1]) (rest := []) C rfl (by decide) rfl (kX6_wordsOf (l := l) (D := D) (ad := ad) (cy := cy) (tb := tb) C.2.2.2.2.2.2.2.2.1 hc) (fun ht _ => cwV 1 ht gX6_stuckDigest_X6_wordsOf rfl rfl rfl (by decide +kernel) ⟨Nat.le_of_ble_eq_true rfl, Nat.le_of_ble_eq_true rfl⟩) rfl rfl (Nat.le_of_ble_eq_true rfl) dX6_stuckDigest_4 ?_
  refine aw_istore (lv1 := [(5, .int r1), (3, .long a1), (0, .ref (ad 29)), (1, .long a1)]) C dX6_stuckDigest_7 (by decide) rfl ?_
  refine aw_iconst (v := 0) C dX6_stuckDigest_9 (by decide) ?_
  refine aw_istore (lv1 := [(6, .int 0), (5, .int r1), (3, .long a1), (0, .ref (ad 29)), (1, .long a1)]) C dX6_stuckDigest_10 (by decide) rfl ?_
  refine aw_sub [3, 4, 2, 1, 0] rfl ?_
  exact tX6_stuckDigest_12 C   FU h a1 r1 0 hf
theorem kX6_stuckDigest {h : AH} {a1 : Int64} {r0 : Int64} {h0 : AH} (hi : Inj ad) (hf : fX6_stuckDigest h a1 = some (r0, h0)) : Kl l yX6_stuckDigest wsX6_stuckDigest rmX6_stuckDigest D ad cy tb [.ref (ad 29), .long a1] h r0 h0 := met_l (lv := [(0, .ref (ad 29)), (1, .long a1)]) hi (by decide) rfl (Nat.le_of_ble_eq_true rfl) rfl rfl (fun _ _ _ _ _ _ _ _ C => tX6_stuckDigest_0 C  hf)
set_option maxRecDepth 20000 in
theorem ggX6_digest_X6_count : GoodIn wsX6_digest wsX6_count := goodIn_r _ [10, 3, 4, 11, 12, 13, 14, 9, 15, 16, 17, 18, 19, 20, 21, 22, 23, 24, 25, 26, 27, 28, 29, 30, 31, 32, 33, 34, 35, 36, 37, 38, 39, 40, 41, 42, 43, 44, 45, 46, 47, 48, 49, 50, 51, 52, 53, 54, 55, 56, 57, 58, 59, 60, 61, 62, 63, 64, 65, 66, 67, 68, 69, 70, 71, 72, 73, 74, 75, 76, 168, 169, 170, 171, 172, 173, 174, 175, 176, 177, 178, 179, 180, 181, 182, 183, 184, 185] (by decide +kernel) (by decide +kernel)
set_option maxRecDepth 20000 in
theorem gX6_digest_X6_count : GoodIn wsX6_digest (wsV RX6 218 RX6 yX6_count wsX6_count) := goodIn_app (goodIn_of _ (by decide +kernel)) ggX6_digest_X6_count
set_option maxRecDepth 20000 in
theorem ggX6_digest_X6_blockDigest : GoodIn wsX6_digest wsX6_blockDigest := goodIn_r _ [80, 2, 81, 82, 83, 9, 84, 85, 86, 87, 88, 89, 16, 49, 90, 91, 92, 93, 4, 5, 94, 95, 96, 97, 98, 99, 100, 101, 102, 35, 36, 37, 38, 39, 40, 41, 32, 33, 34, 42, 43, 44, 25, 26, 27, 28, 29, 30, 31, 21, 22, 23, 24, 103, 104, 105, 106, 107, 108, 109, 110, 111, 112, 113, 114, 3, 115, 116, 117, 118, 168, 169, 170, 171, 172, 173, 174, 175, 176, 177, 178, 179, 180, 181, 182, 183, 184, 185] (by decide +kernel) (by decide +kernel)
set_option maxRecDepth 20000 in
theorem gX6_digest_X6_blockDigest : GoodIn wsX6_digest (wsV RX6 221 RX6 yX6_blockDigest wsX6_blockDigest) := goodIn_app (goodIn_of _ (by decide +kernel)) ggX6_digest_X6_blockDigest
set_option maxRecDepth 20000 in
theorem ggX6_digest_X6_stuckDigest : GoodIn wsX6_digest wsX6_stuckDigest := goodIn_r _ [122, 2, 54, 17, 18, 19, 9, 20, 3, 21, 22, 23, 24, 25, 26, 27, 28, 16, 29, 30, 31, 32, 33, 34, 35, 36, 37, 38, 39, 40, 41, 42, 43, 44, 123, 124, 125, 126, 55, 56, 57, 58, 59, 60, 61, 62, 63, 64, 69, 70, 71, 72, 73, 74, 75, 76, 168, 169, 170, 171, 172, 173, 174, 175, 176, 177, 178, 179, 180, 181, 182, 183, 184, 185] (by decide +kernel) (by decide +kernel)
set_option maxRecDepth 20000 in
theorem gX6_digest_X6_stuckDigest : GoodIn wsX6_digest (wsV RX6 225 RX6 yX6_stuckDigest wsX6_stuckDigest) := goodIn_app (goodIn_of _ (by decide +kernel)) ggX6_digest_X6_stuckDigest
set_option maxRecDepth 20000 in
theorem ggX6_digest_X6_wouldBe : GoodIn wsX6_digest wsX6_wouldBe := goodIn_r _ [130, 4, 107, 131, 16, 132, 5, 133, 134, 135, 9, 136, 3, 137, 138, 139, 140, 141, 142, 143, 144, 145, 146, 147, 148, 21, 22, 23, 24, 25, 26, 27, 28, 29, 30, 31, 32, 33, 34, 35, 36, 37, 38, 39, 40, 41, 42, 43, 44, 103, 104, 105, 106, 108, 109, 110, 111, 112, 113, 114, 115, 116, 117, 118, 149, 150, 151, 152, 12, 13, 14, 15, 168, 169, 170, 171, 172, 173, 174, 175, 176, 177, 178, 179, 180, 181, 182, 183, 184, 185] (by decide +kernel) (by decide +kernel)
set_option maxRecDepth 20000 in
theorem gX6_digest_X6_wouldBe : GoodIn wsX6_digest (wsV RX6 193 RX6 yX6_wouldBe wsX6_wouldBe) := goodIn_app (goodIn_of _ (by decide +kernel)) ggX6_digest_X6_wouldBe
set_option maxRecDepth 20000 in
theorem ggX6_digest_X6_bestOf : GoodIn wsX6_digest wsX6_bestOf := goodIn_r _ [156, 3, 107, 127, 128, 129, 9, 130, 4, 131, 16, 132, 5, 133, 134, 135, 136, 137, 138, 139, 140, 141, 142, 143, 144, 145, 146, 147, 148, 21, 22, 23, 24, 25, 26, 27, 28, 29, 30, 31, 32, 33, 34, 35, 36, 37, 38, 39, 40, 41, 42, 43, 44, 103, 104, 105, 106, 108, 109, 110, 111, 112, 113, 114, 115, 116, 117, 118, 149, 150, 151, 152, 12, 13, 14, 15, 168, 169, 170, 171, 172, 173, 174, 175, 176, 177, 178, 179, 180, 181, 182, 183, 184, 185] (by decide +kernel) (by decide +kernel)
set_option maxRecDepth 20000 in
theorem gX6_digest_X6_bestOf : GoodIn wsX6_digest (wsV RX6 196 RX6 yX6_bestOf wsX6_bestOf) := goodIn_app (goodIn_of _ (by decide +kernel)) ggX6_digest_X6_bestOf
set_option maxRecDepth 20000 in
theorem ggX6_digest_X6_aroundOf : GoodIn wsX6_digest wsX6_aroundOf := goodIn_r _ [160, 3, 161, 162, 163, 9, 164, 165, 166, 167, 168, 169, 170, 171, 172, 173, 174, 175, 176, 177, 178, 179, 180, 181, 182, 183, 184, 185] (by decide +kernel) (by decide +kernel)
set_option maxRecDepth 20000 in
theorem gX6_digest_X6_aroundOf : GoodIn wsX6_digest (wsV RX6 190 RX6 yX6_aroundOf wsX6_aroundOf) := goodIn_app (goodIn_of _ (by decide +kernel)) ggX6_digest_X6_aroundOf
theorem dX6_digest_0 : decode cX6_digest 0 = .ok (.ldc2_w 216, 3) := by decide +kernel
theorem dX6_digest_3 : decode cX6_digest 3 = .ok (.lstore_n 1, 1) := by decide +kernel
theorem dX6_digest_4 : decode cX6_digest 4 = .ok (.iconst 0, 1) := by decide +kernel
theorem dX6_digest_5 : decode cX6_digest 5 = .ok (.istore_n 3, 1) := by decide +kernel
theorem dX6_digest_6 : decode cX6_digest 6 = .ok (.iload_n 3, 1) := by decide +kernel
theorem dX6_digest_7 : decode cX6_digest 7 = .ok (.bipush 8, 2) := by decide +kernel
theorem dX6_digest_9 : decode cX6_digest 9 = .ok (.if_icmp .ge 22, 3) := by decide +kernel
theorem dX6_digest_12 : decode cX6_digest 12 = .ok (.ldc2_w 214, 3) := by decide +kernel
theorem dX6_digest_15 : decode cX6_digest 15 = .ok (.lload_n 1, 1) := by decide +kernel
theorem dX6_digest_16 : decode cX6_digest 16 = .ok (.lmul, 1) := by decide +kernel
theorem dX6_digest_17 : decode cX6_digest 17 = .ok (.aload_n 0, 1) := by decide +kernel
theorem dX6_digest_18 : decode cX6_digest 18 = .ok (.iload_n 3, 1) := by decide +kernel
theorem dX6_digest_19 : decode cX6_digest 19 = .ok (.invokevirtual 218, 3) := by decide +kernel
theorem dX6_digest_22 : decode cX6_digest 22 = .ok (.i2l, 1) := by decide +kernel
theorem dX6_digest_23 : decode cX6_digest 23 = .ok (.ladd, 1) := by decide +kernel
theorem dX6_digest_24 : decode cX6_digest 24 = .ok (.lstore_n 1, 1) := by decide +kernel
theorem dX6_digest_25 : decode cX6_digest 25 = .ok (.iinc 3 1, 3) := by decide +kernel
theorem dX6_digest_28 : decode cX6_digest 28 = .ok (.goto (-22), 3) := by decide +kernel
theorem dX6_digest_31 : decode cX6_digest 31 = .ok (.iconst 1, 1) := by decide +kernel
theorem dX6_digest_32 : decode cX6_digest 32 = .ok (.istore_n 3, 1) := by decide +kernel
theorem dX6_digest_33 : decode cX6_digest 33 = .ok (.iload_n 3, 1) := by decide +kernel
theorem dX6_digest_34 : decode cX6_digest 34 = .ok (.aload_n 0, 1) := by decide +kernel
theorem dX6_digest_35 : decode cX6_digest 35 = .ok (.getfield 7, 3) := by decide +kernel
theorem dX6_digest_38 : decode cX6_digest 38 = .ok (.if_icmp .gt 16, 3) := by decide +kernel
theorem dX6_digest_41 : decode cX6_digest 41 = .ok (.aload_n 0, 1) := by decide +kernel
theorem dX6_digest_42 : decode cX6_digest 42 = .ok (.lload_n 1, 1) := by decide +kernel
theorem dX6_digest_43 : decode cX6_digest 43 = .ok (.iload_n 3, 1) := by decide +kernel
theorem dX6_digest_44 : decode cX6_digest 44 = .ok (.invokevirtual 221, 3) := by decide +kernel
theorem dX6_digest_47 : decode cX6_digest 47 = .ok (.lstore_n 1, 1) := by decide +kernel
theorem dX6_digest_48 : decode cX6_digest 48 = .ok (.iinc 3 1, 3) := by decide +kernel
theorem dX6_digest_51 : decode cX6_digest 51 = .ok (.goto (-18), 3) := by decide +kernel
theorem dX6_digest_54 : decode cX6_digest 54 = .ok (.iconst 0, 1) := by decide +kernel
theorem dX6_digest_55 : decode cX6_digest 55 = .ok (.istore_n 3, 1) := by decide +kernel
theorem dX6_digest_56 : decode cX6_digest 56 = .ok (.iload_n 3, 1) := by decide +kernel
theorem dX6_digest_57 : decode cX6_digest 57 = .ok (.aload_n 0, 1) := by decide +kernel
theorem dX6_digest_58 : decode cX6_digest 58 = .ok (.getfield 85, 3) := by decide +kernel
theorem dX6_digest_61 : decode cX6_digest 61 = .ok (.if_icmp .ge 23, 3) := by decide +kernel
theorem dX6_digest_64 : decode cX6_digest 64 = .ok (.ldc2_w 214, 3) := by decide +kernel
theorem dX6_digest_67 : decode cX6_digest 67 = .ok (.lload_n 1, 1) := by decide +kernel
theorem dX6_digest_68 : decode cX6_digest 68 = .ok (.lmul, 1) := by decide +kernel
theorem dX6_digest_69 : decode cX6_digest 69 = .ok (.aload_n 0, 1) := by decide +kernel
theorem dX6_digest_70 : decode cX6_digest 70 = .ok (.getfield 27, 3) := by decide +kernel
theorem dX6_digest_73 : decode cX6_digest 73 = .ok (.iload_n 3, 1) := by decide +kernel
theorem dX6_digest_74 : decode cX6_digest 74 = .ok (.iaload, 1) := by decide +kernel
theorem dX6_digest_75 : decode cX6_digest 75 = .ok (.i2l, 1) := by decide +kernel
theorem dX6_digest_76 : decode cX6_digest 76 = .ok (.ladd, 1) := by decide +kernel
theorem dX6_digest_77 : decode cX6_digest 77 = .ok (.lstore_n 1, 1) := by decide +kernel
theorem dX6_digest_78 : decode cX6_digest 78 = .ok (.iinc 3 1, 3) := by decide +kernel
theorem dX6_digest_81 : decode cX6_digest 81 = .ok (.goto (-25), 3) := by decide +kernel
theorem dX6_digest_84 : decode cX6_digest 84 = .ok (.aload_n 0, 1) := by decide +kernel
theorem dX6_digest_85 : decode cX6_digest 85 = .ok (.lload_n 1, 1) := by decide +kernel
theorem dX6_digest_86 : decode cX6_digest 86 = .ok (.invokevirtual 225, 3) := by decide +kernel
theorem dX6_digest_89 : decode cX6_digest 89 = .ok (.lstore_n 1, 1) := by decide +kernel
theorem dX6_digest_90 : decode cX6_digest 90 = .ok (.ldc2_w 214, 3) := by decide +kernel
theorem dX6_digest_93 : decode cX6_digest 93 = .ok (.lload_n 1, 1) := by decide +kernel
theorem dX6_digest_94 : decode cX6_digest 94 = .ok (.lmul, 1) := by decide +kernel
theorem dX6_digest_95 : decode cX6_digest 95 = .ok (.aload_n 0, 1) := by decide +kernel
theorem dX6_digest_96 : decode cX6_digest 96 = .ok (.iconst 2, 1) := by decide +kernel
theorem dX6_digest_97 : decode cX6_digest 97 = .ok (.iconst 3, 1) := by decide +kernel
theorem dX6_digest_98 : decode cX6_digest 98 = .ok (.iconst 0, 1) := by decide +kernel
theorem dX6_digest_99 : decode cX6_digest 99 = .ok (.invokevirtual 193, 3) := by decide +kernel
theorem dX6_digest_102 : decode cX6_digest 102 = .ok (.i2l, 1) := by decide +kernel
theorem dX6_digest_103 : decode cX6_digest 103 = .ok (.ladd, 1) := by decide +kernel
theorem dX6_digest_104 : decode cX6_digest 104 = .ok (.lstore_n 1, 1) := by decide +kernel
theorem dX6_digest_105 : decode cX6_digest 105 = .ok (.ldc2_w 214, 3) := by decide +kernel
theorem dX6_digest_108 : decode cX6_digest 108 = .ok (.lload_n 1, 1) := by decide +kernel
theorem dX6_digest_109 : decode cX6_digest 109 = .ok (.lmul, 1) := by decide +kernel
theorem dX6_digest_110 : decode cX6_digest 110 = .ok (.aload_n 0, 1) := by decide +kernel
theorem dX6_digest_111 : decode cX6_digest 111 = .ok (.iconst 2, 1) := by decide +kernel
theorem dX6_digest_112 : decode cX6_digest 112 = .ok (.iconst 3, 1) := by decide +kernel
theorem dX6_digest_113 : decode cX6_digest 113 = .ok (.iconst 1, 1) := by decide +kernel
theorem dX6_digest_114 : decode cX6_digest 114 = .ok (.invokevirtual 193, 3) := by decide +kernel
theorem dX6_digest_117 : decode cX6_digest 117 = .ok (.i2l, 1) := by decide +kernel
theorem dX6_digest_118 : decode cX6_digest 118 = .ok (.ladd, 1) := by decide +kernel
theorem dX6_digest_119 : decode cX6_digest 119 = .ok (.lstore_n 1, 1) := by decide +kernel
theorem dX6_digest_120 : decode cX6_digest 120 = .ok (.ldc2_w 214, 3) := by decide +kernel
theorem dX6_digest_123 : decode cX6_digest 123 = .ok (.lload_n 1, 1) := by decide +kernel
theorem dX6_digest_124 : decode cX6_digest 124 = .ok (.lmul, 1) := by decide +kernel
theorem dX6_digest_125 : decode cX6_digest 125 = .ok (.aload_n 0, 1) := by decide +kernel
theorem dX6_digest_126 : decode cX6_digest 126 = .ok (.aload_n 0, 1) := by decide +kernel
theorem dX6_digest_127 : decode cX6_digest 127 = .ok (.getfield 7, 3) := by decide +kernel
theorem dX6_digest_130 : decode cX6_digest 130 = .ok (.bipush 9, 2) := by decide +kernel
theorem dX6_digest_132 : decode cX6_digest 132 = .ok (.iconst 0, 1) := by decide +kernel
theorem dX6_digest_133 : decode cX6_digest 133 = .ok (.invokevirtual 193, 3) := by decide +kernel
theorem dX6_digest_136 : decode cX6_digest 136 = .ok (.i2l, 1) := by decide +kernel
theorem dX6_digest_137 : decode cX6_digest 137 = .ok (.ladd, 1) := by decide +kernel
theorem dX6_digest_138 : decode cX6_digest 138 = .ok (.lstore_n 1, 1) := by decide +kernel
theorem dX6_digest_139 : decode cX6_digest 139 = .ok (.ldc2_w 214, 3) := by decide +kernel
theorem dX6_digest_142 : decode cX6_digest 142 = .ok (.lload_n 1, 1) := by decide +kernel
theorem dX6_digest_143 : decode cX6_digest 143 = .ok (.lmul, 1) := by decide +kernel
theorem dX6_digest_144 : decode cX6_digest 144 = .ok (.aload_n 0, 1) := by decide +kernel
theorem dX6_digest_145 : decode cX6_digest 145 = .ok (.iconst 3, 1) := by decide +kernel
theorem dX6_digest_146 : decode cX6_digest 146 = .ok (.invokevirtual 196, 3) := by decide +kernel
theorem dX6_digest_149 : decode cX6_digest 149 = .ok (.i2l, 1) := by decide +kernel
theorem dX6_digest_150 : decode cX6_digest 150 = .ok (.ladd, 1) := by decide +kernel
theorem dX6_digest_151 : decode cX6_digest 151 = .ok (.lstore_n 1, 1) := by decide +kernel
theorem dX6_digest_152 : decode cX6_digest 152 = .ok (.ldc2_w 214, 3) := by decide +kernel
theorem dX6_digest_155 : decode cX6_digest 155 = .ok (.lload_n 1, 1) := by decide +kernel
theorem dX6_digest_156 : decode cX6_digest 156 = .ok (.lmul, 1) := by decide +kernel
theorem dX6_digest_157 : decode cX6_digest 157 = .ok (.aload_n 0, 1) := by decide +kernel
theorem dX6_digest_158 : decode cX6_digest 158 = .ok (.iconst 1, 1) := by decide +kernel
theorem dX6_digest_159 : decode cX6_digest 159 = .ok (.iconst 0, 1) := by decide +kernel
theorem dX6_digest_160 : decode cX6_digest 160 = .ok (.iconst 0, 1) := by decide +kernel
theorem dX6_digest_161 : decode cX6_digest 161 = .ok (.invokevirtual 190, 3) := by decide +kernel
theorem dX6_digest_164 : decode cX6_digest 164 = .ok (.i2l, 1) := by decide +kernel
theorem dX6_digest_165 : decode cX6_digest 165 = .ok (.ladd, 1) := by decide +kernel
theorem dX6_digest_166 : decode cX6_digest 166 = .ok (.lstore_n 1, 1) := by decide +kernel
theorem dX6_digest_167 : decode cX6_digest 167 = .ok (.ldc2_w 214, 3) := by decide +kernel
theorem dX6_digest_170 : decode cX6_digest 170 = .ok (.lload_n 1, 1) := by decide +kernel
theorem dX6_digest_171 : decode cX6_digest 171 = .ok (.lmul, 1) := by decide +kernel
theorem dX6_digest_172 : decode cX6_digest 172 = .ok (.aload_n 0, 1) := by decide +kernel
theorem dX6_digest_173 : decode cX6_digest 173 = .ok (.iconst 2, 1) := by decide +kernel
theorem dX6_digest_174 : decode cX6_digest 174 = .ok (.iconst 3, 1) := by decide +kernel
theorem dX6_digest_175 : decode cX6_digest 175 = .ok (.iconst 4, 1) := by decide +kernel
theorem dX6_digest_176 : decode cX6_digest 176 = .ok (.invokevirtual 190, 3) := by decide +kernel
theorem dX6_digest_179 : decode cX6_digest 179 = .ok (.i2l, 1) := by decide +kernel
theorem dX6_digest_180 : decode cX6_digest 180 = .ok (.ladd, 1) := by decide +kernel
theorem dX6_digest_181 : decode cX6_digest 181 = .ok (.lreturn, 1) := by decide +kernel
abbrev rmX6_digest : Room := { frames := 12, cells := 0, slots := 0, locals := 295 }
set_option maxRecDepth 100000 in
theorem hinX6_digest_6 : ∀ w ∈ wsX60, w ∈ wsX6_digest := by decide +kernel
set_option maxHeartbeats 4000000 in
set_option maxRecDepth 100000 in
theorem tX6_digest_56b {h : AH} {k56 : AH → Int64 → Int32 → Option (Int64 × AH)} {x1 : Int64} {x3 : Int32} {r0 : Int64} {h0 : AH} (C : Cx p rmX6_digest s m args meth c RX6 cX6_digest 4 (some .long) wsX6_digest D ad cy tb 0 0) (H56 : ∀ (h : AH) (x1 : Int64) (x3 : Int32), k56 h x1 x3 = some (r0, h0) → AW p l e rmX6_digest s m args below meth c 4 D ad cy 0 0 (Ql D ad cy below args s r0 h0) 56 [(0, .ref (ad 29)), (1, .long x1), (3, .int x3)] [] h) (hf : fX6_digest_56b k56 h x1 x3 = some (r0, h0)) : AW p l e rmX6_digest s m args below meth c 4 D ad cy 0 0 (Ql D ad cy below args s r0 h0) 56 [(0, .ref (ad 29)), (1, .long x1), (3, .int x3)] [] h := by
  unfold fX6_digest_56b at hf
  refine aw_iload_n C dX6_digest_56 rfl 2 rfl ?_
  refine aw_aload_n C dX6_digest_57 rfl 0 rfl ?_
  refine aw_get C (kd_lt rfl (by decide)) (ce_6 rfl) rfl hinX6_digest_6 7 (by decide) rfl (by decide +kernel) rfl dX6_digest_58 ?_
  refine aw_icmp_ge (tgt := 84) C dX6_digest_61 (by decide) hf (fun hf => ?_) (fun hf => ?_)
  · refine aw_aload_n C dX6_digest_84 rfl 0 rfl ?_
    refine aw_lload_n C dX6_digest_85 rfl 1 rfl ?_
    obtain ⟨r2, h1, hc, hf⟩ := bW_some hf
    refine aw_callVl (As := [.long x1]) (rest := []) C rfl (by decide) rfl (kX6_stuckDigest (l := l) (D := D) (ad := ad) (cy := cy) (tb := tb) C.2.2.2.2.2.2.2.2.1 hc) (fun ht _ => cwV 1 ht gX6_digest_X6_stuckDigest rfl rfl rfl (by decide +kernel) ⟨Nat.le_of_ble_eq_true rfl, Nat.le_of_ble_eq_true rfl⟩) rfl rfl (Nat.le_of_ble_eq_true rfl) dX6_digest_86 ?_
    refine aw_lstore_n (lv1 := [(1, .long r2), (0, .ref (ad 29)), (3, .int x3)]) C dX6_digest_89 rfl (by decide) rfl ?_
    refine aw_ldc2 (v := 31) C (by decide +kernel) dX6_digest_90 ?_
    refine aw_lload_n C dX6_digest_93 rfl 0 rfl ?_
    refine aw_lmul C dX6_digest_94 ?_
    refine aw_aload_n C dX6_digest_95 rfl 1 rfl ?_
    refine aw_iconst (v := 2) C dX6_digest_96 (by decide) ?_
    refine aw_iconst (v := 3) C dX6_digest_97 (by decide) ?_
    refine aw_iconst (v := 0) C dX6_digest_98 (by decide) ?_
    obtain ⟨r4, h3, hc, hf⟩ := bW_some hf
    refine aw_callVi (As := [.int 2, .int 3, .int 0]) (rest := [.long (31 * r2)]) C rfl (by decide) rfl (kX6_wouldBe (l := l) (D := D) (ad := ad) (cy := cy) (tb := tb) C.2.2.2.2.2.2.2.2.1 hc) (fun ht _ => cwV 3 ht gX6_digest_X6_wouldBe rfl rfl rfl (by decide +kernel) ⟨Nat.le_of_ble_eq_true rfl, Nat.le_of_ble_eq_true rfl⟩) rfl rfl (Nat.le_of_ble_eq_true rfl) dX6_digest_99 ?_
    refine aw_i2l C dX6_digest_102 ?_
    refine aw_ladd C dX6_digest_103 ?_
    refine aw_nmL hf (fun v5 hf => ?_)
    refine aw_lstore_n (lv1 := [(1, .long v5), (0, .ref (ad 29)), (3, .int x3)]) C dX6_digest_104 rfl (by decide) rfl ?_
    refine aw_ldc2 (v := 31) C (by decide +kernel) dX6_digest_105 ?_
    refine aw_lload_n C dX6_digest_108 rfl 0 rfl ?_
    refine aw_lmul C dX6_digest_109 ?_
    refine aw_aload_n C dX6_digest_110 rfl 1 rfl ?_
    refine aw_iconst (v := 2) C dX6_digest_111 (by decide) ?_
    refine aw_iconst (v := 3) C dX6_digest_112 (by decide) ?_
    refine aw_iconst (v := 1) C dX6_digest_113 (by decide) ?_
    obtain ⟨r7, h6, hc, hf⟩ := bW_some hf
    refine aw_callVi (As := [.int 2, .int 3, .int 1]) (rest := [.long (31 * v5)]) C rfl (by decide) rfl (kX6_wouldBe (l := l) (D := D) (ad := ad) (cy := cy) (tb := tb) C.2.2.2.2.2.2.2.2.1 hc) (fun ht _ => cwV 3 ht gX6_digest_X6_wouldBe rfl rfl rfl (by decide +kernel) ⟨Nat.le_of_ble_eq_true rfl, Nat.le_of_ble_eq_true rfl⟩) rfl rfl (Nat.le_of_ble_eq_true rfl) dX6_digest_114 ?_
    refine aw_i2l C dX6_digest_117 ?_
    refine aw_ladd C dX6_digest_118 ?_
    refine aw_nmL hf (fun v8 hf => ?_)
    refine aw_lstore_n (lv1 := [(1, .long v8), (0, .ref (ad 29)), (3, .int x3)]) C dX6_digest_119 rfl (by decide) rfl ?_
    refine aw_ldc2 (v := 31) C (by decide +kernel) dX6_digest_120 ?_
    refine aw_lload_n C dX6_digest_123 rfl 0 rfl ?_
    refine aw_lmul C dX6_digest_124 ?_
    refine aw_aload_n C dX6_digest_125 rfl 1 rfl ?_
    refine aw_aload_n C dX6_digest_126 rfl 1 rfl ?_
    refine aw_get C (kd_lt rfl (by decide)) (ce_6 rfl) rfl hinX6_digest_6 0 (by decide) rfl (by decide +kernel) rfl dX6_digest_127 ?_
    refine aw_bipush (v := 9) C dX6_digest_130 (by decide) ?_
    refine aw_iconst (v := 0) C dX6_digest_132 (by decide) ?_
    obtain ⟨r10, h9, hc, hf⟩ := bW_some hf
    refine aw_callVi (As := [.int (h6.1 29 0), .int 9, .int 0]) (rest := [.long (31 * v8)]) C rfl (by decide) rfl (kX6_wouldBe (l := l) (D := D) (ad := ad) (cy := cy) (tb := tb) C.2.2.2.2.2.2.2.2.1 hc) (fun ht _ => cwV 3 ht gX6_digest_X6_wouldBe rfl rfl rfl (by decide +kernel) ⟨Nat.le_of_ble_eq_true rfl, Nat.le_of_ble_eq_true rfl⟩) rfl rfl (Nat.le_of_ble_eq_true rfl) dX6_digest_133 ?_
    refine aw_i2l C dX6_digest_136 ?_
    refine aw_ladd C dX6_digest_137 ?_
    refine aw_nmL hf (fun v11 hf => ?_)
    refine aw_lstore_n (lv1 := [(1, .long v11), (0, .ref (ad 29)), (3, .int x3)]) C dX6_digest_138 rfl (by decide) rfl ?_
    refine aw_ldc2 (v := 31) C (by decide +kernel) dX6_digest_139 ?_
    refine aw_lload_n C dX6_digest_142 rfl 0 rfl ?_
    refine aw_lmul C dX6_digest_143 ?_
    refine aw_aload_n C dX6_digest_144 rfl 1 rfl ?_
    refine aw_iconst (v := 3) C dX6_digest_145 (by decide) ?_
    obtain ⟨r13, h12, hc, hf⟩ := bW_some hf
    refine aw_callVi (As := [.int 3]) (rest := [.long (31 * v11)]) C rfl (by decide) rfl (kX6_bestOf (l := l) (D := D) (ad := ad) (cy := cy) (tb := tb) C.2.2.2.2.2.2.2.2.1 hc) (fun ht _ => cwV 1 ht gX6_digest_X6_bestOf rfl rfl rfl (by decide +kernel) ⟨Nat.le_of_ble_eq_true rfl, Nat.le_of_ble_eq_true rfl⟩) rfl rfl (Nat.le_of_ble_eq_true rfl) dX6_digest_146 ?_
    refine aw_i2l C dX6_digest_149 ?_
    refine aw_ladd C dX6_digest_150 ?_
    refine aw_nmL hf (fun v14 hf => ?_)
    refine aw_lstore_n (lv1 := [(1, .long v14), (0, .ref (ad 29)), (3, .int x3)]) C dX6_digest_151 rfl (by decide) rfl ?_
    refine aw_ldc2 (v := 31) C (by decide +kernel) dX6_digest_152 ?_
    refine aw_lload_n C dX6_digest_155 rfl 0 rfl ?_
    refine aw_lmul C dX6_digest_156 ?_
    refine aw_aload_n C dX6_digest_157 rfl 1 rfl ?_
    refine aw_iconst (v := 1) C dX6_digest_158 (by decide) ?_
    refine aw_iconst (v := 0) C dX6_digest_159 (by decide) ?_
    refine aw_iconst (v := 0) C dX6_digest_160 (by decide) ?_
    obtain ⟨r15, hc, hf⟩ := bR_some hf
    refine aw_callVi (As := [.int 1, .int 0, .int 0]) (rest := [.long (31 * v14)]) C rfl (by decide) rfl (kX6_aroundOf (l := l) (D := D) (ad := ad) (cy := cy) (tb := tb) C.2.2.2.2.2.2.2.2.1 hc) (fun ht _ => cwV 3 ht gX6_digest_X6_aroundOf rfl rfl rfl (by decide +kernel) ⟨Nat.le_of_ble_eq_true rfl, Nat.le_of_ble_eq_true rfl⟩) rfl rfl (Nat.le_of_ble_eq_true rfl) dX6_digest_161 ?_
    refine aw_i2l C dX6_digest_164 ?_
    refine aw_ladd C dX6_digest_165 ?_
    refine aw_nmL hf (fun v16 hf => ?_)
    refine aw_lstore_n (lv1 := [(1, .long v16), (0, .ref (ad 29)), (3, .int x3)]) C dX6_digest_166 rfl (by decide) rfl ?_
    refine aw_ldc2 (v := 31) C (by decide +kernel) dX6_digest_167 ?_
    refine aw_lload_n C dX6_digest_170 rfl 0 rfl ?_
    refine aw_lmul C dX6_digest_171 ?_
    refine aw_aload_n C dX6_digest_172 rfl 1 rfl ?_
    refine aw_iconst (v := 2) C dX6_digest_173 (by decide) ?_
    refine aw_iconst (v := 3) C dX6_digest_174 (by decide) ?_
    refine aw_iconst (v := 4) C dX6_digest_175 (by decide) ?_
    obtain ⟨r17, hc, hf⟩ := bR_some hf
    refine aw_callVi (As := [.int 2, .int 3, .int 4]) (rest := [.long (31 * v16)]) C rfl (by decide) rfl (kX6_aroundOf (l := l) (D := D) (ad := ad) (cy := cy) (tb := tb) C.2.2.2.2.2.2.2.2.1 hc) (fun ht _ => cwV 3 ht gX6_digest_X6_aroundOf rfl rfl rfl (by decide +kernel) ⟨Nat.le_of_ble_eq_true rfl, Nat.le_of_ble_eq_true rfl⟩) rfl rfl (Nat.le_of_ble_eq_true rfl) dX6_digest_176 ?_
    refine aw_i2l C dX6_digest_179 ?_
    refine aw_ladd C dX6_digest_180 ?_
    exact aw_lretW C dX6_digest_181 hf
  refine aw_ldc2 (v := 31) C (by decide +kernel) dX6_digest_64 ?_
  refine aw_lload_n C dX6_digest_67 rfl 1 rfl ?_
  refine aw_lmul C dX6_digest_68 ?_
  refine aw_aload_n C dX6_digest_69 rfl 0 rfl ?_
  refine aw_get C (kd_lt rfl (by decide)) (ce_6 rfl) rfl hinX6_digest_6 6 (by decide) rfl (by decide +kernel) rfl dX6_digest_70 ?_
  refine aw_iload_n C dX6_digest_73 rfl 2 rfl ?_
  refine aw_iald C rfl rfl hf dX6_digest_74 (fun hf => ?_)
  refine aw_i2l C dX6_digest_75 ?_
  refine aw_ladd C dX6_digest_76 ?_
  refine aw_nmL hf (fun v18 hf => ?_)
  refine aw_lstore_n (lv1 := [(1, .long v18), (0, .ref (ad 29)), (3, .int x3)]) C dX6_digest_77 rfl (by decide) rfl ?_
  obtain ⟨v19, hvv19, hf⟩ := nm_ex hf
  refine aw_iinc (j := 2) (v := v19) (lv1 := [(3, .int v19), (1, .long v18), (0, .ref (ad 29))]) C dX6_digest_78 rfl hvv19 (by decide) rfl ?_
  refine aw_goto (tgt := 56) C dX6_digest_81 (by decide) ?_
  refine aw_sub [2, 1, 0] rfl ?_
  exact H56 h v18 v19 hf
set_option maxHeartbeats 4000000 in
set_option maxRecDepth 100000 in
theorem tX6_digest_56  {r0 : Int64} {h0 : AH} (C : Cx p rmX6_digest s m args meth c RX6 cX6_digest 4 (some .long) wsX6_digest D ad cy tb 0 0) : ∀ (n : Nat) (h : AH) (x1 : Int64) (x3 : Int32), fX6_digest_56 n h x1 x3 = some (r0, h0) → AW p l e rmX6_digest s m args below meth c 4 D ad cy 0 0 (Ql D ad cy below args s r0 h0) 56 [(0, .ref (ad 29)), (1, .long x1), (3, .int x3)] [] h := by
  intro n
  induction n with
  | zero => intro h x1 x3 hf; cases hf
  | succ n ih => intro h x1 x3 hf; exact tX6_digest_56b C  ih  hf
set_option maxHeartbeats 4000000 in
set_option maxRecDepth 100000 in
theorem tX6_digest_33b {h : AH} {k33 : AH → Int64 → Int32 → Option (Int64 × AH)} {x1 : Int64} {x3 : Int32} {r0 : Int64} {h0 : AH} (C : Cx p rmX6_digest s m args meth c RX6 cX6_digest 4 (some .long) wsX6_digest D ad cy tb 0 0) (H33 : ∀ (h : AH) (x1 : Int64) (x3 : Int32), k33 h x1 x3 = some (r0, h0) → AW p l e rmX6_digest s m args below meth c 4 D ad cy 0 0 (Ql D ad cy below args s r0 h0) 33 [(0, .ref (ad 29)), (1, .long x1), (3, .int x3)] [] h) (hf : fX6_digest_33b k33 h x1 x3 = some (r0, h0)) : AW p l e rmX6_digest s m args below meth c 4 D ad cy 0 0 (Ql D ad cy below args s r0 h0) 33 [(0, .ref (ad 29)), (1, .long x1), (3, .int x3)] [] h := by
  unfold fX6_digest_33b at hf
  refine aw_iload_n C dX6_digest_33 rfl 2 rfl ?_
  refine aw_aload_n C dX6_digest_34 rfl 0 rfl ?_
  refine aw_get C (kd_lt rfl (by decide)) (ce_6 rfl) rfl hinX6_digest_6 0 (by decide) rfl (by decide +kernel) rfl dX6_digest_35 ?_
  refine aw_icmp_gt (tgt := 54) C dX6_digest_38 (by decide) hf (fun hf => ?_) (fun hf => ?_)
  · refine aw_iconst (v := 0) C dX6_digest_54 (by decide) ?_
    refine aw_istore_n (lv1 := [(3, .int 0), (0, .ref (ad 29)), (1, .long x1)]) C dX6_digest_55 rfl (by decide) rfl ?_
    refine aw_sub [1, 2, 0] rfl ?_
    exact tX6_digest_56 C   FU h x1 0 hf
  refine aw_aload_n C dX6_digest_41 rfl 0 rfl ?_
  refine aw_lload_n C dX6_digest_42 rfl 1 rfl ?_
  refine aw_iload_n C dX6_digest_43 rfl 2 rfl ?_
  obtain ⟨r1, hc, hf⟩ := bR_some hf
  refine aw_callVl (As := [.long x1, .int x3]) (rest := []) C rfl (by decide) rfl (kX6_blockDigest (l := l) (D := D) (ad := ad) (cy := cy) (tb := tb) C.2.2.2.2.2.2.2.2.1 hc) (fun ht _ => cwV 2 ht gX6_digest_X6_blockDigest rfl rfl rfl (by decide +kernel) ⟨Nat.le_of_ble_eq_true rfl, Nat.le_of_ble_eq_true rfl⟩) rfl rfl (Nat.le_of_ble_eq_true rfl) dX6_digest_44 ?_
  refine aw_lstore_n (lv1 := [(1, .long r1), (0, .ref (ad 29)), (3, .int x3)]) C dX6_digest_47 rfl (by decide) rfl ?_
  obtain ⟨v2, hvv2, hf⟩ := nm_ex hf
  refine aw_iinc (j := 2) (v := v2) (lv1 := [(3, .int v2), (1, .long r1), (0, .ref (ad 29))]) C dX6_digest_48 rfl hvv2 (by decide) rfl ?_
  refine aw_goto (tgt := 33) C dX6_digest_51 (by decide) ?_
  refine aw_sub [2, 1, 0] rfl ?_
  exact H33 h r1 v2 hf
set_option maxHeartbeats 4000000 in
set_option maxRecDepth 100000 in
theorem tX6_digest_33  {r0 : Int64} {h0 : AH} (C : Cx p rmX6_digest s m args meth c RX6 cX6_digest 4 (some .long) wsX6_digest D ad cy tb 0 0) : ∀ (n : Nat) (h : AH) (x1 : Int64) (x3 : Int32), fX6_digest_33 n h x1 x3 = some (r0, h0) → AW p l e rmX6_digest s m args below meth c 4 D ad cy 0 0 (Ql D ad cy below args s r0 h0) 33 [(0, .ref (ad 29)), (1, .long x1), (3, .int x3)] [] h := by
  intro n
  induction n with
  | zero => intro h x1 x3 hf; cases hf
  | succ n ih => intro h x1 x3 hf; exact tX6_digest_33b C  ih  hf
set_option maxHeartbeats 4000000 in
set_option maxRecDepth 100000 in
theorem tX6_digest_6b {h : AH} {k6 : AH → Int64 → Int32 → Option (Int64 × AH)} {x1 : Int64} {x3 : Int32} {r0 : Int64} {h0 : AH} (C : Cx p rmX6_digest s m args meth c RX6 cX6_digest 4 (some .long) wsX6_digest D ad cy tb 0 0) (H6 : ∀ (h : AH) (x1 : Int64) (x3 : Int32), k6 h x1 x3 = some (r0, h0) → AW p l e rmX6_digest s m args below meth c 4 D ad cy 0 0 (Ql D ad cy below args s r0 h0) 6 [(0, .ref (ad 29)), (1, .long x1), (3, .int x3)] [] h) (hf : fX6_digest_6b k6 h x1 x3 = some (r0, h0)) : AW p l e rmX6_digest s m args below meth c 4 D ad cy 0 0 (Ql D ad cy below args s r0 h0) 6 [(0, .ref (ad 29)), (1, .long x1), (3, .int x3)] [] h := by
  unfold fX6_digest_6b at hf
  refine aw_iload_n C dX6_digest_6 rfl 2 rfl ?_
  refine aw_bipush (v := 8) C dX6_digest_7 (by decide) ?_
  refine aw_icmp_ge (tgt := 31) C dX6_digest_9 (by decide) hf (fun hf => ?_) (fun hf => ?_)
  · refine aw_iconst (v := 1) C dX6_digest_31 (by decide) ?_
    refine aw_istore_n (lv1 := [(3, .int 1), (0, .ref (ad 29)), (1, .long x1)]) C dX6_digest_32 rfl (by decide) rfl ?_
    refine aw_sub [1, 2, 0] rfl ?_
    exact tX6_digest_33 C   FU h x1 1 hf
  refine aw_ldc2 (v := 31) C (by decide +kernel) dX6_digest_12 ?_
  refine aw_lload_n C dX6_digest_15 rfl 1 rfl ?_
  refine aw_lmul C dX6_digest_16 ?_
  refine aw_aload_n C dX6_digest_17 rfl 0 rfl ?_
  refine aw_iload_n C dX6_digest_18 rfl 2 rfl ?_
  obtain ⟨r2, h1, hc, hf⟩ := bW_some hf
  refine aw_callVi (As := [.int x3]) (rest := [.long (31 * x1)]) C rfl (by decide) rfl (kX6_count (l := l) (D := D) (ad := ad) (cy := cy) (tb := tb) C.2.2.2.2.2.2.2.2.1 hc) (fun ht _ => cwV 1 ht gX6_digest_X6_count rfl rfl rfl (by decide +kernel) ⟨Nat.le_of_ble_eq_true rfl, Nat.le_of_ble_eq_true rfl⟩) rfl rfl (Nat.le_of_ble_eq_true rfl) dX6_digest_19 ?_
  refine aw_i2l C dX6_digest_22 ?_
  refine aw_ladd C dX6_digest_23 ?_
  refine aw_nmL hf (fun v3 hf => ?_)
  refine aw_lstore_n (lv1 := [(1, .long v3), (0, .ref (ad 29)), (3, .int x3)]) C dX6_digest_24 rfl (by decide) rfl ?_
  obtain ⟨v4, hvv4, hf⟩ := nm_ex hf
  refine aw_iinc (j := 2) (v := v4) (lv1 := [(3, .int v4), (1, .long v3), (0, .ref (ad 29))]) C dX6_digest_25 rfl hvv4 (by decide) rfl ?_
  refine aw_goto (tgt := 6) C dX6_digest_28 (by decide) ?_
  refine aw_sub [2, 1, 0] rfl ?_
  exact H6 h1 v3 v4 hf
set_option maxHeartbeats 4000000 in
set_option maxRecDepth 100000 in
theorem tX6_digest_6  {r0 : Int64} {h0 : AH} (C : Cx p rmX6_digest s m args meth c RX6 cX6_digest 4 (some .long) wsX6_digest D ad cy tb 0 0) : ∀ (n : Nat) (h : AH) (x1 : Int64) (x3 : Int32), fX6_digest_6 n h x1 x3 = some (r0, h0) → AW p l e rmX6_digest s m args below meth c 4 D ad cy 0 0 (Ql D ad cy below args s r0 h0) 6 [(0, .ref (ad 29)), (1, .long x1), (3, .int x3)] [] h := by
  intro n
  induction n with
  | zero => intro h x1 x3 hf; cases hf
  | succ n ih => intro h x1 x3 hf; exact tX6_digest_6b C  ih  hf
set_option maxHeartbeats 4000000 in
set_option maxRecDepth 100000 in
theorem tX6_digest_0 {h : AH} {r0 : Int64} {h0 : AH} (C : Cx p rmX6_digest s m args meth c RX6 cX6_digest 4 (some .long) wsX6_digest D ad cy tb 0 0) (hf : fX6_digest h = some (r0, h0)) : AW p l e rmX6_digest s m args below meth c 4 D ad cy 0 0 (Ql D ad cy below args s r0 h0) 0 [(0, .ref (ad 29))] [] h := by
  unfold fX6_digest at hf
  refine aw_ldc2 (v := 17) C (by decide +kernel) dX6_digest_0 ?_
  refine aw_lstore_n (lv1 := [(1, .long 17), (0, .ref (ad 29))]) C dX6_digest_3 rfl (by decide) rfl ?_
  refine aw_iconst (v := 0) C dX6_digest_4 (by decide) ?_
  refine aw_istore_n (lv1 := [(3, .int 0), (1, .long 17), (0, .ref (ad 29))]) C dX6_digest_5 rfl (by decide) rfl ?_
  refine aw_sub [2, 1, 0] rfl ?_
  exact tX6_digest_6 C   FU h 17 0 hf
theorem kX6_digest {h : AH} {r0 : Int64} {h0 : AH} (hi : Inj ad) (hf : fX6_digest h = some (r0, h0)) : Kl l yX6_digest wsX6_digest rmX6_digest D ad cy tb [.ref (ad 29)] h r0 h0 := met_l (lv := [(0, .ref (ad 29))]) hi (by decide) rfl (Nat.le_of_ble_eq_true rfl) rfl rfl (fun _ _ _ _ _ _ _ _ C => tX6_digest_0 C  hf)
