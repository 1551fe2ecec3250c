variable {p : Program} {l : Launch} {e : Env} {s : State} {m : MethodId} {args : Array Value} {below : List Frame} {meth : Method} {c : Code} {D : va_G} {ad : Nat → Nat} {cy : Nat → ClassId} {tb : Nat → Nat}
set_option maxRecDepth 20000 in
theorem ggX5_piece_X1_find : GoodIn wsX5_piece wsX1_find := goodIn_r _ [7, 8, 9, 10, 11, 12, 13, 14, 15, 16, 17, 18, 19, 20, 21, 22, 23, 24, 25, 26, 27, 28, 29, 30, 31, 32, 33, 34, 6, 35, 36, 37, 38, 39, 40, 41, 42, 43, 44, 45, 46, 47, 48, 49, 50, 51, 52, 53, 54, 55, 56, 57, 58, 59, 60, 61, 62, 63, 64, 65, 66, 67, 68, 69, 83, 84, 85, 86, 87, 88, 89, 90, 91, 92, 93] (by decide +kernel) (by decide +kernel)
set_option maxRecDepth 20000 in
theorem gX5_piece_X1_find : GoodIn wsX5_piece (wsV RX5 216 RX1 yX1_find wsX1_find) := goodIn_app (goodIn_of _ (by decide +kernel)) ggX5_piece_X1_find
set_option maxRecDepth 20000 in
theorem ggX5_piece_X1_tell : GoodIn wsX5_piece wsX1_tell := goodIn_r _ [73, 8, 38, 39, 40, 10, 83, 84, 85, 86, 87, 88, 89, 90] (by decide +kernel) (by decide +kernel)
set_option maxRecDepth 20000 in
theorem gX5_piece_X1_tell : GoodIn wsX5_piece (wsV RX5 220 RX1 yX1_tell wsX1_tell) := goodIn_app (goodIn_of _ (by decide +kernel)) ggX5_piece_X1_tell
theorem dX5_piece_0 : decode cX5_piece 0 = .ok (.aload_n 0, 1) := by decide +kernel
theorem dX5_piece_1 : decode cX5_piece 1 = .ok (.getfield 40, 3) := by decide +kernel
theorem dX5_piece_4 : decode cX5_piece 4 = .ok (.aload_n 0, 1) := by decide +kernel
theorem dX5_piece_5 : decode cX5_piece 5 = .ok (.getfield 12, 3) := by decide +kernel
theorem dX5_piece_8 : decode cX5_piece 8 = .ok (.invokevirtual 216, 3) := by decide +kernel
theorem dX5_piece_11 : decode cX5_piece 11 = .ok (.aload_n 0, 1) := by decide +kernel
theorem dX5_piece_12 : decode cX5_piece 12 = .ok (.getfield 40, 3) := by decide +kernel
theorem dX5_piece_15 : decode cX5_piece 15 = .ok (.iload_n 1, 1) := by decide +kernel
theorem dX5_piece_16 : decode cX5_piece 16 = .ok (.iload_n 2, 1) := by decide +kernel
theorem dX5_piece_17 : decode cX5_piece 17 = .ok (.invokevirtual 220, 3) := by decide +kernel
theorem dX5_piece_20 : decode cX5_piece 20 = .ok (.ireturn, 1) := by decide +kernel
abbrev rmX5_piece : Room := { frames := 5, cells := 0, slots := 0, locals := 120 }
set_option maxRecDepth 100000 in
theorem hinX5_piece_5 : ∀ w ∈ wsX50, w ∈ wsX5_piece := by decide +kernel
set_option maxHeartbeats 4000000 in
set_option maxRecDepth 100000 in
theorem tX5_piece_0 {h : AH} {a1 : Int32} {a2 : Int32} {r0 : Int32} {h0 : AH} (C : Cx p rmX5_piece s m args meth c RX5 cX5_piece 3 (some .int) wsX5_piece D ad cy tb 0 0) (hf : fX5_piece h a1 a2 = some (r0, h0)) : AW p l e rmX5_piece s m args below meth c 3 D ad cy 0 0 (Qi D ad cy below args s r0 h0) 0 [(0, .ref (ad 0)), (1, .int a1), (2, .int a2)] [] h := by
  unfold fX5_piece at hf
  refine aw_aload_n C dX5_piece_0 rfl 0 rfl ?_
  refine aw_get C (kd_lt rfl (by decide)) (ce_5 rfl) rfl hinX5_piece_5 5 (by decide) rfl (by decide +kernel) rfl dX5_piece_1 ?_
  refine aw_aload_n C dX5_piece_4 rfl 0 rfl ?_
  refine aw_get C (kd_lt rfl (by decide)) (ce_5 rfl) rfl hinX5_piece_5 0 (by decide) rfl (by decide +kernel) rfl dX5_piece_5 ?_
  obtain ⟨h1, hc, hf⟩ := bR_some hf
  refine aw_callVv (As := [.ref (ad 1)]) (rest := []) C rfl (by decide) rfl (kX1_find (l := l) (D := D) (ad := ad) (cy := cy) (tb := tb) C.2.2.2.2.2.2.2.2.1 rfl hc) (fun ht _ => cwV 1 ht gX5_piece_X1_find rfl rfl rfl (by decide +kernel) ⟨Nat.le_of_ble_eq_true rfl, Nat.le_of_ble_eq_true rfl⟩) rfl rfl (Nat.le_of_ble_eq_true rfl) dX5_piece_8 ?_
  refine aw_aload_n C dX5_piece_11 rfl 0 rfl ?_
  refine aw_get C (kd_lt rfl (by decide)) (ce_5 rfl) rfl hinX5_piece_5 5 (by decide) rfl (by decide +kernel) rfl dX5_piece_12 ?_
  refine aw_iload_n C dX5_piece_15 rfl 1 rfl ?_
  refine aw_iload_n C dX5_piece_16 rfl 2 rfl ?_
  obtain ⟨r2, hc, hf⟩ := bR_some hf
  refine aw_callVi (As := [.int a1, .int a2]) (rest := []) C rfl (by decide) rfl (kX1_tell (l := l) (D := D) (ad := ad) (cy := cy) (tb := tb) C.2.2.2.2.2.2.2.2.1 hc) (fun ht _ => cwV 2 ht gX5_piece_X1_tell rfl rfl rfl (by decide +kernel) ⟨Nat.le_of_ble_eq_true rfl, Nat.le_of_ble_eq_true rfl⟩) rfl rfl (Nat.le_of_ble_eq_true rfl) dX5_piece_17 ?_
  exact aw_iretW C dX5_piece_20 hf
theorem kX5_piece {h : AH} {a1 : Int32} {a2 : Int32} {r0 : Int32} {h0 : AH} (hi : Inj ad) (hf : fX5_piece h a1 a2 = some (r0, h0)) : Ki l yX5_piece wsX5_piece rmX5_piece D ad cy tb [.ref (ad 0), .int a1, .int a2] h r0 h0 := met_i (lv := [(0, .ref (ad 0)), (1, .int a1), (2, .int a2)]) hi (by decide) rfl (Nat.le_of_ble_eq_true rfl) rfl rfl (fun _ _ _ _ _ _ _ _ C => tX5_piece_0 C  hf)
set_option maxRecDepth 20000 in
theorem ggX6_spreads_X6_bitAt : GoodIn wsX6_spreads wsX6_bitAt := goodIn_r _ [8] (by decide +kernel) (by decide +kernel)
set_option maxRecDepth 20000 in
theorem gX6_spreads_X6_bitAt : GoodIn wsX6_spreads (va_wsS RX6 61 yX6_bitAt wsX6_bitAt) := goodIn_app (goodIn_of _ (by decide +kernel)) ggX6_spreads_X6_bitAt
theorem dX6_spreads_0 : decode cX6_spreads 0 = .ok (.iload_n 3, 1) := by decide +kernel
theorem dX6_spreads_1 : decode cX6_spreads 1 = .ok (.istore 4, 2) := by decide +kernel
theorem dX6_spreads_3 : decode cX6_spreads 3 = .ok (.iconst 0, 1) := by decide +kernel
theorem dX6_spreads_4 : decode cX6_spreads 4 = .ok (.istore 5, 2) := by decide +kernel
theorem dX6_spreads_6 : decode cX6_spreads 6 = .ok (.iload 5, 2) := by decide +kernel
theorem dX6_spreads_8 : decode cX6_spreads 8 = .ok (.bipush 16, 2) := by decide +kernel
theorem dX6_spreads_10 : decode cX6_spreads 10 = .ok (.if_icmp .ge 62, 3) := by decide +kernel
theorem dX6_spreads_13 : decode cX6_spreads 13 = .ok (.iload_n 1, 1) := by decide +kernel
theorem dX6_spreads_14 : decode cX6_spreads 14 = .ok (.iload_n 2, 1) := by decide +kernel
theorem dX6_spreads_15 : decode cX6_spreads 15 = .ok (.iload 5, 2) := by decide +kernel
theorem dX6_spreads_17 : decode cX6_spreads 17 = .ok (.invokestatic 61, 3) := by decide +kernel
theorem dX6_spreads_20 : decode cX6_spreads 20 = .ok (.istore 6, 2) := by decide +kernel
theorem dX6_spreads_22 : decode cX6_spreads 22 = .ok (.aload_n 0, 1) := by decide +kernel
theorem dX6_spreads_23 : decode cX6_spreads 23 = .ok (.getfield 21, 3) := by decide +kernel
theorem dX6_spreads_26 : decode cX6_spreads 26 = .ok (.iload 6, 2) := by decide +kernel
theorem dX6_spreads_28 : decode cX6_spreads 28 = .ok (.baload, 1) := by decide +kernel
theorem dX6_spreads_29 : decode cX6_spreads 29 = .ok (.ifCond .eq 37, 3) := by decide +kernel
theorem dX6_spreads_32 : decode cX6_spreads 32 = .ok (.aload_n 0, 1) := by decide +kernel
theorem dX6_spreads_33 : decode cX6_spreads 33 = .ok (.getfield 30, 3) := by decide +kernel
theorem dX6_spreads_36 : decode cX6_spreads 36 = .ok (.iload 6, 2) := by decide +kernel
theorem dX6_spreads_38 : decode cX6_spreads 38 = .ok (.iaload, 1) := by decide +kernel
theorem dX6_spreads_39 : decode cX6_spreads 39 = .ok (.iconst (-1), 1) := by decide +kernel
theorem dX6_spreads_40 : decode cX6_spreads 40 = .ok (.if_icmp .ne 26, 3) := by decide +kernel
theorem dX6_spreads_43 : decode cX6_spreads 43 = .ok (.aload_n 0, 1) := by decide +kernel
theorem dX6_spreads_44 : decode cX6_spreads 44 = .ok (.getfield 30, 3) := by decide +kernel
theorem dX6_spreads_47 : decode cX6_spreads 47 = .ok (.iload 6, 2) := by decide +kernel
theorem dX6_spreads_49 : decode cX6_spreads 49 = .ok (.aload_n 0, 1) := by decide +kernel
theorem dX6_spreads_50 : decode cX6_spreads 50 = .ok (.getfield 172, 3) := by decide +kernel
theorem dX6_spreads_53 : decode cX6_spreads 53 = .ok (.iastore, 1) := by decide +kernel
theorem dX6_spreads_54 : decode cX6_spreads 54 = .ok (.aload_n 0, 1) := by decide +kernel
theorem dX6_spreads_55 : decode cX6_spreads 55 = .ok (.getfield 33, 3) := by decide +kernel
theorem dX6_spreads_58 : decode cX6_spreads 58 = .ok (.iload 4, 2) := by decide +kernel
theorem dX6_spreads_60 : decode cX6_spreads 60 = .ok (.iload 6, 2) := by decide +kernel
theorem dX6_spreads_62 : decode cX6_spreads 62 = .ok (.iastore, 1) := by decide +kernel
theorem dX6_spreads_63 : decode cX6_spreads 63 = .ok (.iinc 4 1, 3) := by decide +kernel
theorem dX6_spreads_66 : decode cX6_spreads 66 = .ok (.iinc 5 1, 3) := by decide +kernel
theorem dX6_spreads_69 : decode cX6_spreads 69 = .ok (.goto (-63), 3) := by decide +kernel
theorem dX6_spreads_72 : decode cX6_spreads 72 = .ok (.iload 4, 2) := by decide +kernel
theorem dX6_spreads_74 : decode cX6_spreads 74 = .ok (.ireturn, 1) := by decide +kernel
abbrev rmX6_spreads : Room := { frames := 1, cells := 0, slots := 0, locals := 22 }
set_option maxRecDepth 100000 in
theorem hinX6_spreads_6 : ∀ w ∈ wsX60, w ∈ wsX6_spreads := by decide +kernel
set_option maxHeartbeats 4000000 in
set_option maxRecDepth 100000 in
theorem tX6_spreads_66 {h : AH} {a1 : Int32} {a2 : Int32} {a3 : Int32} {k6 : AH → Int32 → Int32 → Option (Int32 × AH)} {x4 : Int32} {x5 : Int32} {r0 : Int32} {h0 : AH} (C : Cx p rmX6_spreads s m args meth c RX6 cX6_spreads 7 (some .int) wsX6_spreads D ad cy tb 0 0) (H6 : ∀ (h : AH) (x4 : Int32) (x5 : Int32), k6 h x4 x5 = some (r0, h0) → AW p l e rmX6_spreads s m args below meth c 7 D ad cy 0 0 (Qi D ad cy below args s r0 h0) 6 [(0, .ref (ad 29)), (1, .int a1), (2, .int a2), (3, .int a3), (4, .int x4), (5, .int x5)] [] h) (hf : fX6_spreads_66 k6 a1 a2 a3 h x4 x5 = some (r0, h0)) : AW p l e rmX6_spreads s m args below meth c 7 D ad cy 0 0 (Qi D ad cy below args s r0 h0) 66 [(0, .ref (ad 29)), (1, .int a1), (2, .int a2), (3, .int a3), (4, .int x4), (5, .int x5)] [] h := by
  unfold fX6_spreads_66 at hf
  obtain ⟨v1, hvv1, hf⟩ := nm_ex hf
  refine aw_iinc (j := 5) (v := v1) (lv1 := [(5, .int v1), (0, .ref (ad 29)), (1, .int a1), (2, .int a2), (3, .int a3), (4, .int x4)]) C dX6_spreads_66 rfl hvv1 (by decide) rfl ?_
  refine aw_goto (tgt := 6) C dX6_spreads_69 (by decide) ?_
  refine aw_sub [1, 2, 3, 4, 5, 0] rfl ?_
  exact H6 h x4 v1 hf
set_option maxHeartbeats 4000000 in
set_option maxRecDepth 100000 in
theorem tX6_spreads_6b {h : AH} {a1 : Int32} {a2 : Int32} {a3 : Int32} {k6 : AH → Int32 → Int32 → Option (Int32 × AH)} {x4 : Int32} {x5 : Int32} {r0 : Int32} {h0 : AH} (C : Cx p rmX6_spreads s m args meth c RX6 cX6_spreads 7 (some .int) wsX6_spreads D ad cy tb 0 0) (H6 : ∀ (h : AH) (x4 : Int32) (x5 : Int32), k6 h x4 x5 = some (r0, h0) → AW p l e rmX6_spreads s m args below meth c 7 D ad cy 0 0 (Qi D ad cy below args s r0 h0) 6 [(0, .ref (ad 29)), (1, .int a1), (2, .int a2), (3, .int a3), (4, .int x4), (5, .int x5)] [] h) (hf : fX6_spreads_6b k6 a1 a2 a3 h x4 x5 = some (r0, h0)) : AW p l e rmX6_spreads s m args below meth c 7 D ad cy 0 0 (Qi D ad cy below args s r0 h0) 6 [(0, .ref (ad 29)), (1, .int a1), (2, .int a2), (3, .int a3), (4, .int x4), (5, .int x5)] [] h := by
  unfold fX6_spreads_6b at hf
  refine aw_iload C dX6_spreads_6 5 rfl ?_
  refine aw_bipush (v := 16) C dX6_spreads_8 (by decide) ?_
  refine aw_icmp_ge (tgt := 72) C dX6_spreads_10 (by decide) hf (fun hf => ?_) (fun hf => ?_)
  · refine aw_iload C dX6_spreads_72 4 rfl ?_
    exact aw_iretW C dX6_spreads_74 hf
  refine aw_iload_n C dX6_spreads_13 rfl 1 rfl ?_
  refine aw_iload_n C dX6_spreads_14 rfl 2 rfl ?_
  refine aw_iload C dX6_spreads_15 5 rfl ?_
  obtain ⟨r1, hc, hf⟩ := bR_some hf
  refine aw_callSi (As := [.int a1, .int a2, .int x5]) (rest := []) C (kX6_bitAt (l := l) (D := D) (ad := ad) (cy := cy) (tb := tb) C.2.2.2.2.2.2.2.2.1 hc) (fun ht _ => va_cwS 3 ht gX6_spreads_X6_bitAt rfl rfl rfl (by decide +kernel) ⟨Nat.le_of_ble_eq_true rfl, Nat.le_of_ble_eq_true rfl⟩) rfl rfl (Nat.le_of_ble_eq_true rfl) dX6_spreads_17 ?_
  refine aw_istore (lv1 := [(6, .int r1), (0, .ref (ad 29)), (1, .int a1), (2, .int a2), (3, .int a3), (4, .int x4), (5, .int x5)]) C dX6_spreads_20 (by decide) rfl ?_
  refine aw_aload_n C dX6_spreads_22 rfl 1 rfl ?_
  refine aw_get C (kd_lt rfl (by decide)) (ce_6 rfl) rfl hinX6_spreads_6 4 (by decide) rfl (by decide +kernel) rfl dX6_spreads_23 ?_
  refine aw_iload C dX6_spreads_26 0 rfl ?_
  refine aw_zald C rfl rfl hf dX6_spreads_28 (fun hf => ?_)
  refine aw_if_eq (tgt := 66) C dX6_spreads_29 (by decide) hf (fun hf => ?_) (fun hf => ?_)
  · refine aw_sub [1, 2, 3, 4, 5, 6] rfl ?_
    exact tX6_spreads_66 C  H6 hf
  refine aw_aload_n C dX6_spreads_32 rfl 1 rfl ?_
  refine aw_get C (kd_lt rfl (by decide)) (ce_6 rfl) rfl hinX6_spreads_6 8 (by decide) rfl (by decide +kernel) rfl dX6_spreads_33 ?_
  refine aw_iload C dX6_spreads_36 0 rfl ?_
  refine aw_iald C rfl rfl hf dX6_spreads_38 (fun hf => ?_)
  refine aw_iconst (v := (-1)) C dX6_spreads_39 (by decide) ?_
  refine aw_icmp_ne (tgt := 66) C dX6_spreads_40 (by decide) hf (fun hf => ?_) (fun hf => ?_)
  · refine aw_sub [1, 2, 3, 4, 5, 6] rfl ?_
    exact tX6_spreads_66 C  H6 hf
  refine aw_aload_n C dX6_spreads_43 rfl 1 rfl ?_
  refine aw_get C (kd_lt rfl (by decide)) (ce_6 rfl) rfl hinX6_spreads_6 8 (by decide) rfl (by decide +kernel) rfl dX6_spreads_44 ?_
  refine aw_iload C dX6_spreads_47 0 rfl ?_
  refine aw_aload_n C dX6_spreads_49 rfl 1 rfl ?_
  refine aw_get C (kd_lt rfl (by decide)) (ce_6 rfl) rfl hinX6_spreads_6 10 (by decide) rfl (by decide +kernel) rfl dX6_spreads_50 ?_
  refine aw_iast C rfl rfl hf dX6_spreads_53 (fun hf => ?_)
  refine aw_nmH hf (fun h2 hf => ?_)
  refine aw_aload_n C dX6_spreads_54 rfl 1 rfl ?_
  refine aw_get C (kd_lt rfl (by decide)) (ce_6 rfl) rfl hinX6_spreads_6 9 (by decide) rfl (by decide +kernel) rfl dX6_spreads_55 ?_
  refine aw_iload C dX6_spreads_58 5 rfl ?_
  refine aw_iload C dX6_spreads_60 0 rfl ?_
  refine aw_iast C rfl rfl hf dX6_spreads_62 (fun hf => ?_)
  refine aw_nmH hf (fun h3 hf => ?_)
  obtain ⟨v4, hvv4, hf⟩ := nm_ex hf
  refine aw_iinc (j := 5) (v := v4) (lv1 := [(4, .int v4), (6, .int r1), (0, .ref (ad 29)), (1, .int a1), (2, .int a2), (3, .int a3), (5, .int x5)]) C dX6_spreads_63 rfl hvv4 (by decide) rfl ?_
  refine aw_sub [2, 3, 4, 5, 0, 6] rfl ?_
  exact tX6_spreads_66 C  H6 hf
set_option maxHeartbeats 4000000 in
set_option maxRecDepth 100000 in
theorem tX6_spreads_6  {a1 : Int32} {a2 : Int32} {a3 : Int32} {r0 : Int32} {h0 : AH} (C : Cx p rmX6_spreads s m args meth c RX6 cX6_spreads 7 (some .int) wsX6_spreads D ad cy tb 0 0) : ∀ (n : Nat) (h : AH) (x4 : Int32) (x5 : Int32), fX6_spreads_6 a1 a2 a3 n h x4 x5 = some (r0, h0) → AW p l e rmX6_spreads s m args below meth c 7 D ad cy 0 0 (Qi D ad cy below args s r0 h0) 6 [(0, .ref (ad 29)), (1, .int a1), (2, .int a2), (3, .int a3), (4, .int x4), (5, .int x5)] [] h := by
  intro n
  induction n with
  | zero => intro h x4 x5 hf; cases hf
  | succ n ih => intro h x4 x5 hf; exact tX6_spreads_6b C  ih  hf
set_option maxHeartbeats 4000000 in
set_option maxRecDepth 100000 in
theorem tX6_spreads_0 {h : AH} {a1 : Int32} {a2 : Int32} {a3 : Int32} {r0 : Int32} {h0 : AH} (C : Cx p rmX6_spreads s m args meth c RX6 cX6_spreads 7 (some .int) wsX6_spreads D ad cy tb 0 0) (hf : fX6_spreads h a1 a2 a3 = some (r0, h0)) : AW p l e rmX6_spreads s m args below meth c 7 D ad cy 0 0 (Qi D ad cy below args s r0 h0) 0 [(0, .ref (ad 29)), (1, .int a1), (2, .int a2), (3, .int a3)] [] h := by
  unfold fX6_spreads at hf
  refine aw_iload_n C dX6_spreads_0 rfl 3 rfl ?_
  refine aw_istore (lv1 := [(4, .int a3), (0, .ref (ad 29)), (1, .int a1), (2, .int a2), (3, .int a3)]) C dX6_spreads_1 (by decide) rfl ?_
  refine aw_iconst (v := 0) C dX6_spreads_3 (by decide) ?_
  refine aw_istore (lv1 := [(5, .int 0), (4, .int a3), (0, .ref (ad 29)), (1, .int a1), (2, .int a2), (3, .int a3)]) C dX6_spreads_4 (by decide) rfl ?_
  refine aw_sub [2, 3, 4, 5, 1, 0] rfl ?_
  exact tX6_spreads_6 C   FU h a3 0 hf
theorem kX6_spreads {h : AH} {a1 : Int32} {a2 : Int32} {a3 : Int32} {r0 : Int32} {h0 : AH} (hi : Inj ad) (hf : fX6_spreads h a1 a2 a3 = some (r0, h0)) : Ki l yX6_spreads wsX6_spreads rmX6_spreads D ad cy tb [.ref (ad 29), .int a1, .int a2, .int a3] h r0 h0 := met_i (lv := [(0, .ref (ad 29)), (1, .int a1), (2, .int a2), (3, .int a3)]) hi (by decide) rfl (Nat.le_of_ble_eq_true rfl) rfl rfl (fun _ _ _ _ _ _ _ _ C => tX6_spreads_0 C  hf)
set_option maxRecDepth 20000 in
theorem ggX6_findsPieces_X6_spreads : GoodIn wsX6_findsPieces wsX6_spreads := goodIn_r _ [10, 3, 2, 1, 4, 11, 12, 9, 13, 14, 15, 16, 17, 18, 19, 20, 21, 22, 23, 24, 25, 26, 27, 28, 29, 30, 31] (by decide +kernel) (by decide +kernel)
set_option maxRecDepth 20000 in
theorem gX6_findsPieces_X6_spreads : GoodIn wsX6_findsPieces (wsV RX6 175 RX6 yX6_spreads wsX6_spreads) := goodIn_app (goodIn_of _ (by decide +kernel)) ggX6_findsPieces_X6_spreads
theorem dX6_findsPieces_0 : decode cX6_findsPieces 0 = .ok (.aload_n 0, 1) := by decide +kernel
theorem dX6_findsPieces_1 : decode cX6_findsPieces 1 = .ok (.iconst 0, 1) := by decide +kernel
theorem dX6_findsPieces_2 : decode cX6_findsPieces 2 = .ok (.putfield 172, 3) := by decide +kernel
theorem dX6_findsPieces_5 : decode cX6_findsPieces 5 = .ok (.iconst 0, 1) := by decide +kernel
theorem dX6_findsPieces_6 : decode cX6_findsPieces 6 = .ok (.istore_n 1, 1) := by decide +kernel
theorem dX6_findsPieces_7 : decode cX6_findsPieces 7 = .ok (.iload_n 1, 1) := by decide +kernel
theorem dX6_findsPieces_8 : decode cX6_findsPieces 8 = .ok (.sipush 448, 3) := by decide +kernel
theorem dX6_findsPieces_11 : decode cX6_findsPieces 11 = .ok (.if_icmp .ge 16, 3) := by decide +kernel
theorem dX6_findsPieces_14 : decode cX6_findsPieces 14 = .ok (.aload_n 0, 1) := by decide +kernel
theorem dX6_findsPieces_15 : decode cX6_findsPieces 15 = .ok (.getfield 30, 3) := by decide +kernel
theorem dX6_findsPieces_18 : decode cX6_findsPieces 18 = .ok (.iload_n 1, 1) := by decide +kernel
theorem dX6_findsPieces_19 : decode cX6_findsPieces 19 = .ok (.iconst (-1), 1) := by decide +kernel
theorem dX6_findsPieces_20 : decode cX6_findsPieces 20 = .ok (.iastore, 1) := by decide +kernel
theorem dX6_findsPieces_21 : decode cX6_findsPieces 21 = .ok (.iinc 1 1, 3) := by decide +kernel
theorem dX6_findsPieces_24 : decode cX6_findsPieces 24 = .ok (.goto (-17), 3) := by decide +kernel
theorem dX6_findsPieces_27 : decode cX6_findsPieces 27 = .ok (.iconst 0, 1) := by decide +kernel
theorem dX6_findsPieces_28 : decode cX6_findsPieces 28 = .ok (.istore_n 1, 1) := by decide +kernel
theorem dX6_findsPieces_29 : decode cX6_findsPieces 29 = .ok (.iload_n 1, 1) := by decide +kernel
theorem dX6_findsPieces_30 : decode cX6_findsPieces 30 = .ok (.sipush 448, 3) := by decide +kernel
theorem dX6_findsPieces_33 : decode cX6_findsPieces 33 = .ok (.if_icmp .ge 143, 3) := by decide +kernel
theorem dX6_findsPieces_36 : decode cX6_findsPieces 36 = .ok (.aload_n 0, 1) := by decide +kernel
theorem dX6_findsPieces_37 : decode cX6_findsPieces 37 = .ok (.getfield 21, 3) := by decide +kernel
theorem dX6_findsPieces_40 : decode cX6_findsPieces 40 = .ok (.iload_n 1, 1) := by decide +kernel
theorem dX6_findsPieces_41 : decode cX6_findsPieces 41 = .ok (.baload, 1) := by decide +kernel
theorem dX6_findsPieces_42 : decode cX6_findsPieces 42 = .ok (.ifCond .eq 128, 3) := by decide +kernel
theorem dX6_findsPieces_45 : decode cX6_findsPieces 45 = .ok (.aload_n 0, 1) := by decide +kernel
theorem dX6_findsPieces_46 : decode cX6_findsPieces 46 = .ok (.getfield 30, 3) := by decide +kernel
theorem dX6_findsPieces_49 : decode cX6_findsPieces 49 = .ok (.iload_n 1, 1) := by decide +kernel
theorem dX6_findsPieces_50 : decode cX6_findsPieces 50 = .ok (.iaload, 1) := by decide +kernel
theorem dX6_findsPieces_51 : decode cX6_findsPieces 51 = .ok (.iconst (-1), 1) := by decide +kernel
theorem dX6_findsPieces_52 : decode cX6_findsPieces 52 = .ok (.if_icmp .ne 118, 3) := by decide +kernel
theorem dX6_findsPieces_55 : decode cX6_findsPieces 55 = .ok (.aload_n 0, 1) := by decide +kernel
theorem dX6_findsPieces_56 : decode cX6_findsPieces 56 = .ok (.getfield 30, 3) := by decide +kernel
theorem dX6_findsPieces_59 : decode cX6_findsPieces 59 = .ok (.iload_n 1, 1) := by decide +kernel
theorem dX6_findsPieces_60 : decode cX6_findsPieces 60 = .ok (.aload_n 0, 1) := by decide +kernel
theorem dX6_findsPieces_61 : decode cX6_findsPieces 61 = .ok (.getfield 172, 3) := by decide +kernel
theorem dX6_findsPieces_64 : decode cX6_findsPieces 64 = .ok (.iastore, 1) := by decide +kernel
theorem dX6_findsPieces_65 : decode cX6_findsPieces 65 = .ok (.aload_n 0, 1) := by decide +kernel
theorem dX6_findsPieces_66 : decode cX6_findsPieces 66 = .ok (.getfield 33, 3) := by decide +kernel
theorem dX6_findsPieces_69 : decode cX6_findsPieces 69 = .ok (.iconst 0, 1) := by decide +kernel
theorem dX6_findsPieces_70 : decode cX6_findsPieces 70 = .ok (.iload_n 1, 1) := by decide +kernel
theorem dX6_findsPieces_71 : decode cX6_findsPieces 71 = .ok (.iastore, 1) := by decide +kernel
theorem dX6_findsPieces_72 : decode cX6_findsPieces 72 = .ok (.iconst 1, 1) := by decide +kernel
theorem dX6_findsPieces_73 : decode cX6_findsPieces 73 = .ok (.istore_n 2, 1) := by decide +kernel
theorem dX6_findsPieces_74 : decode cX6_findsPieces 74 = .ok (.iconst 0, 1) := by decide +kernel
theorem dX6_findsPieces_75 : decode cX6_findsPieces 75 = .ok (.istore_n 3, 1) := by decide +kernel
theorem dX6_findsPieces_76 : decode cX6_findsPieces 76 = .ok (.iload_n 3, 1) := by decide +kernel
theorem dX6_findsPieces_77 : decode cX6_findsPieces 77 = .ok (.iload_n 2, 1) := by decide +kernel
theorem dX6_findsPieces_78 : decode cX6_findsPieces 78 = .ok (.if_icmp .ge 82, 3) := by decide +kernel
theorem dX6_findsPieces_81 : decode cX6_findsPieces 81 = .ok (.aload_n 0, 1) := by decide +kernel
theorem dX6_findsPieces_82 : decode cX6_findsPieces 82 = .ok (.aload_n 0, 1) := by decide +kernel
theorem dX6_findsPieces_83 : decode cX6_findsPieces 83 = .ok (.getfield 33, 3) := by decide +kernel
theorem dX6_findsPieces_86 : decode cX6_findsPieces 86 = .ok (.iload_n 3, 1) := by decide +kernel
theorem dX6_findsPieces_87 : decode cX6_findsPieces 87 = .ok (.iaload, 1) := by decide +kernel
theorem dX6_findsPieces_88 : decode cX6_findsPieces 88 = .ok (.bipush 64, 2) := by decide +kernel
theorem dX6_findsPieces_90 : decode cX6_findsPieces 90 = .ok (.idiv, 1) := by decide +kernel
theorem dX6_findsPieces_91 : decode cX6_findsPieces 91 = .ok (.aload_n 0, 1) := by decide +kernel
theorem dX6_findsPieces_92 : decode cX6_findsPieces 92 = .ok (.getfield 33, 3) := by decide +kernel
theorem dX6_findsPieces_95 : decode cX6_findsPieces 95 = .ok (.iload_n 3, 1) := by decide +kernel
theorem dX6_findsPieces_96 : decode cX6_findsPieces 96 = .ok (.iaload, 1) := by decide +kernel
theorem dX6_findsPieces_97 : decode cX6_findsPieces 97 = .ok (.bipush 8, 2) := by decide +kernel
theorem dX6_findsPieces_99 : decode cX6_findsPieces 99 = .ok (.idiv, 1) := by decide +kernel
theorem dX6_findsPieces_100 : decode cX6_findsPieces 100 = .ok (.bipush 8, 2) := by decide +kernel
theorem dX6_findsPieces_102 : decode cX6_findsPieces 102 = .ok (.irem, 1) := by decide +kernel
theorem dX6_findsPieces_103 : decode cX6_findsPieces 103 = .ok (.iload_n 2, 1) := by decide +kernel
theorem dX6_findsPieces_104 : decode cX6_findsPieces 104 = .ok (.invokevirtual 175, 3) := by decide +kernel
theorem dX6_findsPieces_107 : decode cX6_findsPieces 107 = .ok (.istore_n 2, 1) := by decide +kernel
theorem dX6_findsPieces_108 : decode cX6_findsPieces 108 = .ok (.aload_n 0, 1) := by decide +kernel
theorem dX6_findsPieces_109 : decode cX6_findsPieces 109 = .ok (.getfield 33, 3) := by decide +kernel
theorem dX6_findsPieces_112 : decode cX6_findsPieces 112 = .ok (.iload_n 3, 1) := by decide +kernel
theorem dX6_findsPieces_113 : decode cX6_findsPieces 113 = .ok (.iaload, 1) := by decide +kernel
theorem dX6_findsPieces_114 : decode cX6_findsPieces 114 = .ok (.bipush 64, 2) := by decide +kernel
theorem dX6_findsPieces_116 : decode cX6_findsPieces 116 = .ok (.idiv, 1) := by decide +kernel
theorem dX6_findsPieces_117 : decode cX6_findsPieces 117 = .ok (.aload_n 0, 1) := by decide +kernel
theorem dX6_findsPieces_118 : decode cX6_findsPieces 118 = .ok (.getfield 7, 3) := by decide +kernel
theorem dX6_findsPieces_121 : decode cX6_findsPieces 121 = .ok (.if_icmp .ge 31, 3) := by decide +kernel
theorem dX6_findsPieces_124 : decode cX6_findsPieces 124 = .ok (.aload_n 0, 1) := by decide +kernel
theorem dX6_findsPieces_125 : decode cX6_findsPieces 125 = .ok (.aload_n 0, 1) := by decide +kernel
theorem dX6_findsPieces_126 : decode cX6_findsPieces 126 = .ok (.getfield 33, 3) := by decide +kernel
theorem dX6_findsPieces_129 : decode cX6_findsPieces 129 = .ok (.iload_n 3, 1) := by decide +kernel
theorem dX6_findsPieces_130 : decode cX6_findsPieces 130 = .ok (.iaload, 1) := by decide +kernel
theorem dX6_findsPieces_131 : decode cX6_findsPieces 131 = .ok (.bipush 64, 2) := by decide +kernel
theorem dX6_findsPieces_133 : decode cX6_findsPieces 133 = .ok (.idiv, 1) := by decide +kernel
theorem dX6_findsPieces_134 : decode cX6_findsPieces 134 = .ok (.iconst 1, 1) := by decide +kernel
theorem dX6_findsPieces_135 : decode cX6_findsPieces 135 = .ok (.iadd, 1) := by decide +kernel
theorem dX6_findsPieces_136 : decode cX6_findsPieces 136 = .ok (.aload_n 0, 1) := by decide +kernel
theorem dX6_findsPieces_137 : decode cX6_findsPieces 137 = .ok (.getfield 33, 3) := by decide +kernel
theorem dX6_findsPieces_140 : decode cX6_findsPieces 140 = .ok (.iload_n 3, 1) := by decide +kernel
theorem dX6_findsPieces_141 : decode cX6_findsPieces 141 = .ok (.iaload, 1) := by decide +kernel
theorem dX6_findsPieces_142 : decode cX6_findsPieces 142 = .ok (.bipush 8, 2) := by decide +kernel
theorem dX6_findsPieces_144 : decode cX6_findsPieces 144 = .ok (.irem, 1) := by decide +kernel
theorem dX6_findsPieces_145 : decode cX6_findsPieces 145 = .ok (.iload_n 2, 1) := by decide +kernel
theorem dX6_findsPieces_146 : decode cX6_findsPieces 146 = .ok (.invokevirtual 175, 3) := by decide +kernel
theorem dX6_findsPieces_149 : decode cX6_findsPieces 149 = .ok (.goto 4, 3) := by decide +kernel
theorem dX6_findsPieces_152 : decode cX6_findsPieces 152 = .ok (.iload_n 2, 1) := by decide +kernel
theorem dX6_findsPieces_153 : decode cX6_findsPieces 153 = .ok (.istore_n 2, 1) := by decide +kernel
theorem dX6_findsPieces_154 : decode cX6_findsPieces 154 = .ok (.iinc 3 1, 3) := by decide +kernel
theorem dX6_findsPieces_157 : decode cX6_findsPieces 157 = .ok (.goto (-81), 3) := by decide +kernel
theorem dX6_findsPieces_160 : decode cX6_findsPieces 160 = .ok (.aload_n 0, 1) := by decide +kernel
theorem dX6_findsPieces_161 : decode cX6_findsPieces 161 = .ok (.dup, 1) := by decide +kernel
theorem dX6_findsPieces_162 : decode cX6_findsPieces 162 = .ok (.getfield 172, 3) := by decide +kernel
theorem dX6_findsPieces_165 : decode cX6_findsPieces 165 = .ok (.iconst 1, 1) := by decide +kernel
theorem dX6_findsPieces_166 : decode cX6_findsPieces 166 = .ok (.iadd, 1) := by decide +kernel
theorem dX6_findsPieces_167 : decode cX6_findsPieces 167 = .ok (.putfield 172, 3) := by decide +kernel
theorem dX6_findsPieces_170 : decode cX6_findsPieces 170 = .ok (.iinc 1 1, 3) := by decide +kernel
theorem dX6_findsPieces_173 : decode cX6_findsPieces 173 = .ok (.goto (-144), 3) := by decide +kernel
theorem dX6_findsPieces_176 : decode cX6_findsPieces 176 = .ok (.return_, 1) := by decide +kernel
abbrev rmX6_findsPieces : Room := { frames := 2, cells := 0, slots := 0, locals := 48 }
set_option maxRecDepth 100000 in
theorem hinX6_findsPieces_6 : ∀ w ∈ wsX60, w ∈ wsX6_findsPieces := by decide +kernel
set_option maxHeartbeats 4000000 in
set_option maxRecDepth 100000 in
theorem tX6_findsPieces_153 {h : AH} {k29 : AH → Int32 → Option AH} {k76 : AH → Int32 → Int32 → Int32 → Option AH} {x1 : Int32} {x3 : Int32} {s0 : Int32} {h0 : AH} (C : Cx p rmX6_findsPieces s m args meth c RX6 cX6_findsPieces 4 none wsX6_findsPieces D ad cy tb 0 0) (H29 : ∀ (h : AH) (x1 : Int32), k29 h x1 = some h0 → AW p l e rmX6_findsPieces s m args below meth c 4 D ad cy 0 0 (Qv D ad cy below args s h0) 29 [(0, .ref (ad 29)), (1, .int x1)] [] h) (H76 : ∀ (h : AH) (x1 : Int32) (x2 : Int32) (x3 : Int32), k76 h x1 x2 x3 = some h0 → AW p l e rmX6_findsPieces s m args below meth c 4 D ad cy 0 0 (Qv D ad cy below args s h0) 76 [(0, .ref (ad 29)), (1, .int x1), (2, .int x2), (3, .int x3)] [] h) (hf : fX6_findsPieces_153 k29 k76 h x1 x3 s0 = some h0) : AW p l e rmX6_findsPieces s m args below meth c 4 D ad cy 0 0 (Qv D ad cy below args s h0) 153 [(0, .ref (ad 29)), (1, .int x1), (3, .int x3)] [.int s0] h := by
  unfold fX6_findsPieces_153 at hf
  refine aw_istore_n (lv1 := [(2, .int s0), (0, .ref (ad 29)), (1, .int x1), (3, .int x3)]) C dX6_findsPieces_153 rfl (by decide) rfl ?_
  obtain ⟨v1, hvv1, hf⟩ := nm_ex hf
  refine aw_iinc (j := 3) (v := v1) (lv1 := [(3, .int v1), (2, .int s0), (0, .ref (ad 29)), (1, .int x1)]) C dX6_findsPieces_154 rfl hvv1 (by decide) rfl ?_
  refine aw_goto (tgt := 76) C dX6_findsPieces_157 (by decide) ?_
  refine aw_sub [2, 3, 1, 0] rfl ?_
  exact H76 h x1 s0 v1 hf
set_option maxHeartbeats 4000000 in
set_option maxRecDepth 100000 in
theorem tX6_findsPieces_170 {h : AH} {k29 : AH → Int32 → Option AH} {x1 : Int32} {h0 : AH} (C : Cx p rmX6_findsPieces s m args meth c RX6 cX6_findsPieces 4 none wsX6_findsPieces D ad cy tb 0 0) (H29 : ∀ (h : AH) (x1 : Int32), k29 h x1 = some h0 → AW p l e rmX6_findsPieces s m args below meth c 4 D ad cy 0 0 (Qv D ad cy below args s h0) 29 [(0, .ref (ad 29)), (1, .int x1)] [] h) (hf : fX6_findsPieces_170 k29 h x1 = some h0) : AW p l e rmX6_findsPieces s m args below meth c 4 D ad cy 0 0 (Qv D ad cy below args s h0) 170 [(0, .ref (ad 29)), (1, .int x1)] [] h := by
  unfold fX6_findsPieces_170 at hf
  obtain ⟨v1, hvv1, hf⟩ := nm_ex hf
  refine aw_iinc (j := 1) (v := v1) (lv1 := [(1, .int v1), (0, .ref (ad 29))]) C dX6_findsPieces_170 rfl hvv1 (by decide) rfl ?_
  refine aw_goto (tgt := 29) C dX6_findsPieces_173 (by decide) ?_
  refine aw_sub [1, 0] rfl ?_
  exact H29 h v1 hf
set_option maxHeartbeats 4000000 in
set_option maxRecDepth 100000 in
theorem tX6_findsPieces_76b {h : AH} {k29 : AH → Int32 → Option AH} {k76 : AH → Int32 → Int32 → Int32 → Option AH} {x1 : Int32} {x2 : Int32} {x3 : Int32} {h0 : AH} (C : Cx p rmX6_findsPieces s m args meth c RX6 cX6_findsPieces 4 none wsX6_findsPieces D ad cy tb 0 0) (H29 : ∀ (h : AH) (x1 : Int32), k29 h x1 = some h0 → AW p l e rmX6_findsPieces s m args below meth c 4 D ad cy 0 0 (Qv D ad cy below args s h0) 29 [(0, .ref (ad 29)), (1, .int x1)] [] h) (H76 : ∀ (h : AH) (x1 : Int32) (x2 : Int32) (x3 : Int32), k76 h x1 x2 x3 = some h0 → AW p l e rmX6_findsPieces s m args below meth c 4 D ad cy 0 0 (Qv D ad cy below args s h0) 76 [(0, .ref (ad 29)), (1, .int x1), (2, .int x2), (3, .int x3)] [] h) (hf : fX6_findsPieces_76b k29 k76 h x1 x2 x3 = some h0) : AW p l e rmX6_findsPieces s m args below meth c 4 D ad cy 0 0 (Qv D ad cy below args s h0) 76 [(0, .ref (ad 29)), (1, .int x1), (2, .int x2), (3, .int x3)] [] h := by
  unfold fX6_findsPieces_76b at hf
  refine aw_iload_n C dX6_findsPieces_76 rfl 3 rfl ?_
  refine aw_iload_n C dX6_findsPieces_77 rfl 2 rfl ?_
  refine aw_icmp_ge (tgt := 160) C dX6_findsPieces_78 (by decide) hf (fun hf => ?_) (fun hf => ?_)
  · refine aw_aload_n C dX6_findsPieces_160 rfl 0 rfl ?_
    refine aw_dup C dX6_findsPieces_161 rfl ?_
    refine aw_get C (kd_lt rfl (by decide)) (ce_6 rfl) rfl hinX6_findsPieces_6 10 (by decide) rfl (by decide +kernel) rfl dX6_findsPieces_162 ?_
    refine aw_iconst (v := 1) C dX6_findsPieces_165 (by decide) ?_
    refine aw_iadd C dX6_findsPieces_166 ?_
    refine aw_put (ty := .int) C (kd_lt rfl (by decide)) (ce_6 rfl) rfl hinX6_findsPieces_6 tyX6 tyX6_ok nmX6 10 (by decide) rfl (by decide +kernel) rfl (by decide +kernel) rfl rfl (Nat.le_of_ble_eq_true rfl) (cs_6_10 rfl) dX6_findsPieces_167 ?_
    refine aw_nmH hf (fun h1 hf => ?_)
    refine aw_sub [0, 1] rfl ?_
    exact tX6_findsPieces_170 C  H29 hf
  refine aw_aload_n C dX6_findsPieces_81 rfl 0 rfl ?_
  refine aw_aload_n C dX6_findsPieces_82 rfl 0 rfl ?_
  refine aw_get C (kd_lt rfl (by decide)) (ce_6 rfl) rfl hinX6_findsPieces_6 9 (by decide) rfl (by decide +kernel) rfl dX6_findsPieces_83 ?_
  refine aw_iload_n C dX6_findsPieces_86 rfl 3 rfl ?_
  refine aw_iald C rfl rfl hf dX6_findsPieces_87 (fun hf => ?_)
  refine aw_bipush (v := 64) C dX6_findsPieces_88 (by decide) ?_
  refine aw_idiv C dX6_findsPieces_90 (by decide) ?_
  refine aw_aload_n C dX6_findsPieces_91 rfl 0 rfl ?_
  refine aw_get C (kd_lt rfl (by decide)) (ce_6 rfl) rfl hinX6_findsPieces_6 9 (by decide) rfl (by decide +kernel) rfl dX6_findsPieces_92 ?_
  refine aw_iload_n C dX6_findsPieces_95 rfl 3 rfl ?_
  refine aw_iald C rfl rfl hf dX6_findsPieces_96 (fun hf => ?_)
  refine aw_bipush (v := 8) C dX6_findsPieces_97 (by decide) ?_
  refine aw_idiv C dX6_findsPieces_99 (by decide) ?_
  refine aw_bipush (v := 8) C dX6_findsPieces_100 (by decide) ?_
  refine aw_nm2 hf (fun v2 hf => ?_)
  refine aw_irem C dX6_findsPieces_102 (by decide) ?_
  refine aw_iload_n C dX6_findsPieces_103 rfl 2 rfl ?_
  obtain ⟨r4, h3, hc, hf⟩ := bW_some hf
  refine aw_callVi (As := [.int ((h.1 36 x3.toNatClampNeg) / 64), .int (v2 - v2 / 8 * 8), .int x2]) (rest := []) C rfl (by decide) rfl (kX6_spreads (l := l) (D := D) (ad := ad) (cy := cy) (tb := tb) C.2.2.2.2.2.2.2.2.1 hc) (fun ht _ => cwV 3 ht gX6_findsPieces_X6_spreads rfl rfl rfl (by decide +kernel) ⟨Nat.le_of_ble_eq_true rfl, Nat.le_of_ble_eq_true rfl⟩) rfl rfl (Nat.le_of_ble_eq_true rfl) dX6_findsPieces_104 ?_
  refine aw_istore_n (lv1 := [(2, .int r4), (0, .ref (ad 29)), (1, .int x1), (3, .int x3)]) C dX6_findsPieces_107 rfl (by decide) rfl ?_
  refine aw_aload_n C dX6_findsPieces_108 rfl 1 rfl ?_
  refine aw_get C (kd_lt rfl (by decide)) (ce_6 rfl) rfl hinX6_findsPieces_6 9 (by decide) rfl (by decide +kernel) rfl dX6_findsPieces_109 ?_
  refine aw_iload_n C dX6_findsPieces_112 rfl 3 rfl ?_
  refine aw_iald C rfl rfl hf dX6_findsPieces_113 (fun hf => ?_)
  refine aw_bipush (v := 64) C dX6_findsPieces_114 (by decide) ?_
  refine aw_idiv C dX6_findsPieces_116 (by decide) ?_
  refine aw_aload_n C dX6_findsPieces_117 rfl 1 rfl ?_
  refine aw_get C (kd_lt rfl (by decide)) (ce_6 rfl) rfl hinX6_findsPieces_6 0 (by decide) rfl (by decide +kernel) rfl dX6_findsPieces_118 ?_
  refine aw_icmp_ge (tgt := 152) C dX6_findsPieces_121 (by decide) hf (fun hf => ?_) (fun hf => ?_)
  · refine aw_iload_n C dX6_findsPieces_152 rfl 0 rfl ?_
    refine aw_sub [1, 2, 3] rfl ?_
    exact tX6_findsPieces_153 C  H29 H76 hf
  refine aw_aload_n C dX6_findsPieces_124 rfl 1 rfl ?_
  refine aw_aload_n C dX6_findsPieces_125 rfl 1 rfl ?_
  refine aw_get C (kd_lt rfl (by decide)) (ce_6 rfl) rfl hinX6_findsPieces_6 9 (by decide) rfl (by decide +kernel) rfl dX6_findsPieces_126 ?_
  refine aw_iload_n C dX6_findsPieces_129 rfl 3 rfl ?_
  refine aw_iald C rfl rfl hf dX6_findsPieces_130 (fun hf => ?_)
  refine aw_bipush (v := 64) C dX6_findsPieces_131 (by decide) ?_
  refine aw_idiv C dX6_findsPieces_133 (by decide) ?_
  refine aw_iconst (v := 1) C dX6_findsPieces_134 (by decide) ?_
  refine aw_iadd C dX6_findsPieces_135 ?_
  refine aw_aload_n C dX6_findsPieces_136 rfl 1 rfl ?_
  refine aw_get C (kd_lt rfl (by decide)) (ce_6 rfl) rfl hinX6_findsPieces_6 9 (by decide) rfl (by decide +kernel) rfl dX6_findsPieces_137 ?_
  refine aw_iload_n C dX6_findsPieces_140 rfl 3 rfl ?_
  refine aw_iald C rfl rfl hf dX6_findsPieces_141 (fun hf => ?_)
  refine aw_bipush (v := 8) C dX6_findsPieces_142 (by decide) ?_
  refine aw_nm2 hf (fun v5 hf => ?_)
  refine aw_irem C dX6_findsPieces_144 (by decide) ?_
  refine aw_iload_n C dX6_findsPieces_145 rfl 0 rfl ?_
  obtain ⟨r7, h6, hc, hf⟩ := bW_some hf
  refine aw_callVi (As := [.int (((h3.1 36 x3.toNatClampNeg) / 64) + 1), .int (v5 - v5 / 8 * 8), .int r4]) (rest := []) C rfl (by decide) rfl (kX6_spreads (l := l) (D := D) (ad := ad) (cy := cy) (tb := tb) C.2.2.2.2.2.2.2.2.1 hc) (fun ht _ => cwV 3 ht gX6_findsPieces_X6_spreads rfl rfl rfl (by decide +kernel) ⟨Nat.le_of_ble_eq_true rfl, Nat.le_of_ble_eq_true rfl⟩) rfl rfl (Nat.le_of_ble_eq_true rfl) dX6_findsPieces_146 ?_
  refine aw_goto (tgt := 153) C dX6_findsPieces_149 (by decide) ?_
  refine aw_sub [1, 2, 3] rfl ?_
  exact tX6_findsPieces_153 C  H29 H76 hf
set_option maxHeartbeats 4000000 in
set_option maxRecDepth 100000 in
theorem tX6_findsPieces_76  {k29 : AH → Int32 → Option AH} {h0 : AH} (C : Cx p rmX6_findsPieces s m args meth c RX6 cX6_findsPieces 4 none wsX6_findsPieces D ad cy tb 0 0) (H29 : ∀ (h : AH) (x1 : Int32), k29 h x1 = some h0 → AW p l e rmX6_findsPieces s m args below meth c 4 D ad cy 0 0 (Qv D ad cy below args s h0) 29 [(0, .ref (ad 29)), (1, .int x1)] [] h) : ∀ (n : Nat) (h : AH) (x1 : Int32) (x2 : Int32) (x3 : Int32), fX6_findsPieces_76 k29 n h x1 x2 x3 = some h0 → AW p l e rmX6_findsPieces s m args below meth c 4 D ad cy 0 0 (Qv D ad cy below args s h0) 76 [(0, .ref (ad 29)), (1, .int x1), (2, .int x2), (3, .int x3)] [] h := by
  intro n
  induction n with
  | zero => intro h x1 x2 x3 hf; cases hf
  | succ n ih => intro h x1 x2 x3 hf; exact tX6_findsPieces_76b C  H29 ih  hf
set_option maxHeartbeats 4000000 in
set_option maxRecDepth 100000 in
theorem tX6_findsPieces_29b {h : AH} {k29 : AH → Int32 → Option AH} {x1 : Int32} {h0 : AH} (C : Cx p rmX6_findsPieces s m args meth c RX6 cX6_findsPieces 4 none wsX6_findsPieces D ad cy tb 0 0) (H29 : ∀ (h : AH) (x1 : Int32), k29 h x1 = some h0 → AW p l e rmX6_findsPieces s m args below meth c 4 D ad cy 0 0 (Qv D ad cy below args s h0) 29 [(0, .ref (ad 29)), (1, .int x1)] [] h) (hf : fX6_findsPieces_29b k29 h x1 = some h0) : AW p l e rmX6_findsPieces s m args below meth c 4 D ad cy 0 0 (Qv D ad cy below args s h0) 29 [(0, .ref (ad 29)), (1, .int x1)] [] h := by
  unfold fX6_findsPieces_29b at hf
  refine aw_iload_n C dX6_findsPieces_29 rfl 1 rfl ?_
  refine aw_sipush (v := 448) C dX6_findsPieces_30 (by decide) ?_
  refine aw_icmp_ge (tgt := 176) C dX6_findsPieces_33 (by decide) hf (fun hf => ?_) (fun hf => ?_)
  · exact aw_vret C dX6_findsPieces_176 hf
  refine aw_aload_n C dX6_findsPieces_36 rfl 0 rfl ?_
  refine aw_get C (kd_lt rfl (by decide)) (ce_6 rfl) rfl hinX6_findsPieces_6 4 (by decide) rfl (by decide +kernel) rfl dX6_findsPieces_37 ?_
  refine aw_iload_n C dX6_findsPieces_40 rfl 1 rfl ?_
  refine aw_zald C rfl rfl hf dX6_findsPieces_41 (fun hf => ?_)
  refine aw_if_eq (tgt := 170) C dX6_findsPieces_42 (by decide) hf (fun hf => ?_) (fun hf => ?_)
  · refine aw_sub [0, 1] rfl ?_
    exact tX6_findsPieces_170 C  H29 hf
  refine aw_aload_n C dX6_findsPieces_45 rfl 0 rfl ?_
  refine aw_get C (kd_lt rfl (by decide)) (ce_6 rfl) rfl hinX6_findsPieces_6 8 (by decide) rfl (by decide +kernel) rfl dX6_findsPieces_46 ?_
  refine aw_iload_n C dX6_findsPieces_49 rfl 1 rfl ?_
  refine aw_iald C rfl rfl hf dX6_findsPieces_50 (fun hf => ?_)
  refine aw_iconst (v := (-1)) C dX6_findsPieces_51 (by decide) ?_
  refine aw_icmp_ne (tgt := 170) C dX6_findsPieces_52 (by decide) hf (fun hf => ?_) (fun hf => ?_)
  · refine aw_sub [0, 1] rfl ?_
    exact tX6_findsPieces_170 C  H29 hf
  refine aw_aload_n C dX6_findsPieces_55 rfl 0 rfl ?_
  refine aw_get C (kd_lt rfl (by decide)) (ce_6 rfl) rfl hinX6_findsPieces_6 8 (by decide) rfl (by decide +kernel) rfl dX6_findsPieces_56 ?_
  refine aw_iload_n C dX6_findsPieces_59 rfl 1 rfl ?_
  refine aw_aload_n C dX6_findsPieces_60 rfl 0 rfl ?_
  refine aw_get C (kd_lt rfl (by decide)) (ce_6 rfl) rfl hinX6_findsPieces_6 10 (by decide) rfl (by decide +kernel) rfl dX6_findsPieces_61 ?_
  refine aw_iast C rfl rfl hf dX6_findsPieces_64 (fun hf => ?_)
  refine aw_nmH hf (fun h1 hf => ?_)
  refine aw_aload_n C dX6_findsPieces_65 rfl 0 rfl ?_
  refine aw_get C (kd_lt rfl (by decide)) (ce_6 rfl) rfl hinX6_findsPieces_6 9 (by decide) rfl (by decide +kernel) rfl dX6_findsPieces_66 ?_
  refine aw_iconst (v := 0) C dX6_findsPieces_69 (by decide) ?_
  refine aw_iload_n C dX6_findsPieces_70 rfl 1 rfl ?_
  refine aw_iast C rfl rfl hf dX6_findsPieces_71 (fun hf => ?_)
  refine aw_nmH hf (fun h2 hf => ?_)
  refine aw_iconst (v := 1) C dX6_findsPieces_72 (by decide) ?_
  refine aw_istore_n (lv1 := [(2, .int 1), (0, .ref (ad 29)), (1, .int x1)]) C dX6_findsPieces_73 rfl (by decide) rfl ?_
  refine aw_iconst (v := 0) C dX6_findsPieces_74 (by decide) ?_
  refine aw_istore_n (lv1 := [(3, .int 0), (2, .int 1), (0, .ref (ad 29)), (1, .int x1)]) C dX6_findsPieces_75 rfl (by decide) rfl ?_
  refine aw_sub [2, 3, 1, 0] rfl ?_
  exact tX6_findsPieces_76 C  H29 FU h2 x1 1 0 hf
set_option maxHeartbeats 4000000 in
set_option maxRecDepth 100000 in
theorem tX6_findsPieces_29  {h0 : AH} (C : Cx p rmX6_findsPieces s m args meth c RX6 cX6_findsPieces 4 none wsX6_findsPieces D ad cy tb 0 0) : ∀ (n : Nat) (h : AH) (x1 : Int32), fX6_findsPieces_29 n h x1 = some h0 → AW p l e rmX6_findsPieces s m args below meth c 4 D ad cy 0 0 (Qv D ad cy below args s h0) 29 [(0, .ref (ad 29)), (1, .int x1)] [] h := by
  intro n
  induction n with
  | zero => intro h x1 hf; cases hf
  | succ n ih => intro h x1 hf; exact tX6_findsPieces_29b C  ih  hf
set_option maxHeartbeats 4000000 in
set_option maxRecDepth 100000 in
theorem tX6_findsPieces_7b {h : AH} {k7 : AH → Int32 → Option AH} {x1 : Int32} {h0 : AH} (C : Cx p rmX6_findsPieces s m args meth c RX6 cX6_findsPieces 4 none wsX6_findsPieces D ad cy tb 0 0) (H7 : ∀ (h : AH) (x1 : Int32), k7 h x1 = some h0 → AW p l e rmX6_findsPieces s m args below meth c 4 D ad cy 0 0 (Qv D ad cy below args s h0) 7 [(0, .ref (ad 29)), (1, .int x1)] [] h) (hf : fX6_findsPieces_7b k7 h x1 = some h0) : AW p l e rmX6_findsPieces s m args below meth c 4 D ad cy 0 0 (Qv D ad cy below args s h0) 7 [(0, .ref (ad 29)), (1, .int x1)] [] h := by
  unfold fX6_findsPieces_7b at hf
  refine aw_iload_n C dX6_findsPieces_7 rfl 1 rfl ?_
  refine aw_sipush (v := 448) C dX6_findsPieces_8 (by decide) ?_
  refine aw_icmp_ge (tgt := 27) C dX6_findsPieces_11 (by decide) hf (fun hf => ?_) (fun hf => ?_)
  · refine aw_iconst (v := 0) C dX6_findsPieces_27 (by decide) ?_
    refine aw_istore_n (lv1 := [(1, .int 0), (0, .ref (ad 29))]) C dX6_findsPieces_28 rfl (by decide) rfl ?_
    refine aw_sub [1, 0] rfl ?_
    exact tX6_findsPieces_29 C   FU h 0 hf
  refine aw_aload_n C dX6_findsPieces_14 rfl 0 rfl ?_
  refine aw_get C (kd_lt rfl (by decide)) (ce_6 rfl) rfl hinX6_findsPieces_6 8 (by decide) rfl (by decide +kernel) rfl dX6_findsPieces_15 ?_
  refine aw_iload_n C dX6_findsPieces_18 rfl 1 rfl ?_
  refine aw_iconst (v := (-1)) C dX6_findsPieces_19 (by decide) ?_
  refine aw_iast C rfl rfl hf dX6_findsPieces_20 (fun hf => ?_)
  refine aw_nmH hf (fun h1 hf => ?_)
  obtain ⟨v2, hvv2, hf⟩ := nm_ex hf
  refine aw_iinc (j := 1) (v := v2) (lv1 := [(1, .int v2), (0, .ref (ad 29))]) C dX6_findsPieces_21 rfl hvv2 (by decide) rfl ?_
  refine aw_goto (tgt := 7) C dX6_findsPieces_24 (by decide) ?_
  refine aw_sub [1, 0] rfl ?_
  exact H7 h1 v2 hf
set_option maxHeartbeats 4000000 in
set_option maxRecDepth 100000 in
theorem tX6_findsPieces_7  {h0 : AH} (C : Cx p rmX6_findsPieces s m args meth c RX6 cX6_findsPieces 4 none wsX6_findsPieces D ad cy tb 0 0) : ∀ (n : Nat) (h : AH) (x1 : Int32), fX6_findsPieces_7 n h x1 = some h0 → AW p l e rmX6_findsPieces s m args below meth c 4 D ad cy 0 0 (Qv D ad cy below args s h0) 7 [(0, .ref (ad 29)), (1, .int x1)] [] h := by
  intro n
  induction n with
  | zero => intro h x1 hf; cases hf
  | succ n ih => intro h x1 hf; exact tX6_findsPieces_7b C  ih  hf
set_option maxHeartbeats 4000000 in
set_option maxRecDepth 100000 in
theorem tX6_findsPieces_0 {h : AH} {h0 : AH} (C : Cx p rmX6_findsPieces s m args meth c RX6 cX6_findsPieces 4 none wsX6_findsPieces D ad cy tb 0 0) (hf : fX6_findsPieces h = some h0) : AW p l e rmX6_findsPieces s m args below meth c 4 D ad cy 0 0 (Qv D ad cy below args s h0) 0 [(0, .ref (ad 29))] [] h := by
  unfold fX6_findsPieces at hf
  refine aw_aload_n C dX6_findsPieces_0 rfl 0 rfl ?_
  refine aw_iconst (v := 0) C dX6_findsPieces_1 (by decide) ?_
  refine aw_put (ty := .int) C (kd_lt rfl (by decide)) (ce_6 rfl) rfl hinX6_findsPieces_6 tyX6 tyX6_ok nmX6 10 (by decide) rfl (by decide +kernel) rfl (by decide +kernel) rfl rfl (Nat.le_of_ble_eq_true rfl) (cs_6_10 rfl) dX6_findsPieces_2 ?_
  refine aw_nmH hf (fun h1 hf => ?_)
  refine aw_iconst (v := 0) C dX6_findsPieces_5 (by decide) ?_
  refine aw_istore_n (lv1 := [(1, .int 0), (0, .ref (ad 29))]) C dX6_findsPieces_6 rfl (by decide) rfl ?_
  refine aw_sub [1, 0] rfl ?_
  exact tX6_findsPieces_7 C   FU h1 0 hf
theorem kX6_findsPieces {h : AH} {h0 : AH} (hi : Inj ad) (hf : fX6_findsPieces h = some h0) : Kv l yX6_findsPieces wsX6_findsPieces rmX6_findsPieces D ad cy tb [.ref (ad 29)] h h0 := met_v (lv := [(0, .ref (ad 29))]) hi (by decide) rfl (Nat.le_of_ble_eq_true rfl) rfl rfl (fun _ _ _ _ _ _ _ _ C => tX6_findsPieces_0 C  hf)
set_option maxRecDepth 20000 in
theorem ggX6_hasPiece_X6_bitAt : GoodIn wsX6_hasPiece wsX6_bitAt := goodIn_r _ [5] (by decide +kernel) (by decide +kernel)
set_option maxRecDepth 20000 in
theorem gX6_hasPiece_X6_bitAt : GoodIn wsX6_hasPiece (va_wsS RX6 61 yX6_bitAt wsX6_bitAt) := goodIn_app (goodIn_of _ (by decide +kernel)) ggX6_hasPiece_X6_bitAt
theorem dX6_hasPiece_0 : decode cX6_hasPiece 0 = .ok (.iconst 0, 1) := by decide +kernel
theorem dX6_hasPiece_1 : decode cX6_hasPiece 1 = .ok (.istore 4, 2) := by decide +kernel
theorem dX6_hasPiece_3 : decode cX6_hasPiece 3 = .ok (.iconst 0, 1) := by decide +kernel
theorem dX6_hasPiece_4 : decode cX6_hasPiece 4 = .ok (.istore 5, 2) := by decide +kernel
theorem dX6_hasPiece_6 : decode cX6_hasPiece 6 = .ok (.iload 5, 2) := by decide +kernel
theorem dX6_hasPiece_8 : decode cX6_hasPiece 8 = .ok (.bipush 16, 2) := by decide +kernel
theorem dX6_hasPiece_10 : decode cX6_hasPiece 10 = .ok (.if_icmp .ge 37, 3) := by decide +kernel
theorem dX6_hasPiece_13 : decode cX6_hasPiece 13 = .ok (.iload 4, 2) := by decide +kernel
theorem dX6_hasPiece_15 : decode cX6_hasPiece 15 = .ok (.ifCond .ne 19, 3) := by decide +kernel
theorem dX6_hasPiece_18 : decode cX6_hasPiece 18 = .ok (.aload_n 0, 1) := by decide +kernel
theorem dX6_hasPiece_19 : decode cX6_hasPiece 19 = .ok (.getfield 30, 3) := by decide +kernel
theorem dX6_hasPiece_22 : decode cX6_hasPiece 22 = .ok (.iload_n 1, 1) := by decide +kernel
theorem dX6_hasPiece_23 : decode cX6_hasPiece 23 = .ok (.iload_n 2, 1) := by decide +kernel
theorem dX6_hasPiece_24 : decode cX6_hasPiece 24 = .ok (.iload 5, 2) := by decide +kernel
theorem dX6_hasPiece_26 : decode cX6_hasPiece 26 = .ok (.invokestatic 61, 3) := by decide +kernel
theorem dX6_hasPiece_29 : decode cX6_hasPiece 29 = .ok (.iaload, 1) := by decide +kernel
theorem dX6_hasPiece_30 : decode cX6_hasPiece 30 = .ok (.iload_n 3, 1) := by decide +kernel
theorem dX6_hasPiece_31 : decode cX6_hasPiece 31 = .ok (.if_icmp .ne 7, 3) := by decide +kernel
theorem dX6_hasPiece_34 : decode cX6_hasPiece 34 = .ok (.iconst 1, 1) := by decide +kernel
theorem dX6_hasPiece_35 : decode cX6_hasPiece 35 = .ok (.goto 4, 3) := by decide +kernel
theorem dX6_hasPiece_38 : decode cX6_hasPiece 38 = .ok (.iconst 0, 1) := by decide +kernel
theorem dX6_hasPiece_39 : decode cX6_hasPiece 39 = .ok (.istore 4, 2) := by decide +kernel
theorem dX6_hasPiece_41 : decode cX6_hasPiece 41 = .ok (.iinc 5 1, 3) := by decide +kernel
theorem dX6_hasPiece_44 : decode cX6_hasPiece 44 = .ok (.goto (-38), 3) := by decide +kernel
theorem dX6_hasPiece_47 : decode cX6_hasPiece 47 = .ok (.iload 4, 2) := by decide +kernel
theorem dX6_hasPiece_49 : decode cX6_hasPiece 49 = .ok (.ireturn, 1) := by decide +kernel
abbrev rmX6_hasPiece : Room := { frames := 1, cells := 0, slots := 0, locals := 22 }
set_option maxRecDepth 100000 in
theorem hinX6_hasPiece_6 : ∀ w ∈ wsX60, w ∈ wsX6_hasPiece := by decide +kernel
set_option maxHeartbeats 4000000 in
set_option maxRecDepth 100000 in
theorem tX6_hasPiece_39 {h : AH} {a1 : Int32} {a2 : Int32} {a3 : Int32} {k6 : Int32 → Int32 → Option Int32} {x5 : Int32} {s0 : Int32} {r0 : Int32} (C : Cx p rmX6_hasPiece s m args meth c RX6 cX6_hasPiece 6 (some .boolean) wsX6_hasPiece D ad cy tb 0 0) (H6 : ∀ (x4 : Int32) (x5 : Int32), k6 x4 x5 = some r0 → AW p l e rmX6_hasPiece s m args below meth c 6 D ad cy 0 0 (Qi D ad cy below args s r0 h) 6 [(0, .ref (ad 29)), (1, .int a1), (2, .int a2), (3, .int a3), (4, .int x4), (5, .int x5)] [] h) (hf : fX6_hasPiece_39 k6 h a1 a2 a3 x5 s0 = some r0) : AW p l e rmX6_hasPiece s m args below meth c 6 D ad cy 0 0 (Qi D ad cy below args s r0 h) 39 [(0, .ref (ad 29)), (1, .int a1), (2, .int a2), (3, .int a3), (5, .int x5)] [.int s0] h := by
  unfold fX6_hasPiece_39 at hf
  refine aw_istore (lv1 := [(4, .int s0), (0, .ref (ad 29)), (1, .int a1), (2, .int a2), (3, .int a3), (5, .int x5)]) C dX6_hasPiece_39 (by decide) rfl ?_
  obtain ⟨v1, hvv1, hf⟩ := nm_ex hf
  refine aw_iinc (j := 5) (v := v1) (lv1 := [(5, .int v1), (4, .int s0), (0, .ref (ad 29)), (1, .int a1), (2, .int a2), (3, .int a3)]) C dX6_hasPiece_41 rfl hvv1 (by decide) rfl ?_
  refine aw_goto (tgt := 6) C dX6_hasPiece_44 (by decide) ?_
  refine aw_sub [2, 3, 4, 5, 1, 0] rfl ?_
  exact H6 s0 v1 hf
set_option maxHeartbeats 4000000 in
set_option maxRecDepth 100000 in
theorem tX6_hasPiece_34 {h : AH} {a1 : Int32} {a2 : Int32} {a3 : Int32} {k6 : Int32 → Int32 → Option Int32} {x5 : Int32} {r0 : Int32} (C : Cx p rmX6_hasPiece s m args meth c RX6 cX6_hasPiece 6 (some .boolean) wsX6_hasPiece D ad cy tb 0 0) (H6 : ∀ (x4 : Int32) (x5 : Int32), k6 x4 x5 = some r0 → AW p l e rmX6_hasPiece s m args below meth c 6 D ad cy 0 0 (Qi D ad cy below args s r0 h) 6 [(0, .ref (ad 29)), (1, .int a1), (2, .int a2), (3, .int a3), (4, .int x4), (5, .int x5)] [] h) (hf : fX6_hasPiece_34 k6 h a1 a2 a3 x5 = some r0) : AW p l e rmX6_hasPiece s m args below meth c 6 D ad cy 0 0 (Qi D ad cy below args s r0 h) 34 [(0, .ref (ad 29)), (1, .int a1), (2, .int a2), (3, .int a3), (5, .int x5)] [] h := by
  unfold fX6_hasPiece_34 at hf
  refine aw_iconst (v := 1) C dX6_hasPiece_34 (by decide) ?_
  refine aw_goto (tgt := 39) C dX6_hasPiece_35 (by decide) ?_
  refine aw_sub [0, 1, 2, 3, 4] rfl ?_
  exact tX6_hasPiece_39 C  H6 hf
set_option maxHeartbeats 4000000 in
set_option maxRecDepth 100000 in
theorem tX6_hasPiece_6b {h : AH} {a1 : Int32} {a2 : Int32} {a3 : Int32} {k6 : Int32 → Int32 → Option Int32} {x4 : Int32} {x5 : Int32} {r0 : Int32} (C : Cx p rmX6_hasPiece s m args meth c RX6 cX6_hasPiece 6 (some .boolean) wsX6_hasPiece D ad cy tb 0 0) (H6 : ∀ (x4 : Int32) (x5 : Int32), k6 x4 x5 = some r0 → AW p l e rmX6_hasPiece s m args below meth c 6 D ad cy 0 0 (Qi D ad cy below args s r0 h) 6 [(0, .ref (ad 29)), (1, .int a1), (2, .int a2), (3, .int a3), (4, .int x4), (5, .int x5)] [] h) (hf : fX6_hasPiece_6b k6 h a1 a2 a3 x4 x5 = some r0) : AW p l e rmX6_hasPiece s m args below meth c 6 D ad cy 0 0 (Qi D ad cy below args s r0 h) 6 [(0, .ref (ad 29)), (1, .int a1), (2, .int a2), (3, .int a3), (4, .int x4), (5, .int x5)] [] h := by
  unfold fX6_hasPiece_6b at hf
  refine aw_iload C dX6_hasPiece_6 5 rfl ?_
  refine aw_bipush (v := 16) C dX6_hasPiece_8 (by decide) ?_
  refine aw_icmp_ge (tgt := 47) C dX6_hasPiece_10 (by decide) hf (fun hf => ?_) (fun hf => ?_)
  · refine aw_iload C dX6_hasPiece_47 4 rfl ?_
    exact aw_zretN C dX6_hasPiece_49 hf
  refine aw_iload C dX6_hasPiece_13 4 rfl ?_
  refine aw_if_ne (tgt := 34) C dX6_hasPiece_15 (by decide) hf (fun hf => ?_) (fun hf => ?_)
  · refine aw_sub [0, 1, 2, 3, 5] rfl ?_
    exact tX6_hasPiece_34 C  H6 hf
  refine aw_aload_n C dX6_hasPiece_18 rfl 0 rfl ?_
  refine aw_get C (kd_lt rfl (by decide)) (ce_6 rfl) rfl hinX6_hasPiece_6 8 (by decide) rfl (by decide +kernel) rfl dX6_hasPiece_19 ?_
  refine aw_iload_n C dX6_hasPiece_22 rfl 1 rfl ?_
  refine aw_iload_n C dX6_hasPiece_23 rfl 2 rfl ?_
  refine aw_iload C dX6_hasPiece_24 5 rfl ?_
  obtain ⟨r1, hc, hf⟩ := bR_some hf
  refine aw_callSi (As := [.int a1, .int a2, .int x5]) (rest := [.ref (ad 35)]) C (kX6_bitAt (l := l) (D := D) (ad := ad) (cy := cy) (tb := tb) C.2.2.2.2.2.2.2.2.1 hc) (fun ht _ => va_cwS 3 ht gX6_hasPiece_X6_bitAt rfl rfl rfl (by decide +kernel) ⟨Nat.le_of_ble_eq_true rfl, Nat.le_of_ble_eq_true rfl⟩) rfl rfl (Nat.le_of_ble_eq_true rfl) dX6_hasPiece_26 ?_
  refine aw_iald C rfl rfl hf dX6_hasPiece_29 (fun hf => ?_)
  refine aw_iload_n C dX6_hasPiece_30 rfl 3 rfl ?_
  refine aw_icmp_ne (tgt := 38) C dX6_hasPiece_31 (by decide) hf (fun hf => ?_) (fun hf => ?_)
  · refine aw_iconst (v := 0) C dX6_hasPiece_38 (by decide) ?_
    refine aw_sub [0, 1, 2, 3, 5] rfl ?_
    exact tX6_hasPiece_39 C  H6 hf
  refine aw_sub [0, 1, 2, 3, 5] rfl ?_
  exact tX6_hasPiece_34 C  H6 hf
set_option maxHeartbeats 4000000 in
set_option maxRecDepth 100000 in
theorem tX6_hasPiece_6 {h : AH} {a1 : Int32} {a2 : Int32} {a3 : Int32} {r0 : Int32} (C : Cx p rmX6_hasPiece s m args meth c RX6 cX6_hasPiece 6 (some .boolean) wsX6_hasPiece D ad cy tb 0 0) : ∀ (n : Nat) (x4 : Int32) (x5 : Int32), fX6_hasPiece_6 h a1 a2 a3 n x4 x5 = some r0 → AW p l e rmX6_hasPiece s m args below meth c 6 D ad cy 0 0 (Qi D ad cy below args s r0 h) 6 [(0, .ref (ad 29)), (1, .int a1), (2, .int a2), (3, .int a3), (4, .int x4), (5, .int x5)] [] h := by
  intro n
  induction n with
  | zero => intro x4 x5 hf; cases hf
  | succ n ih => intro x4 x5 hf; exact tX6_hasPiece_6b C  ih  hf
set_option maxHeartbeats 4000000 in
set_option maxRecDepth 100000 in
theorem tX6_hasPiece_0 {h : AH} {a1 : Int32} {a2 : Int32} {a3 : Int32} {r0 : Int32} (C : Cx p rmX6_hasPiece s m args meth c RX6 cX6_hasPiece 6 (some .boolean) wsX6_hasPiece D ad cy tb 0 0) (hf : fX6_hasPiece h a1 a2 a3 = some r0) : AW p l e rmX6_hasPiece s m args below meth c 6 D ad cy 0 0 (Qi D ad cy below args s r0 h) 0 [(0, .ref (ad 29)), (1, .int a1), (2, .int a2), (3, .int a3)] [] h := by
  unfold fX6_hasPiece at hf
  refine aw_iconst (v := 0) C dX6_hasPiece_0 (by decide) ?_
  refine aw_istore (lv1 := [(4, .int 0), (0, .ref (ad 29)), (1, .int a1), (2, .int a2), (3, .int a3)]) C dX6_hasPiece_1 (by decide) rfl ?_
  refine aw_iconst (v := 0) C dX6_hasPiece_3 (by decide) ?_
  refine aw_istore (lv1 := [(5, .int 0), (4, .int 0), (0, .ref (ad 29)), (1, .int a1), (2, .int a2), (3, .int a3)]) C dX6_hasPiece_4 (by decide) rfl ?_
  refine aw_sub [2, 3, 4, 5, 1, 0] rfl ?_
  exact tX6_hasPiece_6 C   FU 0 0 hf
theorem kX6_hasPiece {h : AH} {a1 : Int32} {a2 : Int32} {a3 : Int32} {r0 : Int32} (hi : Inj ad) (hf : fX6_hasPiece h a1 a2 a3 = some r0) : Ki l yX6_hasPiece wsX6_hasPiece rmX6_hasPiece D ad cy tb [.ref (ad 29), .int a1, .int a2, .int a3] h r0 h := met_i (lv := [(0, .ref (ad 29)), (1, .int a1), (2, .int a2), (3, .int a3)]) hi (by decide) rfl (Nat.le_of_ble_eq_true rfl) rfl rfl (fun _ _ _ _ _ _ _ _ C => tX6_hasPiece_0 C  hf)
set_option maxRecDepth 20000 in
theorem ggX6_pieceBy_X6_hasPiece : GoodIn wsX6_pieceBy wsX6_hasPiece := goodIn_r _ [8, 1, 9, 10, 7, 11, 15, 16, 17, 18, 19, 20, 21, 22, 23, 24, 25, 26, 27, 28, 29, 30, 31, 32] (by decide +kernel) (by decide +kernel)
set_option maxRecDepth 20000 in
theorem gX6_pieceBy_X6_hasPiece : GoodIn wsX6_pieceBy (wsV RX6 178 RX6 yX6_hasPiece wsX6_hasPiece) := goodIn_app (goodIn_of _ (by decide +kernel)) ggX6_pieceBy_X6_hasPiece
set_option maxRecDepth 20000 in
theorem ggX6_pieceBy_X6_onesOf : GoodIn wsX6_pieceBy wsX6_onesOf := goodIn_r _ [14, 9, 10, 7, 11] (by decide +kernel) (by decide +kernel)
set_option maxRecDepth 20000 in
theorem gX6_pieceBy_X6_onesOf : GoodIn wsX6_pieceBy (va_wsS RX6 69 yX6_onesOf wsX6_onesOf) := goodIn_app (goodIn_of _ (by decide +kernel)) ggX6_pieceBy_X6_onesOf
theorem dX6_pieceBy_0 : decode cX6_pieceBy 0 = .ok (.iconst 0, 1) := by decide +kernel
theorem dX6_pieceBy_1 : decode cX6_pieceBy 1 = .ok (.istore_n 3, 1) := by decide +kernel
theorem dX6_pieceBy_2 : decode cX6_pieceBy 2 = .ok (.iconst (-1), 1) := by decide +kernel
theorem dX6_pieceBy_3 : decode cX6_pieceBy 3 = .ok (.istore 4, 2) := by decide +kernel
theorem dX6_pieceBy_5 : decode cX6_pieceBy 5 = .ok (.sipush 447, 3) := by decide +kernel
theorem dX6_pieceBy_8 : decode cX6_pieceBy 8 = .ok (.istore 5, 2) := by decide +kernel
theorem dX6_pieceBy_10 : decode cX6_pieceBy 10 = .ok (.iload 5, 2) := by decide +kernel
theorem dX6_pieceBy_12 : decode cX6_pieceBy 12 = .ok (.ifCond .lt 48, 3) := by decide +kernel
theorem dX6_pieceBy_15 : decode cX6_pieceBy 15 = .ok (.iload_n 3, 1) := by decide +kernel
theorem dX6_pieceBy_16 : decode cX6_pieceBy 16 = .ok (.aload_n 0, 1) := by decide +kernel
theorem dX6_pieceBy_17 : decode cX6_pieceBy 17 = .ok (.getfield 30, 3) := by decide +kernel
theorem dX6_pieceBy_20 : decode cX6_pieceBy 20 = .ok (.iload 5, 2) := by decide +kernel
theorem dX6_pieceBy_22 : decode cX6_pieceBy 22 = .ok (.iaload, 1) := by decide +kernel
theorem dX6_pieceBy_23 : decode cX6_pieceBy 23 = .ok (.iload_n 1, 1) := by decide +kernel
theorem dX6_pieceBy_24 : decode cX6_pieceBy 24 = .ok (.if_icmp .ne 7, 3) := by decide +kernel
theorem dX6_pieceBy_27 : decode cX6_pieceBy 27 = .ok (.iconst 1, 1) := by decide +kernel
theorem dX6_pieceBy_28 : decode cX6_pieceBy 28 = .ok (.goto 4, 3) := by decide +kernel
theorem dX6_pieceBy_31 : decode cX6_pieceBy 31 = .ok (.iconst 0, 1) := by decide +kernel
theorem dX6_pieceBy_32 : decode cX6_pieceBy 32 = .ok (.iadd, 1) := by decide +kernel
theorem dX6_pieceBy_33 : decode cX6_pieceBy 33 = .ok (.istore_n 3, 1) := by decide +kernel
theorem dX6_pieceBy_34 : decode cX6_pieceBy 34 = .ok (.aload_n 0, 1) := by decide +kernel
theorem dX6_pieceBy_35 : decode cX6_pieceBy 35 = .ok (.getfield 30, 3) := by decide +kernel
theorem dX6_pieceBy_38 : decode cX6_pieceBy 38 = .ok (.iload 5, 2) := by decide +kernel
theorem dX6_pieceBy_40 : decode cX6_pieceBy 40 = .ok (.iaload, 1) := by decide +kernel
theorem dX6_pieceBy_41 : decode cX6_pieceBy 41 = .ok (.iload_n 1, 1) := by decide +kernel
theorem dX6_pieceBy_42 : decode cX6_pieceBy 42 = .ok (.if_icmp .ne 8, 3) := by decide +kernel
theorem dX6_pieceBy_45 : decode cX6_pieceBy 45 = .ok (.iload 5, 2) := by decide +kernel
theorem dX6_pieceBy_47 : decode cX6_pieceBy 47 = .ok (.goto 5, 3) := by decide +kernel
theorem dX6_pieceBy_50 : decode cX6_pieceBy 50 = .ok (.iload 4, 2) := by decide +kernel
theorem dX6_pieceBy_52 : decode cX6_pieceBy 52 = .ok (.istore 4, 2) := by decide +kernel
theorem dX6_pieceBy_54 : decode cX6_pieceBy 54 = .ok (.iinc 5 (-1), 3) := by decide +kernel
theorem dX6_pieceBy_57 : decode cX6_pieceBy 57 = .ok (.goto (-47), 3) := by decide +kernel
theorem dX6_pieceBy_60 : decode cX6_pieceBy 60 = .ok (.iconst 0, 1) := by decide +kernel
theorem dX6_pieceBy_61 : decode cX6_pieceBy 61 = .ok (.istore 5, 2) := by decide +kernel
theorem dX6_pieceBy_63 : decode cX6_pieceBy 63 = .ok (.iconst 1, 1) := by decide +kernel
theorem dX6_pieceBy_64 : decode cX6_pieceBy 64 = .ok (.istore 6, 2) := by decide +kernel
theorem dX6_pieceBy_66 : decode cX6_pieceBy 66 = .ok (.iconst 1, 1) := by decide +kernel
theorem dX6_pieceBy_67 : decode cX6_pieceBy 67 = .ok (.istore 7, 2) := by decide +kernel
theorem dX6_pieceBy_69 : decode cX6_pieceBy 69 = .ok (.iload 7, 2) := by decide +kernel
theorem dX6_pieceBy_71 : decode cX6_pieceBy 71 = .ok (.aload_n 0, 1) := by decide +kernel
theorem dX6_pieceBy_72 : decode cX6_pieceBy 72 = .ok (.getfield 7, 3) := by decide +kernel
theorem dX6_pieceBy_75 : decode cX6_pieceBy 75 = .ok (.if_icmp .gt 86, 3) := by decide +kernel
theorem dX6_pieceBy_78 : decode cX6_pieceBy 78 = .ok (.iconst 0, 1) := by decide +kernel
theorem dX6_pieceBy_79 : decode cX6_pieceBy 79 = .ok (.istore 8, 2) := by decide +kernel
theorem dX6_pieceBy_81 : decode cX6_pieceBy 81 = .ok (.iload 8, 2) := by decide +kernel
theorem dX6_pieceBy_83 : decode cX6_pieceBy 83 = .ok (.bipush 8, 2) := by decide +kernel
theorem dX6_pieceBy_85 : decode cX6_pieceBy 85 = .ok (.if_icmp .ge 70, 3) := by decide +kernel
theorem dX6_pieceBy_88 : decode cX6_pieceBy 88 = .ok (.aload_n 0, 1) := by decide +kernel
theorem dX6_pieceBy_89 : decode cX6_pieceBy 89 = .ok (.iload 7, 2) := by decide +kernel
theorem dX6_pieceBy_91 : decode cX6_pieceBy 91 = .ok (.iload 8, 2) := by decide +kernel
theorem dX6_pieceBy_93 : decode cX6_pieceBy 93 = .ok (.iload_n 1, 1) := by decide +kernel
theorem dX6_pieceBy_94 : decode cX6_pieceBy 94 = .ok (.invokevirtual 178, 3) := by decide +kernel
theorem dX6_pieceBy_97 : decode cX6_pieceBy 97 = .ok (.istore 9, 2) := by decide +kernel
theorem dX6_pieceBy_99 : decode cX6_pieceBy 99 = .ok (.iload 5, 2) := by decide +kernel
theorem dX6_pieceBy_101 : decode cX6_pieceBy 101 = .ok (.iload 9, 2) := by decide +kernel
theorem dX6_pieceBy_103 : decode cX6_pieceBy 103 = .ok (.ifCond .eq 7, 3) := by decide +kernel
theorem dX6_pieceBy_106 : decode cX6_pieceBy 106 = .ok (.iconst 1, 1) := by decide +kernel
theorem dX6_pieceBy_107 : decode cX6_pieceBy 107 = .ok (.goto 4, 3) := by decide +kernel
theorem dX6_pieceBy_110 : decode cX6_pieceBy 110 = .ok (.iconst 0, 1) := by decide +kernel
theorem dX6_pieceBy_111 : decode cX6_pieceBy 111 = .ok (.iadd, 1) := by decide +kernel
theorem dX6_pieceBy_112 : decode cX6_pieceBy 112 = .ok (.istore 5, 2) := by decide +kernel
theorem dX6_pieceBy_114 : decode cX6_pieceBy 114 = .ok (.iload 6, 2) := by decide +kernel
theorem dX6_pieceBy_116 : decode cX6_pieceBy 116 = .ok (.ifCond .eq 30, 3) := by decide +kernel
theorem dX6_pieceBy_119 : decode cX6_pieceBy 119 = .ok (.iload 9, 2) := by decide +kernel
theorem dX6_pieceBy_121 : decode cX6_pieceBy 121 = .ok (.ifCond .eq 21, 3) := by decide +kernel
theorem dX6_pieceBy_124 : decode cX6_pieceBy 124 = .ok (.aload_n 0, 1) := by decide +kernel
theorem dX6_pieceBy_125 : decode cX6_pieceBy 125 = .ok (.getfield 21, 3) := by decide +kernel
theorem dX6_pieceBy_128 : decode cX6_pieceBy 128 = .ok (.iload 7, 2) := by decide +kernel
theorem dX6_pieceBy_130 : decode cX6_pieceBy 130 = .ok (.iload 8, 2) := by decide +kernel
theorem dX6_pieceBy_132 : decode cX6_pieceBy 132 = .ok (.iconst 0, 1) := by decide +kernel
theorem dX6_pieceBy_133 : decode cX6_pieceBy 133 = .ok (.bipush 16, 2) := by decide +kernel
theorem dX6_pieceBy_135 : decode cX6_pieceBy 135 = .ok (.invokestatic 69, 3) := by decide +kernel
theorem dX6_pieceBy_138 : decode cX6_pieceBy 138 = .ok (.iconst 1, 1) := by decide +kernel
theorem dX6_pieceBy_139 : decode cX6_pieceBy 139 = .ok (.if_icmp .le 7, 3) := by decide +kernel
theorem dX6_pieceBy_142 : decode cX6_pieceBy 142 = .ok (.iconst 1, 1) := by decide +kernel
theorem dX6_pieceBy_143 : decode cX6_pieceBy 143 = .ok (.goto 4, 3) := by decide +kernel
theorem dX6_pieceBy_146 : decode cX6_pieceBy 146 = .ok (.iconst 0, 1) := by decide +kernel
theorem dX6_pieceBy_147 : decode cX6_pieceBy 147 = .ok (.istore 6, 2) := by decide +kernel
theorem dX6_pieceBy_149 : decode cX6_pieceBy 149 = .ok (.iinc 8 1, 3) := by decide +kernel
theorem dX6_pieceBy_152 : decode cX6_pieceBy 152 = .ok (.goto (-71), 3) := by decide +kernel
theorem dX6_pieceBy_155 : decode cX6_pieceBy 155 = .ok (.iinc 7 1, 3) := by decide +kernel
theorem dX6_pieceBy_158 : decode cX6_pieceBy 158 = .ok (.goto (-89), 3) := by decide +kernel
theorem dX6_pieceBy_161 : decode cX6_pieceBy 161 = .ok (.iload_n 2, 1) := by decide +kernel
theorem dX6_pieceBy_162 : decode cX6_pieceBy 162 = .ok (.ifCond .ne 7, 3) := by decide +kernel
theorem dX6_pieceBy_165 : decode cX6_pieceBy 165 = .ok (.iload_n 3, 1) := by decide +kernel
theorem dX6_pieceBy_166 : decode cX6_pieceBy 166 = .ok (.goto 33, 3) := by decide +kernel
theorem dX6_pieceBy_169 : decode cX6_pieceBy 169 = .ok (.iload_n 2, 1) := by decide +kernel
theorem dX6_pieceBy_170 : decode cX6_pieceBy 170 = .ok (.iconst 1, 1) := by decide +kernel
theorem dX6_pieceBy_171 : decode cX6_pieceBy 171 = .ok (.if_icmp .ne 8, 3) := by decide +kernel
theorem dX6_pieceBy_174 : decode cX6_pieceBy 174 = .ok (.iload 5, 2) := by decide +kernel
theorem dX6_pieceBy_176 : decode cX6_pieceBy 176 = .ok (.goto 23, 3) := by decide +kernel
theorem dX6_pieceBy_179 : decode cX6_pieceBy 179 = .ok (.iload_n 2, 1) := by decide +kernel
theorem dX6_pieceBy_180 : decode cX6_pieceBy 180 = .ok (.iconst 2, 1) := by decide +kernel
theorem dX6_pieceBy_181 : decode cX6_pieceBy 181 = .ok (.if_icmp .ne 16, 3) := by decide +kernel
theorem dX6_pieceBy_184 : decode cX6_pieceBy 184 = .ok (.iload 6, 2) := by decide +kernel
theorem dX6_pieceBy_186 : decode cX6_pieceBy 186 = .ok (.ifCond .eq 7, 3) := by decide +kernel
theorem dX6_pieceBy_189 : decode cX6_pieceBy 189 = .ok (.iconst 1, 1) := by decide +kernel
theorem dX6_pieceBy_190 : decode cX6_pieceBy 190 = .ok (.goto 9, 3) := by decide +kernel
theorem dX6_pieceBy_193 : decode cX6_pieceBy 193 = .ok (.iconst 0, 1) := by decide +kernel
theorem dX6_pieceBy_194 : decode cX6_pieceBy 194 = .ok (.goto 5, 3) := by decide +kernel
theorem dX6_pieceBy_197 : decode cX6_pieceBy 197 = .ok (.iload 4, 2) := by decide +kernel
theorem dX6_pieceBy_199 : decode cX6_pieceBy 199 = .ok (.ireturn, 1) := by decide +kernel
abbrev rmX6_pieceBy : Room := { frames := 2, cells := 0, slots := 0, locals := 48 }
set_option maxRecDepth 100000 in
theorem hinX6_pieceBy_6 : ∀ w ∈ wsX60, w ∈ wsX6_pieceBy := by decide +kernel
set_option maxHeartbeats 4000000 in
set_option maxRecDepth 100000 in
theorem tX6_pieceBy_52 {h : AH} {a1 : Int32} {a2 : Int32} {k10 : Int32 → Int32 → Int32 → Option Int32} {x3 : Int32} {x5 : Int32} {s0 : Int32} {r0 : Int32} (C : Cx p rmX6_pieceBy s m args meth c RX6 cX6_pieceBy 10 (some .int) wsX6_pieceBy D ad cy tb 0 0) (H10 : ∀ (x3 : Int32) (x4 : Int32) (x5 : Int32), k10 x3 x4 x5 = some r0 → AW p l e rmX6_pieceBy s m args below meth c 10 D ad cy 0 0 (Qi D ad cy below args s r0 h) 10 [(0, .ref (ad 29)), (1, .int a1), (2, .int a2), (3, .int x3), (4, .int x4), (5, .int x5)] [] h) (hf : fX6_pieceBy_52 k10 h a1 a2 x3 x5 s0 = some r0) : AW p l e rmX6_pieceBy s m args below meth c 10 D ad cy 0 0 (Qi D ad cy below args s r0 h) 52 [(0, .ref (ad 29)), (1, .int a1), (2, .int a2), (3, .int x3), (5, .int x5)] [.int s0] h := by
  unfold fX6_pieceBy_52 at hf
  refine aw_istore (lv1 := [(4, .int s0), (0, .ref (ad 29)), (1, .int a1), (2, .int a2), (3, .int x3), (5, .int x5)]) C dX6_pieceBy_52 (by decide) rfl ?_
  obtain ⟨v1, hvv1, hf⟩ := nm_ex hf
  refine aw_iinc (j := 5) (v := v1) (lv1 := [(5, .int v1), (4, .int s0), (0, .ref (ad 29)), (1, .int a1), (2, .int a2), (3, .int x3)]) C dX6_pieceBy_54 rfl hvv1 (by decide) rfl ?_
  refine aw_goto (tgt := 10) C dX6_pieceBy_57 (by decide) ?_
  refine aw_sub [2, 3, 4, 5, 1, 0] rfl ?_
  exact H10 x3 s0 v1 hf
set_option maxHeartbeats 4000000 in
set_option maxRecDepth 100000 in
theorem tX6_pieceBy_32 {h : AH} {a1 : Int32} {a2 : Int32} {k10 : Int32 → Int32 → Int32 → Option Int32} {x4 : Int32} {x5 : Int32} {s0 : Int32} {s1 : Int32} {r0 : Int32} (C : Cx p rmX6_pieceBy s m args meth c RX6 cX6_pieceBy 10 (some .int) wsX6_pieceBy D ad cy tb 0 0) (H10 : ∀ (x3 : Int32) (x4 : Int32) (x5 : Int32), k10 x3 x4 x5 = some r0 → AW p l e rmX6_pieceBy s m args below meth c 10 D ad cy 0 0 (Qi D ad cy below args s r0 h) 10 [(0, .ref (ad 29)), (1, .int a1), (2, .int a2), (3, .int x3), (4, .int x4), (5, .int x5)] [] h) (hf : fX6_pieceBy_32 k10 h a1 a2 x4 x5 s0 s1 = some r0) : AW p l e rmX6_pieceBy s m args below meth c 10 D ad cy 0 0 (Qi D ad cy below args s r0 h) 32 [(0, .ref (ad 29)), (1, .int a1), (2, .int a2), (4, .int x4), (5, .int x5)] [.int s1, .int s0] h := by
  unfold fX6_pieceBy_32 at hf
  refine aw_iadd C dX6_pieceBy_32 ?_
  refine aw_nmI hf (fun v1 hf => ?_)
  refine aw_istore_n (lv1 := [(3, .int v1), (0, .ref (ad 29)), (1, .int a1), (2, .int a2), (4, .int x4), (5, .int x5)]) C dX6_pieceBy_33 rfl (by decide) rfl ?_
  refine aw_aload_n C dX6_pieceBy_34 rfl 1 rfl ?_
  refine aw_get C (kd_lt rfl (by decide)) (ce_6 rfl) rfl hinX6_pieceBy_6 8 (by decide) rfl (by decide +kernel) rfl dX6_pieceBy_35 ?_
  refine aw_iload C dX6_pieceBy_38 5 rfl ?_
  refine aw_iald C rfl rfl hf dX6_pieceBy_40 (fun hf => ?_)
  refine aw_iload_n C dX6_pieceBy_41 rfl 2 rfl ?_
  refine aw_icmp_ne (tgt := 50) C dX6_pieceBy_42 (by decide) hf (fun hf => ?_) (fun hf => ?_)
  · refine aw_iload C dX6_pieceBy_50 4 rfl ?_
    refine aw_sub [1, 2, 3, 0, 5] rfl ?_
    exact tX6_pieceBy_52 C  H10 hf
  refine aw_iload C dX6_pieceBy_45 5 rfl ?_
  refine aw_goto (tgt := 52) C dX6_pieceBy_47 (by decide) ?_
  refine aw_sub [1, 2, 3, 0, 5] rfl ?_
  exact tX6_pieceBy_52 C  H10 hf
set_option maxHeartbeats 4000000 in
set_option maxRecDepth 100000 in
theorem tX6_pieceBy_147 {h : AH} {a1 : Int32} {a2 : Int32} {k69 : Int32 → Int32 → Int32 → Int32 → Int32 → Option Int32} {k81 : Int32 → Int32 → Int32 → Int32 → Int32 → Int32 → Option Int32} {x3 : Int32} {x4 : Int32} {x5 : Int32} {x7 : Int32} {x8 : Int32} {s0 : Int32} {r0 : Int32} (C : Cx p rmX6_pieceBy s m args meth c RX6 cX6_pieceBy 10 (some .int) wsX6_pieceBy D ad cy tb 0 0) (H69 : ∀ (x3 : Int32) (x4 : Int32) (x5 : Int32) (x6 : Int32) (x7 : Int32), k69 x3 x4 x5 x6 x7 = some r0 → AW p l e rmX6_pieceBy s m args below meth c 10 D ad cy 0 0 (Qi D ad cy below args s r0 h) 69 [(0, .ref (ad 29)), (1, .int a1), (2, .int a2), (3, .int x3), (4, .int x4), (5, .int x5), (6, .int x6), (7, .int x7)] [] h) (H81 : ∀ (x3 : Int32) (x4 : Int32) (x5 : Int32) (x6 : Int32) (x7 : Int32) (x8 : Int32), k81 x3 x4 x5 x6 x7 x8 = some r0 → AW p l e rmX6_pieceBy s m args below meth c 10 D ad cy 0 0 (Qi D ad cy below args s r0 h) 81 [(0, .ref (ad 29)), (1, .int a1), (2, .int a2), (3, .int x3), (4, .int x4), (5, .int x5), (6, .int x6), (7, .int x7), (8, .int x8)] [] h) (hf : fX6_pieceBy_147 k69 k81 h a1 a2 x3 x4 x5 x7 x8 s0 = some r0) : AW p l e rmX6_pieceBy s m args below meth c 10 D ad cy 0 0 (Qi D ad cy below args s r0 h) 147 [(0, .ref (ad 29)), (1, .int a1), (2, .int a2), (3, .int x3), (4, .int x4), (5, .int x5), (7, .int x7), (8, .int x8)] [.int s0] h := by
  unfold fX6_pieceBy_147 at hf
  refine aw_istore (lv1 := [(6, .int s0), (0, .ref (ad 29)), (1, .int a1), (2, .int a2), (3, .int x3), (4, .int x4), (5, .int x5), (7, .int x7), (8, .int x8)]) C dX6_pieceBy_147 (by decide) rfl ?_
  obtain ⟨v1, hvv1, hf⟩ := nm_ex hf
  refine aw_iinc (j := 8) (v := v1) (lv1 := [(8, .int v1), (6, .int s0), (0, .ref (ad 29)), (1, .int a1), (2, .int a2), (3, .int x3), (4, .int x4), (5, .int x5), (7, .int x7)]) C dX6_pieceBy_149 rfl hvv1 (by decide) rfl ?_
  refine aw_goto (tgt := 81) C dX6_pieceBy_152 (by decide) ?_
  refine aw_sub [2, 3, 4, 5, 6, 7, 1, 8, 0] rfl ?_
  exact H81 x3 x4 x5 s0 x7 v1 hf
set_option maxHeartbeats 4000000 in
set_option maxRecDepth 100000 in
theorem tX6_pieceBy_142 {h : AH} {a1 : Int32} {a2 : Int32} {k69 : Int32 → Int32 → Int32 → Int32 → Int32 → Option Int32} {k81 : Int32 → Int32 → Int32 → Int32 → Int32 → Int32 → Option Int32} {x3 : Int32} {x4 : Int32} {x5 : Int32} {x7 : Int32} {x8 : Int32} {r0 : Int32} (C : Cx p rmX6_pieceBy s m args meth c RX6 cX6_pieceBy 10 (some .int) wsX6_pieceBy D ad cy tb 0 0) (H69 : ∀ (x3 : Int32) (x4 : Int32) (x5 : Int32) (x6 : Int32) (x7 : Int32), k69 x3 x4 x5 x6 x7 = some r0 → AW p l e rmX6_pieceBy s m args below meth c 10 D ad cy 0 0 (Qi D ad cy below args s r0 h) 69 [(0, .ref (ad 29)), (1, .int a1), (2, .int a2), (3, .int x3), (4, .int x4), (5, .int x5), (6, .int x6), (7, .int x7)] [] h) (H81 : ∀ (x3 : Int32) (x4 : Int32) (x5 : Int32) (x6 : Int32) (x7 : Int32) (x8 : Int32), k81 x3 x4 x5 x6 x7 x8 = some r0 → AW p l e rmX6_pieceBy s m args below meth c 10 D ad cy 0 0 (Qi D ad cy below args s r0 h) 81 [(0, .ref (ad 29)), (1, .int a1), (2, .int a2), (3, .int x3), (4, .int x4), (5, .int x5), (6, .int x6), (7, .int x7), (8, .int x8)] [] h) (hf : fX6_pieceBy_142 k69 k81 h a1 a2 x3 x4 x5 x7 x8 = some r0) : AW p l e rmX6_pieceBy s m args below meth c 10 D ad cy 0 0 (Qi D ad cy below args s r0 h) 142 [(0, .ref (ad 29)), (1, .int a1), (2, .int a2), (3, .int x3), (4, .int x4), (5, .int x5), (7, .int x7), (8, .int x8)] [] h := by
  unfold fX6_pieceBy_142 at hf
  refine aw_iconst (v := 1) C dX6_pieceBy_142 (by decide) ?_
  refine aw_goto (tgt := 147) C dX6_pieceBy_143 (by decide) ?_
  refine aw_sub [0, 1, 2, 3, 4, 5, 6, 7] rfl ?_
  exact tX6_pieceBy_147 C  H69 H81 hf
set_option maxHeartbeats 4000000 in
set_option maxRecDepth 100000 in
theorem tX6_pieceBy_146 {h : AH} {a1 : Int32} {a2 : Int32} {k69 : Int32 → Int32 → Int32 → Int32 → Int32 → Option Int32} {k81 : Int32 → Int32 → Int32 → Int32 → Int32 → Int32 → Option Int32} {x3 : Int32} {x4 : Int32} {x5 : Int32} {x7 : Int32} {x8 : Int32} {r0 : Int32} (C : Cx p rmX6_pieceBy s m args meth c RX6 cX6_pieceBy 10 (some .int) wsX6_pieceBy D ad cy tb 0 0) (H69 : ∀ (x3 : Int32) (x4 : Int32) (x5 : Int32) (x6 : Int32) (x7 : Int32), k69 x3 x4 x5 x6 x7 = some r0 → AW p l e rmX6_pieceBy s m args below meth c 10 D ad cy 0 0 (Qi D ad cy below args s r0 h) 69 [(0, .ref (ad 29)), (1, .int a1), (2, .int a2), (3, .int x3), (4, .int x4), (5, .int x5), (6, .int x6), (7, .int x7)] [] h) (H81 : ∀ (x3 : Int32) (x4 : Int32) (x5 : Int32) (x6 : Int32) (x7 : Int32) (x8 : Int32), k81 x3 x4 x5 x6 x7 x8 = some r0 → AW p l e rmX6_pieceBy s m args below meth c 10 D ad cy 0 0 (Qi D ad cy below args s r0 h) 81 [(0, .ref (ad 29)), (1, .int a1), (2, .int a2), (3, .int x3), (4, .int x4), (5, .int x5), (6, .int x6), (7, .int x7), (8, .int x8)] [] h) (hf : fX6_pieceBy_146 k69 k81 h a1 a2 x3 x4 x5 x7 x8 = some r0) : AW p l e rmX6_pieceBy s m args below meth c 10 D ad cy 0 0 (Qi D ad cy below args s r0 h) 146 [(0, .ref (ad 29)), (1, .int a1), (2, .int a2), (3, .int x3), (4, .int x4), (5, .int x5), (7, .int x7), (8, .int x8)] [] h := by
  unfold fX6_pieceBy_146 at hf
  refine aw_iconst (v := 0) C dX6_pieceBy_146 (by decide) ?_
  refine aw_sub [0, 1, 2, 3, 4, 5, 6, 7] rfl ?_
  exact tX6_pieceBy_147 C  H69 H81 hf
set_option maxHeartbeats 4000000 in
set_option maxRecDepth 100000 in
theorem tX6_pieceBy_111 {h : AH} {a1 : Int32} {a2 : Int32} {k69 : Int32 → Int32 → Int32 → Int32 → Int32 → Option Int32} {k81 : Int32 → Int32 → Int32 → Int32 → Int32 → Int32 → Option Int32} {x3 : Int32} {x4 : Int32} {x6 : Int32} {x7 : Int32} {x8 : Int32} {x9 : Int32} {s0 : Int32} {s1 : Int32} {r0 : Int32} (C : Cx p rmX6_pieceBy s m args meth c RX6 cX6_pieceBy 10 (some .int) wsX6_pieceBy D ad cy tb 0 0) (H69 : ∀ (x3 : Int32) (x4 : Int32) (x5 : Int32) (x6 : Int32) (x7 : Int32), k69 x3 x4 x5 x6 x7 = some r0 → AW p l e rmX6_pieceBy s m args below meth c 10 D ad cy 0 0 (Qi D ad cy below args s r0 h) 69 [(0, .ref (ad 29)), (1, .int a1), (2, .int a2), (3, .int x3), (4, .int x4), (5, .int x5), (6, .int x6), (7, .int x7)] [] h) (H81 : ∀ (x3 : Int32) (x4 : Int32) (x5 : Int32) (x6 : Int32) (x7 : Int32) (x8 : Int32), k81 x3 x4 x5 x6 x7 x8 = some r0 → AW p l e rmX6_pieceBy s m args below meth c 10 D ad cy 0 0 (Qi D ad cy below args s r0 h) 81 [(0, .ref (ad 29)), (1, .int a1), (2, .int a2), (3, .int x3), (4, .int x4), (5, .int x5), (6, .int x6), (7, .int x7), (8, .int x8)] [] h) (hf : fX6_pieceBy_111 k69 k81 h a1 a2 x3 x4 x6 x7 x8 x9 s0 s1 = some r0) : AW p l e rmX6_pieceBy s m args below meth c 10 D ad cy 0 0 (Qi D ad cy below args s r0 h) 111 [(0, .ref (ad 29)), (1, .int a1), (2, .int a2), (3, .int x3), (4, .int x4), (6, .int x6), (7, .int x7), (8, .int x8), (9, .int x9)] [.int s1, .int s0] h := by
  unfold fX6_pieceBy_111 at hf
  refine aw_iadd C dX6_pieceBy_111 ?_
  refine aw_nmI hf (fun v1 hf => ?_)
  refine aw_istore (lv1 := [(5, .int v1), (0, .ref (ad 29)), (1, .int a1), (2, .int a2), (3, .int x3), (4, .int x4), (6, .int x6), (7, .int x7), (8, .int x8), (9, .int x9)]) C dX6_pieceBy_112 (by decide) rfl ?_
  refine aw_iload C dX6_pieceBy_114 6 rfl ?_
  refine aw_if_eq (tgt := 146) C dX6_pieceBy_116 (by decide) hf (fun hf => ?_) (fun hf => ?_)
  · refine aw_sub [1, 2, 3, 4, 5, 0, 7, 8] rfl ?_
    exact tX6_pieceBy_146 C  H69 H81 hf
  refine aw_iload C dX6_pieceBy_119 9 rfl ?_
  refine aw_if_eq (tgt := 142) C dX6_pieceBy_121 (by decide) hf (fun hf => ?_) (fun hf => ?_)
  · refine aw_sub [1, 2, 3, 4, 5, 0, 7, 8] rfl ?_
    exact tX6_pieceBy_142 C  H69 H81 hf
  refine aw_aload_n C dX6_pieceBy_124 rfl 1 rfl ?_
  refine aw_get C (kd_lt rfl (by decide)) (ce_6 rfl) rfl hinX6_pieceBy_6 4 (by decide) rfl (by decide +kernel) rfl dX6_pieceBy_125 ?_
  refine aw_iload C dX6_pieceBy_128 7 rfl ?_
  refine aw_iload C dX6_pieceBy_130 8 rfl ?_
  refine aw_iconst (v := 0) C dX6_pieceBy_132 (by decide) ?_
  refine aw_bipush (v := 16) C dX6_pieceBy_133 (by decide) ?_
  obtain ⟨r2, hc, hf⟩ := bR_some hf
  refine aw_callSi (As := [.ref (ad 32), .int x7, .int x8, .int 0, .int 16]) (rest := []) C (kX6_onesOf (l := l) (D := D) (ad := ad) (cy := cy) (tb := tb) C.2.2.2.2.2.2.2.2.1 rfl hc) (fun ht _ => va_cwS 5 ht gX6_pieceBy_X6_onesOf rfl rfl rfl (by decide +kernel) ⟨Nat.le_of_ble_eq_true rfl, Nat.le_of_ble_eq_true rfl⟩) rfl rfl (Nat.le_of_ble_eq_true rfl) dX6_pieceBy_135 ?_
  refine aw_iconst (v := 1) C dX6_pieceBy_138 (by decide) ?_
  refine aw_icmp_le (tgt := 146) C dX6_pieceBy_139 (by decide) hf (fun hf => ?_) (fun hf => ?_)
  · refine aw_sub [1, 2, 3, 4, 5, 0, 7, 8] rfl ?_
    exact tX6_pieceBy_146 C  H69 H81 hf
  refine aw_sub [1, 2, 3, 4, 5, 0, 7, 8] rfl ?_
  exact tX6_pieceBy_142 C  H69 H81 hf
set_option maxHeartbeats 4000000 in
set_option maxRecDepth 100000 in
theorem tX6_pieceBy_81b {h : AH} {a1 : Int32} {a2 : Int32} {k69 : Int32 → Int32 → Int32 → Int32 → Int32 → Option Int32} {k81 : Int32 → Int32 → Int32 → Int32 → Int32 → Int32 → Option Int32} {x3 : Int32} {x4 : Int32} {x5 : Int32} {x6 : Int32} {x7 : Int32} {x8 : Int32} {r0 : Int32} (C : Cx p rmX6_pieceBy s m args meth c RX6 cX6_pieceBy 10 (some .int) wsX6_pieceBy D ad cy tb 0 0) (H69 : ∀ (x3 : Int32) (x4 : Int32) (x5 : Int32) (x6 : Int32) (x7 : Int32), k69 x3 x4 x5 x6 x7 = some r0 → AW p l e rmX6_pieceBy s m args below meth c 10 D ad cy 0 0 (Qi D ad cy below args s r0 h) 69 [(0, .ref (ad 29)), (1, .int a1), (2, .int a2), (3, .int x3), (4, .int x4), (5, .int x5), (6, .int x6), (7, .int x7)] [] h) (H81 : ∀ (x3 : Int32) (x4 : Int32) (x5 : Int32) (x6 : Int32) (x7 : Int32) (x8 : Int32), k81 x3 x4 x5 x6 x7 x8 = some r0 → AW p l e rmX6_pieceBy s m args below meth c 10 D ad cy 0 0 (Qi D ad cy below args s r0 h) 81 [(0, .ref (ad 29)), (1, .int a1), (2, .int a2), (3, .int x3), (4, .int x4), (5, .int x5), (6, .int x6), (7, .int x7), (8, .int x8)] [] h) (hf : fX6_pieceBy_81b k69 k81 h a1 a2 x3 x4 x5 x6 x7 x8 = some r0) : AW p l e rmX6_pieceBy s m args below meth c 10 D ad cy 0 0 (Qi D ad cy below args s r0 h) 81 [(0, .ref (ad 29)), (1, .int a1), (2, .int a2), (3, .int x3), (4, .int x4), (5, .int x5), (6, .int x6), (7, .int x7), (8, .int x8)] [] h := by
  unfold fX6_pieceBy_81b at hf
  refine aw_iload C dX6_pieceBy_81 8 rfl ?_
  refine aw_bipush (v := 8) C dX6_pieceBy_83 (by decide) ?_
  refine aw_icmp_ge (tgt := 155) C dX6_pieceBy_85 (by decide) hf (fun hf => ?_) (fun hf => ?_)
  · obtain ⟨v1, hvv1, hf⟩ := nm_ex hf
    refine aw_iinc (j := 7) (v := v1) (lv1 := [(7, .int v1), (0, .ref (ad 29)), (1, .int a1), (2, .int a2), (3, .int x3), (4, .int x4), (5, .int x5), (6, .int x6), (8, .int x8)]) C dX6_pieceBy_155 rfl hvv1 (by decide) rfl ?_
    refine aw_goto (tgt := 69) C dX6_pieceBy_158 (by decide) ?_
    refine aw_sub [1, 2, 3, 4, 5, 6, 7, 0] rfl ?_
    exact H69 x3 x4 x5 x6 v1 hf
  refine aw_aload_n C dX6_pieceBy_88 rfl 0 rfl ?_
  refine aw_iload C dX6_pieceBy_89 7 rfl ?_
  refine aw_iload C dX6_pieceBy_91 8 rfl ?_
  refine aw_iload_n C dX6_pieceBy_93 rfl 1 rfl ?_
  obtain ⟨r2, hc, hf⟩ := bR_some hf
  refine aw_callVi (As := [.int x7, .int x8, .int a1]) (rest := []) C rfl (by decide) rfl (kX6_hasPiece (l := l) (D := D) (ad := ad) (cy := cy) (tb := tb) C.2.2.2.2.2.2.2.2.1 hc) (fun ht _ => cwV 3 ht gX6_pieceBy_X6_hasPiece rfl rfl rfl (by decide +kernel) ⟨Nat.le_of_ble_eq_true rfl, Nat.le_of_ble_eq_true rfl⟩) rfl rfl (Nat.le_of_ble_eq_true rfl) dX6_pieceBy_94 ?_
  refine aw_istore (lv1 := [(9, .int r2), (0, .ref (ad 29)), (1, .int a1), (2, .int a2), (3, .int x3), (4, .int x4), (5, .int x5), (6, .int x6), (7, .int x7), (8, .int x8)]) C dX6_pieceBy_97 (by decide) rfl ?_
  refine aw_iload C dX6_pieceBy_99 6 rfl ?_
  refine aw_iload C dX6_pieceBy_101 0 rfl ?_
  refine aw_if_eq (tgt := 110) C dX6_pieceBy_103 (by decide) hf (fun hf => ?_) (fun hf => ?_)
  · refine aw_iconst (v := 0) C dX6_pieceBy_110 (by decide) ?_
    refine aw_sub [1, 2, 3, 4, 5, 7, 8, 9, 0] rfl ?_
    exact tX6_pieceBy_111 C  H69 H81 hf
  refine aw_iconst (v := 1) C dX6_pieceBy_106 (by decide) ?_
  refine aw_goto (tgt := 111) C dX6_pieceBy_107 (by decide) ?_
  refine aw_sub [1, 2, 3, 4, 5, 7, 8, 9, 0] rfl ?_
  exact tX6_pieceBy_111 C  H69 H81 hf
set_option maxHeartbeats 4000000 in
set_option maxRecDepth 100000 in
theorem tX6_pieceBy_81 {h : AH} {a1 : Int32} {a2 : Int32} {k69 : Int32 → Int32 → Int32 → Int32 → Int32 → Option Int32} {r0 : Int32} (C : Cx p rmX6_pieceBy s m args meth c RX6 cX6_pieceBy 10 (some .int) wsX6_pieceBy D ad cy tb 0 0) (H69 : ∀ (x3 : Int32) (x4 : Int32) (x5 : Int32) (x6 : Int32) (x7 : Int32), k69 x3 x4 x5 x6 x7 = some r0 → AW p l e rmX6_pieceBy s m args below meth c 10 D ad cy 0 0 (Qi D ad cy below args s r0 h) 69 [(0, .ref (ad 29)), (1, .int a1), (2, .int a2), (3, .int x3), (4, .int x4), (5, .int x5), (6, .int x6), (7, .int x7)] [] h) : ∀ (n : Nat) (x3 : Int32) (x4 : Int32) (x5 : Int32) (x6 : Int32) (x7 : Int32) (x8 : Int32), fX6_pieceBy_81 k69 h a1 a2 n x3 x4 x5 x6 x7 x8 = some r0 → AW p l e rmX6_pieceBy s m args below meth c 10 D ad cy 0 0 (Qi D ad cy below args s r0 h) 81 [(0, .ref (ad 29)), (1, .int a1), (2, .int a2), (3, .int x3), (4, .int x4), (5, .int x5), (6, .int x6), (7, .int x7), (8, .int x8)] [] h := by
  intro n
  induction n with
  | zero => intro x3 x4 x5 x6 x7 x8 hf; cases hf
  | succ n ih => intro x3 x4 x5 x6 x7 x8 hf; exact tX6_pieceBy_81b C  H69 ih  hf
set_option maxHeartbeats 4000000 in
set_option maxRecDepth 100000 in
theorem tX6_pieceBy_69b {h : AH} {a1 : Int32} {a2 : Int32} {k69 : Int32 → Int32 → Int32 → Int32 → Int32 → Option Int32} {x3 : Int32} {x4 : Int32} {x5 : Int32} {x6 : Int32} {x7 : Int32} {r0 : Int32} (C : Cx p rmX6_pieceBy s m args meth c RX6 cX6_pieceBy 10 (some .int) wsX6_pieceBy D ad cy tb 0 0) (H69 : ∀ (x3 : Int32) (x4 : Int32) (x5 : Int32) (x6 : Int32) (x7 : Int32), k69 x3 x4 x5 x6 x7 = some r0 → AW p l e rmX6_pieceBy s m args below meth c 10 D ad cy 0 0 (Qi D ad cy below args s r0 h) 69 [(0, .ref (ad 29)), (1, .int a1), (2, .int a2), (3, .int x3), (4, .int x4), (5, .int x5), (6, .int x6), (7, .int x7)] [] h) (hf : fX6_pieceBy_69b k69 h a1 a2 x3 x4 x5 x6 x7 = some r0) : AW p l e rmX6_pieceBy s m args below meth c 10 D ad cy 0 0 (Qi D ad cy below args s r0 h) 69 [(0, .ref (ad 29)), (1, .int a1), (2, .int a2), (3, .int x3), (4, .int x4), (5, .int x5), (6, .int x6), (7, .int x7)] [] h := by
  unfold fX6_pieceBy_69b at hf
  refine aw_iload C dX6_pieceBy_69 7 rfl ?_
  refine aw_aload_n C dX6_pieceBy_71 rfl 0 rfl ?_
  refine aw_get C (kd_lt rfl (by decide)) (ce_6 rfl) rfl hinX6_pieceBy_6 0 (by decide) rfl (by decide +kernel) rfl dX6_pieceBy_72 ?_
  refine aw_icmp_gt (tgt := 161) C dX6_pieceBy_75 (by decide) hf (fun hf => ?_) (fun hf => ?_)
  · refine aw_iload_n C dX6_pieceBy_161 rfl 2 rfl ?_
    refine aw_if_ne (tgt := 169) C dX6_pieceBy_162 (by decide) hf (fun hf => ?_) (fun hf => ?_)
    · refine aw_iload_n C dX6_pieceBy_169 rfl 2 rfl ?_
      refine aw_iconst (v := 1) C dX6_pieceBy_170 (by decide) ?_
      refine aw_icmp_ne (tgt := 179) C dX6_pieceBy_171 (by decide) hf (fun hf => ?_) (fun hf => ?_)
      · refine aw_iload_n C dX6_pieceBy_179 rfl 2 rfl ?_
        refine aw_iconst (v := 2) C dX6_pieceBy_180 (by decide) ?_
        refine aw_icmp_ne (tgt := 197) C dX6_pieceBy_181 (by decide) hf (fun hf => ?_) (fun hf => ?_)
        · refine aw_iload C dX6_pieceBy_197 4 rfl ?_
          exact aw_iretR C dX6_pieceBy_199 hf
        refine aw_iload C dX6_pieceBy_184 6 rfl ?_
        refine aw_if_eq (tgt := 193) C dX6_pieceBy_186 (by decide) hf (fun hf => ?_) (fun hf => ?_)
        · refine aw_iconst (v := 0) C dX6_pieceBy_193 (by decide) ?_
          refine aw_goto (tgt := 199) C dX6_pieceBy_194 (by decide) ?_
          exact aw_iretR C dX6_pieceBy_199 hf
        refine aw_iconst (v := 1) C dX6_pieceBy_189 (by decide) ?_
        refine aw_goto (tgt := 199) C dX6_pieceBy_190 (by decide) ?_
        exact aw_iretR C dX6_pieceBy_199 hf
      refine aw_iload C dX6_pieceBy_174 5 rfl ?_
      refine aw_goto (tgt := 199) C dX6_pieceBy_176 (by decide) ?_
      exact aw_iretR C dX6_pieceBy_199 hf
    refine aw_iload_n C dX6_pieceBy_165 rfl 3 rfl ?_
    refine aw_goto (tgt := 199) C dX6_pieceBy_166 (by decide) ?_
    exact aw_iretR C dX6_pieceBy_199 hf
  refine aw_iconst (v := 0) C dX6_pieceBy_78 (by decide) ?_
  refine aw_istore (lv1 := [(8, .int 0), (0, .ref (ad 29)), (1, .int a1), (2, .int a2), (3, .int x3), (4, .int x4), (5, .int x5), (6, .int x6), (7, .int x7)]) C dX6_pieceBy_79 (by decide) rfl ?_
  refine aw_sub [1, 2, 3, 4, 5, 6, 7, 8, 0] rfl ?_
  exact tX6_pieceBy_81 C  H69 FU x3 x4 x5 x6 x7 0 hf
set_option maxHeartbeats 4000000 in
set_option maxRecDepth 100000 in
theorem tX6_pieceBy_69 {h : AH} {a1 : Int32} {a2 : Int32} {r0 : Int32} (C : Cx p rmX6_pieceBy s m args meth c RX6 cX6_pieceBy 10 (some .int) wsX6_pieceBy D ad cy tb 0 0) : ∀ (n : Nat) (x3 : Int32) (x4 : Int32) (x5 : Int32) (x6 : Int32) (x7 : Int32), fX6_pieceBy_69 h a1 a2 n x3 x4 x5 x6 x7 = some r0 → AW p l e rmX6_pieceBy s m args below meth c 10 D ad cy 0 0 (Qi D ad cy below args s r0 h) 69 [(0, .ref (ad 29)), (1, .int a1), (2, .int a2), (3, .int x3), (4, .int x4), (5, .int x5), (6, .int x6), (7, .int x7)] [] h := by
  intro n
  induction n with
  | zero => intro x3 x4 x5 x6 x7 hf; cases hf
  | succ n ih => intro x3 x4 x5 x6 x7 hf; exact tX6_pieceBy_69b C  ih  hf
set_option maxHeartbeats 4000000 in
set_option maxRecDepth 100000 in
theorem tX6_pieceBy_10b {h : AH} {a1 : Int32} {a2 : Int32} {k10 : Int32 → Int32 → Int32 → Option Int32} {x3 : Int32} {x4 : Int32} {x5 : Int32} {r0 : Int32} (C : Cx p rmX6_pieceBy s m args meth c RX6 cX6_pieceBy 10 (some .int) wsX6_pieceBy D ad cy tb 0 0) (H10 : ∀ (x3 : Int32) (x4 : Int32) (x5 : Int32), k10 x3 x4 x5 = some r0 → AW p l e rmX6_pieceBy s m args below meth c 10 D ad cy 0 0 (Qi D ad cy below args s r0 h) 10 [(0, .ref (ad 29)), (1, .int a1), (2, .int a2), (3, .int x3), (4, .int x4), (5, .int x5)] [] h) (hf : fX6_pieceBy_10b k10 h a1 a2 x3 x4 x5 = some r0) : AW p l e rmX6_pieceBy s m args below meth c 10 D ad cy 0 0 (Qi D ad cy below args s r0 h) 10 [(0, .ref (ad 29)), (1, .int a1), (2, .int a2), (3, .int x3), (4, .int x4), (5, .int x5)] [] h := by
  unfold fX6_pieceBy_10b at hf
  refine aw_iload C dX6_pieceBy_10 5 rfl ?_
  refine aw_if_lt (tgt := 60) C dX6_pieceBy_12 (by decide) hf (fun hf => ?_) (fun hf => ?_)
  · refine aw_iconst (v := 0) C dX6_pieceBy_60 (by decide) ?_
    refine aw_istore (lv1 := [(5, .int 0), (0, .ref (ad 29)), (1, .int a1), (2, .int a2), (3, .int x3), (4, .int x4)]) C dX6_pieceBy_61 (by decide) rfl ?_
    refine aw_iconst (v := 1) C dX6_pieceBy_63 (by decide) ?_
    refine aw_istore (lv1 := [(6, .int 1), (5, .int 0), (0, .ref (ad 29)), (1, .int a1), (2, .int a2), (3, .int x3), (4, .int x4)]) C dX6_pieceBy_64 (by decide) rfl ?_
    refine aw_iconst (v := 1) C dX6_pieceBy_66 (by decide) ?_
    refine aw_istore (lv1 := [(7, .int 1), (6, .int 1), (5, .int 0), (0, .ref (ad 29)), (1, .int a1), (2, .int a2), (3, .int x3), (4, .int x4)]) C dX6_pieceBy_67 (by decide) rfl ?_
    refine aw_sub [3, 4, 5, 6, 7, 2, 1, 0] rfl ?_
    exact tX6_pieceBy_69 C   FU x3 x4 0 1 1 hf
  refine aw_iload_n C dX6_pieceBy_15 rfl 3 rfl ?_
  refine aw_aload_n C dX6_pieceBy_16 rfl 0 rfl ?_
  refine aw_get C (kd_lt rfl (by decide)) (ce_6 rfl) rfl hinX6_pieceBy_6 8 (by decide) rfl (by decide +kernel) rfl dX6_pieceBy_17 ?_
  refine aw_iload C dX6_pieceBy_20 5 rfl ?_
  refine aw_iald C rfl rfl hf dX6_pieceBy_22 (fun hf => ?_)
  refine aw_iload_n C dX6_pieceBy_23 rfl 1 rfl ?_
  refine aw_icmp_ne (tgt := 31) C dX6_pieceBy_24 (by decide) hf (fun hf => ?_) (fun hf => ?_)
  · refine aw_iconst (v := 0) C dX6_pieceBy_31 (by decide) ?_
    refine aw_sub [0, 1, 2, 4, 5] rfl ?_
    exact tX6_pieceBy_32 C  H10 hf
  refine aw_iconst (v := 1) C dX6_pieceBy_27 (by decide) ?_
  refine aw_goto (tgt := 32) C dX6_pieceBy_28 (by decide) ?_
  refine aw_sub [0, 1, 2, 4, 5] rfl ?_
  exact tX6_pieceBy_32 C  H10 hf
set_option maxHeartbeats 4000000 in
set_option maxRecDepth 100000 in
theorem tX6_pieceBy_10 {h : AH} {a1 : Int32} {a2 : Int32} {r0 : Int32} (C : Cx p rmX6_pieceBy s m args meth c RX6 cX6_pieceBy 10 (some .int) wsX6_pieceBy D ad cy tb 0 0) : ∀ (n : Nat) (x3 : Int32) (x4 : Int32) (x5 : Int32), fX6_pieceBy_10 h a1 a2 n x3 x4 x5 = some r0 → AW p l e rmX6_pieceBy s m args below meth c 10 D ad cy 0 0 (Qi D ad cy below args s r0 h) 10 [(0, .ref (ad 29)), (1, .int a1), (2, .int a2), (3, .int x3), (4, .int x4), (5, .int x5)] [] h := by
  intro n
  induction n with
  | zero => intro x3 x4 x5 hf; cases hf
  | succ n ih => intro x3 x4 x5 hf; exact tX6_pieceBy_10b C  ih  hf
set_option maxHeartbeats 4000000 in
set_option maxRecDepth 100000 in
theorem tX6_pieceBy_0 {h : AH} {a1 : Int32} {a2 : Int32} {r0 : Int32} (C : Cx p rmX6_pieceBy s m args meth c RX6 cX6_pieceBy 10 (some .int) wsX6_pieceBy D ad cy tb 0 0) (hf : fX6_pieceBy h a1 a2 = some r0) : AW p l e rmX6_pieceBy s m args below meth c 10 D ad cy 0 0 (Qi D ad cy below args s r0 h) 0 [(0, .ref (ad 29)), (1, .int a1), (2, .int a2)] [] h := by
  unfold fX6_pieceBy at hf
  refine aw_iconst (v := 0) C dX6_pieceBy_0 (by decide) ?_
  refine aw_istore_n (lv1 := [(3, .int 0), (0, .ref (ad 29)), (1, .int a1), (2, .int a2)]) C dX6_pieceBy_1 rfl (by decide) rfl ?_
  refine aw_iconst (v := (-1)) C dX6_pieceBy_2 (by decide) ?_
  refine aw_nmI hf (fun v1 hf => ?_)
  refine aw_istore (lv1 := [(4, .int v1), (3, .int 0), (0, .ref (ad 29)), (1, .int a1), (2, .int a2)]) C dX6_pieceBy_3 (by decide) rfl ?_
  refine aw_sipush (v := 447) C dX6_pieceBy_5 (by decide) ?_
  refine aw_istore (lv1 := [(5, .int 447), (4, .int v1), (3, .int 0), (0, .ref (ad 29)), (1, .int a1), (2, .int a2)]) C dX6_pieceBy_8 (by decide) rfl ?_
  refine aw_sub [3, 4, 5, 2, 1, 0] rfl ?_
  exact tX6_pieceBy_10 C   FU 0 v1 447 hf
theorem kX6_pieceBy {h : AH} {a1 : Int32} {a2 : Int32} {r0 : Int32} (hi : Inj ad) (hf : fX6_pieceBy h a1 a2 = some r0) : Ki l yX6_pieceBy wsX6_pieceBy rmX6_pieceBy D ad cy tb [.ref (ad 29), .int a1, .int a2] h r0 h := met_i (lv := [(0, .ref (ad 29)), (1, .int a1), (2, .int a2)]) hi (by decide) rfl (Nat.le_of_ble_eq_true rfl) rfl rfl (fun _ _ _ _ _ _ _ _ C => tX6_pieceBy_0 C  hf)
set_option maxRecDepth 20000 in
theorem ggX6_piece_X6_findsPieces : GoodIn wsX6_piece wsX6_findsPieces := goodIn_r _ [6, 1, 7, 8, 9, 10, 11, 12, 13, 5, 14, 15, 16, 17, 32, 33, 34, 35, 36, 37, 38, 39, 40, 41, 42, 43, 44, 45, 46, 47, 48, 49] (by decide +kernel) (by decide +kernel)
set_option maxRecDepth 20000 in
theorem gX6_piece_X6_findsPieces : GoodIn wsX6_piece (wsV RX6 181 RX6 yX6_findsPieces wsX6_findsPieces) := goodIn_app (goodIn_of _ (by decide +kernel)) ggX6_piece_X6_findsPieces
set_option maxRecDepth 20000 in
theorem ggX6_piece_X6_in : GoodIn wsX6_piece wsX6_in := goodIn_r _ [20] (by decide +kernel) (by decide +kernel)
set_option maxRecDepth 20000 in
theorem gX6_piece_X6_in : GoodIn wsX6_piece (va_wsS RX6 73 yX6_in wsX6_in) := goodIn_app (goodIn_of _ (by decide +kernel)) ggX6_piece_X6_in
set_option maxRecDepth 20000 in
theorem ggX6_piece_X6_pieceBy : GoodIn wsX6_piece wsX6_pieceBy := goodIn_r _ [24, 7, 10, 8, 25, 26, 27, 5, 28, 15, 16, 17, 29, 30, 31, 32, 33, 34, 35, 36, 37, 38, 39, 40, 41, 42, 43, 44, 45, 46, 47, 48, 49] (by decide +kernel) (by decide +kernel)
set_option maxRecDepth 20000 in
theorem gX6_piece_X6_pieceBy : GoodIn wsX6_piece (wsV RX6 184 RX6 yX6_pieceBy wsX6_pieceBy) := goodIn_app (goodIn_of _ (by decide +kernel)) ggX6_piece_X6_pieceBy
theorem dX6_piece_0 : decode cX6_piece 0 = .ok (.aload_n 0, 1) := by decide +kernel
theorem dX6_piece_1 : decode cX6_piece 1 = .ok (.invokevirtual 181, 3) := by decide +kernel
theorem dX6_piece_4 : decode cX6_piece 4 = .ok (.iload_n 1, 1) := by decide +kernel
theorem dX6_piece_5 : decode cX6_piece 5 = .ok (.iconst 0, 1) := by decide +kernel
theorem dX6_piece_6 : decode cX6_piece 6 = .ok (.aload_n 0, 1) := by decide +kernel
theorem dX6_piece_7 : decode cX6_piece 7 = .ok (.getfield 172, 3) := by decide +kernel
theorem dX6_piece_10 : decode cX6_piece 10 = .ok (.iconst 1, 1) := by decide +kernel
theorem dX6_piece_11 : decode cX6_piece 11 = .ok (.isub, 1) := by decide +kernel
theorem dX6_piece_12 : decode cX6_piece 12 = .ok (.invokestatic 73, 3) := by decide +kernel
theorem dX6_piece_15 : decode cX6_piece 15 = .ok (.ifCond .eq 21, 3) := by decide +kernel
theorem dX6_piece_18 : decode cX6_piece 18 = .ok (.iload_n 2, 1) := by decide +kernel
theorem dX6_piece_19 : decode cX6_piece 19 = .ok (.iconst 0, 1) := by decide +kernel
theorem dX6_piece_20 : decode cX6_piece 20 = .ok (.iconst 3, 1) := by decide +kernel
theorem dX6_piece_21 : decode cX6_piece 21 = .ok (.invokestatic 73, 3) := by decide +kernel
theorem dX6_piece_24 : decode cX6_piece 24 = .ok (.ifCond .eq 12, 3) := by decide +kernel
theorem dX6_piece_27 : decode cX6_piece 27 = .ok (.aload_n 0, 1) := by decide +kernel
theorem dX6_piece_28 : decode cX6_piece 28 = .ok (.iload_n 1, 1) := by decide +kernel
theorem dX6_piece_29 : decode cX6_piece 29 = .ok (.iload_n 2, 1) := by decide +kernel
theorem dX6_piece_30 : decode cX6_piece 30 = .ok (.invokevirtual 184, 3) := by decide +kernel
theorem dX6_piece_33 : decode cX6_piece 33 = .ok (.goto 5, 3) := by decide +kernel
theorem dX6_piece_36 : decode cX6_piece 36 = .ok (.bipush (-2), 2) := by decide +kernel
theorem dX6_piece_38 : decode cX6_piece 38 = .ok (.ireturn, 1) := by decide +kernel
abbrev rmX6_piece : Room := { frames := 3, cells := 0, slots := 0, locals := 77 }
set_option maxRecDepth 100000 in
theorem hinX6_piece_6 : ∀ w ∈ wsX60, w ∈ wsX6_piece := by decide +kernel
set_option maxHeartbeats 4000000 in
set_option maxRecDepth 100000 in
theorem tX6_piece_0 {h : AH} {a1 : Int32} {a2 : Int32} {r0 : Int32} {h0 : AH} (C : Cx p rmX6_piece s m args meth c RX6 cX6_piece 3 (some .int) wsX6_piece D ad cy tb 0 0) (hf : fX6_piece h a1 a2 = some (r0, h0)) : AW p l e rmX6_piece s m args below meth c 3 D ad cy 0 0 (Qi D ad cy below args s r0 h0) 0 [(0, .ref (ad 29)), (1, .int a1), (2, .int a2)] [] h := by
  unfold fX6_piece at hf
  refine aw_aload_n C dX6_piece_0 rfl 0 rfl ?_
  obtain ⟨h1, hc, hf⟩ := bR_some hf
  refine aw_callVv (As := []) (rest := []) C rfl (by decide) rfl (kX6_findsPieces (l := l) (D := D) (ad := ad) (cy := cy) (tb := tb) C.2.2.2.2.2.2.2.2.1 hc) (fun ht _ => cwV 0 ht gX6_piece_X6_findsPieces rfl rfl rfl (by decide +kernel) ⟨Nat.le_of_ble_eq_true rfl, Nat.le_of_ble_eq_true rfl⟩) rfl rfl (Nat.le_of_ble_eq_true rfl) dX6_piece_1 ?_
  refine aw_iload_n C dX6_piece_4 rfl 1 rfl ?_
  refine aw_iconst (v := 0) C dX6_piece_5 (by decide) ?_
  refine aw_aload_n C dX6_piece_6 rfl 0 rfl ?_
  refine aw_get C (kd_lt rfl (by decide)) (ce_6 rfl) rfl hinX6_piece_6 10 (by decide) rfl (by decide +kernel) rfl dX6_piece_7 ?_
  refine aw_iconst (v := 1) C dX6_piece_10 (by decide) ?_
  refine aw_isub C dX6_piece_11 ?_
  obtain ⟨r2, hc, hf⟩ := bR_some hf
  refine aw_callSi (As := [.int a1, .int 0, .int ((h1.1 29 10) - 1)]) (rest := []) C (kX6_in (l := l) (D := D) (ad := ad) (cy := cy) (tb := tb) C.2.2.2.2.2.2.2.2.1 hc) (fun ht _ => va_cwS 3 ht gX6_piece_X6_in rfl rfl rfl (by decide +kernel) ⟨Nat.le_of_ble_eq_true rfl, Nat.le_of_ble_eq_true rfl⟩) rfl rfl (Nat.le_of_ble_eq_true rfl) dX6_piece_12 ?_
  refine aw_if_eq (tgt := 36) C dX6_piece_15 (by decide) hf (fun hf => ?_) (fun hf => ?_)
  · refine aw_bipush (v := (-2)) C dX6_piece_36 (by decide) ?_
    exact aw_iretW C dX6_piece_38 hf
  refine aw_iload_n C dX6_piece_18 rfl 2 rfl ?_
  refine aw_iconst (v := 0) C dX6_piece_19 (by decide) ?_
  refine aw_iconst (v := 3) C dX6_piece_20 (by decide) ?_
  obtain ⟨r3, hc, hf⟩ := bR_some hf
  refine aw_callSi (As := [.int a2, .int 0, .int 3]) (rest := []) C (kX6_in (l := l) (D := D) (ad := ad) (cy := cy) (tb := tb) C.2.2.2.2.2.2.2.2.1 hc) (fun ht _ => va_cwS 3 ht gX6_piece_X6_in rfl rfl rfl (by decide +kernel) ⟨Nat.le_of_ble_eq_true rfl, Nat.le_of_ble_eq_true rfl⟩) rfl rfl (Nat.le_of_ble_eq_true rfl) dX6_piece_21 ?_
  refine aw_if_eq (tgt := 36) C dX6_piece_24 (by decide) hf (fun hf => ?_) (fun hf => ?_)
  · refine aw_bipush (v := (-2)) C dX6_piece_36 (by decide) ?_
    exact aw_iretW C dX6_piece_38 hf
  refine aw_aload_n C dX6_piece_27 rfl 0 rfl ?_
  refine aw_iload_n C dX6_piece_28 rfl 1 rfl ?_
  refine aw_iload_n C dX6_piece_29 rfl 2 rfl ?_
  obtain ⟨r4, hc, hf⟩ := bR_some hf
  refine aw_callVi (As := [.int a1, .int a2]) (rest := []) C rfl (by decide) rfl (kX6_pieceBy (l := l) (D := D) (ad := ad) (cy := cy) (tb := tb) C.2.2.2.2.2.2.2.2.1 hc) (fun ht _ => cwV 2 ht gX6_piece_X6_pieceBy rfl rfl rfl (by decide +kernel) ⟨Nat.le_of_ble_eq_true rfl, Nat.le_of_ble_eq_true rfl⟩) rfl rfl (Nat.le_of_ble_eq_true rfl) dX6_piece_30 ?_
  refine aw_goto (tgt := 38) C dX6_piece_33 (by decide) ?_
  exact aw_iretW C dX6_piece_38 hf
theorem kX6_piece {h : AH} {a1 : Int32} {a2 : Int32} {r0 : Int32} {h0 : AH} (hi : Inj ad) (hf : fX6_piece h a1 a2 = some (r0, h0)) : Ki l yX6_piece wsX6_piece rmX6_piece D ad cy tb [.ref (ad 29), .int a1, .int a2] h r0 h0 := met_i (lv := [(0, .ref (ad 29)), (1, .int a1), (2, .int a2)]) hi (by decide) rfl (Nat.le_of_ble_eq_true rfl) rfl rfl (fun _ _ _ _ _ _ _ _ C => tX6_piece_0 C  hf)
