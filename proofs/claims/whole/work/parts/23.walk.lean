variable {p : Program} {l : Launch} {e : Env} {s : State} {m : MethodId} {args : Array Value} {below : List Frame} {meth : Method} {c : Code} {D : va_G} {ad : Nat → Nat} {cy : Nat → ClassId} {tb : Nat → Nat}
set_option maxRecDepth 20000 in
theorem ggX6_sheet_X6_isSheet : GoodIn wsX6_sheet wsX6_isSheet := goodIn_r _ [7, 8, 9, 6, 10] (by decide +kernel) (by decide +kernel)
set_option maxRecDepth 20000 in
theorem gX6_sheet_X6_isSheet : GoodIn wsX6_sheet (va_wsS RX6 103 yX6_isSheet wsX6_isSheet) := goodIn_app (goodIn_of _ (by decide +kernel)) ggX6_sheet_X6_isSheet
set_option maxRecDepth 20000 in
theorem ggX6_sheet_X6_in : GoodIn wsX6_sheet wsX6_in := goodIn_r _ [10] (by decide +kernel) (by decide +kernel)
set_option maxRecDepth 20000 in
theorem gX6_sheet_X6_in : GoodIn wsX6_sheet (va_wsS RX6 73 yX6_in wsX6_in) := goodIn_app (goodIn_of _ (by decide +kernel)) ggX6_sheet_X6_in
set_option maxRecDepth 20000 in
theorem ggX6_sheet_X6_meets : GoodIn wsX6_sheet wsX6_meets := goodIn_r _ [14, 15, 16, 17, 18, 19, 20, 21, 22, 23, 24, 25, 26, 27, 28, 29, 30, 31, 32, 33] (by decide +kernel) (by decide +kernel)
set_option maxRecDepth 20000 in
theorem gX6_sheet_X6_meets : GoodIn wsX6_sheet (wsV RX6 106 RX6 yX6_meets wsX6_meets) := goodIn_app (goodIn_of _ (by decide +kernel)) ggX6_sheet_X6_meets
theorem dX6_sheet_0 : decode cX6_sheet 0 = .ok (.iload_n 1, 1) := by decide +kernel
theorem dX6_sheet_1 : decode cX6_sheet 1 = .ok (.invokestatic 103, 3) := by decide +kernel
theorem dX6_sheet_4 : decode cX6_sheet 4 = .ok (.ifCond .eq 18, 3) := by decide +kernel
theorem dX6_sheet_7 : decode cX6_sheet 7 = .ok (.iload_n 2, 1) := by decide +kernel
theorem dX6_sheet_8 : decode cX6_sheet 8 = .ok (.iconst 0, 1) := by decide +kernel
theorem dX6_sheet_9 : decode cX6_sheet 9 = .ok (.iconst 2, 1) := by decide +kernel
theorem dX6_sheet_10 : decode cX6_sheet 10 = .ok (.invokestatic 73, 3) := by decide +kernel
theorem dX6_sheet_13 : decode cX6_sheet 13 = .ok (.ifCond .eq 9, 3) := by decide +kernel
theorem dX6_sheet_16 : decode cX6_sheet 16 = .ok (.iload_n 3, 1) := by decide +kernel
theorem dX6_sheet_17 : decode cX6_sheet 17 = .ok (.bipush 64, 2) := by decide +kernel
theorem dX6_sheet_19 : decode cX6_sheet 19 = .ok (.if_icmp .le 6, 3) := by decide +kernel
theorem dX6_sheet_22 : decode cX6_sheet 22 = .ok (.bipush (-2), 2) := by decide +kernel
theorem dX6_sheet_24 : decode cX6_sheet 24 = .ok (.ireturn, 1) := by decide +kernel
theorem dX6_sheet_25 : decode cX6_sheet 25 = .ok (.iload_n 3, 1) := by decide +kernel
theorem dX6_sheet_26 : decode cX6_sheet 26 = .ok (.ifCond .ge 9, 3) := by decide +kernel
theorem dX6_sheet_29 : decode cX6_sheet 29 = .ok (.aload_n 0, 1) := by decide +kernel
theorem dX6_sheet_30 : decode cX6_sheet 30 = .ok (.iconst 5, 1) := by decide +kernel
theorem dX6_sheet_31 : decode cX6_sheet 31 = .ok (.invokevirtual 106, 3) := by decide +kernel
theorem dX6_sheet_34 : decode cX6_sheet 34 = .ok (.ireturn, 1) := by decide +kernel
theorem dX6_sheet_35 : decode cX6_sheet 35 = .ok (.aload_n 0, 1) := by decide +kernel
theorem dX6_sheet_36 : decode cX6_sheet 36 = .ok (.getfield 42, 3) := by decide +kernel
theorem dX6_sheet_39 : decode cX6_sheet 39 = .ok (.iload_n 1, 1) := by decide +kernel
theorem dX6_sheet_40 : decode cX6_sheet 40 = .ok (.iload_n 2, 1) := by decide +kernel
theorem dX6_sheet_41 : decode cX6_sheet 41 = .ok (.iastore, 1) := by decide +kernel
theorem dX6_sheet_42 : decode cX6_sheet 42 = .ok (.aload_n 0, 1) := by decide +kernel
theorem dX6_sheet_43 : decode cX6_sheet 43 = .ok (.getfield 45, 3) := by decide +kernel
theorem dX6_sheet_46 : decode cX6_sheet 46 = .ok (.iload_n 1, 1) := by decide +kernel
theorem dX6_sheet_47 : decode cX6_sheet 47 = .ok (.iload_n 3, 1) := by decide +kernel
theorem dX6_sheet_48 : decode cX6_sheet 48 = .ok (.iastore, 1) := by decide +kernel
theorem dX6_sheet_49 : decode cX6_sheet 49 = .ok (.bipush 64, 2) := by decide +kernel
theorem dX6_sheet_51 : decode cX6_sheet 51 = .ok (.iload_n 1, 1) := by decide +kernel
theorem dX6_sheet_52 : decode cX6_sheet 52 = .ok (.imul, 1) := by decide +kernel
theorem dX6_sheet_53 : decode cX6_sheet 53 = .ok (.istore 4, 2) := by decide +kernel
theorem dX6_sheet_55 : decode cX6_sheet 55 = .ok (.iload 4, 2) := by decide +kernel
theorem dX6_sheet_57 : decode cX6_sheet 57 = .ok (.bipush 64, 2) := by decide +kernel
theorem dX6_sheet_59 : decode cX6_sheet 59 = .ok (.iload_n 1, 1) := by decide +kernel
theorem dX6_sheet_60 : decode cX6_sheet 60 = .ok (.imul, 1) := by decide +kernel
theorem dX6_sheet_61 : decode cX6_sheet 61 = .ok (.bipush 64, 2) := by decide +kernel
theorem dX6_sheet_63 : decode cX6_sheet 63 = .ok (.iadd, 1) := by decide +kernel
theorem dX6_sheet_64 : decode cX6_sheet 64 = .ok (.if_icmp .ge 17, 3) := by decide +kernel
theorem dX6_sheet_67 : decode cX6_sheet 67 = .ok (.aload_n 0, 1) := by decide +kernel
theorem dX6_sheet_68 : decode cX6_sheet 68 = .ok (.getfield 48, 3) := by decide +kernel
theorem dX6_sheet_71 : decode cX6_sheet 71 = .ok (.iload 4, 2) := by decide +kernel
theorem dX6_sheet_73 : decode cX6_sheet 73 = .ok (.lconst 0, 1) := by decide +kernel
theorem dX6_sheet_74 : decode cX6_sheet 74 = .ok (.lastore, 1) := by decide +kernel
theorem dX6_sheet_75 : decode cX6_sheet 75 = .ok (.iinc 4 1, 3) := by decide +kernel
theorem dX6_sheet_78 : decode cX6_sheet 78 = .ok (.goto (-23), 3) := by decide +kernel
theorem dX6_sheet_81 : decode cX6_sheet 81 = .ok (.iload_n 3, 1) := by decide +kernel
theorem dX6_sheet_82 : decode cX6_sheet 82 = .ok (.ireturn, 1) := by decide +kernel
abbrev rmX6_sheet : Room := { frames := 2, cells := 0, slots := 0, locals := 42 }
set_option maxRecDepth 100000 in
theorem hinX6_sheet_6 : ∀ w ∈ wsX60, w ∈ wsX6_sheet := by decide +kernel
def fX6_sheet_55b (k55 : AH → Int32 → Option (Int32 × AH)) (a1 : Int32) (a2 : Int32) (a3 : Int32) (h : AH) (x4 : Int32) : Option (Int32 × AH) :=
  if ((64 * a1) + 64) ≤ x4 then (
    some (a3, h)) else (
  ck (inb x4 256) <|
  nm (sL h 41 x4.toNatClampNeg 0) fun h1 =>
  nm (x4 + 1) fun v2 =>
  k55 h1 v2)
set_option maxHeartbeats 4000000 in
set_option maxRecDepth 100000 in
theorem tX6_sheet_55b {h : AH} {a1 : Int32} {a2 : Int32} {a3 : Int32} {k55 : AH → Int32 → Option (Int32 × AH)} {x4 : Int32} {r0 : Int32} {h0 : AH} (C : Cx p rmX6_sheet s m args meth c RX6 cX6_sheet 5 (some .int) wsX6_sheet D ad cy tb 0 0) (H55 : ∀ (h : AH) (x4 : Int32), k55 h x4 = some (r0, h0) → AW p l e rmX6_sheet s m args below meth c 5 D ad cy 0 0 (Qi D ad cy below args s r0 h0) 55 [(0, .ref (ad 29)), (1, .int a1), (2, .int a2), (3, .int a3), (4, .int x4)] [] h) (hf : fX6_sheet_55b k55 a1 a2 a3 h x4 = some (r0, h0)) : AW p l e rmX6_sheet s m args below meth c 5 D ad cy 0 0 (Qi D ad cy below args s r0 h0) 55 [(0, .ref (ad 29)), (1, .int a1), (2, .int a2), (3, .int a3), (4, .int x4)] [] h := by
  unfold fX6_sheet_55b at hf
  refine aw_iload C dX6_sheet_55 4 rfl ?_
  refine aw_bipush (v := 64) C dX6_sheet_57 (by decide) ?_
  refine aw_iload_n C dX6_sheet_59 rfl 1 rfl ?_
  refine aw_imul C dX6_sheet_60 ?_
  refine aw_bipush (v := 64) C dX6_sheet_61 (by decide) ?_
  refine aw_iadd C dX6_sheet_63 ?_
  refine aw_icmp_ge (tgt := 81) C dX6_sheet_64 (by decide) hf (fun hf => ?_) (fun hf => ?_)
  · refine aw_iload_n C dX6_sheet_81 rfl 3 rfl ?_
    exact aw_iretW C dX6_sheet_82 hf
  refine aw_aload_n C dX6_sheet_67 rfl 0 rfl ?_
  refine aw_get C (kd_lt rfl (by decide)) (ce_6 rfl) rfl hinX6_sheet_6 15 (by decide) rfl (by decide +kernel) rfl dX6_sheet_68 ?_
  refine aw_iload C dX6_sheet_71 4 rfl ?_
  refine aw_lconst (v := 0) C dX6_sheet_73 (by decide) ?_
  refine aw_last C rfl rfl hf dX6_sheet_74 (fun hf => ?_)
  refine aw_nmH hf (fun h1 hf => ?_)
  obtain ⟨v2, hvv2, hf⟩ := nm_ex hf
  refine aw_iinc (j := 4) (v := v2) (lv1 := [(4, .int v2), (0, .ref (ad 29)), (1, .int a1), (2, .int a2), (3, .int a3)]) C dX6_sheet_75 rfl hvv2 (by decide) rfl ?_
  refine aw_goto (tgt := 55) C dX6_sheet_78 (by decide) ?_
  refine aw_sub [1, 2, 3, 4, 0] rfl ?_
  exact H55 h1 v2 hf
def fX6_sheet_55 (a1 : Int32) (a2 : Int32) (a3 : Int32) : Nat → AH → Int32 → Option (Int32 × AH)
  | 0, _, _ => none
  | n + 1, h, x4 => fX6_sheet_55b (fX6_sheet_55 a1 a2 a3 n) a1 a2 a3 h x4
set_option maxHeartbeats 4000000 in
set_option maxRecDepth 100000 in
theorem tX6_sheet_55  {a1 : Int32} {a2 : Int32} {a3 : Int32} {r0 : Int32} {h0 : AH} (C : Cx p rmX6_sheet s m args meth c RX6 cX6_sheet 5 (some .int) wsX6_sheet D ad cy tb 0 0) : ∀ (n : Nat) (h : AH) (x4 : Int32), fX6_sheet_55 a1 a2 a3 n h x4 = some (r0, h0) → AW p l e rmX6_sheet s m args below meth c 5 D ad cy 0 0 (Qi D ad cy below args s r0 h0) 55 [(0, .ref (ad 29)), (1, .int a1), (2, .int a2), (3, .int a3), (4, .int x4)] [] h := by
  intro n
  induction n with
  | zero => intro h x4 hf; cases hf
  | succ n ih => intro h x4 hf; exact tX6_sheet_55b C  ih  hf
def fX6_sheet (h : AH) (a1 : Int32) (a2 : Int32) (a3 : Int32) : Option (Int32 × AH) :=
  bR (fX6_isSheet h a1) fun r1 =>
  if r1 = 0 then (
    some ((-2), h)) else (
  bR (fX6_in h a2 0 2) fun r2 =>
  if r2 = 0 then (
    some ((-2), h)) else (
  if a3 ≤ 64 then (
    if 0 ≤ a3 then (
      ck (inb a1 4) <|
      nm (sI h 39 a1.toNatClampNeg a2) fun h3 =>
      ck (inb a1 4) <|
      nm (sI h3 40 a1.toNatClampNeg a3) fun h4 =>
      nm (64 * a1) fun v5 =>
      fX6_sheet_55  a1 a2 a3 FU h4 v5) else (
    bW (fX6_meets h 5) fun r7 h6 =>
    some (r7, h6))) else (
  some ((-2), h))))
set_option maxHeartbeats 4000000 in
set_option maxRecDepth 100000 in
theorem tX6_sheet_0 {h : AH} {a1 : Int32} {a2 : Int32} {a3 : Int32} {r0 : Int32} {h0 : AH} (C : Cx p rmX6_sheet s m args meth c RX6 cX6_sheet 5 (some .int) wsX6_sheet D ad cy tb 0 0) (hf : fX6_sheet h a1 a2 a3 = some (r0, h0)) : AW p l e rmX6_sheet s m args below meth c 5 D ad cy 0 0 (Qi D ad cy below args s r0 h0) 0 [(0, .ref (ad 29)), (1, .int a1), (2, .int a2), (3, .int a3)] [] h := by
  unfold fX6_sheet at hf
  refine aw_iload_n C dX6_sheet_0 rfl 1 rfl ?_
  obtain ⟨r1, hc, hf⟩ := bR_some hf
  refine aw_callSi (As := [.int a1]) (rest := []) C (kX6_isSheet (l := l) (D := D) (ad := ad) (cy := cy) (tb := tb) C.2.2.2.2.2.2.2.2.1 hc) (fun ht _ => va_cwS 1 ht gX6_sheet_X6_isSheet rfl rfl rfl (by decide +kernel) ⟨Nat.le_of_ble_eq_true rfl, Nat.le_of_ble_eq_true rfl⟩) rfl rfl (Nat.le_of_ble_eq_true rfl) dX6_sheet_1 ?_
  refine aw_if_eq (tgt := 22) C dX6_sheet_4 (by decide) hf (fun hf => ?_) (fun hf => ?_)
  · refine aw_bipush (v := (-2)) C dX6_sheet_22 (by decide) ?_
    exact aw_iretW C dX6_sheet_24 hf
  refine aw_iload_n C dX6_sheet_7 rfl 2 rfl ?_
  refine aw_iconst (v := 0) C dX6_sheet_8 (by decide) ?_
  refine aw_iconst (v := 2) C dX6_sheet_9 (by decide) ?_
  obtain ⟨r2, hc, hf⟩ := bR_some hf
  refine aw_callSi (As := [.int a2, .int 0, .int 2]) (rest := []) C (kX6_in (l := l) (D := D) (ad := ad) (cy := cy) (tb := tb) C.2.2.2.2.2.2.2.2.1 hc) (fun ht _ => va_cwS 3 ht gX6_sheet_X6_in rfl rfl rfl (by decide +kernel) ⟨Nat.le_of_ble_eq_true rfl, Nat.le_of_ble_eq_true rfl⟩) rfl rfl (Nat.le_of_ble_eq_true rfl) dX6_sheet_10 ?_
  refine aw_if_eq (tgt := 22) C dX6_sheet_13 (by decide) hf (fun hf => ?_) (fun hf => ?_)
  · refine aw_bipush (v := (-2)) C dX6_sheet_22 (by decide) ?_
    exact aw_iretW C dX6_sheet_24 hf
  refine aw_iload_n C dX6_sheet_16 rfl 3 rfl ?_
  refine aw_bipush (v := 64) C dX6_sheet_17 (by decide) ?_
  refine aw_icmp_le (tgt := 25) C dX6_sheet_19 (by decide) hf (fun hf => ?_) (fun hf => ?_)
  · refine aw_iload_n C dX6_sheet_25 rfl 3 rfl ?_
    refine aw_if_ge (tgt := 35) C dX6_sheet_26 (by decide) hf (fun hf => ?_) (fun hf => ?_)
    · refine aw_aload_n C dX6_sheet_35 rfl 0 rfl ?_
      refine aw_get C (kd_lt rfl (by decide)) (ce_6 rfl) rfl hinX6_sheet_6 13 (by decide) rfl (by decide +kernel) rfl dX6_sheet_36 ?_
      refine aw_iload_n C dX6_sheet_39 rfl 1 rfl ?_
      refine aw_iload_n C dX6_sheet_40 rfl 2 rfl ?_
      refine aw_iast C rfl rfl hf dX6_sheet_41 (fun hf => ?_)
      refine aw_nmH hf (fun h3 hf => ?_)
      refine aw_aload_n C dX6_sheet_42 rfl 0 rfl ?_
      refine aw_get C (kd_lt rfl (by decide)) (ce_6 rfl) rfl hinX6_sheet_6 14 (by decide) rfl (by decide +kernel) rfl dX6_sheet_43 ?_
      refine aw_iload_n C dX6_sheet_46 rfl 1 rfl ?_
      refine aw_iload_n C dX6_sheet_47 rfl 3 rfl ?_
      refine aw_iast C rfl rfl hf dX6_sheet_48 (fun hf => ?_)
      refine aw_nmH hf (fun h4 hf => ?_)
      refine aw_bipush (v := 64) C dX6_sheet_49 (by decide) ?_
      refine aw_iload_n C dX6_sheet_51 rfl 1 rfl ?_
      refine aw_imul C dX6_sheet_52 ?_
      refine aw_nmI hf (fun v5 hf => ?_)
      refine aw_istore (lv1 := [(4, .int v5), (0, .ref (ad 29)), (1, .int a1), (2, .int a2), (3, .int a3)]) C dX6_sheet_53 (by decide) rfl ?_
      refine aw_sub [1, 2, 3, 4, 0] rfl ?_
      exact tX6_sheet_55 C   FU h4 v5 hf
    refine aw_aload_n C dX6_sheet_29 rfl 0 rfl ?_
    refine aw_iconst (v := 5) C dX6_sheet_30 (by decide) ?_
    obtain ⟨r7, h6, hc, hf⟩ := bW_some hf
    refine aw_callVi (As := [.int 5]) (rest := []) C rfl (by decide) rfl (kX6_meets (l := l) (D := D) (ad := ad) (cy := cy) (tb := tb) C.2.2.2.2.2.2.2.2.1 hc) (fun ht _ => cwV 1 ht gX6_sheet_X6_meets rfl rfl rfl (by decide +kernel) ⟨Nat.le_of_ble_eq_true rfl, Nat.le_of_ble_eq_true rfl⟩) rfl rfl (Nat.le_of_ble_eq_true rfl) dX6_sheet_31 ?_
    exact aw_iretW C dX6_sheet_34 hf
  refine aw_bipush (v := (-2)) C dX6_sheet_22 (by decide) ?_
  exact aw_iretW C dX6_sheet_24 hf
theorem kX6_sheet {h : AH} {a1 : Int32} {a2 : Int32} {a3 : Int32} {r0 : Int32} {h0 : AH} (hi : Inj ad) (hf : fX6_sheet h a1 a2 a3 = some (r0, h0)) : Ki l yX6_sheet wsX6_sheet rmX6_sheet D ad cy tb [.ref (ad 29), .int a1, .int a2, .int a3] h r0 h0 := met_i (lv := [(0, .ref (ad 29)), (1, .int a1), (2, .int a2), (3, .int a3)]) hi (by decide) rfl (Nat.le_of_ble_eq_true rfl) rfl rfl (fun _ _ _ _ _ _ _ _ C => tX6_sheet_0 C  hf)
set_option maxRecDepth 20000 in
theorem ggX5_lose_X5_isSheet : GoodIn wsX5_lose wsX5_isSheet := goodIn_r _ [5] (by decide +kernel) (by decide +kernel)
set_option maxRecDepth 20000 in
theorem gX5_lose_X5_isSheet : GoodIn wsX5_lose (va_wsS RX5 109 yX5_isSheet wsX5_isSheet) := goodIn_app (goodIn_of _ (by decide +kernel)) ggX5_lose_X5_isSheet
set_option maxRecDepth 20000 in
theorem ggX5_lose_X5_finding : GoodIn wsX5_lose wsX5_finding := goodIn_r _ [9, 10, 11, 12, 13, 14, 15, 16, 17, 18, 19] (by decide +kernel) (by decide +kernel)
set_option maxRecDepth 20000 in
theorem gX5_lose_X5_finding : GoodIn wsX5_lose (wsV RX5 116 RX5 yX5_finding wsX5_finding) := goodIn_app (goodIn_of _ (by decide +kernel)) ggX5_lose_X5_finding
theorem dX5_lose_0 : decode cX5_lose 0 = .ok (.iload_n 1, 1) := by decide +kernel
theorem dX5_lose_1 : decode cX5_lose 1 = .ok (.invokestatic 109, 3) := by decide +kernel
theorem dX5_lose_4 : decode cX5_lose 4 = .ok (.ifCond .ne 6, 3) := by decide +kernel
theorem dX5_lose_7 : decode cX5_lose 7 = .ok (.bipush (-2), 2) := by decide +kernel
theorem dX5_lose_9 : decode cX5_lose 9 = .ok (.ireturn, 1) := by decide +kernel
theorem dX5_lose_10 : decode cX5_lose 10 = .ok (.aload_n 0, 1) := by decide +kernel
theorem dX5_lose_11 : decode cX5_lose 11 = .ok (.getfield 46, 3) := by decide +kernel
theorem dX5_lose_14 : decode cX5_lose 14 = .ok (.iload_n 1, 1) := by decide +kernel
theorem dX5_lose_15 : decode cX5_lose 15 = .ok (.aaload, 1) := by decide +kernel
theorem dX5_lose_16 : decode cX5_lose 16 = .ok (.astore_n 2, 1) := by decide +kernel
theorem dX5_lose_17 : decode cX5_lose 17 = .ok (.aload_n 2, 1) := by decide +kernel
theorem dX5_lose_18 : decode cX5_lose 18 = .ok (.getfield 112, 3) := by decide +kernel
theorem dX5_lose_21 : decode cX5_lose 21 = .ok (.ifCond .eq 10, 3) := by decide +kernel
theorem dX5_lose_24 : decode cX5_lose 24 = .ok (.aload_n 0, 1) := by decide +kernel
theorem dX5_lose_25 : decode cX5_lose 25 = .ok (.bipush (-11), 2) := by decide +kernel
theorem dX5_lose_27 : decode cX5_lose 27 = .ok (.invokevirtual 116, 3) := by decide +kernel
theorem dX5_lose_30 : decode cX5_lose 30 = .ok (.ireturn, 1) := by decide +kernel
theorem dX5_lose_31 : decode cX5_lose 31 = .ok (.aload_n 2, 1) := by decide +kernel
theorem dX5_lose_32 : decode cX5_lose 32 = .ok (.iconst 1, 1) := by decide +kernel
theorem dX5_lose_33 : decode cX5_lose 33 = .ok (.putfield 112, 3) := by decide +kernel
theorem dX5_lose_36 : decode cX5_lose 36 = .ok (.aload_n 2, 1) := by decide +kernel
theorem dX5_lose_37 : decode cX5_lose 37 = .ok (.getfield 120, 3) := by decide +kernel
theorem dX5_lose_40 : decode cX5_lose 40 = .ok (.ireturn, 1) := by decide +kernel
abbrev rmX5_lose : Room := { frames := 1, cells := 0, slots := 0, locals := 21 }
set_option maxRecDepth 100000 in
theorem hinX5_lose_5 : ∀ w ∈ wsX50, w ∈ wsX5_lose := by decide +kernel
set_option maxRecDepth 100000 in
theorem hinX5_lose_3 : ∀ w ∈ wsX30, w ∈ wsX5_lose := by decide +kernel
def fX5_lose (h : AH) (a1 : Int32) : Option (Int32 × AH) :=
  bR (fX5_isSheet h a1) fun r1 =>
  if r1 = 0 then (
    some ((-2), h)) else (
  ck (inb a1 4) <|
  nm (21 + a1.toNatClampNeg) fun r2 =>
  if (h.1 r2 0) = 0 then (
    nm (sI h r2 0 1) fun h3 =>
    some (h3.1 r2 2, h3)) else (
  bW (fX5_finding h (-11)) fun r5 h4 =>
  some (r5, h4)))
set_option maxHeartbeats 4000000 in
set_option maxRecDepth 100000 in
theorem tX5_lose_0 {h : AH} {a1 : Int32} {r0 : Int32} {h0 : AH} (C : Cx p rmX5_lose s m args meth c RX5 cX5_lose 3 (some .int) wsX5_lose D ad cy tb 0 0) (hf : fX5_lose h a1 = some (r0, h0)) : AW p l e rmX5_lose s m args below meth c 3 D ad cy 0 0 (Qi D ad cy below args s r0 h0) 0 [(0, .ref (ad 0)), (1, .int a1)] [] h := by
  unfold fX5_lose at hf
  refine aw_iload_n C dX5_lose_0 rfl 1 rfl ?_
  obtain ⟨r1, hc, hf⟩ := bR_some hf
  refine aw_callSi (As := [.int a1]) (rest := []) C (kX5_isSheet (l := l) (D := D) (ad := ad) (cy := cy) (tb := tb) C.2.2.2.2.2.2.2.2.1 hc) (fun ht _ => va_cwS 1 ht gX5_lose_X5_isSheet rfl rfl rfl (by decide +kernel) ⟨Nat.le_of_ble_eq_true rfl, Nat.le_of_ble_eq_true rfl⟩) rfl rfl (Nat.le_of_ble_eq_true rfl) dX5_lose_1 ?_
  refine aw_if_ne (tgt := 10) C dX5_lose_4 (by decide) hf (fun hf => ?_) (fun hf => ?_)
  · refine aw_aload_n C dX5_lose_10 rfl 0 rfl ?_
    refine aw_get C (kd_lt rfl (by decide)) (ce_5 rfl) rfl hinX5_lose_5 6 (by decide) rfl (by decide +kernel) rfl dX5_lose_11 ?_
    refine aw_iload_n C dX5_lose_14 rfl 1 rfl ?_
    refine aw_aald C hf dX5_lose_15 (fun r2 hkr2 hf => ?_)
    refine aw_astore_n (lv1 := [(2, .ref (ad r2)), (0, .ref (ad 0)), (1, .int a1)]) C dX5_lose_16 rfl (by decide) rfl ?_
    refine aw_aload_n C dX5_lose_17 rfl 0 rfl ?_
    refine aw_getN (host := "StairCodes") C (kd_lt hkr2 (by decide)) (ce_3 hkr2) rfl hinX5_lose_3 0 (by decide) rfl (by decide +kernel) rfl dX5_lose_18 ?_
    refine aw_if_eq (tgt := 31) C dX5_lose_21 (by decide) hf (fun hf => ?_) (fun hf => ?_)
    · refine aw_aload_n C dX5_lose_31 rfl 0 rfl ?_
      refine aw_iconst (v := 1) C dX5_lose_32 (by decide) ?_
      refine aw_putN (ty := .boolean) (host := "StairCodes") C (kd_lt hkr2 (by decide)) (ce_3 hkr2) rfl hinX5_lose_3 tyX3 tyX3_ok nmX3 0 (by decide) rfl (by decide +kernel) rfl (by decide +kernel) rfl rfl (Nat.le_of_ble_eq_true rfl) (cs_3_0 hkr2) dX5_lose_33 ?_
      refine aw_nmH hf (fun h3 hf => ?_)
      refine aw_aload_n C dX5_lose_36 rfl 0 rfl ?_
      refine aw_getN (host := "StairCodes") C (kd_lt hkr2 (by decide)) (ce_3 hkr2) rfl hinX5_lose_3 2 (by decide) rfl (by decide +kernel) rfl dX5_lose_37 ?_
      exact aw_iretW C dX5_lose_40 hf
    refine aw_aload_n C dX5_lose_24 rfl 1 rfl ?_
    refine aw_bipush (v := (-11)) C dX5_lose_25 (by decide) ?_
    obtain ⟨r5, h4, hc, hf⟩ := bW_some hf
    refine aw_callVi (As := [.int (-11)]) (rest := []) C rfl (by decide) rfl (kX5_finding (l := l) (D := D) (ad := ad) (cy := cy) (tb := tb) C.2.2.2.2.2.2.2.2.1 hc) (fun ht _ => cwV 1 ht gX5_lose_X5_finding rfl rfl rfl (by decide +kernel) ⟨Nat.le_of_ble_eq_true rfl, Nat.le_of_ble_eq_true rfl⟩) rfl rfl (Nat.le_of_ble_eq_true rfl) dX5_lose_27 ?_
    exact aw_iretW C dX5_lose_30 hf
  refine aw_bipush (v := (-2)) C dX5_lose_7 (by decide) ?_
  exact aw_iretW C dX5_lose_9 hf
theorem kX5_lose {h : AH} {a1 : Int32} {r0 : Int32} {h0 : AH} (hi : Inj ad) (hf : fX5_lose h a1 = some (r0, h0)) : Ki l yX5_lose wsX5_lose rmX5_lose D ad cy tb [.ref (ad 0), .int a1] h r0 h0 := met_i (lv := [(0, .ref (ad 0)), (1, .int a1)]) hi (by decide) rfl (Nat.le_of_ble_eq_true rfl) rfl rfl (fun _ _ _ _ _ _ _ _ C => tX5_lose_0 C  hf)
set_option maxRecDepth 20000 in
theorem ggX6_lose_X6_isSheet : GoodIn wsX6_lose wsX6_isSheet := goodIn_r _ [6, 7, 8, 5, 9] (by decide +kernel) (by decide +kernel)
set_option maxRecDepth 20000 in
theorem gX6_lose_X6_isSheet : GoodIn wsX6_lose (va_wsS RX6 103 yX6_isSheet wsX6_isSheet) := goodIn_app (goodIn_of _ (by decide +kernel)) ggX6_lose_X6_isSheet
set_option maxRecDepth 20000 in
theorem ggX6_lose_X6_meets : GoodIn wsX6_lose wsX6_meets := goodIn_r _ [13, 14, 15, 16, 17, 18, 19, 20, 21, 22, 23, 24, 25, 26, 27, 28, 29, 30, 31, 32] (by decide +kernel) (by decide +kernel)
set_option maxRecDepth 20000 in
theorem gX6_lose_X6_meets : GoodIn wsX6_lose (wsV RX6 106 RX6 yX6_meets wsX6_meets) := goodIn_app (goodIn_of _ (by decide +kernel)) ggX6_lose_X6_meets
theorem dX6_lose_0 : decode cX6_lose 0 = .ok (.iload_n 1, 1) := by decide +kernel
theorem dX6_lose_1 : decode cX6_lose 1 = .ok (.invokestatic 103, 3) := by decide +kernel
theorem dX6_lose_4 : decode cX6_lose 4 = .ok (.ifCond .ne 6, 3) := by decide +kernel
theorem dX6_lose_7 : decode cX6_lose 7 = .ok (.bipush (-2), 2) := by decide +kernel
theorem dX6_lose_9 : decode cX6_lose 9 = .ok (.ireturn, 1) := by decide +kernel
theorem dX6_lose_10 : decode cX6_lose 10 = .ok (.aload_n 0, 1) := by decide +kernel
theorem dX6_lose_11 : decode cX6_lose 11 = .ok (.getfield 42, 3) := by decide +kernel
theorem dX6_lose_14 : decode cX6_lose 14 = .ok (.iload_n 1, 1) := by decide +kernel
theorem dX6_lose_15 : decode cX6_lose 15 = .ok (.iaload, 1) := by decide +kernel
theorem dX6_lose_16 : decode cX6_lose 16 = .ok (.iconst (-1), 1) := by decide +kernel
theorem dX6_lose_17 : decode cX6_lose 17 = .ok (.if_icmp .ne 9, 3) := by decide +kernel
theorem dX6_lose_20 : decode cX6_lose 20 = .ok (.aload_n 0, 1) := by decide +kernel
theorem dX6_lose_21 : decode cX6_lose 21 = .ok (.iconst 1, 1) := by decide +kernel
theorem dX6_lose_22 : decode cX6_lose 22 = .ok (.invokevirtual 106, 3) := by decide +kernel
theorem dX6_lose_25 : decode cX6_lose 25 = .ok (.ireturn, 1) := by decide +kernel
theorem dX6_lose_26 : decode cX6_lose 26 = .ok (.aload_n 0, 1) := by decide +kernel
theorem dX6_lose_27 : decode cX6_lose 27 = .ok (.getfield 42, 3) := by decide +kernel
theorem dX6_lose_30 : decode cX6_lose 30 = .ok (.iload_n 1, 1) := by decide +kernel
theorem dX6_lose_31 : decode cX6_lose 31 = .ok (.iconst (-1), 1) := by decide +kernel
theorem dX6_lose_32 : decode cX6_lose 32 = .ok (.iastore, 1) := by decide +kernel
theorem dX6_lose_33 : decode cX6_lose 33 = .ok (.aload_n 0, 1) := by decide +kernel
theorem dX6_lose_34 : decode cX6_lose 34 = .ok (.getfield 45, 3) := by decide +kernel
theorem dX6_lose_37 : decode cX6_lose 37 = .ok (.iload_n 1, 1) := by decide +kernel
theorem dX6_lose_38 : decode cX6_lose 38 = .ok (.iaload, 1) := by decide +kernel
theorem dX6_lose_39 : decode cX6_lose 39 = .ok (.ireturn, 1) := by decide +kernel
abbrev rmX6_lose : Room := { frames := 2, cells := 0, slots := 0, locals := 42 }
set_option maxRecDepth 100000 in
theorem hinX6_lose_6 : ∀ w ∈ wsX60, w ∈ wsX6_lose := by decide +kernel
def fX6_lose (h : AH) (a1 : Int32) : Option (Int32 × AH) :=
  bR (fX6_isSheet h a1) fun r1 =>
  if r1 = 0 then (
    some ((-2), h)) else (
  ck (inb a1 4) <|
  if (h.1 39 a1.toNatClampNeg) = (-1) then (
    bW (fX6_meets h 1) fun r4 h3 =>
    some (r4, h3)) else (
  ck (inb a1 4) <|
  nm (sI h 39 a1.toNatClampNeg (-1)) fun h2 =>
  ck (inb a1 4) <|
  some (h2.1 40 a1.toNatClampNeg, h2)))
set_option maxHeartbeats 4000000 in
set_option maxRecDepth 100000 in
theorem tX6_lose_0 {h : AH} {a1 : Int32} {r0 : Int32} {h0 : AH} (C : Cx p rmX6_lose s m args meth c RX6 cX6_lose 2 (some .int) wsX6_lose D ad cy tb 0 0) (hf : fX6_lose h a1 = some (r0, h0)) : AW p l e rmX6_lose s m args below meth c 2 D ad cy 0 0 (Qi D ad cy below args s r0 h0) 0 [(0, .ref (ad 29)), (1, .int a1)] [] h := by
  unfold fX6_lose at hf
  refine aw_iload_n C dX6_lose_0 rfl 1 rfl ?_
  obtain ⟨r1, hc, hf⟩ := bR_some hf
  refine aw_callSi (As := [.int a1]) (rest := []) C (kX6_isSheet (l := l) (D := D) (ad := ad) (cy := cy) (tb := tb) C.2.2.2.2.2.2.2.2.1 hc) (fun ht _ => va_cwS 1 ht gX6_lose_X6_isSheet rfl rfl rfl (by decide +kernel) ⟨Nat.le_of_ble_eq_true rfl, Nat.le_of_ble_eq_true rfl⟩) rfl rfl (Nat.le_of_ble_eq_true rfl) dX6_lose_1 ?_
  refine aw_if_ne (tgt := 10) C dX6_lose_4 (by decide) hf (fun hf => ?_) (fun hf => ?_)
  · refine aw_aload_n C dX6_lose_10 rfl 0 rfl ?_
    refine aw_get C (kd_lt rfl (by decide)) (ce_6 rfl) rfl hinX6_lose_6 13 (by decide) rfl (by decide +kernel) rfl dX6_lose_11 ?_
    refine aw_iload_n C dX6_lose_14 rfl 1 rfl ?_
    refine aw_iald C rfl rfl hf dX6_lose_15 (fun hf => ?_)
    refine aw_iconst (v := (-1)) C dX6_lose_16 (by decide) ?_
    refine aw_icmp_ne (tgt := 26) C dX6_lose_17 (by decide) hf (fun hf => ?_) (fun hf => ?_)
    · refine aw_aload_n C dX6_lose_26 rfl 0 rfl ?_
      refine aw_get C (kd_lt rfl (by decide)) (ce_6 rfl) rfl hinX6_lose_6 13 (by decide) rfl (by decide +kernel) rfl dX6_lose_27 ?_
      refine aw_iload_n C dX6_lose_30 rfl 1 rfl ?_
      refine aw_iconst (v := (-1)) C dX6_lose_31 (by decide) ?_
      refine aw_iast C rfl rfl hf dX6_lose_32 (fun hf => ?_)
      refine aw_nmH hf (fun h2 hf => ?_)
      refine aw_aload_n C dX6_lose_33 rfl 0 rfl ?_
      refine aw_get C (kd_lt rfl (by decide)) (ce_6 rfl) rfl hinX6_lose_6 14 (by decide) rfl (by decide +kernel) rfl dX6_lose_34 ?_
      refine aw_iload_n C dX6_lose_37 rfl 1 rfl ?_
      refine aw_iald C rfl rfl hf dX6_lose_38 (fun hf => ?_)
      exact aw_iretW C dX6_lose_39 hf
    refine aw_aload_n C dX6_lose_20 rfl 0 rfl ?_
    refine aw_iconst (v := 1) C dX6_lose_21 (by decide) ?_
    obtain ⟨r4, h3, hc, hf⟩ := bW_some hf
    refine aw_callVi (As := [.int 1]) (rest := []) C rfl (by decide) rfl (kX6_meets (l := l) (D := D) (ad := ad) (cy := cy) (tb := tb) C.2.2.2.2.2.2.2.2.1 hc) (fun ht _ => cwV 1 ht gX6_lose_X6_meets rfl rfl rfl (by decide +kernel) ⟨Nat.le_of_ble_eq_true rfl, Nat.le_of_ble_eq_true rfl⟩) rfl rfl (Nat.le_of_ble_eq_true rfl) dX6_lose_22 ?_
    exact aw_iretW C dX6_lose_25 hf
  refine aw_bipush (v := (-2)) C dX6_lose_7 (by decide) ?_
  exact aw_iretW C dX6_lose_9 hf
theorem kX6_lose {h : AH} {a1 : Int32} {r0 : Int32} {h0 : AH} (hi : Inj ad) (hf : fX6_lose h a1 = some (r0, h0)) : Ki l yX6_lose wsX6_lose rmX6_lose D ad cy tb [.ref (ad 29), .int a1] h r0 h0 := met_i (lv := [(0, .ref (ad 29)), (1, .int a1)]) hi (by decide) rfl (Nat.le_of_ble_eq_true rfl) rfl rfl (fun _ _ _ _ _ _ _ _ C => tX6_lose_0 C  hf)
theorem dX3_hasItem_0 : decode cX3_hasItem 0 = .ok (.iload_n 1, 1) := by decide +kernel
theorem dX3_hasItem_1 : decode cX3_hasItem 1 = .ok (.ifCond .lt 15, 3) := by decide +kernel
theorem dX3_hasItem_4 : decode cX3_hasItem 4 = .ok (.iload_n 1, 1) := by decide +kernel
theorem dX3_hasItem_5 : decode cX3_hasItem 5 = .ok (.aload_n 0, 1) := by decide +kernel
theorem dX3_hasItem_6 : decode cX3_hasItem 6 = .ok (.getfield 23, 3) := by decide +kernel
theorem dX3_hasItem_9 : decode cX3_hasItem 9 = .ok (.if_icmp .ge 7, 3) := by decide +kernel
theorem dX3_hasItem_12 : decode cX3_hasItem 12 = .ok (.iconst 1, 1) := by decide +kernel
theorem dX3_hasItem_13 : decode cX3_hasItem 13 = .ok (.goto 4, 3) := by decide +kernel
theorem dX3_hasItem_16 : decode cX3_hasItem 16 = .ok (.iconst 0, 1) := by decide +kernel
theorem dX3_hasItem_17 : decode cX3_hasItem 17 = .ok (.ireturn, 1) := by decide +kernel
abbrev rmX3_hasItem : Room := { frames := 0, cells := 0, slots := 0, locals := 0 }
set_option maxRecDepth 100000 in
theorem hinX3_hasItem_3 : ∀ w ∈ wsX30, w ∈ wsX3_hasItem := by decide +kernel
def fX3_hasItem (h : AH) (a0 : Nat) (a1 : Int32) : Option Int32 :=
  if a1 < 0 then (
    some 0) else (
  if (h.1 a0 2) ≤ a1 then (
    some 0) else (
  some 1))
set_option maxHeartbeats 4000000 in
set_option maxRecDepth 100000 in
theorem tX3_hasItem_0 {h : AH} {a0 : Nat} {a1 : Int32} {r0 : Int32} (C : Cx p rmX3_hasItem s m args meth c RX3 cX3_hasItem 2 (some .boolean) wsX3_hasItem D ad cy tb 0 0) (hk0 : kd a0 = 3) (hf : fX3_hasItem h a0 a1 = some r0) : AW p l e rmX3_hasItem s m args below meth c 2 D ad cy 0 0 (Qi D ad cy below args s r0 h) 0 [(0, .ref (ad a0)), (1, .int a1)] [] h := by
  unfold fX3_hasItem at hf
  refine aw_iload_n C dX3_hasItem_0 rfl 1 rfl ?_
  refine aw_if_lt (tgt := 16) C dX3_hasItem_1 (by decide) hf (fun hf => ?_) (fun hf => ?_)
  · refine aw_iconst (v := 0) C dX3_hasItem_16 (by decide) ?_
    exact aw_zretR C (by decide) dX3_hasItem_17 hf
  refine aw_iload_n C dX3_hasItem_4 rfl 1 rfl ?_
  refine aw_aload_n C dX3_hasItem_5 rfl 0 rfl ?_
  refine aw_get C (kd_lt hk0 (by decide)) (ce_3 hk0) rfl hinX3_hasItem_3 2 (by decide) rfl (by decide +kernel) rfl dX3_hasItem_6 ?_
  refine aw_icmp_ge (tgt := 16) C dX3_hasItem_9 (by decide) hf (fun hf => ?_) (fun hf => ?_)
  · refine aw_iconst (v := 0) C dX3_hasItem_16 (by decide) ?_
    exact aw_zretR C (by decide) dX3_hasItem_17 hf
  refine aw_iconst (v := 1) C dX3_hasItem_12 (by decide) ?_
  refine aw_goto (tgt := 17) C dX3_hasItem_13 (by decide) ?_
  exact aw_zretR C (by decide) dX3_hasItem_17 hf
theorem kX3_hasItem {h : AH} {a0 : Nat} {a1 : Int32} {r0 : Int32} (hi : Inj ad) (hk0 : kd a0 = 3) (hf : fX3_hasItem h a0 a1 = some r0) : Ki l yX3_hasItem wsX3_hasItem rmX3_hasItem D ad cy tb [.ref (ad a0), .int a1] h r0 h := met_i (lv := [(0, .ref (ad a0)), (1, .int a1)]) hi (by decide) rfl (Nat.le_of_ble_eq_true rfl) rfl rfl (fun _ _ _ _ _ _ _ _ C => tX3_hasItem_0 C hk0 hf)
set_option maxRecDepth 20000 in
theorem ggX5_put_X5_isSheet : GoodIn wsX5_put wsX5_isSheet := goodIn_r _ [5] (by decide +kernel) (by decide +kernel)
set_option maxRecDepth 20000 in
theorem gX5_put_X5_isSheet : GoodIn wsX5_put (va_wsS RX5 109 yX5_isSheet wsX5_isSheet) := goodIn_app (goodIn_of _ (by decide +kernel)) ggX5_put_X5_isSheet
set_option maxRecDepth 20000 in
theorem ggX5_put_X5_isForm : GoodIn wsX5_put wsX5_isForm := goodIn_r _ [8] (by decide +kernel) (by decide +kernel)
set_option maxRecDepth 20000 in
theorem gX5_put_X5_isForm : GoodIn wsX5_put (va_wsS RX5 229 yX5_isForm wsX5_isForm) := goodIn_app (goodIn_of _ (by decide +kernel)) ggX5_put_X5_isForm
set_option maxRecDepth 20000 in
theorem ggX5_put_X5_finding : GoodIn wsX5_put wsX5_finding := goodIn_r _ [12, 13, 20, 21, 22, 23, 24, 25, 26, 27, 28] (by decide +kernel) (by decide +kernel)
set_option maxRecDepth 20000 in
theorem gX5_put_X5_finding : GoodIn wsX5_put (wsV RX5 116 RX5 yX5_finding wsX5_finding) := goodIn_app (goodIn_of _ (by decide +kernel)) ggX5_put_X5_finding
set_option maxRecDepth 20000 in
theorem ggX5_put_X3_hasItem : GoodIn wsX5_put wsX3_hasItem := goodIn_r _ [18, 19, 29, 30, 31, 32] (by decide +kernel) (by decide +kernel)
set_option maxRecDepth 20000 in
theorem gX5_put_X3_hasItem : GoodIn wsX5_put (wsV RX5 239 RX3 yX3_hasItem wsX3_hasItem) := goodIn_app (goodIn_of _ (by decide +kernel)) ggX5_put_X3_hasItem
theorem dX5_put_0 : decode cX5_put 0 = .ok (.iload_n 1, 1) := by decide +kernel
theorem dX5_put_1 : decode cX5_put 1 = .ok (.invokestatic 109, 3) := by decide +kernel
theorem dX5_put_4 : decode cX5_put 4 = .ok (.ifCond .eq 10, 3) := by decide +kernel
theorem dX5_put_7 : decode cX5_put 7 = .ok (.iload_n 2, 1) := by decide +kernel
theorem dX5_put_8 : decode cX5_put 8 = .ok (.invokestatic 229, 3) := by decide +kernel
theorem dX5_put_11 : decode cX5_put 11 = .ok (.ifCond .ne 6, 3) := by decide +kernel
theorem dX5_put_14 : decode cX5_put 14 = .ok (.bipush (-2), 2) := by decide +kernel
theorem dX5_put_16 : decode cX5_put 16 = .ok (.ireturn, 1) := by decide +kernel
theorem dX5_put_17 : decode cX5_put 17 = .ok (.aload_n 0, 1) := by decide +kernel
theorem dX5_put_18 : decode cX5_put 18 = .ok (.getfield 46, 3) := by decide +kernel
theorem dX5_put_21 : decode cX5_put 21 = .ok (.iload_n 1, 1) := by decide +kernel
theorem dX5_put_22 : decode cX5_put 22 = .ok (.aaload, 1) := by decide +kernel
theorem dX5_put_23 : decode cX5_put 23 = .ok (.astore 5, 2) := by decide +kernel
theorem dX5_put_25 : decode cX5_put 25 = .ok (.aload 5, 2) := by decide +kernel
theorem dX5_put_27 : decode cX5_put 27 = .ok (.getfield 112, 3) := by decide +kernel
theorem dX5_put_30 : decode cX5_put 30 = .ok (.ifCond .eq 10, 3) := by decide +kernel
theorem dX5_put_33 : decode cX5_put 33 = .ok (.aload_n 0, 1) := by decide +kernel
theorem dX5_put_34 : decode cX5_put 34 = .ok (.bipush (-11), 2) := by decide +kernel
theorem dX5_put_36 : decode cX5_put 36 = .ok (.invokevirtual 116, 3) := by decide +kernel
theorem dX5_put_39 : decode cX5_put 39 = .ok (.ireturn, 1) := by decide +kernel
theorem dX5_put_40 : decode cX5_put 40 = .ok (.aload 5, 2) := by decide +kernel
theorem dX5_put_42 : decode cX5_put 42 = .ok (.getfield 236, 3) := by decide +kernel
theorem dX5_put_45 : decode cX5_put 45 = .ok (.iload_n 2, 1) := by decide +kernel
theorem dX5_put_46 : decode cX5_put 46 = .ok (.if_icmp .eq 10, 3) := by decide +kernel
theorem dX5_put_49 : decode cX5_put 49 = .ok (.aload_n 0, 1) := by decide +kernel
theorem dX5_put_50 : decode cX5_put 50 = .ok (.bipush (-13), 2) := by decide +kernel
theorem dX5_put_52 : decode cX5_put 52 = .ok (.invokevirtual 116, 3) := by decide +kernel
theorem dX5_put_55 : decode cX5_put 55 = .ok (.ireturn, 1) := by decide +kernel
theorem dX5_put_56 : decode cX5_put 56 = .ok (.aload 5, 2) := by decide +kernel
theorem dX5_put_58 : decode cX5_put 58 = .ok (.iload_n 3, 1) := by decide +kernel
theorem dX5_put_59 : decode cX5_put 59 = .ok (.invokevirtual 239, 3) := by decide +kernel
theorem dX5_put_62 : decode cX5_put 62 = .ok (.ifCond .ne 10, 3) := by decide +kernel
theorem dX5_put_65 : decode cX5_put 65 = .ok (.aload_n 0, 1) := by decide +kernel
theorem dX5_put_66 : decode cX5_put 66 = .ok (.bipush (-12), 2) := by decide +kernel
theorem dX5_put_68 : decode cX5_put 68 = .ok (.invokevirtual 116, 3) := by decide +kernel
theorem dX5_put_71 : decode cX5_put 71 = .ok (.ireturn, 1) := by decide +kernel
theorem dX5_put_72 : decode cX5_put 72 = .ok (.aload 5, 2) := by decide +kernel
theorem dX5_put_74 : decode cX5_put 74 = .ok (.getfield 123, 3) := by decide +kernel
theorem dX5_put_77 : decode cX5_put 77 = .ok (.iload_n 3, 1) := by decide +kernel
theorem dX5_put_78 : decode cX5_put 78 = .ok (.iload_n 2, 1) := by decide +kernel
theorem dX5_put_79 : decode cX5_put 79 = .ok (.ifCond .ne 11, 3) := by decide +kernel
theorem dX5_put_82 : decode cX5_put 82 = .ok (.iload 4, 2) := by decide +kernel
theorem dX5_put_84 : decode cX5_put 84 = .ok (.iconst 1, 1) := by decide +kernel
theorem dX5_put_85 : decode cX5_put 85 = .ok (.iand, 1) := by decide +kernel
theorem dX5_put_86 : decode cX5_put 86 = .ok (.i2l, 1) := by decide +kernel
theorem dX5_put_87 : decode cX5_put 87 = .ok (.goto 6, 3) := by decide +kernel
theorem dX5_put_90 : decode cX5_put 90 = .ok (.iload 4, 2) := by decide +kernel
theorem dX5_put_92 : decode cX5_put 92 = .ok (.i2l, 1) := by decide +kernel
theorem dX5_put_93 : decode cX5_put 93 = .ok (.lastore, 1) := by decide +kernel
theorem dX5_put_94 : decode cX5_put 94 = .ok (.iconst 1, 1) := by decide +kernel
theorem dX5_put_95 : decode cX5_put 95 = .ok (.ireturn, 1) := by decide +kernel
abbrev rmX5_put : Room := { frames := 1, cells := 0, slots := 0, locals := 21 }
set_option maxRecDepth 100000 in
theorem hinX5_put_5 : ∀ w ∈ wsX50, w ∈ wsX5_put := by decide +kernel
set_option maxRecDepth 100000 in
theorem hinX5_put_3 : ∀ w ∈ wsX30, w ∈ wsX5_put := by decide +kernel
def fX5_put_93 (a1 : Int32) (a2 : Int32) (a3 : Int32) (a4 : Int32) (h : AH) (s0 : Nat) (s1 : Int32) (s2 : Int64) : Option (Int32 × AH) :=
  ck (inb s1 (ln s0)) <|
  nm (sL h s0 s1.toNatClampNeg s2) fun h1 =>
  some (1, h1)
set_option maxHeartbeats 4000000 in
set_option maxRecDepth 100000 in
theorem tX5_put_93 {h : AH} {a1 : Int32} {a2 : Int32} {a3 : Int32} {a4 : Int32} {s0 : Nat} {s1 : Int32} {s2 : Int64} {r0 : Int32} {h0 : AH} (C : Cx p rmX5_put s m args meth c RX5 cX5_put 6 (some .int) wsX5_put D ad cy tb 0 0) (hk_s0 : kd s0 = 8) (hf : fX5_put_93 a1 a2 a3 a4 h s0 s1 s2 = some (r0, h0)) : AW p l e rmX5_put s m args below meth c 6 D ad cy 0 0 (Qi D ad cy below args s r0 h0) 93 [(0, .ref (ad 0)), (1, .int a1), (2, .int a2), (3, .int a3), (4, .int a4)] [.long s2, .int s1, .ref (ad s0)] h := by
  unfold fX5_put_93 at hf
  refine aw_last C hk_s0 rfl hf dX5_put_93 (fun hf => ?_)
  refine aw_nmH hf (fun h1 hf => ?_)
  refine aw_iconst (v := 1) C dX5_put_94 (by decide) ?_
  exact aw_iretW C dX5_put_95 hf
def fX5_put (h : AH) (a1 : Int32) (a2 : Int32) (a3 : Int32) (a4 : Int32) : Option (Int32 × AH) :=
  bR (fX5_isSheet h a1) fun r1 =>
  if r1 = 0 then (
    some ((-2), h)) else (
  bR (fX5_isForm h a2) fun r2 =>
  if r2 = 0 then (
    some ((-2), h)) else (
  ck (inb a1 4) <|
  nm (21 + a1.toNatClampNeg) fun r3 =>
  if (h.1 r3 0) = 0 then (
    if (h.1 r3 1) = a2 then (
      bR (fX3_hasItem h r3 a3) fun r4 =>
      if r4 = 0 then (
        bW (fX5_finding h (-12)) fun r6 h5 =>
        some (r6, h5)) else (
      if a2 = 0 then (
        fX5_put_93  a1 a2 a3 a4 h (r3 + 4) a3 ((a4 &&& 1 : Int32).toInt64)) else (
      fX5_put_93  a1 a2 a3 a4 h (r3 + 4) a3 (a4.toInt64)))) else (
    bW (fX5_finding h (-13)) fun r8 h7 =>
    some (r8, h7))) else (
  bW (fX5_finding h (-11)) fun r10 h9 =>
  some (r10, h9))))
set_option maxHeartbeats 4000000 in
set_option maxRecDepth 100000 in
theorem tX5_put_0 {h : AH} {a1 : Int32} {a2 : Int32} {a3 : Int32} {a4 : Int32} {r0 : Int32} {h0 : AH} (C : Cx p rmX5_put s m args meth c RX5 cX5_put 6 (some .int) wsX5_put D ad cy tb 0 0) (hf : fX5_put h a1 a2 a3 a4 = some (r0, h0)) : AW p l e rmX5_put s m args below meth c 6 D ad cy 0 0 (Qi D ad cy below args s r0 h0) 0 [(0, .ref (ad 0)), (1, .int a1), (2, .int a2), (3, .int a3), (4, .int a4)] [] h := by
  unfold fX5_put at hf
  refine aw_iload_n C dX5_put_0 rfl 1 rfl ?_
  obtain ⟨r1, hc, hf⟩ := bR_some hf
  refine aw_callSi (As := [.int a1]) (rest := []) C (kX5_isSheet (l := l) (D := D) (ad := ad) (cy := cy) (tb := tb) C.2.2.2.2.2.2.2.2.1 hc) (fun ht _ => va_cwS 1 ht gX5_put_X5_isSheet rfl rfl rfl (by decide +kernel) ⟨Nat.le_of_ble_eq_true rfl, Nat.le_of_ble_eq_true rfl⟩) rfl rfl (Nat.le_of_ble_eq_true rfl) dX5_put_1 ?_
  refine aw_if_eq (tgt := 14) C dX5_put_4 (by decide) hf (fun hf => ?_) (fun hf => ?_)
  · refine aw_bipush (v := (-2)) C dX5_put_14 (by decide) ?_
    exact aw_iretW C dX5_put_16 hf
  refine aw_iload_n C dX5_put_7 rfl 2 rfl ?_
  obtain ⟨r2, hc, hf⟩ := bR_some hf
  refine aw_callSi (As := [.int a2]) (rest := []) C (kX5_isForm (l := l) (D := D) (ad := ad) (cy := cy) (tb := tb) C.2.2.2.2.2.2.2.2.1 hc) (fun ht _ => va_cwS 1 ht gX5_put_X5_isForm rfl rfl rfl (by decide +kernel) ⟨Nat.le_of_ble_eq_true rfl, Nat.le_of_ble_eq_true rfl⟩) rfl rfl (Nat.le_of_ble_eq_true rfl) dX5_put_8 ?_
  refine aw_if_ne (tgt := 17) C dX5_put_11 (by decide) hf (fun hf => ?_) (fun hf => ?_)
  · refine aw_aload_n C dX5_put_17 rfl 0 rfl ?_
    refine aw_get C (kd_lt rfl (by decide)) (ce_5 rfl) rfl hinX5_put_5 6 (by decide) rfl (by decide +kernel) rfl dX5_put_18 ?_
    refine aw_iload_n C dX5_put_21 rfl 1 rfl ?_
    refine aw_aald C hf dX5_put_22 (fun r3 hkr3 hf => ?_)
    refine aw_astore (lv1 := [(5, .ref (ad r3)), (0, .ref (ad 0)), (1, .int a1), (2, .int a2), (3, .int a3), (4, .int a4)]) C dX5_put_23 (by decide) rfl ?_
    refine aw_aload C dX5_put_25 0 rfl ?_
    refine aw_getN (host := "StairCodes") C (kd_lt hkr3 (by decide)) (ce_3 hkr3) rfl hinX5_put_3 0 (by decide) rfl (by decide +kernel) rfl dX5_put_27 ?_
    refine aw_if_eq (tgt := 40) C dX5_put_30 (by decide) hf (fun hf => ?_) (fun hf => ?_)
    · refine aw_aload C dX5_put_40 0 rfl ?_
      refine aw_getN (host := "StairCodes") C (kd_lt hkr3 (by decide)) (ce_3 hkr3) rfl hinX5_put_3 1 (by decide) rfl (by decide +kernel) rfl dX5_put_42 ?_
      refine aw_iload_n C dX5_put_45 rfl 3 rfl ?_
      refine aw_icmp_eq (tgt := 56) C dX5_put_46 (by decide) hf (fun hf => ?_) (fun hf => ?_)
      · refine aw_aload C dX5_put_56 0 rfl ?_
        refine aw_iload_n C dX5_put_58 rfl 4 rfl ?_
        obtain ⟨r4, hc, hf⟩ := bR_some hf
        refine aw_callVi (As := [.int a3]) (rest := []) C hkr3 (by decide) rfl (kX3_hasItem (l := l) (D := D) (ad := ad) (cy := cy) (tb := tb) C.2.2.2.2.2.2.2.2.1 hkr3 hc) (fun ht _ => cwV 1 ht gX5_put_X3_hasItem rfl rfl rfl (by decide +kernel) ⟨Nat.le_of_ble_eq_true rfl, Nat.le_of_ble_eq_true rfl⟩) rfl rfl (Nat.le_of_ble_eq_true rfl) dX5_put_59 ?_
        refine aw_if_ne (tgt := 72) C dX5_put_62 (by decide) hf (fun hf => ?_) (fun hf => ?_)
        · refine aw_aload C dX5_put_72 0 rfl ?_
          refine aw_getN (host := "StairCodes") C (kd_lt hkr3 (by decide)) (ce_3 hkr3) rfl hinX5_put_3 3 (by decide) rfl (by decide +kernel) rfl dX5_put_74 ?_
          refine aw_iload_n C dX5_put_77 rfl 4 rfl ?_
          refine aw_iload_n C dX5_put_78 rfl 3 rfl ?_
          refine aw_if_ne (tgt := 90) C dX5_put_79 (by decide) hf (fun hf => ?_) (fun hf => ?_)
          · refine aw_iload C dX5_put_90 5 rfl ?_
            refine aw_i2l C dX5_put_92 ?_
            refine aw_sub [1, 2, 3, 4, 5] rfl ?_
            exact tX5_put_93 C   (kd3a hkr3) hf
          refine aw_iload C dX5_put_82 5 rfl ?_
          refine aw_iconst (v := 1) C dX5_put_84 (by decide) ?_
          refine aw_iand C dX5_put_85 ?_
          refine aw_i2l C dX5_put_86 ?_
          refine aw_goto (tgt := 93) C dX5_put_87 (by decide) ?_
          refine aw_sub [1, 2, 3, 4, 5] rfl ?_
          exact tX5_put_93 C   (kd3a hkr3) hf
        refine aw_aload_n C dX5_put_65 rfl 1 rfl ?_
        refine aw_bipush (v := (-12)) C dX5_put_66 (by decide) ?_
        obtain ⟨r6, h5, hc, hf⟩ := bW_some hf
        refine aw_callVi (As := [.int (-12)]) (rest := []) C rfl (by decide) rfl (kX5_finding (l := l) (D := D) (ad := ad) (cy := cy) (tb := tb) C.2.2.2.2.2.2.2.2.1 hc) (fun ht _ => cwV 1 ht gX5_put_X5_finding rfl rfl rfl (by decide +kernel) ⟨Nat.le_of_ble_eq_true rfl, Nat.le_of_ble_eq_true rfl⟩) rfl rfl (Nat.le_of_ble_eq_true rfl) dX5_put_68 ?_
        exact aw_iretW C dX5_put_71 hf
      refine aw_aload_n C dX5_put_49 rfl 1 rfl ?_
      refine aw_bipush (v := (-13)) C dX5_put_50 (by decide) ?_
      obtain ⟨r8, h7, hc, hf⟩ := bW_some hf
      refine aw_callVi (As := [.int (-13)]) (rest := []) C rfl (by decide) rfl (kX5_finding (l := l) (D := D) (ad := ad) (cy := cy) (tb := tb) C.2.2.2.2.2.2.2.2.1 hc) (fun ht _ => cwV 1 ht gX5_put_X5_finding rfl rfl rfl (by decide +kernel) ⟨Nat.le_of_ble_eq_true rfl, Nat.le_of_ble_eq_true rfl⟩) rfl rfl (Nat.le_of_ble_eq_true rfl) dX5_put_52 ?_
      exact aw_iretW C dX5_put_55 hf
    refine aw_aload_n C dX5_put_33 rfl 1 rfl ?_
    refine aw_bipush (v := (-11)) C dX5_put_34 (by decide) ?_
    obtain ⟨r10, h9, hc, hf⟩ := bW_some hf
    refine aw_callVi (As := [.int (-11)]) (rest := []) C rfl (by decide) rfl (kX5_finding (l := l) (D := D) (ad := ad) (cy := cy) (tb := tb) C.2.2.2.2.2.2.2.2.1 hc) (fun ht _ => cwV 1 ht gX5_put_X5_finding rfl rfl rfl (by decide +kernel) ⟨Nat.le_of_ble_eq_true rfl, Nat.le_of_ble_eq_true rfl⟩) rfl rfl (Nat.le_of_ble_eq_true rfl) dX5_put_36 ?_
    exact aw_iretW C dX5_put_39 hf
  refine aw_bipush (v := (-2)) C dX5_put_14 (by decide) ?_
  exact aw_iretW C dX5_put_16 hf
theorem kX5_put {h : AH} {a1 : Int32} {a2 : Int32} {a3 : Int32} {a4 : Int32} {r0 : Int32} {h0 : AH} (hi : Inj ad) (hf : fX5_put h a1 a2 a3 a4 = some (r0, h0)) : Ki l yX5_put wsX5_put rmX5_put D ad cy tb [.ref (ad 0), .int a1, .int a2, .int a3, .int a4] h r0 h0 := met_i (lv := [(0, .ref (ad 0)), (1, .int a1), (2, .int a2), (3, .int a3), (4, .int a4)]) hi (by decide) rfl (Nat.le_of_ble_eq_true rfl) rfl rfl (fun _ _ _ _ _ _ _ _ C => tX5_put_0 C  hf)
set_option maxRecDepth 20000 in
theorem ggX6_put_X6_isSheet : GoodIn wsX6_put wsX6_isSheet := goodIn_r _ [7, 8, 9, 6, 10] (by decide +kernel) (by decide +kernel)
set_option maxRecDepth 20000 in
theorem gX6_put_X6_isSheet : GoodIn wsX6_put (va_wsS RX6 103 yX6_isSheet wsX6_isSheet) := goodIn_app (goodIn_of _ (by decide +kernel)) ggX6_put_X6_isSheet
set_option maxRecDepth 20000 in
theorem ggX6_put_X6_in : GoodIn wsX6_put wsX6_in := goodIn_r _ [10] (by decide +kernel) (by decide +kernel)
set_option maxRecDepth 20000 in
theorem gX6_put_X6_in : GoodIn wsX6_put (va_wsS RX6 73 yX6_in wsX6_in) := goodIn_app (goodIn_of _ (by decide +kernel)) ggX6_put_X6_in
set_option maxRecDepth 20000 in
theorem ggX6_put_X6_meets : GoodIn wsX6_put wsX6_meets := goodIn_r _ [14, 15, 16, 17, 18, 19, 20, 21, 22, 23, 24, 25, 26, 27, 28, 29, 30, 31, 32, 33] (by decide +kernel) (by decide +kernel)
set_option maxRecDepth 20000 in
theorem gX6_put_X6_meets : GoodIn wsX6_put (wsV RX6 106 RX6 yX6_meets wsX6_meets) := goodIn_app (goodIn_of _ (by decide +kernel)) ggX6_put_X6_meets
theorem dX6_put_0 : decode cX6_put 0 = .ok (.iload_n 1, 1) := by decide +kernel
theorem dX6_put_1 : decode cX6_put 1 = .ok (.invokestatic 103, 3) := by decide +kernel
theorem dX6_put_4 : decode cX6_put 4 = .ok (.ifCond .eq 12, 3) := by decide +kernel
theorem dX6_put_7 : decode cX6_put 7 = .ok (.iload_n 2, 1) := by decide +kernel
theorem dX6_put_8 : decode cX6_put 8 = .ok (.iconst 0, 1) := by decide +kernel
theorem dX6_put_9 : decode cX6_put 9 = .ok (.iconst 2, 1) := by decide +kernel
theorem dX6_put_10 : decode cX6_put 10 = .ok (.invokestatic 73, 3) := by decide +kernel
theorem dX6_put_13 : decode cX6_put 13 = .ok (.ifCond .ne 6, 3) := by decide +kernel
theorem dX6_put_16 : decode cX6_put 16 = .ok (.bipush (-2), 2) := by decide +kernel
theorem dX6_put_18 : decode cX6_put 18 = .ok (.ireturn, 1) := by decide +kernel
theorem dX6_put_19 : decode cX6_put 19 = .ok (.aload_n 0, 1) := by decide +kernel
theorem dX6_put_20 : decode cX6_put 20 = .ok (.getfield 42, 3) := by decide +kernel
theorem dX6_put_23 : decode cX6_put 23 = .ok (.iload_n 1, 1) := by decide +kernel
theorem dX6_put_24 : decode cX6_put 24 = .ok (.iaload, 1) := by decide +kernel
theorem dX6_put_25 : decode cX6_put 25 = .ok (.iconst (-1), 1) := by decide +kernel
theorem dX6_put_26 : decode cX6_put 26 = .ok (.if_icmp .ne 7, 3) := by decide +kernel
theorem dX6_put_29 : decode cX6_put 29 = .ok (.iconst 1, 1) := by decide +kernel
theorem dX6_put_30 : decode cX6_put 30 = .ok (.goto 38, 3) := by decide +kernel
theorem dX6_put_33 : decode cX6_put 33 = .ok (.aload_n 0, 1) := by decide +kernel
theorem dX6_put_34 : decode cX6_put 34 = .ok (.getfield 42, 3) := by decide +kernel
theorem dX6_put_37 : decode cX6_put 37 = .ok (.iload_n 1, 1) := by decide +kernel
theorem dX6_put_38 : decode cX6_put 38 = .ok (.iaload, 1) := by decide +kernel
theorem dX6_put_39 : decode cX6_put 39 = .ok (.iload_n 2, 1) := by decide +kernel
theorem dX6_put_40 : decode cX6_put 40 = .ok (.if_icmp .eq 7, 3) := by decide +kernel
theorem dX6_put_43 : decode cX6_put 43 = .ok (.iconst 3, 1) := by decide +kernel
theorem dX6_put_44 : decode cX6_put 44 = .ok (.goto 24, 3) := by decide +kernel
theorem dX6_put_47 : decode cX6_put 47 = .ok (.iload_n 3, 1) := by decide +kernel
theorem dX6_put_48 : decode cX6_put 48 = .ok (.iconst 0, 1) := by decide +kernel
theorem dX6_put_49 : decode cX6_put 49 = .ok (.aload_n 0, 1) := by decide +kernel
theorem dX6_put_50 : decode cX6_put 50 = .ok (.getfield 45, 3) := by decide +kernel
theorem dX6_put_53 : decode cX6_put 53 = .ok (.iload_n 1, 1) := by decide +kernel
theorem dX6_put_54 : decode cX6_put 54 = .ok (.iaload, 1) := by decide +kernel
theorem dX6_put_55 : decode cX6_put 55 = .ok (.iconst 1, 1) := by decide +kernel
theorem dX6_put_56 : decode cX6_put 56 = .ok (.isub, 1) := by decide +kernel
theorem dX6_put_57 : decode cX6_put 57 = .ok (.invokestatic 73, 3) := by decide +kernel
theorem dX6_put_60 : decode cX6_put 60 = .ok (.ifCond .eq 7, 3) := by decide +kernel
theorem dX6_put_63 : decode cX6_put 63 = .ok (.iconst 0, 1) := by decide +kernel
theorem dX6_put_64 : decode cX6_put 64 = .ok (.goto 4, 3) := by decide +kernel
theorem dX6_put_67 : decode cX6_put 67 = .ok (.iconst 2, 1) := by decide +kernel
theorem dX6_put_68 : decode cX6_put 68 = .ok (.istore 5, 2) := by decide +kernel
theorem dX6_put_70 : decode cX6_put 70 = .ok (.iload 5, 2) := by decide +kernel
theorem dX6_put_72 : decode cX6_put 72 = .ok (.ifCond .le 10, 3) := by decide +kernel
theorem dX6_put_75 : decode cX6_put 75 = .ok (.aload_n 0, 1) := by decide +kernel
theorem dX6_put_76 : decode cX6_put 76 = .ok (.iload 5, 2) := by decide +kernel
theorem dX6_put_78 : decode cX6_put 78 = .ok (.invokevirtual 106, 3) := by decide +kernel
theorem dX6_put_81 : decode cX6_put 81 = .ok (.ireturn, 1) := by decide +kernel
theorem dX6_put_82 : decode cX6_put 82 = .ok (.aload_n 0, 1) := by decide +kernel
theorem dX6_put_83 : decode cX6_put 83 = .ok (.getfield 48, 3) := by decide +kernel
theorem dX6_put_86 : decode cX6_put 86 = .ok (.bipush 64, 2) := by decide +kernel
theorem dX6_put_88 : decode cX6_put 88 = .ok (.iload_n 1, 1) := by decide +kernel
theorem dX6_put_89 : decode cX6_put 89 = .ok (.imul, 1) := by decide +kernel
theorem dX6_put_90 : decode cX6_put 90 = .ok (.iload_n 3, 1) := by decide +kernel
theorem dX6_put_91 : decode cX6_put 91 = .ok (.iadd, 1) := by decide +kernel
theorem dX6_put_92 : decode cX6_put 92 = .ok (.iload_n 2, 1) := by decide +kernel
theorem dX6_put_93 : decode cX6_put 93 = .ok (.ifCond .ne 11, 3) := by decide +kernel
theorem dX6_put_96 : decode cX6_put 96 = .ok (.iload 4, 2) := by decide +kernel
theorem dX6_put_98 : decode cX6_put 98 = .ok (.iconst 1, 1) := by decide +kernel
theorem dX6_put_99 : decode cX6_put 99 = .ok (.iand, 1) := by decide +kernel
theorem dX6_put_100 : decode cX6_put 100 = .ok (.i2l, 1) := by decide +kernel
theorem dX6_put_101 : decode cX6_put 101 = .ok (.goto 6, 3) := by decide +kernel
theorem dX6_put_104 : decode cX6_put 104 = .ok (.iload 4, 2) := by decide +kernel
theorem dX6_put_106 : decode cX6_put 106 = .ok (.i2l, 1) := by decide +kernel
theorem dX6_put_107 : decode cX6_put 107 = .ok (.lastore, 1) := by decide +kernel
theorem dX6_put_108 : decode cX6_put 108 = .ok (.iconst 1, 1) := by decide +kernel
theorem dX6_put_109 : decode cX6_put 109 = .ok (.ireturn, 1) := by decide +kernel
abbrev rmX6_put : Room := { frames := 2, cells := 0, slots := 0, locals := 42 }
set_option maxRecDepth 100000 in
theorem hinX6_put_6 : ∀ w ∈ wsX60, w ∈ wsX6_put := by decide +kernel
def fX6_put_107 (a1 : Int32) (a2 : Int32) (a3 : Int32) (a4 : Int32) (h : AH) (s1 : Int32) (s2 : Int64) : Option (Int32 × AH) :=
  ck (inb s1 256) <|
  nm (sL h 41 s1.toNatClampNeg s2) fun h1 =>
  some (1, h1)
set_option maxHeartbeats 4000000 in
set_option maxRecDepth 100000 in
theorem tX6_put_107 {h : AH} {a1 : Int32} {a2 : Int32} {a3 : Int32} {a4 : Int32} {s1 : Int32} {s2 : Int64} {r0 : Int32} {h0 : AH} (C : Cx p rmX6_put s m args meth c RX6 cX6_put 6 (some .int) wsX6_put D ad cy tb 0 0) (hf : fX6_put_107 a1 a2 a3 a4 h s1 s2 = some (r0, h0)) : AW p l e rmX6_put s m args below meth c 6 D ad cy 0 0 (Qi D ad cy below args s r0 h0) 107 [(0, .ref (ad 29)), (1, .int a1), (2, .int a2), (3, .int a3), (4, .int a4)] [.long s2, .int s1, .ref (ad 41)] h := by
  unfold fX6_put_107 at hf
  refine aw_last C rfl rfl hf dX6_put_107 (fun hf => ?_)
  refine aw_nmH hf (fun h1 hf => ?_)
  refine aw_iconst (v := 1) C dX6_put_108 (by decide) ?_
  exact aw_iretW C dX6_put_109 hf
def fX6_put_68 (a1 : Int32) (a2 : Int32) (a3 : Int32) (a4 : Int32) (h : AH) (s0 : Int32) : Option (Int32 × AH) :=
  if s0 ≤ 0 then (
    if a2 = 0 then (
      fX6_put_107  a1 a2 a3 a4 h ((64 * a1) + a3) ((a4 &&& 1 : Int32).toInt64)) else (
    fX6_put_107  a1 a2 a3 a4 h ((64 * a1) + a3) (a4.toInt64))) else (
  bW (fX6_meets h s0) fun r2 h1 =>
  some (r2, h1))
set_option maxHeartbeats 4000000 in
set_option maxRecDepth 100000 in
theorem tX6_put_68 {h : AH} {a1 : Int32} {a2 : Int32} {a3 : Int32} {a4 : Int32} {s0 : Int32} {r0 : Int32} {h0 : AH} (C : Cx p rmX6_put s m args meth c RX6 cX6_put 6 (some .int) wsX6_put D ad cy tb 0 0) (hf : fX6_put_68 a1 a2 a3 a4 h s0 = some (r0, h0)) : AW p l e rmX6_put s m args below meth c 6 D ad cy 0 0 (Qi D ad cy below args s r0 h0) 68 [(0, .ref (ad 29)), (1, .int a1), (2, .int a2), (3, .int a3), (4, .int a4)] [.int s0] h := by
  unfold fX6_put_68 at hf
  refine aw_istore (lv1 := [(5, .int s0), (0, .ref (ad 29)), (1, .int a1), (2, .int a2), (3, .int a3), (4, .int a4)]) C dX6_put_68 (by decide) rfl ?_
  refine aw_iload C dX6_put_70 0 rfl ?_
  refine aw_if_le (tgt := 82) C dX6_put_72 (by decide) hf (fun hf => ?_) (fun hf => ?_)
  · refine aw_aload_n C dX6_put_82 rfl 1 rfl ?_
    refine aw_get C (kd_lt rfl (by decide)) (ce_6 rfl) rfl hinX6_put_6 15 (by decide) rfl (by decide +kernel) rfl dX6_put_83 ?_
    refine aw_bipush (v := 64) C dX6_put_86 (by decide) ?_
    refine aw_iload_n C dX6_put_88 rfl 2 rfl ?_
    refine aw_imul C dX6_put_89 ?_
    refine aw_iload_n C dX6_put_90 rfl 4 rfl ?_
    refine aw_iadd C dX6_put_91 ?_
    refine aw_iload_n C dX6_put_92 rfl 3 rfl ?_
    refine aw_if_ne (tgt := 104) C dX6_put_93 (by decide) hf (fun hf => ?_) (fun hf => ?_)
    · refine aw_iload C dX6_put_104 5 rfl ?_
      refine aw_i2l C dX6_put_106 ?_
      refine aw_sub [1, 2, 3, 4, 5] rfl ?_
      exact tX6_put_107 C   hf
    refine aw_iload C dX6_put_96 5 rfl ?_
    refine aw_iconst (v := 1) C dX6_put_98 (by decide) ?_
    refine aw_iand C dX6_put_99 ?_
    refine aw_i2l C dX6_put_100 ?_
    refine aw_goto (tgt := 107) C dX6_put_101 (by decide) ?_
    refine aw_sub [1, 2, 3, 4, 5] rfl ?_
    exact tX6_put_107 C   hf
  refine aw_aload_n C dX6_put_75 rfl 1 rfl ?_
  refine aw_iload C dX6_put_76 0 rfl ?_
  obtain ⟨r2, h1, hc, hf⟩ := bW_some hf
  refine aw_callVi (As := [.int s0]) (rest := []) C rfl (by decide) rfl (kX6_meets (l := l) (D := D) (ad := ad) (cy := cy) (tb := tb) C.2.2.2.2.2.2.2.2.1 hc) (fun ht _ => cwV 1 ht gX6_put_X6_meets rfl rfl rfl (by decide +kernel) ⟨Nat.le_of_ble_eq_true rfl, Nat.le_of_ble_eq_true rfl⟩) rfl rfl (Nat.le_of_ble_eq_true rfl) dX6_put_78 ?_
  exact aw_iretW C dX6_put_81 hf
def fX6_put (h : AH) (a1 : Int32) (a2 : Int32) (a3 : Int32) (a4 : Int32) : Option (Int32 × AH) :=
  bR (fX6_isSheet h a1) fun r1 =>
  if r1 = 0 then (
    some ((-2), h)) else (
  bR (fX6_in h a2 0 2) fun r2 =>
  if r2 = 0 then (
    some ((-2), h)) else (
  ck (inb a1 4) <|
  if (h.1 39 a1.toNatClampNeg) = (-1) then (
    fX6_put_68  a1 a2 a3 a4 h 1) else (
  ck (inb a1 4) <|
  if (h.1 39 a1.toNatClampNeg) = a2 then (
    ck (inb a1 4) <|
    bR (fX6_in h a3 0 ((h.1 40 a1.toNatClampNeg) - 1)) fun r3 =>
    if r3 = 0 then (
      fX6_put_68  a1 a2 a3 a4 h 2) else (
    fX6_put_68  a1 a2 a3 a4 h 0)) else (
  fX6_put_68  a1 a2 a3 a4 h 3))))
set_option maxHeartbeats 4000000 in
set_option maxRecDepth 100000 in
theorem tX6_put_0 {h : AH} {a1 : Int32} {a2 : Int32} {a3 : Int32} {a4 : Int32} {r0 : Int32} {h0 : AH} (C : Cx p rmX6_put s m args meth c RX6 cX6_put 6 (some .int) wsX6_put D ad cy tb 0 0) (hf : fX6_put h a1 a2 a3 a4 = some (r0, h0)) : AW p l e rmX6_put s m args below meth c 6 D ad cy 0 0 (Qi D ad cy below args s r0 h0) 0 [(0, .ref (ad 29)), (1, .int a1), (2, .int a2), (3, .int a3), (4, .int a4)] [] h := by
  unfold fX6_put at hf
  refine aw_iload_n C dX6_put_0 rfl 1 rfl ?_
  obtain ⟨r1, hc, hf⟩ := bR_some hf
  refine aw_callSi (As := [.int a1]) (rest := []) C (kX6_isSheet (l := l) (D := D) (ad := ad) (cy := cy) (tb := tb) C.2.2.2.2.2.2.2.2.1 hc) (fun ht _ => va_cwS 1 ht gX6_put_X6_isSheet rfl rfl rfl (by decide +kernel) ⟨Nat.le_of_ble_eq_true rfl, Nat.le_of_ble_eq_true rfl⟩) rfl rfl (Nat.le_of_ble_eq_true rfl) dX6_put_1 ?_
  refine aw_if_eq (tgt := 16) C dX6_put_4 (by decide) hf (fun hf => ?_) (fun hf => ?_)
  · refine aw_bipush (v := (-2)) C dX6_put_16 (by decide) ?_
    exact aw_iretW C dX6_put_18 hf
  refine aw_iload_n C dX6_put_7 rfl 2 rfl ?_
  refine aw_iconst (v := 0) C dX6_put_8 (by decide) ?_
  refine aw_iconst (v := 2) C dX6_put_9 (by decide) ?_
  obtain ⟨r2, hc, hf⟩ := bR_some hf
  refine aw_callSi (As := [.int a2, .int 0, .int 2]) (rest := []) C (kX6_in (l := l) (D := D) (ad := ad) (cy := cy) (tb := tb) C.2.2.2.2.2.2.2.2.1 hc) (fun ht _ => va_cwS 3 ht gX6_put_X6_in rfl rfl rfl (by decide +kernel) ⟨Nat.le_of_ble_eq_true rfl, Nat.le_of_ble_eq_true rfl⟩) rfl rfl (Nat.le_of_ble_eq_true rfl) dX6_put_10 ?_
  refine aw_if_ne (tgt := 19) C dX6_put_13 (by decide) hf (fun hf => ?_) (fun hf => ?_)
  · refine aw_aload_n C dX6_put_19 rfl 0 rfl ?_
    refine aw_get C (kd_lt rfl (by decide)) (ce_6 rfl) rfl hinX6_put_6 13 (by decide) rfl (by decide +kernel) rfl dX6_put_20 ?_
    refine aw_iload_n C dX6_put_23 rfl 1 rfl ?_
    refine aw_iald C rfl rfl hf dX6_put_24 (fun hf => ?_)
    refine aw_iconst (v := (-1)) C dX6_put_25 (by decide) ?_
    refine aw_icmp_ne (tgt := 33) C dX6_put_26 (by decide) hf (fun hf => ?_) (fun hf => ?_)
    · refine aw_aload_n C dX6_put_33 rfl 0 rfl ?_
      refine aw_get C (kd_lt rfl (by decide)) (ce_6 rfl) rfl hinX6_put_6 13 (by decide) rfl (by decide +kernel) rfl dX6_put_34 ?_
      refine aw_iload_n C dX6_put_37 rfl 1 rfl ?_
      refine aw_iald C rfl rfl hf dX6_put_38 (fun hf => ?_)
      refine aw_iload_n C dX6_put_39 rfl 2 rfl ?_
      refine aw_icmp_eq (tgt := 47) C dX6_put_40 (by decide) hf (fun hf => ?_) (fun hf => ?_)
      · refine aw_iload_n C dX6_put_47 rfl 3 rfl ?_
        refine aw_iconst (v := 0) C dX6_put_48 (by decide) ?_
        refine aw_aload_n C dX6_put_49 rfl 0 rfl ?_
        refine aw_get C (kd_lt rfl (by decide)) (ce_6 rfl) rfl hinX6_put_6 14 (by decide) rfl (by decide +kernel) rfl dX6_put_50 ?_
        refine aw_iload_n C dX6_put_53 rfl 1 rfl ?_
        refine aw_iald C rfl rfl hf dX6_put_54 (fun hf => ?_)
        refine aw_iconst (v := 1) C dX6_put_55 (by decide) ?_
        refine aw_isub C dX6_put_56 ?_
        obtain ⟨r3, hc, hf⟩ := bR_some hf
        refine aw_callSi (As := [.int a3, .int 0, .int ((h.1 40 a1.toNatClampNeg) - 1)]) (rest := []) C (kX6_in (l := l) (D := D) (ad := ad) (cy := cy) (tb := tb) C.2.2.2.2.2.2.2.2.1 hc) (fun ht _ => va_cwS 3 ht gX6_put_X6_in rfl rfl rfl (by decide +kernel) ⟨Nat.le_of_ble_eq_true rfl, Nat.le_of_ble_eq_true rfl⟩) rfl rfl (Nat.le_of_ble_eq_true rfl) dX6_put_57 ?_
        refine aw_if_eq (tgt := 67) C dX6_put_60 (by decide) hf (fun hf => ?_) (fun hf => ?_)
        · refine aw_iconst (v := 2) C dX6_put_67 (by decide) ?_
          refine aw_sub [0, 1, 2, 3, 4] rfl ?_
          exact tX6_put_68 C   hf
        refine aw_iconst (v := 0) C dX6_put_63 (by decide) ?_
        refine aw_goto (tgt := 68) C dX6_put_64 (by decide) ?_
        refine aw_sub [0, 1, 2, 3, 4] rfl ?_
        exact tX6_put_68 C   hf
      refine aw_iconst (v := 3) C dX6_put_43 (by decide) ?_
      refine aw_goto (tgt := 68) C dX6_put_44 (by decide) ?_
      refine aw_sub [0, 1, 2, 3, 4] rfl ?_
      exact tX6_put_68 C   hf
    refine aw_iconst (v := 1) C dX6_put_29 (by decide) ?_
    refine aw_goto (tgt := 68) C dX6_put_30 (by decide) ?_
    refine aw_sub [0, 1, 2, 3, 4] rfl ?_
    exact tX6_put_68 C   hf
  refine aw_bipush (v := (-2)) C dX6_put_16 (by decide) ?_
  exact aw_iretW C dX6_put_18 hf
theorem kX6_put {h : AH} {a1 : Int32} {a2 : Int32} {a3 : Int32} {a4 : Int32} {r0 : Int32} {h0 : AH} (hi : Inj ad) (hf : fX6_put h a1 a2 a3 a4 = some (r0, h0)) : Ki l yX6_put wsX6_put rmX6_put D ad cy tb [.ref (ad 29), .int a1, .int a2, .int a3, .int a4] h r0 h0 := met_i (lv := [(0, .ref (ad 29)), (1, .int a1), (2, .int a2), (3, .int a3), (4, .int a4)]) hi (by decide) rfl (Nat.le_of_ble_eq_true rfl) rfl rfl (fun _ _ _ _ _ _ _ _ C => tX6_put_0 C  hf)
theorem dX5_longRefusal_0 : decode cX5_longRefusal 0 = .ok (.ldc2_w 297, 3) := by decide +kernel
theorem dX5_longRefusal_3 : decode cX5_longRefusal 3 = .ok (.iload_n 0, 1) := by decide +kernel
theorem dX5_longRefusal_4 : decode cX5_longRefusal 4 = .ok (.i2l, 1) := by decide +kernel
theorem dX5_longRefusal_5 : decode cX5_longRefusal 5 = .ok (.lsub, 1) := by decide +kernel
theorem dX5_longRefusal_6 : decode cX5_longRefusal 6 = .ok (.lreturn, 1) := by decide +kernel
abbrev rmX5_longRefusal : Room := { frames := 0, cells := 0, slots := 0, locals := 0 }
def fX5_longRefusal (h : AH) (a0 : Int32) : Option Int64 :=
  some ((-9223372036854775808) - (a0.toInt64))
set_option maxHeartbeats 4000000 in
set_option maxRecDepth 100000 in
theorem tX5_longRefusal_0 {h : AH} {a0 : Int32} {r0 : Int64} (C : Cx p rmX5_longRefusal s m args meth c RX5 cX5_longRefusal 1 (some .long) wsX5_longRefusal D ad cy tb 0 0) (hf : fX5_longRefusal h a0 = some r0) : AW p l e rmX5_longRefusal s m args below meth c 1 D ad cy 0 0 (Ql D ad cy below args s r0 h) 0 [(0, .int a0)] [] h := by
  unfold fX5_longRefusal at hf
  refine aw_ldc2 (v := (-9223372036854775808)) C (by decide +kernel) dX5_longRefusal_0 ?_
  refine aw_iload_n C dX5_longRefusal_3 rfl 0 rfl ?_
  refine aw_i2l C dX5_longRefusal_4 ?_
  refine aw_lsub C dX5_longRefusal_5 ?_
  exact aw_lretR C dX5_longRefusal_6 hf
theorem kX5_longRefusal {h : AH} {a0 : Int32} {r0 : Int64} (hi : Inj ad) (hf : fX5_longRefusal h a0 = some r0) : Kl l yX5_longRefusal wsX5_longRefusal rmX5_longRefusal D ad cy tb [.int a0] h r0 h := met_l (lv := [(0, .int a0)]) hi (by decide) rfl (Nat.le_of_ble_eq_true rfl) rfl rfl (fun _ _ _ _ _ _ _ _ C => tX5_longRefusal_0 C  hf)
set_option maxRecDepth 20000 in
theorem ggX5_get_X5_isSheet : GoodIn wsX5_get wsX5_isSheet := goodIn_r _ [5] (by decide +kernel) (by decide +kernel)
set_option maxRecDepth 20000 in
theorem gX5_get_X5_isSheet : GoodIn wsX5_get (va_wsS RX5 109 yX5_isSheet wsX5_isSheet) := goodIn_app (goodIn_of _ (by decide +kernel)) ggX5_get_X5_isSheet
set_option maxRecDepth 20000 in
theorem ggX5_get_X5_longRefusal : GoodIn wsX5_get wsX5_longRefusal := goodIn_r _ [8, 9] (by decide +kernel) (by decide +kernel)
set_option maxRecDepth 20000 in
theorem gX5_get_X5_longRefusal : GoodIn wsX5_get (va_wsS RX5 242 yX5_longRefusal wsX5_longRefusal) := goodIn_app (goodIn_of _ (by decide +kernel)) ggX5_get_X5_longRefusal
set_option maxRecDepth 20000 in
theorem ggX5_get_X5_finding : GoodIn wsX5_get wsX5_finding := goodIn_r _ [13, 14, 21, 22, 23, 24, 25, 26, 27, 28, 29] (by decide +kernel) (by decide +kernel)
set_option maxRecDepth 20000 in
theorem gX5_get_X5_finding : GoodIn wsX5_get (wsV RX5 116 RX5 yX5_finding wsX5_finding) := goodIn_app (goodIn_of _ (by decide +kernel)) ggX5_get_X5_finding
set_option maxRecDepth 20000 in
theorem ggX5_get_X3_hasItem : GoodIn wsX5_get wsX3_hasItem := goodIn_r _ [19, 20, 30, 31, 32, 33] (by decide +kernel) (by decide +kernel)
set_option maxRecDepth 20000 in
theorem gX5_get_X3_hasItem : GoodIn wsX5_get (wsV RX5 239 RX3 yX3_hasItem wsX3_hasItem) := goodIn_app (goodIn_of _ (by decide +kernel)) ggX5_get_X3_hasItem
theorem dX5_get_0 : decode cX5_get 0 = .ok (.iload_n 1, 1) := by decide +kernel
theorem dX5_get_1 : decode cX5_get 1 = .ok (.invokestatic 109, 3) := by decide +kernel
theorem dX5_get_4 : decode cX5_get 4 = .ok (.ifCond .ne 9, 3) := by decide +kernel
theorem dX5_get_7 : decode cX5_get 7 = .ok (.bipush (-2), 2) := by decide +kernel
theorem dX5_get_9 : decode cX5_get 9 = .ok (.invokestatic 242, 3) := by decide +kernel
theorem dX5_get_12 : decode cX5_get 12 = .ok (.lreturn, 1) := by decide +kernel
theorem dX5_get_13 : decode cX5_get 13 = .ok (.aload_n 0, 1) := by decide +kernel
theorem dX5_get_14 : decode cX5_get 14 = .ok (.getfield 46, 3) := by decide +kernel
theorem dX5_get_17 : decode cX5_get 17 = .ok (.iload_n 1, 1) := by decide +kernel
theorem dX5_get_18 : decode cX5_get 18 = .ok (.aaload, 1) := by decide +kernel
theorem dX5_get_19 : decode cX5_get 19 = .ok (.astore_n 3, 1) := by decide +kernel
theorem dX5_get_20 : decode cX5_get 20 = .ok (.aload_n 3, 1) := by decide +kernel
theorem dX5_get_21 : decode cX5_get 21 = .ok (.getfield 112, 3) := by decide +kernel
theorem dX5_get_24 : decode cX5_get 24 = .ok (.ifCond .eq 13, 3) := by decide +kernel
theorem dX5_get_27 : decode cX5_get 27 = .ok (.aload_n 0, 1) := by decide +kernel
theorem dX5_get_28 : decode cX5_get 28 = .ok (.bipush (-11), 2) := by decide +kernel
theorem dX5_get_30 : decode cX5_get 30 = .ok (.invokevirtual 116, 3) := by decide +kernel
theorem dX5_get_33 : decode cX5_get 33 = .ok (.invokestatic 242, 3) := by decide +kernel
theorem dX5_get_36 : decode cX5_get 36 = .ok (.lreturn, 1) := by decide +kernel
theorem dX5_get_37 : decode cX5_get 37 = .ok (.aload_n 3, 1) := by decide +kernel
theorem dX5_get_38 : decode cX5_get 38 = .ok (.iload_n 2, 1) := by decide +kernel
theorem dX5_get_39 : decode cX5_get 39 = .ok (.invokevirtual 239, 3) := by decide +kernel
theorem dX5_get_42 : decode cX5_get 42 = .ok (.ifCond .ne 13, 3) := by decide +kernel
theorem dX5_get_45 : decode cX5_get 45 = .ok (.aload_n 0, 1) := by decide +kernel
theorem dX5_get_46 : decode cX5_get 46 = .ok (.bipush (-12), 2) := by decide +kernel
theorem dX5_get_48 : decode cX5_get 48 = .ok (.invokevirtual 116, 3) := by decide +kernel
theorem dX5_get_51 : decode cX5_get 51 = .ok (.invokestatic 242, 3) := by decide +kernel
theorem dX5_get_54 : decode cX5_get 54 = .ok (.lreturn, 1) := by decide +kernel
theorem dX5_get_55 : decode cX5_get 55 = .ok (.aload_n 3, 1) := by decide +kernel
theorem dX5_get_56 : decode cX5_get 56 = .ok (.getfield 123, 3) := by decide +kernel
theorem dX5_get_59 : decode cX5_get 59 = .ok (.iload_n 2, 1) := by decide +kernel
theorem dX5_get_60 : decode cX5_get 60 = .ok (.laload, 1) := by decide +kernel
theorem dX5_get_61 : decode cX5_get 61 = .ok (.lreturn, 1) := by decide +kernel
abbrev rmX5_get : Room := { frames := 1, cells := 0, slots := 0, locals := 21 }
set_option maxRecDepth 100000 in
theorem hinX5_get_5 : ∀ w ∈ wsX50, w ∈ wsX5_get := by decide +kernel
set_option maxRecDepth 100000 in
theorem hinX5_get_3 : ∀ w ∈ wsX30, w ∈ wsX5_get := by decide +kernel
def fX5_get (h : AH) (a1 : Int32) (a2 : Int32) : Option (Int64 × AH) :=
  bR (fX5_isSheet h a1) fun r1 =>
  if r1 = 0 then (
    bR (fX5_longRefusal h (-2)) fun r10 =>
    some (r10, h)) else (
  ck (inb a1 4) <|
  nm (21 + a1.toNatClampNeg) fun r2 =>
  if (h.1 r2 0) = 0 then (
    bR (fX3_hasItem h r2 a2) fun r3 =>
    if r3 = 0 then (
      bW (fX5_finding h (-12)) fun r5 h4 =>
      bR (fX5_longRefusal h4 r5) fun r6 =>
      some (r6, h4)) else (
    ck (inb a2 64) <|
    some (h.2 (r2 + 4) a2.toNatClampNeg, h))) else (
  bW (fX5_finding h (-11)) fun r8 h7 =>
  bR (fX5_longRefusal h7 r8) fun r9 =>
  some (r9, h7)))
set_option maxHeartbeats 4000000 in
set_option maxRecDepth 100000 in
theorem tX5_get_0 {h : AH} {a1 : Int32} {a2 : Int32} {r0 : Int64} {h0 : AH} (C : Cx p rmX5_get s m args meth c RX5 cX5_get 4 (some .long) wsX5_get D ad cy tb 0 0) (hf : fX5_get h a1 a2 = some (r0, h0)) : AW p l e rmX5_get s m args below meth c 4 D ad cy 0 0 (Ql D ad cy below args s r0 h0) 0 [(0, .ref (ad 0)), (1, .int a1), (2, .int a2)] [] h := by
  unfold fX5_get at hf
  refine aw_iload_n C dX5_get_0 rfl 1 rfl ?_
  obtain ⟨r1, hc, hf⟩ := bR_some hf
  refine aw_callSi (As := [.int a1]) (rest := []) C (kX5_isSheet (l := l) (D := D) (ad := ad) (cy := cy) (tb := tb) C.2.2.2.2.2.2.2.2.1 hc) (fun ht _ => va_cwS 1 ht gX5_get_X5_isSheet rfl rfl rfl (by decide +kernel) ⟨Nat.le_of_ble_eq_true rfl, Nat.le_of_ble_eq_true rfl⟩) rfl rfl (Nat.le_of_ble_eq_true rfl) dX5_get_1 ?_
  refine aw_if_ne (tgt := 13) C dX5_get_4 (by decide) hf (fun hf => ?_) (fun hf => ?_)
  · refine aw_aload_n C dX5_get_13 rfl 0 rfl ?_
    refine aw_get C (kd_lt rfl (by decide)) (ce_5 rfl) rfl hinX5_get_5 6 (by decide) rfl (by decide +kernel) rfl dX5_get_14 ?_
    refine aw_iload_n C dX5_get_17 rfl 1 rfl ?_
    refine aw_aald C hf dX5_get_18 (fun r2 hkr2 hf => ?_)
    refine aw_astore_n (lv1 := [(3, .ref (ad r2)), (0, .ref (ad 0)), (1, .int a1), (2, .int a2)]) C dX5_get_19 rfl (by decide) rfl ?_
    refine aw_aload_n C dX5_get_20 rfl 0 rfl ?_
    refine aw_getN (host := "StairCodes") C (kd_lt hkr2 (by decide)) (ce_3 hkr2) rfl hinX5_get_3 0 (by decide) rfl (by decide +kernel) rfl dX5_get_21 ?_
    refine aw_if_eq (tgt := 37) C dX5_get_24 (by decide) hf (fun hf => ?_) (fun hf => ?_)
    · refine aw_aload_n C dX5_get_37 rfl 0 rfl ?_
      refine aw_iload_n C dX5_get_38 rfl 3 rfl ?_
      obtain ⟨r3, hc, hf⟩ := bR_some hf
      refine aw_callVi (As := [.int a2]) (rest := []) C hkr2 (by decide) rfl (kX3_hasItem (l := l) (D := D) (ad := ad) (cy := cy) (tb := tb) C.2.2.2.2.2.2.2.2.1 hkr2 hc) (fun ht _ => cwV 1 ht gX5_get_X3_hasItem rfl rfl rfl (by decide +kernel) ⟨Nat.le_of_ble_eq_true rfl, Nat.le_of_ble_eq_true rfl⟩) rfl rfl (Nat.le_of_ble_eq_true rfl) dX5_get_39 ?_
      refine aw_if_ne (tgt := 55) C dX5_get_42 (by decide) hf (fun hf => ?_) (fun hf => ?_)
      · refine aw_aload_n C dX5_get_55 rfl 0 rfl ?_
        refine aw_getN (host := "StairCodes") C (kd_lt hkr2 (by decide)) (ce_3 hkr2) rfl hinX5_get_3 3 (by decide) rfl (by decide +kernel) rfl dX5_get_56 ?_
        refine aw_iload_n C dX5_get_59 rfl 3 rfl ?_
        refine aw_lald C (kd3a hkr2) (ln3a hkr2) hf dX5_get_60 (fun hf => ?_)
        exact aw_lretW C dX5_get_61 hf
      refine aw_aload_n C dX5_get_45 rfl 1 rfl ?_
      refine aw_bipush (v := (-12)) C dX5_get_46 (by decide) ?_
      obtain ⟨r5, h4, hc, hf⟩ := bW_some hf
      refine aw_callVi (As := [.int (-12)]) (rest := []) C rfl (by decide) rfl (kX5_finding (l := l) (D := D) (ad := ad) (cy := cy) (tb := tb) C.2.2.2.2.2.2.2.2.1 hc) (fun ht _ => cwV 1 ht gX5_get_X5_finding rfl rfl rfl (by decide +kernel) ⟨Nat.le_of_ble_eq_true rfl, Nat.le_of_ble_eq_true rfl⟩) rfl rfl (Nat.le_of_ble_eq_true rfl) dX5_get_48 ?_
      obtain ⟨r6, hc, hf⟩ := bR_some hf
      refine aw_callSl (As := [.int r5]) (rest := []) C (kX5_longRefusal (l := l) (D := D) (ad := ad) (cy := cy) (tb := tb) C.2.2.2.2.2.2.2.2.1 hc) (fun ht _ => va_cwS 1 ht gX5_get_X5_longRefusal rfl rfl rfl (by decide +kernel) ⟨Nat.le_of_ble_eq_true rfl, Nat.le_of_ble_eq_true rfl⟩) rfl rfl (Nat.le_of_ble_eq_true rfl) dX5_get_51 ?_
      exact aw_lretW C dX5_get_54 hf
    refine aw_aload_n C dX5_get_27 rfl 1 rfl ?_
    refine aw_bipush (v := (-11)) C dX5_get_28 (by decide) ?_
    obtain ⟨r8, h7, hc, hf⟩ := bW_some hf
    refine aw_callVi (As := [.int (-11)]) (rest := []) C rfl (by decide) rfl (kX5_finding (l := l) (D := D) (ad := ad) (cy := cy) (tb := tb) C.2.2.2.2.2.2.2.2.1 hc) (fun ht _ => cwV 1 ht gX5_get_X5_finding rfl rfl rfl (by decide +kernel) ⟨Nat.le_of_ble_eq_true rfl, Nat.le_of_ble_eq_true rfl⟩) rfl rfl (Nat.le_of_ble_eq_true rfl) dX5_get_30 ?_
    obtain ⟨r9, hc, hf⟩ := bR_some hf
    refine aw_callSl (As := [.int r8]) (rest := []) C (kX5_longRefusal (l := l) (D := D) (ad := ad) (cy := cy) (tb := tb) C.2.2.2.2.2.2.2.2.1 hc) (fun ht _ => va_cwS 1 ht gX5_get_X5_longRefusal rfl rfl rfl (by decide +kernel) ⟨Nat.le_of_ble_eq_true rfl, Nat.le_of_ble_eq_true rfl⟩) rfl rfl (Nat.le_of_ble_eq_true rfl) dX5_get_33 ?_
    exact aw_lretW C dX5_get_36 hf
  refine aw_bipush (v := (-2)) C dX5_get_7 (by decide) ?_
  obtain ⟨r10, hc, hf⟩ := bR_some hf
  refine aw_callSl (As := [.int (-2)]) (rest := []) C (kX5_longRefusal (l := l) (D := D) (ad := ad) (cy := cy) (tb := tb) C.2.2.2.2.2.2.2.2.1 hc) (fun ht _ => va_cwS 1 ht gX5_get_X5_longRefusal rfl rfl rfl (by decide +kernel) ⟨Nat.le_of_ble_eq_true rfl, Nat.le_of_ble_eq_true rfl⟩) rfl rfl (Nat.le_of_ble_eq_true rfl) dX5_get_9 ?_
  exact aw_lretW C dX5_get_12 hf
theorem kX5_get {h : AH} {a1 : Int32} {a2 : Int32} {r0 : Int64} {h0 : AH} (hi : Inj ad) (hf : fX5_get h a1 a2 = some (r0, h0)) : Kl l yX5_get wsX5_get rmX5_get D ad cy tb [.ref (ad 0), .int a1, .int a2] h r0 h0 := met_l (lv := [(0, .ref (ad 0)), (1, .int a1), (2, .int a2)]) hi (by decide) rfl (Nat.le_of_ble_eq_true rfl) rfl rfl (fun _ _ _ _ _ _ _ _ C => tX5_get_0 C  hf)
theorem dX6_no_0 : decode cX6_no 0 = .ok (.ldc2_w 55, 3) := by decide +kernel
theorem dX6_no_3 : decode cX6_no 3 = .ok (.iload_n 0, 1) := by decide +kernel
theorem dX6_no_4 : decode cX6_no 4 = .ok (.i2l, 1) := by decide +kernel
theorem dX6_no_5 : decode cX6_no 5 = .ok (.lsub, 1) := by decide +kernel
theorem dX6_no_6 : decode cX6_no 6 = .ok (.lreturn, 1) := by decide +kernel
abbrev rmX6_no : Room := { frames := 0, cells := 0, slots := 0, locals := 0 }
def fX6_no (h : AH) (a0 : Int32) : Option Int64 :=
  some ((-9223372036854775808) - (a0.toInt64))
set_option maxHeartbeats 4000000 in
set_option maxRecDepth 100000 in
theorem tX6_no_0 {h : AH} {a0 : Int32} {r0 : Int64} (C : Cx p rmX6_no s m args meth c RX6 cX6_no 1 (some .long) wsX6_no D ad cy tb 0 0) (hf : fX6_no h a0 = some r0) : AW p l e rmX6_no s m args below meth c 1 D ad cy 0 0 (Ql D ad cy below args s r0 h) 0 [(0, .int a0)] [] h := by
  unfold fX6_no at hf
  refine aw_ldc2 (v := (-9223372036854775808)) C (by decide +kernel) dX6_no_0 ?_
  refine aw_iload_n C dX6_no_3 rfl 0 rfl ?_
  refine aw_i2l C dX6_no_4 ?_
  refine aw_lsub C dX6_no_5 ?_
  exact aw_lretR C dX6_no_6 hf
theorem kX6_no {h : AH} {a0 : Int32} {r0 : Int64} (hi : Inj ad) (hf : fX6_no h a0 = some r0) : Kl l yX6_no wsX6_no rmX6_no D ad cy tb [.int a0] h r0 h := met_l (lv := [(0, .int a0)]) hi (by decide) rfl (Nat.le_of_ble_eq_true rfl) rfl rfl (fun _ _ _ _ _ _ _ _ C => tX6_no_0 C  hf)
set_option maxRecDepth 20000 in
theorem ggX6_get_X6_isSheet : GoodIn wsX6_get wsX6_isSheet := goodIn_r _ [7, 8, 9, 6, 10] (by decide +kernel) (by decide +kernel)
set_option maxRecDepth 20000 in
theorem gX6_get_X6_isSheet : GoodIn wsX6_get (va_wsS RX6 103 yX6_isSheet wsX6_isSheet) := goodIn_app (goodIn_of _ (by decide +kernel)) ggX6_get_X6_isSheet
set_option maxRecDepth 20000 in
theorem ggX6_get_X6_no : GoodIn wsX6_get wsX6_no := goodIn_r _ [13, 14] (by decide +kernel) (by decide +kernel)
set_option maxRecDepth 20000 in
theorem gX6_get_X6_no : GoodIn wsX6_get (va_wsS RX6 202 yX6_no wsX6_no) := goodIn_app (goodIn_of _ (by decide +kernel)) ggX6_get_X6_no
set_option maxRecDepth 20000 in
theorem ggX6_get_X6_in : GoodIn wsX6_get wsX6_in := goodIn_r _ [10] (by decide +kernel) (by decide +kernel)
set_option maxRecDepth 20000 in
theorem gX6_get_X6_in : GoodIn wsX6_get (va_wsS RX6 73 yX6_in wsX6_in) := goodIn_app (goodIn_of _ (by decide +kernel)) ggX6_get_X6_in
set_option maxRecDepth 20000 in
theorem ggX6_get_X6_meets : GoodIn wsX6_get wsX6_meets := goodIn_r _ [18, 19, 20, 21, 22, 23, 24, 25, 26, 27, 28, 29, 30, 31, 32, 33, 34, 35, 36, 37] (by decide +kernel) (by decide +kernel)
set_option maxRecDepth 20000 in
theorem gX6_get_X6_meets : GoodIn wsX6_get (wsV RX6 106 RX6 yX6_meets wsX6_meets) := goodIn_app (goodIn_of _ (by decide +kernel)) ggX6_get_X6_meets
theorem dX6_get_0 : decode cX6_get 0 = .ok (.iload_n 1, 1) := by decide +kernel
theorem dX6_get_1 : decode cX6_get 1 = .ok (.invokestatic 103, 3) := by decide +kernel
theorem dX6_get_4 : decode cX6_get 4 = .ok (.ifCond .ne 9, 3) := by decide +kernel
theorem dX6_get_7 : decode cX6_get 7 = .ok (.bipush (-2), 2) := by decide +kernel
theorem dX6_get_9 : decode cX6_get 9 = .ok (.invokestatic 202, 3) := by decide +kernel
theorem dX6_get_12 : decode cX6_get 12 = .ok (.lreturn, 1) := by decide +kernel
theorem dX6_get_13 : decode cX6_get 13 = .ok (.aload_n 0, 1) := by decide +kernel
theorem dX6_get_14 : decode cX6_get 14 = .ok (.getfield 42, 3) := by decide +kernel
theorem dX6_get_17 : decode cX6_get 17 = .ok (.iload_n 1, 1) := by decide +kernel
theorem dX6_get_18 : decode cX6_get 18 = .ok (.iaload, 1) := by decide +kernel
theorem dX6_get_19 : decode cX6_get 19 = .ok (.iconst (-1), 1) := by decide +kernel
theorem dX6_get_20 : decode cX6_get 20 = .ok (.if_icmp .ne 7, 3) := by decide +kernel
theorem dX6_get_23 : decode cX6_get 23 = .ok (.iconst 1, 1) := by decide +kernel
theorem dX6_get_24 : decode cX6_get 24 = .ok (.goto 24, 3) := by decide +kernel
theorem dX6_get_27 : decode cX6_get 27 = .ok (.iload_n 2, 1) := by decide +kernel
theorem dX6_get_28 : decode cX6_get 28 = .ok (.iconst 0, 1) := by decide +kernel
theorem dX6_get_29 : decode cX6_get 29 = .ok (.aload_n 0, 1) := by decide +kernel
theorem dX6_get_30 : decode cX6_get 30 = .ok (.getfield 45, 3) := by decide +kernel
theorem dX6_get_33 : decode cX6_get 33 = .ok (.iload_n 1, 1) := by decide +kernel
theorem dX6_get_34 : decode cX6_get 34 = .ok (.iaload, 1) := by decide +kernel
theorem dX6_get_35 : decode cX6_get 35 = .ok (.iconst 1, 1) := by decide +kernel
theorem dX6_get_36 : decode cX6_get 36 = .ok (.isub, 1) := by decide +kernel
theorem dX6_get_37 : decode cX6_get 37 = .ok (.invokestatic 73, 3) := by decide +kernel
theorem dX6_get_40 : decode cX6_get 40 = .ok (.ifCond .eq 7, 3) := by decide +kernel
theorem dX6_get_43 : decode cX6_get 43 = .ok (.iconst 0, 1) := by decide +kernel
theorem dX6_get_44 : decode cX6_get 44 = .ok (.goto 4, 3) := by decide +kernel
theorem dX6_get_47 : decode cX6_get 47 = .ok (.iconst 2, 1) := by decide +kernel
theorem dX6_get_48 : decode cX6_get 48 = .ok (.istore_n 3, 1) := by decide +kernel
theorem dX6_get_49 : decode cX6_get 49 = .ok (.iload_n 3, 1) := by decide +kernel
theorem dX6_get_50 : decode cX6_get 50 = .ok (.ifCond .le 14, 3) := by decide +kernel
theorem dX6_get_53 : decode cX6_get 53 = .ok (.aload_n 0, 1) := by decide +kernel
theorem dX6_get_54 : decode cX6_get 54 = .ok (.iload_n 3, 1) := by decide +kernel
theorem dX6_get_55 : decode cX6_get 55 = .ok (.invokevirtual 106, 3) := by decide +kernel
theorem dX6_get_58 : decode cX6_get 58 = .ok (.invokestatic 202, 3) := by decide +kernel
theorem dX6_get_61 : decode cX6_get 61 = .ok (.goto 14, 3) := by decide +kernel
theorem dX6_get_64 : decode cX6_get 64 = .ok (.aload_n 0, 1) := by decide +kernel
theorem dX6_get_65 : decode cX6_get 65 = .ok (.getfield 48, 3) := by decide +kernel
theorem dX6_get_68 : decode cX6_get 68 = .ok (.bipush 64, 2) := by decide +kernel
theorem dX6_get_70 : decode cX6_get 70 = .ok (.iload_n 1, 1) := by decide +kernel
theorem dX6_get_71 : decode cX6_get 71 = .ok (.imul, 1) := by decide +kernel
theorem dX6_get_72 : decode cX6_get 72 = .ok (.iload_n 2, 1) := by decide +kernel
theorem dX6_get_73 : decode cX6_get 73 = .ok (.iadd, 1) := by decide +kernel
theorem dX6_get_74 : decode cX6_get 74 = .ok (.laload, 1) := by decide +kernel
theorem dX6_get_75 : decode cX6_get 75 = .ok (.lreturn, 1) := by decide +kernel
abbrev rmX6_get : Room := { frames := 2, cells := 0, slots := 0, locals := 42 }
set_option maxRecDepth 100000 in
theorem hinX6_get_6 : ∀ w ∈ wsX60, w ∈ wsX6_get := by decide +kernel
def fX6_get_48 (a1 : Int32) (a2 : Int32) (h : AH) (s0 : Int32) : Option (Int64 × AH) :=
  if s0 ≤ 0 then (
    nm ((64 * a1) + a2) fun v1 =>
    ck (inb v1 256) <|
    some (h.2 41 v1.toNatClampNeg, h)) else (
  bW (fX6_meets h s0) fun r3 h2 =>
  bR (fX6_no h2 r3) fun r4 =>
  some (r4, h2))
set_option maxHeartbeats 4000000 in
set_option maxRecDepth 100000 in
theorem tX6_get_48 {h : AH} {a1 : Int32} {a2 : Int32} {s0 : Int32} {r0 : Int64} {h0 : AH} (C : Cx p rmX6_get s m args meth c RX6 cX6_get 4 (some .long) wsX6_get D ad cy tb 0 0) (hf : fX6_get_48 a1 a2 h s0 = some (r0, h0)) : AW p l e rmX6_get s m args below meth c 4 D ad cy 0 0 (Ql D ad cy below args s r0 h0) 48 [(0, .ref (ad 29)), (1, .int a1), (2, .int a2)] [.int s0] h := by
  unfold fX6_get_48 at hf
  refine aw_istore_n (lv1 := [(3, .int s0), (0, .ref (ad 29)), (1, .int a1), (2, .int a2)]) C dX6_get_48 rfl (by decide) rfl ?_
  refine aw_iload_n C dX6_get_49 rfl 0 rfl ?_
  refine aw_if_le (tgt := 64) C dX6_get_50 (by decide) hf (fun hf => ?_) (fun hf => ?_)
  · refine aw_aload_n C dX6_get_64 rfl 1 rfl ?_
    refine aw_get C (kd_lt rfl (by decide)) (ce_6 rfl) rfl hinX6_get_6 15 (by decide) rfl (by decide +kernel) rfl dX6_get_65 ?_
    refine aw_bipush (v := 64) C dX6_get_68 (by decide) ?_
    refine aw_iload_n C dX6_get_70 rfl 2 rfl ?_
    refine aw_imul C dX6_get_71 ?_
    refine aw_iload_n C dX6_get_72 rfl 3 rfl ?_
    refine aw_iadd C dX6_get_73 ?_
    refine aw_nmI hf (fun v1 hf => ?_)
    refine aw_lald C rfl rfl hf dX6_get_74 (fun hf => ?_)
    exact aw_lretW C dX6_get_75 hf
  refine aw_aload_n C dX6_get_53 rfl 1 rfl ?_
  refine aw_iload_n C dX6_get_54 rfl 0 rfl ?_
  obtain ⟨r3, h2, hc, hf⟩ := bW_some hf
  refine aw_callVi (As := [.int s0]) (rest := []) C rfl (by decide) rfl (kX6_meets (l := l) (D := D) (ad := ad) (cy := cy) (tb := tb) C.2.2.2.2.2.2.2.2.1 hc) (fun ht _ => cwV 1 ht gX6_get_X6_meets rfl rfl rfl (by decide +kernel) ⟨Nat.le_of_ble_eq_true rfl, Nat.le_of_ble_eq_true rfl⟩) rfl rfl (Nat.le_of_ble_eq_true rfl) dX6_get_55 ?_
  obtain ⟨r4, hc, hf⟩ := bR_some hf
  refine aw_callSl (As := [.int r3]) (rest := []) C (kX6_no (l := l) (D := D) (ad := ad) (cy := cy) (tb := tb) C.2.2.2.2.2.2.2.2.1 hc) (fun ht _ => va_cwS 1 ht gX6_get_X6_no rfl rfl rfl (by decide +kernel) ⟨Nat.le_of_ble_eq_true rfl, Nat.le_of_ble_eq_true rfl⟩) rfl rfl (Nat.le_of_ble_eq_true rfl) dX6_get_58 ?_
  refine aw_goto (tgt := 75) C dX6_get_61 (by decide) ?_
  exact aw_lretW C dX6_get_75 hf
def fX6_get (h : AH) (a1 : Int32) (a2 : Int32) : Option (Int64 × AH) :=
  bR (fX6_isSheet h a1) fun r1 =>
  if r1 = 0 then (
    bR (fX6_no h (-2)) fun r3 =>
    some (r3, h)) else (
  ck (inb a1 4) <|
  if (h.1 39 a1.toNatClampNeg) = (-1) then (
    fX6_get_48  a1 a2 h 1) else (
  ck (inb a1 4) <|
  bR (fX6_in h a2 0 ((h.1 40 a1.toNatClampNeg) - 1)) fun r2 =>
  if r2 = 0 then (
    fX6_get_48  a1 a2 h 2) else (
  fX6_get_48  a1 a2 h 0)))
set_option maxHeartbeats 4000000 in
set_option maxRecDepth 100000 in
theorem tX6_get_0 {h : AH} {a1 : Int32} {a2 : Int32} {r0 : Int64} {h0 : AH} (C : Cx p rmX6_get s m args meth c RX6 cX6_get 4 (some .long) wsX6_get D ad cy tb 0 0) (hf : fX6_get h a1 a2 = some (r0, h0)) : AW p l e rmX6_get s m args below meth c 4 D ad cy 0 0 (Ql D ad cy below args s r0 h0) 0 [(0, .ref (ad 29)), (1, .int a1), (2, .int a2)] [] h := by
  unfold fX6_get at hf
  refine aw_iload_n C dX6_get_0 rfl 1 rfl ?_
  obtain ⟨r1, hc, hf⟩ := bR_some hf
  refine aw_callSi (As := [.int a1]) (rest := []) C (kX6_isSheet (l := l) (D := D) (ad := ad) (cy := cy) (tb := tb) C.2.2.2.2.2.2.2.2.1 hc) (fun ht _ => va_cwS 1 ht gX6_get_X6_isSheet rfl rfl rfl (by decide +kernel) ⟨Nat.le_of_ble_eq_true rfl, Nat.le_of_ble_eq_true rfl⟩) rfl rfl (Nat.le_of_ble_eq_true rfl) dX6_get_1 ?_
  refine aw_if_ne (tgt := 13) C dX6_get_4 (by decide) hf (fun hf => ?_) (fun hf => ?_)
  · refine aw_aload_n C dX6_get_13 rfl 0 rfl ?_
    refine aw_get C (kd_lt rfl (by decide)) (ce_6 rfl) rfl hinX6_get_6 13 (by decide) rfl (by decide +kernel) rfl dX6_get_14 ?_
    refine aw_iload_n C dX6_get_17 rfl 1 rfl ?_
    refine aw_iald C rfl rfl hf dX6_get_18 (fun hf => ?_)
    refine aw_iconst (v := (-1)) C dX6_get_19 (by decide) ?_
    refine aw_icmp_ne (tgt := 27) C dX6_get_20 (by decide) hf (fun hf => ?_) (fun hf => ?_)
    · refine aw_iload_n C dX6_get_27 rfl 2 rfl ?_
      refine aw_iconst (v := 0) C dX6_get_28 (by decide) ?_
      refine aw_aload_n C dX6_get_29 rfl 0 rfl ?_
      refine aw_get C (kd_lt rfl (by decide)) (ce_6 rfl) rfl hinX6_get_6 14 (by decide) rfl (by decide +kernel) rfl dX6_get_30 ?_
      refine aw_iload_n C dX6_get_33 rfl 1 rfl ?_
      refine aw_iald C rfl rfl hf dX6_get_34 (fun hf => ?_)
      refine aw_iconst (v := 1) C dX6_get_35 (by decide) ?_
      refine aw_isub C dX6_get_36 ?_
      obtain ⟨r2, hc, hf⟩ := bR_some hf
      refine aw_callSi (As := [.int a2, .int 0, .int ((h.1 40 a1.toNatClampNeg) - 1)]) (rest := []) C (kX6_in (l := l) (D := D) (ad := ad) (cy := cy) (tb := tb) C.2.2.2.2.2.2.2.2.1 hc) (fun ht _ => va_cwS 3 ht gX6_get_X6_in rfl rfl rfl (by decide +kernel) ⟨Nat.le_of_ble_eq_true rfl, Nat.le_of_ble_eq_true rfl⟩) rfl rfl (Nat.le_of_ble_eq_true rfl) dX6_get_37 ?_
      refine aw_if_eq (tgt := 47) C dX6_get_40 (by decide) hf (fun hf => ?_) (fun hf => ?_)
      · refine aw_iconst (v := 2) C dX6_get_47 (by decide) ?_
        refine aw_sub [0, 1, 2] rfl ?_
        exact tX6_get_48 C   hf
      refine aw_iconst (v := 0) C dX6_get_43 (by decide) ?_
      refine aw_goto (tgt := 48) C dX6_get_44 (by decide) ?_
      refine aw_sub [0, 1, 2] rfl ?_
      exact tX6_get_48 C   hf
    refine aw_iconst (v := 1) C dX6_get_23 (by decide) ?_
    refine aw_goto (tgt := 48) C dX6_get_24 (by decide) ?_
    refine aw_sub [0, 1, 2] rfl ?_
    exact tX6_get_48 C   hf
  refine aw_bipush (v := (-2)) C dX6_get_7 (by decide) ?_
  obtain ⟨r3, hc, hf⟩ := bR_some hf
  refine aw_callSl (As := [.int (-2)]) (rest := []) C (kX6_no (l := l) (D := D) (ad := ad) (cy := cy) (tb := tb) C.2.2.2.2.2.2.2.2.1 hc) (fun ht _ => va_cwS 1 ht gX6_get_X6_no rfl rfl rfl (by decide +kernel) ⟨Nat.le_of_ble_eq_true rfl, Nat.le_of_ble_eq_true rfl⟩) rfl rfl (Nat.le_of_ble_eq_true rfl) dX6_get_9 ?_
  exact aw_lretW C dX6_get_12 hf
theorem kX6_get {h : AH} {a1 : Int32} {a2 : Int32} {r0 : Int64} {h0 : AH} (hi : Inj ad) (hf : fX6_get h a1 a2 = some (r0, h0)) : Kl l yX6_get wsX6_get rmX6_get D ad cy tb [.ref (ad 29), .int a1, .int a2] h r0 h0 := met_l (lv := [(0, .ref (ad 29)), (1, .int a1), (2, .int a2)]) hi (by decide) rfl (Nat.le_of_ble_eq_true rfl) rfl rfl (fun _ _ _ _ _ _ _ _ C => tX6_get_0 C  hf)
theorem dX3_hasItems_0 : decode cX3_hasItems 0 = .ok (.iload_n 1, 1) := by decide +kernel
theorem dX3_hasItems_1 : decode cX3_hasItems 1 = .ok (.ifCond .lt 21, 3) := by decide +kernel
theorem dX3_hasItems_4 : decode cX3_hasItems 4 = .ok (.iload_n 2, 1) := by decide +kernel
theorem dX3_hasItems_5 : decode cX3_hasItems 5 = .ok (.ifCond .lt 17, 3) := by decide +kernel
theorem dX3_hasItems_8 : decode cX3_hasItems 8 = .ok (.iload_n 1, 1) := by decide +kernel
theorem dX3_hasItems_9 : decode cX3_hasItems 9 = .ok (.aload_n 0, 1) := by decide +kernel
theorem dX3_hasItems_10 : decode cX3_hasItems 10 = .ok (.getfield 23, 3) := by decide +kernel
theorem dX3_hasItems_13 : decode cX3_hasItems 13 = .ok (.iload_n 2, 1) := by decide +kernel
theorem dX3_hasItems_14 : decode cX3_hasItems 14 = .ok (.isub, 1) := by decide +kernel
theorem dX3_hasItems_15 : decode cX3_hasItems 15 = .ok (.if_icmp .gt 7, 3) := by decide +kernel
theorem dX3_hasItems_18 : decode cX3_hasItems 18 = .ok (.iconst 1, 1) := by decide +kernel
theorem dX3_hasItems_19 : decode cX3_hasItems 19 = .ok (.goto 4, 3) := by decide +kernel
theorem dX3_hasItems_22 : decode cX3_hasItems 22 = .ok (.iconst 0, 1) := by decide +kernel
theorem dX3_hasItems_23 : decode cX3_hasItems 23 = .ok (.ireturn, 1) := by decide +kernel
abbrev rmX3_hasItems : Room := { frames := 0, cells := 0, slots := 0, locals := 0 }
set_option maxRecDepth 100000 in
theorem hinX3_hasItems_3 : ∀ w ∈ wsX30, w ∈ wsX3_hasItems := by decide +kernel
def fX3_hasItems (h : AH) (a0 : Nat) (a1 : Int32) (a2 : Int32) : Option Int32 :=
  if a1 < 0 then (
    some 0) else (
  if a2 < 0 then (
    some 0) else (
  if ((h.1 a0 2) - a2) < a1 then (
    some 0) else (
  some 1)))
set_option maxHeartbeats 4000000 in
set_option maxRecDepth 100000 in
theorem tX3_hasItems_0 {h : AH} {a0 : Nat} {a1 : Int32} {a2 : Int32} {r0 : Int32} (C : Cx p rmX3_hasItems s m args meth c RX3 cX3_hasItems 3 (some .boolean) wsX3_hasItems D ad cy tb 0 0) (hk0 : kd a0 = 3) (hf : fX3_hasItems h a0 a1 a2 = some r0) : AW p l e rmX3_hasItems s m args below meth c 3 D ad cy 0 0 (Qi D ad cy below args s r0 h) 0 [(0, .ref (ad a0)), (1, .int a1), (2, .int a2)] [] h := by
  unfold fX3_hasItems at hf
  refine aw_iload_n C dX3_hasItems_0 rfl 1 rfl ?_
  refine aw_if_lt (tgt := 22) C dX3_hasItems_1 (by decide) hf (fun hf => ?_) (fun hf => ?_)
  · refine aw_iconst (v := 0) C dX3_hasItems_22 (by decide) ?_
    exact aw_zretR C (by decide) dX3_hasItems_23 hf
  refine aw_iload_n C dX3_hasItems_4 rfl 2 rfl ?_
  refine aw_if_lt (tgt := 22) C dX3_hasItems_5 (by decide) hf (fun hf => ?_) (fun hf => ?_)
  · refine aw_iconst (v := 0) C dX3_hasItems_22 (by decide) ?_
    exact aw_zretR C (by decide) dX3_hasItems_23 hf
  refine aw_iload_n C dX3_hasItems_8 rfl 1 rfl ?_
  refine aw_aload_n C dX3_hasItems_9 rfl 0 rfl ?_
  refine aw_get C (kd_lt hk0 (by decide)) (ce_3 hk0) rfl hinX3_hasItems_3 2 (by decide) rfl (by decide +kernel) rfl dX3_hasItems_10 ?_
  refine aw_iload_n C dX3_hasItems_13 rfl 2 rfl ?_
  refine aw_isub C dX3_hasItems_14 ?_
  refine aw_icmp_gt (tgt := 22) C dX3_hasItems_15 (by decide) hf (fun hf => ?_) (fun hf => ?_)
  · refine aw_iconst (v := 0) C dX3_hasItems_22 (by decide) ?_
    exact aw_zretR C (by decide) dX3_hasItems_23 hf
  refine aw_iconst (v := 1) C dX3_hasItems_18 (by decide) ?_
  refine aw_goto (tgt := 23) C dX3_hasItems_19 (by decide) ?_
  exact aw_zretR C (by decide) dX3_hasItems_23 hf
theorem kX3_hasItems {h : AH} {a0 : Nat} {a1 : Int32} {a2 : Int32} {r0 : Int32} (hi : Inj ad) (hk0 : kd a0 = 3) (hf : fX3_hasItems h a0 a1 a2 = some r0) : Ki l yX3_hasItems wsX3_hasItems rmX3_hasItems D ad cy tb [.ref (ad a0), .int a1, .int a2] h r0 h := met_i (lv := [(0, .ref (ad a0)), (1, .int a1), (2, .int a2)]) hi (by decide) rfl (Nat.le_of_ble_eq_true rfl) rfl rfl (fun _ _ _ _ _ _ _ _ C => tX3_hasItems_0 C hk0 hf)
set_option maxRecDepth 20000 in
theorem ggX5_copy_X5_isSheet : GoodIn wsX5_copy wsX5_isSheet := goodIn_r _ [9] (by decide +kernel) (by decide +kernel)
set_option maxRecDepth 20000 in
theorem gX5_copy_X5_isSheet : GoodIn wsX5_copy (va_wsS RX5 109 yX5_isSheet wsX5_isSheet) := goodIn_app (goodIn_of _ (by decide +kernel)) ggX5_copy_X5_isSheet
set_option maxRecDepth 20000 in
theorem ggX5_copy_X5_finding : GoodIn wsX5_copy wsX5_finding := goodIn_r _ [13, 14, 21, 22, 23, 24, 25, 26, 27, 28, 29] (by decide +kernel) (by decide +kernel)
set_option maxRecDepth 20000 in
theorem gX5_copy_X5_finding : GoodIn wsX5_copy (wsV RX5 116 RX5 yX5_finding wsX5_finding) := goodIn_app (goodIn_of _ (by decide +kernel)) ggX5_copy_X5_finding
set_option maxRecDepth 20000 in
theorem ggX5_copy_X3_hasItems : GoodIn wsX5_copy wsX3_hasItems := goodIn_r _ [19, 20, 30, 31, 32, 33] (by decide +kernel) (by decide +kernel)
set_option maxRecDepth 20000 in
theorem gX5_copy_X3_hasItems : GoodIn wsX5_copy (wsV RX5 245 RX3 yX3_hasItems wsX3_hasItems) := goodIn_app (goodIn_of _ (by decide +kernel)) ggX5_copy_X3_hasItems
theorem dX5_copy_0 : decode cX5_copy 0 = .ok (.iload_n 1, 1) := by decide +kernel
theorem dX5_copy_1 : decode cX5_copy 1 = .ok (.invokestatic 109, 3) := by decide +kernel
theorem dX5_copy_4 : decode cX5_copy 4 = .ok (.ifCond .eq 10, 3) := by decide +kernel
theorem dX5_copy_7 : decode cX5_copy 7 = .ok (.iload_n 3, 1) := by decide +kernel
theorem dX5_copy_8 : decode cX5_copy 8 = .ok (.invokestatic 109, 3) := by decide +kernel
theorem dX5_copy_11 : decode cX5_copy 11 = .ok (.ifCond .ne 6, 3) := by decide +kernel
theorem dX5_copy_14 : decode cX5_copy 14 = .ok (.bipush (-2), 2) := by decide +kernel
theorem dX5_copy_16 : decode cX5_copy 16 = .ok (.ireturn, 1) := by decide +kernel
theorem dX5_copy_17 : decode cX5_copy 17 = .ok (.aload_n 0, 1) := by decide +kernel
theorem dX5_copy_18 : decode cX5_copy 18 = .ok (.getfield 46, 3) := by decide +kernel
theorem dX5_copy_21 : decode cX5_copy 21 = .ok (.iload_n 1, 1) := by decide +kernel
theorem dX5_copy_22 : decode cX5_copy 22 = .ok (.aaload, 1) := by decide +kernel
theorem dX5_copy_23 : decode cX5_copy 23 = .ok (.astore 6, 2) := by decide +kernel
theorem dX5_copy_25 : decode cX5_copy 25 = .ok (.aload_n 0, 1) := by decide +kernel
theorem dX5_copy_26 : decode cX5_copy 26 = .ok (.getfield 46, 3) := by decide +kernel
theorem dX5_copy_29 : decode cX5_copy 29 = .ok (.iload_n 3, 1) := by decide +kernel
theorem dX5_copy_30 : decode cX5_copy 30 = .ok (.aaload, 1) := by decide +kernel
theorem dX5_copy_31 : decode cX5_copy 31 = .ok (.astore 7, 2) := by decide +kernel
theorem dX5_copy_33 : decode cX5_copy 33 = .ok (.aload 6, 2) := by decide +kernel
theorem dX5_copy_35 : decode cX5_copy 35 = .ok (.getfield 112, 3) := by decide +kernel
theorem dX5_copy_38 : decode cX5_copy 38 = .ok (.ifCond .ne 11, 3) := by decide +kernel
theorem dX5_copy_41 : decode cX5_copy 41 = .ok (.aload 7, 2) := by decide +kernel
theorem dX5_copy_43 : decode cX5_copy 43 = .ok (.getfield 112, 3) := by decide +kernel
theorem dX5_copy_46 : decode cX5_copy 46 = .ok (.ifCond .eq 10, 3) := by decide +kernel
theorem dX5_copy_49 : decode cX5_copy 49 = .ok (.aload_n 0, 1) := by decide +kernel
theorem dX5_copy_50 : decode cX5_copy 50 = .ok (.bipush (-11), 2) := by decide +kernel
theorem dX5_copy_52 : decode cX5_copy 52 = .ok (.invokevirtual 116, 3) := by decide +kernel
theorem dX5_copy_55 : decode cX5_copy 55 = .ok (.ireturn, 1) := by decide +kernel
theorem dX5_copy_56 : decode cX5_copy 56 = .ok (.aload 6, 2) := by decide +kernel
theorem dX5_copy_58 : decode cX5_copy 58 = .ok (.getfield 236, 3) := by decide +kernel
theorem dX5_copy_61 : decode cX5_copy 61 = .ok (.aload 7, 2) := by decide +kernel
theorem dX5_copy_63 : decode cX5_copy 63 = .ok (.getfield 236, 3) := by decide +kernel
theorem dX5_copy_66 : decode cX5_copy 66 = .ok (.if_icmp .eq 10, 3) := by decide +kernel
theorem dX5_copy_69 : decode cX5_copy 69 = .ok (.aload_n 0, 1) := by decide +kernel
theorem dX5_copy_70 : decode cX5_copy 70 = .ok (.bipush (-14), 2) := by decide +kernel
theorem dX5_copy_72 : decode cX5_copy 72 = .ok (.invokevirtual 116, 3) := by decide +kernel
theorem dX5_copy_75 : decode cX5_copy 75 = .ok (.ireturn, 1) := by decide +kernel
theorem dX5_copy_76 : decode cX5_copy 76 = .ok (.aload 6, 2) := by decide +kernel
theorem dX5_copy_78 : decode cX5_copy 78 = .ok (.iload_n 2, 1) := by decide +kernel
theorem dX5_copy_79 : decode cX5_copy 79 = .ok (.iload 5, 2) := by decide +kernel
theorem dX5_copy_81 : decode cX5_copy 81 = .ok (.invokevirtual 245, 3) := by decide +kernel
theorem dX5_copy_84 : decode cX5_copy 84 = .ok (.ifCond .eq 15, 3) := by decide +kernel
theorem dX5_copy_87 : decode cX5_copy 87 = .ok (.aload 7, 2) := by decide +kernel
theorem dX5_copy_89 : decode cX5_copy 89 = .ok (.iload 4, 2) := by decide +kernel
theorem dX5_copy_91 : decode cX5_copy 91 = .ok (.iload 5, 2) := by decide +kernel
theorem dX5_copy_93 : decode cX5_copy 93 = .ok (.invokevirtual 245, 3) := by decide +kernel
theorem dX5_copy_96 : decode cX5_copy 96 = .ok (.ifCond .ne 10, 3) := by decide +kernel
theorem dX5_copy_99 : decode cX5_copy 99 = .ok (.aload_n 0, 1) := by decide +kernel
theorem dX5_copy_100 : decode cX5_copy 100 = .ok (.bipush (-12), 2) := by decide +kernel
theorem dX5_copy_102 : decode cX5_copy 102 = .ok (.invokevirtual 116, 3) := by decide +kernel
theorem dX5_copy_105 : decode cX5_copy 105 = .ok (.ireturn, 1) := by decide +kernel
theorem dX5_copy_106 : decode cX5_copy 106 = .ok (.aload 6, 2) := by decide +kernel
theorem dX5_copy_108 : decode cX5_copy 108 = .ok (.getfield 123, 3) := by decide +kernel
theorem dX5_copy_111 : decode cX5_copy 111 = .ok (.iload_n 2, 1) := by decide +kernel
theorem dX5_copy_112 : decode cX5_copy 112 = .ok (.aload 7, 2) := by decide +kernel
theorem dX5_copy_114 : decode cX5_copy 114 = .ok (.getfield 123, 3) := by decide +kernel
theorem dX5_copy_117 : decode cX5_copy 117 = .ok (.iload 4, 2) := by decide +kernel
theorem dX5_copy_119 : decode cX5_copy 119 = .ok (.iload 5, 2) := by decide +kernel
theorem dX5_copy_121 : decode cX5_copy 121 = .ok (.invokestatic 248, 3) := by decide +kernel
theorem dX5_copy_124 : decode cX5_copy 124 = .ok (.iconst 1, 1) := by decide +kernel
theorem dX5_copy_125 : decode cX5_copy 125 = .ok (.ireturn, 1) := by decide +kernel
abbrev rmX5_copy : Room := { frames := 1, cells := 0, slots := 0, locals := 60 }
set_option maxRecDepth 100000 in
theorem hinX5_copy_5 : ∀ w ∈ wsX50, w ∈ wsX5_copy := by decide +kernel
set_option maxRecDepth 100000 in
theorem hinX5_copy_3 : ∀ w ∈ wsX30, w ∈ wsX5_copy := by decide +kernel
def fX5_copy_49 (a1 : Int32) (a2 : Int32) (a3 : Int32) (a4 : Int32) (a5 : Int32) (h : AH) : Option (Int32 × AH) :=
  bW (fX5_finding h (-11)) fun r2 h1 =>
  some (r2, h1)
set_option maxHeartbeats 4000000 in
set_option maxRecDepth 100000 in
theorem tX5_copy_49 {h : AH} {a1 : Int32} {a2 : Int32} {a3 : Int32} {a4 : Int32} {a5 : Int32} {r0 : Int32} {h0 : AH} (C : Cx p rmX5_copy s m args meth c RX5 cX5_copy 8 (some .int) wsX5_copy D ad cy tb 0 0) (hf : fX5_copy_49 a1 a2 a3 a4 a5 h = some (r0, h0)) : AW p l e rmX5_copy s m args below meth c 8 D ad cy 0 0 (Qi D ad cy below args s r0 h0) 49 [(0, .ref (ad 0)), (1, .int a1), (2, .int a2), (3, .int a3), (4, .int a4), (5, .int a5)] [] h := by
  unfold fX5_copy_49 at hf
  refine aw_aload_n C dX5_copy_49 rfl 0 rfl ?_
  refine aw_bipush (v := (-11)) C dX5_copy_50 (by decide) ?_
  obtain ⟨r2, h1, hc, hf⟩ := bW_some hf
  refine aw_callVi (As := [.int (-11)]) (rest := []) C rfl (by decide) rfl (kX5_finding (l := l) (D := D) (ad := ad) (cy := cy) (tb := tb) C.2.2.2.2.2.2.2.2.1 hc) (fun ht _ => cwV 1 ht gX5_copy_X5_finding rfl rfl rfl (by decide +kernel) ⟨Nat.le_of_ble_eq_true rfl, Nat.le_of_ble_eq_true rfl⟩) rfl rfl (Nat.le_of_ble_eq_true rfl) dX5_copy_52 ?_
  exact aw_iretW C dX5_copy_55 hf
def fX5_copy_99 (a1 : Int32) (a2 : Int32) (a3 : Int32) (a4 : Int32) (a5 : Int32) (h : AH) : Option (Int32 × AH) :=
  bW (fX5_finding h (-12)) fun r2 h1 =>
  some (r2, h1)
set_option maxHeartbeats 4000000 in
set_option maxRecDepth 100000 in
theorem tX5_copy_99 {h : AH} {a1 : Int32} {a2 : Int32} {a3 : Int32} {a4 : Int32} {a5 : Int32} {r0 : Int32} {h0 : AH} (C : Cx p rmX5_copy s m args meth c RX5 cX5_copy 8 (some .int) wsX5_copy D ad cy tb 0 0) (hf : fX5_copy_99 a1 a2 a3 a4 a5 h = some (r0, h0)) : AW p l e rmX5_copy s m args below meth c 8 D ad cy 0 0 (Qi D ad cy below args s r0 h0) 99 [(0, .ref (ad 0)), (1, .int a1), (2, .int a2), (3, .int a3), (4, .int a4), (5, .int a5)] [] h := by
  unfold fX5_copy_99 at hf
  refine aw_aload_n C dX5_copy_99 rfl 0 rfl ?_
  refine aw_bipush (v := (-12)) C dX5_copy_100 (by decide) ?_
  obtain ⟨r2, h1, hc, hf⟩ := bW_some hf
  refine aw_callVi (As := [.int (-12)]) (rest := []) C rfl (by decide) rfl (kX5_finding (l := l) (D := D) (ad := ad) (cy := cy) (tb := tb) C.2.2.2.2.2.2.2.2.1 hc) (fun ht _ => cwV 1 ht gX5_copy_X5_finding rfl rfl rfl (by decide +kernel) ⟨Nat.le_of_ble_eq_true rfl, Nat.le_of_ble_eq_true rfl⟩) rfl rfl (Nat.le_of_ble_eq_true rfl) dX5_copy_102 ?_
  exact aw_iretW C dX5_copy_105 hf
def fX5_copy (h : AH) (a1 : Int32) (a2 : Int32) (a3 : Int32) (a4 : Int32) (a5 : Int32) : Option (Int32 × AH) :=
  bR (fX5_isSheet h a1) fun r1 =>
  if r1 = 0 then (
    some ((-2), h)) else (
  bR (fX5_isSheet h a3) fun r2 =>
  if r2 = 0 then (
    some ((-2), h)) else (
  ck (inb a1 4) <|
  nm (21 + a1.toNatClampNeg) fun r3 =>
  ck (inb a3 4) <|
  nm (21 + a3.toNatClampNeg) fun r4 =>
  if (h.1 r3 0) = 0 then (
    if (h.1 r4 0) = 0 then (
      if (h.1 r3 1) = (h.1 r4 1) then (
        bR (fX3_hasItems h r3 a2 a5) fun r5 =>
        if r5 = 0 then (
          fX5_copy_99  a1 a2 a3 a4 a5 h) else (
        bR (fX3_hasItems h r4 a4 a5) fun r6 =>
        if r6 = 0 then (
          fX5_copy_99  a1 a2 a3 a4 a5 h) else (
        ck (cpOk a2 a4 a5 64 64) <|
        nm (cpL h (r3 + 4) a2.toNatClampNeg (r4 + 4) a4.toNatClampNeg a5.toNatClampNeg) fun h7 =>
        some (1, h7)))) else (
      bW (fX5_finding h (-14)) fun r9 h8 =>
      some (r9, h8))) else (
    fX5_copy_49  a1 a2 a3 a4 a5 h)) else (
  fX5_copy_49  a1 a2 a3 a4 a5 h)))
set_option maxHeartbeats 4000000 in
set_option maxRecDepth 100000 in
theorem tX5_copy_0 {h : AH} {a1 : Int32} {a2 : Int32} {a3 : Int32} {a4 : Int32} {a5 : Int32} {r0 : Int32} {h0 : AH} (C : Cx p rmX5_copy s m args meth c RX5 cX5_copy 8 (some .int) wsX5_copy D ad cy tb 0 0) (hf : fX5_copy h a1 a2 a3 a4 a5 = some (r0, h0)) : AW p l e rmX5_copy s m args below meth c 8 D ad cy 0 0 (Qi D ad cy below args s r0 h0) 0 [(0, .ref (ad 0)), (1, .int a1), (2, .int a2), (3, .int a3), (4, .int a4), (5, .int a5)] [] h := by
  unfold fX5_copy at hf
  refine aw_iload_n C dX5_copy_0 rfl 1 rfl ?_
  obtain ⟨r1, hc, hf⟩ := bR_some hf
  refine aw_callSi (As := [.int a1]) (rest := []) C (kX5_isSheet (l := l) (D := D) (ad := ad) (cy := cy) (tb := tb) C.2.2.2.2.2.2.2.2.1 hc) (fun ht _ => va_cwS 1 ht gX5_copy_X5_isSheet rfl rfl rfl (by decide +kernel) ⟨Nat.le_of_ble_eq_true rfl, Nat.le_of_ble_eq_true rfl⟩) rfl rfl (Nat.le_of_ble_eq_true rfl) dX5_copy_1 ?_
  refine aw_if_eq (tgt := 14) C dX5_copy_4 (by decide) hf (fun hf => ?_) (fun hf => ?_)
  · refine aw_bipush (v := (-2)) C dX5_copy_14 (by decide) ?_
    exact aw_iretW C dX5_copy_16 hf
  refine aw_iload_n C dX5_copy_7 rfl 3 rfl ?_
  obtain ⟨r2, hc, hf⟩ := bR_some hf
  refine aw_callSi (As := [.int a3]) (rest := []) C (kX5_isSheet (l := l) (D := D) (ad := ad) (cy := cy) (tb := tb) C.2.2.2.2.2.2.2.2.1 hc) (fun ht _ => va_cwS 1 ht gX5_copy_X5_isSheet rfl rfl rfl (by decide +kernel) ⟨Nat.le_of_ble_eq_true rfl, Nat.le_of_ble_eq_true rfl⟩) rfl rfl (Nat.le_of_ble_eq_true rfl) dX5_copy_8 ?_
  refine aw_if_ne (tgt := 17) C dX5_copy_11 (by decide) hf (fun hf => ?_) (fun hf => ?_)
  · refine aw_aload_n C dX5_copy_17 rfl 0 rfl ?_
    refine aw_get C (kd_lt rfl (by decide)) (ce_5 rfl) rfl hinX5_copy_5 6 (by decide) rfl (by decide +kernel) rfl dX5_copy_18 ?_
    refine aw_iload_n C dX5_copy_21 rfl 1 rfl ?_
    refine aw_aald C hf dX5_copy_22 (fun r3 hkr3 hf => ?_)
    refine aw_astore (lv1 := [(6, .ref (ad r3)), (0, .ref (ad 0)), (1, .int a1), (2, .int a2), (3, .int a3), (4, .int a4), (5, .int a5)]) C dX5_copy_23 (by decide) rfl ?_
    refine aw_aload_n C dX5_copy_25 rfl 1 rfl ?_
    refine aw_get C (kd_lt rfl (by decide)) (ce_5 rfl) rfl hinX5_copy_5 6 (by decide) rfl (by decide +kernel) rfl dX5_copy_26 ?_
    refine aw_iload_n C dX5_copy_29 rfl 4 rfl ?_
    refine aw_aald C hf dX5_copy_30 (fun r4 hkr4 hf => ?_)
    refine aw_astore (lv1 := [(7, .ref (ad r4)), (6, .ref (ad r3)), (0, .ref (ad 0)), (1, .int a1), (2, .int a2), (3, .int a3), (4, .int a4), (5, .int a5)]) C dX5_copy_31 (by decide) rfl ?_
    refine aw_aload C dX5_copy_33 1 rfl ?_
    refine aw_getN (host := "StairCodes") C (kd_lt hkr3 (by decide)) (ce_3 hkr3) rfl hinX5_copy_3 0 (by decide) rfl (by decide +kernel) rfl dX5_copy_35 ?_
    refine aw_if_ne (tgt := 49) C dX5_copy_38 (by decide) hf (fun hf => ?_) (fun hf => ?_)
    · refine aw_sub [2, 3, 4, 5, 6, 7] rfl ?_
      exact tX5_copy_49 C   hf
    refine aw_aload C dX5_copy_41 0 rfl ?_
    refine aw_getN (host := "StairCodes") C (kd_lt hkr4 (by decide)) (ce_3 hkr4) rfl hinX5_copy_3 0 (by decide) rfl (by decide +kernel) rfl dX5_copy_43 ?_
    refine aw_if_eq (tgt := 56) C dX5_copy_46 (by decide) hf (fun hf => ?_) (fun hf => ?_)
    · refine aw_aload C dX5_copy_56 1 rfl ?_
      refine aw_getN (host := "StairCodes") C (kd_lt hkr3 (by decide)) (ce_3 hkr3) rfl hinX5_copy_3 1 (by decide) rfl (by decide +kernel) rfl dX5_copy_58 ?_
      refine aw_aload C dX5_copy_61 0 rfl ?_
      refine aw_getN (host := "StairCodes") C (kd_lt hkr4 (by decide)) (ce_3 hkr4) rfl hinX5_copy_3 1 (by decide) rfl (by decide +kernel) rfl dX5_copy_63 ?_
      refine aw_icmp_eq (tgt := 76) C dX5_copy_66 (by decide) hf (fun hf => ?_) (fun hf => ?_)
      · refine aw_aload C dX5_copy_76 1 rfl ?_
        refine aw_iload_n C dX5_copy_78 rfl 4 rfl ?_
        refine aw_iload C dX5_copy_79 7 rfl ?_
        obtain ⟨r5, hc, hf⟩ := bR_some hf
        refine aw_callVi (As := [.int a2, .int a5]) (rest := []) C hkr3 (by decide) rfl (kX3_hasItems (l := l) (D := D) (ad := ad) (cy := cy) (tb := tb) C.2.2.2.2.2.2.2.2.1 hkr3 hc) (fun ht _ => cwV 2 ht gX5_copy_X3_hasItems rfl rfl rfl (by decide +kernel) ⟨Nat.le_of_ble_eq_true rfl, Nat.le_of_ble_eq_true rfl⟩) rfl rfl (Nat.le_of_ble_eq_true rfl) dX5_copy_81 ?_
        refine aw_if_eq (tgt := 99) C dX5_copy_84 (by decide) hf (fun hf => ?_) (fun hf => ?_)
        · refine aw_sub [2, 3, 4, 5, 6, 7] rfl ?_
          exact tX5_copy_99 C   hf
        refine aw_aload C dX5_copy_87 0 rfl ?_
        refine aw_iload C dX5_copy_89 6 rfl ?_
        refine aw_iload C dX5_copy_91 7 rfl ?_
        obtain ⟨r6, hc, hf⟩ := bR_some hf
        refine aw_callVi (As := [.int a4, .int a5]) (rest := []) C hkr4 (by decide) rfl (kX3_hasItems (l := l) (D := D) (ad := ad) (cy := cy) (tb := tb) C.2.2.2.2.2.2.2.2.1 hkr4 hc) (fun ht _ => cwV 2 ht gX5_copy_X3_hasItems rfl rfl rfl (by decide +kernel) ⟨Nat.le_of_ble_eq_true rfl, Nat.le_of_ble_eq_true rfl⟩) rfl rfl (Nat.le_of_ble_eq_true rfl) dX5_copy_93 ?_
        refine aw_if_ne (tgt := 106) C dX5_copy_96 (by decide) hf (fun hf => ?_) (fun hf => ?_)
        · refine aw_aload C dX5_copy_106 1 rfl ?_
          refine aw_getN (host := "StairCodes") C (kd_lt hkr3 (by decide)) (ce_3 hkr3) rfl hinX5_copy_3 3 (by decide) rfl (by decide +kernel) rfl dX5_copy_108 ?_
          refine aw_iload_n C dX5_copy_111 rfl 4 rfl ?_
          refine aw_aload C dX5_copy_112 0 rfl ?_
          refine aw_getN (host := "StairCodes") C (kd_lt hkr4 (by decide)) (ce_3 hkr4) rfl hinX5_copy_3 3 (by decide) rfl (by decide +kernel) rfl dX5_copy_114 ?_
          refine aw_iload C dX5_copy_117 6 rfl ?_
          refine aw_iload C dX5_copy_119 7 rfl ?_
          refine aw_copyL C (kd3a hkr3) (ln3a hkr3) (kd3a hkr4) (ln3a hkr4) hf (by decide +kernel) (by decide +kernel) (by decide +kernel) (by decide +kernel) (Nat.le_of_ble_eq_true rfl) (Nat.le_of_ble_eq_true rfl) dX5_copy_121 (fun hf => ?_)
          refine aw_nmH hf (fun h7 hf => ?_)
          refine aw_iconst (v := 1) C dX5_copy_124 (by decide) ?_
          exact aw_iretW C dX5_copy_125 hf
        refine aw_sub [2, 3, 4, 5, 6, 7] rfl ?_
        exact tX5_copy_99 C   hf
      refine aw_aload_n C dX5_copy_69 rfl 2 rfl ?_
      refine aw_bipush (v := (-14)) C dX5_copy_70 (by decide) ?_
      obtain ⟨r9, h8, hc, hf⟩ := bW_some hf
      refine aw_callVi (As := [.int (-14)]) (rest := []) C rfl (by decide) rfl (kX5_finding (l := l) (D := D) (ad := ad) (cy := cy) (tb := tb) C.2.2.2.2.2.2.2.2.1 hc) (fun ht _ => cwV 1 ht gX5_copy_X5_finding rfl rfl rfl (by decide +kernel) ⟨Nat.le_of_ble_eq_true rfl, Nat.le_of_ble_eq_true rfl⟩) rfl rfl (Nat.le_of_ble_eq_true rfl) dX5_copy_72 ?_
      exact aw_iretW C dX5_copy_75 hf
    refine aw_sub [2, 3, 4, 5, 6, 7] rfl ?_
    exact tX5_copy_49 C   hf
  refine aw_bipush (v := (-2)) C dX5_copy_14 (by decide) ?_
  exact aw_iretW C dX5_copy_16 hf
theorem kX5_copy {h : AH} {a1 : Int32} {a2 : Int32} {a3 : Int32} {a4 : Int32} {a5 : Int32} {r0 : Int32} {h0 : AH} (hi : Inj ad) (hf : fX5_copy h a1 a2 a3 a4 a5 = some (r0, h0)) : Ki l yX5_copy wsX5_copy rmX5_copy D ad cy tb [.ref (ad 0), .int a1, .int a2, .int a3, .int a4, .int a5] h r0 h0 := met_i (lv := [(0, .ref (ad 0)), (1, .int a1), (2, .int a2), (3, .int a3), (4, .int a4), (5, .int a5)]) hi (by decide) rfl (Nat.le_of_ble_eq_true rfl) rfl rfl (fun _ _ _ _ _ _ _ _ C => tX5_copy_0 C  hf)
