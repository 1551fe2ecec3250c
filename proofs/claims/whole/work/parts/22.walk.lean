variable {p : Program} {l : Launch} {e : Env} {s : State} {m : MethodId} {args : Array Value} {below : List Frame} {meth : Method} {c : Code} {D : va_G} {ad : Nat → Nat} {cy : Nat → ClassId} {tb : Nat → Nat}
set_option maxRecDepth 20000 in
theorem ggX5_would_X5_isSlideSize : GoodIn wsX5_would wsX5_isSlideSize := goodIn_r _ [7, 2, 67, 68, 69, 70, 71, 72, 73, 74, 75, 76, 77, 78] (by decide +kernel) (by decide +kernel)
set_option maxRecDepth 20000 in
theorem gX5_would_X5_isSlideSize : GoodIn wsX5_would (wsV RX5 193 RX5 yX5_isSlideSize wsX5_isSlideSize) := goodIn_app (goodIn_of _ (by decide +kernel)) ggX5_would_X5_isSlideSize
set_option maxRecDepth 20000 in
theorem ggX5_would_X5_isTurns : GoodIn wsX5_would wsX5_isTurns := goodIn_r _ [10] (by decide +kernel) (by decide +kernel)
set_option maxRecDepth 20000 in
theorem gX5_would_X5_isTurns : GoodIn wsX5_would (va_wsS RX5 186 yX5_isTurns wsX5_isTurns) := goodIn_app (goodIn_of _ (by decide +kernel)) ggX5_would_X5_isTurns
set_option maxRecDepth 20000 in
theorem ggX5_would_X5_isRule : GoodIn wsX5_would wsX5_isRule := goodIn_r _ [13] (by decide +kernel) (by decide +kernel)
set_option maxRecDepth 20000 in
theorem gX5_would_X5_isRule : GoodIn wsX5_would (va_wsS RX5 126 yX5_isRule wsX5_isRule) := goodIn_app (goodIn_of _ (by decide +kernel)) ggX5_would_X5_isRule
set_option maxRecDepth 20000 in
theorem ggX5_would_X4_becomeLike : GoodIn wsX5_would wsX4_becomeLike := goodIn_r _ [18, 19, 20, 21, 22, 23, 24, 25, 76, 77, 78] (by decide +kernel) (by decide +kernel)
set_option maxRecDepth 20000 in
theorem gX5_would_X4_becomeLike : GoodIn wsX5_would (wsV RX5 223 RX4 yX4_becomeLike wsX4_becomeLike) := goodIn_app (goodIn_of _ (by decide +kernel)) ggX5_would_X4_becomeLike
set_option maxRecDepth 20000 in
theorem ggX5_would_X4_takeSlide : GoodIn wsX5_would wsX4_takeSlide := goodIn_r _ [29, 19, 30, 31, 32, 17, 33, 34, 35, 36, 37, 38, 39, 40, 41, 25, 42, 6, 43, 44, 45, 46, 47, 20, 48, 49, 50, 51, 52, 53, 54, 55, 76, 77, 78, 79, 80, 81] (by decide +kernel) (by decide +kernel)
set_option maxRecDepth 20000 in
theorem gX5_would_X4_takeSlide : GoodIn wsX5_would (wsV RX5 196 RX4 yX4_takeSlide wsX4_takeSlide) := goodIn_app (goodIn_of _ (by decide +kernel)) ggX5_would_X4_takeSlide
set_option maxRecDepth 20000 in
theorem ggX5_would_X4_wrongBits : GoodIn wsX5_would wsX4_wrongBits := goodIn_r _ [59, 19, 20, 60, 61, 62, 63, 64, 65, 66, 76, 77, 78] (by decide +kernel) (by decide +kernel)
set_option maxRecDepth 20000 in
theorem gX5_would_X4_wrongBits : GoodIn wsX5_would (wsV RX5 101 RX4 yX4_wrongBits wsX4_wrongBits) := goodIn_app (goodIn_of _ (by decide +kernel)) ggX5_would_X4_wrongBits
theorem dX5_would_0 : decode cX5_would 0 = .ok (.aload_n 0, 1) := by decide +kernel
theorem dX5_would_1 : decode cX5_would 1 = .ok (.iload_n 1, 1) := by decide +kernel
theorem dX5_would_2 : decode cX5_would 2 = .ok (.invokevirtual 193, 3) := by decide +kernel
theorem dX5_would_5 : decode cX5_would 5 = .ok (.ifCond .eq 17, 3) := by decide +kernel
theorem dX5_would_8 : decode cX5_would 8 = .ok (.iload_n 2, 1) := by decide +kernel
theorem dX5_would_9 : decode cX5_would 9 = .ok (.invokestatic 186, 3) := by decide +kernel
theorem dX5_would_12 : decode cX5_would 12 = .ok (.ifCond .eq 10, 3) := by decide +kernel
theorem dX5_would_15 : decode cX5_would 15 = .ok (.iload_n 3, 1) := by decide +kernel
theorem dX5_would_16 : decode cX5_would 16 = .ok (.invokestatic 126, 3) := by decide +kernel
theorem dX5_would_19 : decode cX5_would 19 = .ok (.ifCond .ne 6, 3) := by decide +kernel
theorem dX5_would_22 : decode cX5_would 22 = .ok (.bipush (-2), 2) := by decide +kernel
theorem dX5_would_24 : decode cX5_would 24 = .ok (.ireturn, 1) := by decide +kernel
theorem dX5_would_25 : decode cX5_would 25 = .ok (.aload_n 0, 1) := by decide +kernel
theorem dX5_would_26 : decode cX5_would 26 = .ok (.getfield 16, 3) := by decide +kernel
theorem dX5_would_29 : decode cX5_would 29 = .ok (.aload_n 0, 1) := by decide +kernel
theorem dX5_would_30 : decode cX5_would 30 = .ok (.getfield 12, 3) := by decide +kernel
theorem dX5_would_33 : decode cX5_would 33 = .ok (.invokevirtual 223, 3) := by decide +kernel
theorem dX5_would_36 : decode cX5_would 36 = .ok (.aload_n 0, 1) := by decide +kernel
theorem dX5_would_37 : decode cX5_would 37 = .ok (.getfield 16, 3) := by decide +kernel
theorem dX5_would_40 : decode cX5_would 40 = .ok (.iload_n 1, 1) := by decide +kernel
theorem dX5_would_41 : decode cX5_would 41 = .ok (.iload_n 2, 1) := by decide +kernel
theorem dX5_would_42 : decode cX5_would 42 = .ok (.iload_n 3, 1) := by decide +kernel
theorem dX5_would_43 : decode cX5_would 43 = .ok (.aconst_null, 1) := by decide +kernel
theorem dX5_would_44 : decode cX5_would 44 = .ok (.invokevirtual 196, 3) := by decide +kernel
theorem dX5_would_47 : decode cX5_would 47 = .ok (.aload_n 0, 1) := by decide +kernel
theorem dX5_would_48 : decode cX5_would 48 = .ok (.getfield 16, 3) := by decide +kernel
theorem dX5_would_51 : decode cX5_would 51 = .ok (.invokevirtual 101, 3) := by decide +kernel
theorem dX5_would_54 : decode cX5_would 54 = .ok (.ireturn, 1) := by decide +kernel
abbrev rmX5_would : Room := { frames := 4, cells := 0, slots := 0, locals := 107 }
set_option maxRecDepth 100000 in
theorem hinX5_would_5 : ∀ w ∈ wsX50, w ∈ wsX5_would := by decide +kernel
def fX5_would (h : AH) (a1 : Int32) (a2 : Int32) (a3 : Int32) : Option (Int32 × AH) :=
  bR (fX5_isSlideSize h a1) fun r1 =>
  if r1 = 0 then (
    some ((-2), h)) else (
  bR (fX5_isTurns h a2) fun r2 =>
  if r2 = 0 then (
    some ((-2), h)) else (
  bR (fX5_isRule h a3) fun r3 =>
  if r3 = 0 then (
    some ((-2), h)) else (
  bR (fX4_becomeLike h 4 1) fun h4 =>
  bR (fX4_takeSlide_n h4 4 a1 a2 a3) fun h5 =>
  bR (fX4_wrongBits h5 4) fun r6 =>
  some (r6, h5))))
set_option maxHeartbeats 4000000 in
set_option maxRecDepth 100000 in
theorem tX5_would_0 {h : AH} {a1 : Int32} {a2 : Int32} {a3 : Int32} {r0 : Int32} {h0 : AH} (C : Cx p rmX5_would s m args meth c RX5 cX5_would 4 (some .int) wsX5_would D ad cy tb 0 0) (hf : fX5_would h a1 a2 a3 = some (r0, h0)) : AW p l e rmX5_would s m args below meth c 4 D ad cy 0 0 (Qi D ad cy below args s r0 h0) 0 [(0, .ref (ad 0)), (1, .int a1), (2, .int a2), (3, .int a3)] [] h := by
  unfold fX5_would at hf
  refine aw_aload_n C dX5_would_0 rfl 0 rfl ?_
  refine aw_iload_n C dX5_would_1 rfl 1 rfl ?_
  obtain ⟨r1, hc, hf⟩ := bR_some hf
  refine aw_callVi (As := [.int a1]) (rest := []) C rfl (by decide) rfl (kX5_isSlideSize (l := l) (D := D) (ad := ad) (cy := cy) (tb := tb) C.2.2.2.2.2.2.2.2.1 hc) (fun ht _ => cwV 1 ht gX5_would_X5_isSlideSize rfl rfl rfl (by decide +kernel) ⟨Nat.le_of_ble_eq_true rfl, Nat.le_of_ble_eq_true rfl⟩) rfl rfl (Nat.le_of_ble_eq_true rfl) dX5_would_2 ?_
  refine aw_if_eq (tgt := 22) C dX5_would_5 (by decide) hf (fun hf => ?_) (fun hf => ?_)
  · refine aw_bipush (v := (-2)) C dX5_would_22 (by decide) ?_
    exact aw_iretW C dX5_would_24 hf
  refine aw_iload_n C dX5_would_8 rfl 2 rfl ?_
  obtain ⟨r2, hc, hf⟩ := bR_some hf
  refine aw_callSi (As := [.int a2]) (rest := []) C (kX5_isTurns (l := l) (D := D) (ad := ad) (cy := cy) (tb := tb) C.2.2.2.2.2.2.2.2.1 hc) (fun ht _ => va_cwS 1 ht gX5_would_X5_isTurns rfl rfl rfl (by decide +kernel) ⟨Nat.le_of_ble_eq_true rfl, Nat.le_of_ble_eq_true rfl⟩) rfl rfl (Nat.le_of_ble_eq_true rfl) dX5_would_9 ?_
  refine aw_if_eq (tgt := 22) C dX5_would_12 (by decide) hf (fun hf => ?_) (fun hf => ?_)
  · refine aw_bipush (v := (-2)) C dX5_would_22 (by decide) ?_
    exact aw_iretW C dX5_would_24 hf
  refine aw_iload_n C dX5_would_15 rfl 3 rfl ?_
  obtain ⟨r3, hc, hf⟩ := bR_some hf
  refine aw_callSi (As := [.int a3]) (rest := []) C (kX5_isRule (l := l) (D := D) (ad := ad) (cy := cy) (tb := tb) C.2.2.2.2.2.2.2.2.1 hc) (fun ht _ => va_cwS 1 ht gX5_would_X5_isRule rfl rfl rfl (by decide +kernel) ⟨Nat.le_of_ble_eq_true rfl, Nat.le_of_ble_eq_true rfl⟩) rfl rfl (Nat.le_of_ble_eq_true rfl) dX5_would_16 ?_
  refine aw_if_ne (tgt := 25) C dX5_would_19 (by decide) hf (fun hf => ?_) (fun hf => ?_)
  · refine aw_aload_n C dX5_would_25 rfl 0 rfl ?_
    refine aw_get C (kd_lt rfl (by decide)) (ce_5 rfl) rfl hinX5_would_5 1 (by decide) rfl (by decide +kernel) rfl dX5_would_26 ?_
    refine aw_aload_n C dX5_would_29 rfl 0 rfl ?_
    refine aw_get C (kd_lt rfl (by decide)) (ce_5 rfl) rfl hinX5_would_5 0 (by decide) rfl (by decide +kernel) rfl dX5_would_30 ?_
    obtain ⟨h4, hc, hf⟩ := bR_some hf
    refine aw_callVv (As := [.ref (ad 1)]) (rest := []) C rfl (by decide) rfl (kX4_becomeLike (l := l) (D := D) (ad := ad) (cy := cy) (tb := tb) C.2.2.2.2.2.2.2.2.1 rfl rfl hc) (fun ht _ => cwV 1 ht gX5_would_X4_becomeLike rfl rfl rfl (by decide +kernel) ⟨Nat.le_of_ble_eq_true rfl, Nat.le_of_ble_eq_true rfl⟩) rfl rfl (Nat.le_of_ble_eq_true rfl) dX5_would_33 ?_
    refine aw_aload_n C dX5_would_36 rfl 0 rfl ?_
    refine aw_get C (kd_lt rfl (by decide)) (ce_5 rfl) rfl hinX5_would_5 1 (by decide) rfl (by decide +kernel) rfl dX5_would_37 ?_
    refine aw_iload_n C dX5_would_40 rfl 1 rfl ?_
    refine aw_iload_n C dX5_would_41 rfl 2 rfl ?_
    refine aw_iload_n C dX5_would_42 rfl 3 rfl ?_
    refine aw_null C dX5_would_43 ?_
    obtain ⟨h5, hc, hf⟩ := bR_some hf
    refine aw_callVv (As := [.int a1, .int a2, .int a3, .null]) (rest := []) C rfl (by decide) rfl (kX4_takeSlide_n (l := l) (D := D) (ad := ad) (cy := cy) (tb := tb) C.2.2.2.2.2.2.2.2.1 rfl hc) (fun ht _ => cwV 4 ht gX5_would_X4_takeSlide rfl rfl rfl (by decide +kernel) ⟨Nat.le_of_ble_eq_true rfl, Nat.le_of_ble_eq_true rfl⟩) rfl rfl (Nat.le_of_ble_eq_true rfl) dX5_would_44 ?_
    refine aw_aload_n C dX5_would_47 rfl 0 rfl ?_
    refine aw_get C (kd_lt rfl (by decide)) (ce_5 rfl) rfl hinX5_would_5 1 (by decide) rfl (by decide +kernel) rfl dX5_would_48 ?_
    obtain ⟨r6, hc, hf⟩ := bR_some hf
    refine aw_callVi (As := []) (rest := []) C rfl (by decide) rfl (kX4_wrongBits (l := l) (D := D) (ad := ad) (cy := cy) (tb := tb) C.2.2.2.2.2.2.2.2.1 rfl hc) (fun ht _ => cwV 0 ht gX5_would_X4_wrongBits rfl rfl rfl (by decide +kernel) ⟨Nat.le_of_ble_eq_true rfl, Nat.le_of_ble_eq_true rfl⟩) rfl rfl (Nat.le_of_ble_eq_true rfl) dX5_would_51 ?_
    exact aw_iretW C dX5_would_54 hf
  refine aw_bipush (v := (-2)) C dX5_would_22 (by decide) ?_
  exact aw_iretW C dX5_would_24 hf
theorem kX5_would {h : AH} {a1 : Int32} {a2 : Int32} {a3 : Int32} {r0 : Int32} {h0 : AH} (hi : Inj ad) (hf : fX5_would h a1 a2 a3 = some (r0, h0)) : Ki l yX5_would wsX5_would rmX5_would D ad cy tb [.ref (ad 0), .int a1, .int a2, .int a3] h r0 h0 := met_i (lv := [(0, .ref (ad 0)), (1, .int a1), (2, .int a2), (3, .int a3)]) hi (by decide) rfl (Nat.le_of_ble_eq_true rfl) rfl rfl (fun _ _ _ _ _ _ _ _ C => tX5_would_0 C  hf)
set_option maxRecDepth 20000 in
theorem ggX6_wouldBe_X6_slides : GoodIn wsX6_wouldBe wsX6_slides := goodIn_r _ [11, 12, 13, 14, 15, 10, 16, 17, 18, 19, 20, 21, 22, 23, 24, 4, 25, 26, 27, 28, 29, 30, 31, 32, 33, 34, 35, 36, 37, 38, 39, 40, 41, 42, 43, 44, 45, 46, 47, 48, 49, 50, 51, 52, 2, 53, 54, 55, 56, 57, 58, 59, 60, 61, 62, 63, 64, 65, 66, 67, 1, 6, 72, 73, 74, 75, 76, 77, 78, 79, 80, 81, 82, 83, 84, 85, 86, 87, 88, 89] (by decide +kernel) (by decide +kernel)
set_option maxRecDepth 20000 in
theorem gX6_wouldBe_X6_slides : GoodIn wsX6_wouldBe (wsV RX6 162 RX6 yX6_slides wsX6_slides) := goodIn_app (goodIn_of _ (by decide +kernel)) ggX6_wouldBe_X6_slides
set_option maxRecDepth 20000 in
theorem ggX6_wouldBe_X6_wrongMany : GoodIn wsX6_wouldBe wsX6_wrongMany := goodIn_r _ [71, 4, 72, 73, 74, 75, 76, 77, 78, 79, 80, 81, 82, 83, 84, 85, 86, 87, 88, 89] (by decide +kernel) (by decide +kernel)
set_option maxRecDepth 20000 in
theorem gX6_wouldBe_X6_wrongMany : GoodIn wsX6_wouldBe (wsV RX6 98 RX6 yX6_wrongMany wsX6_wrongMany) := goodIn_app (goodIn_of _ (by decide +kernel)) ggX6_wouldBe_X6_wrongMany
theorem dX6_wouldBe_0 : decode cX6_wouldBe 0 = .ok (.aload_n 0, 1) := by decide +kernel
theorem dX6_wouldBe_1 : decode cX6_wouldBe 1 = .ok (.getfield 85, 3) := by decide +kernel
theorem dX6_wouldBe_4 : decode cX6_wouldBe 4 = .ok (.istore 4, 2) := by decide +kernel
theorem dX6_wouldBe_6 : decode cX6_wouldBe 6 = .ok (.aload_n 0, 1) := by decide +kernel
theorem dX6_wouldBe_7 : decode cX6_wouldBe 7 = .ok (.getfield 109, 3) := by decide +kernel
theorem dX6_wouldBe_10 : decode cX6_wouldBe 10 = .ok (.istore 5, 2) := by decide +kernel
theorem dX6_wouldBe_12 : decode cX6_wouldBe 12 = .ok (.iconst 0, 1) := by decide +kernel
theorem dX6_wouldBe_13 : decode cX6_wouldBe 13 = .ok (.istore 6, 2) := by decide +kernel
theorem dX6_wouldBe_15 : decode cX6_wouldBe 15 = .ok (.iload 6, 2) := by decide +kernel
theorem dX6_wouldBe_17 : decode cX6_wouldBe 17 = .ok (.sipush 448, 3) := by decide +kernel
theorem dX6_wouldBe_20 : decode cX6_wouldBe 20 = .ok (.if_icmp .ge 23, 3) := by decide +kernel
theorem dX6_wouldBe_23 : decode cX6_wouldBe 23 = .ok (.aload_n 0, 1) := by decide +kernel
theorem dX6_wouldBe_24 : decode cX6_wouldBe 24 = .ok (.getfield 36, 3) := by decide +kernel
theorem dX6_wouldBe_27 : decode cX6_wouldBe 27 = .ok (.iload 6, 2) := by decide +kernel
theorem dX6_wouldBe_29 : decode cX6_wouldBe 29 = .ok (.aload_n 0, 1) := by decide +kernel
theorem dX6_wouldBe_30 : decode cX6_wouldBe 30 = .ok (.getfield 21, 3) := by decide +kernel
theorem dX6_wouldBe_33 : decode cX6_wouldBe 33 = .ok (.iload 6, 2) := by decide +kernel
theorem dX6_wouldBe_35 : decode cX6_wouldBe 35 = .ok (.baload, 1) := by decide +kernel
theorem dX6_wouldBe_36 : decode cX6_wouldBe 36 = .ok (.bastore, 1) := by decide +kernel
theorem dX6_wouldBe_37 : decode cX6_wouldBe 37 = .ok (.iinc 6 1, 3) := by decide +kernel
theorem dX6_wouldBe_40 : decode cX6_wouldBe 40 = .ok (.goto (-25), 3) := by decide +kernel
theorem dX6_wouldBe_43 : decode cX6_wouldBe 43 = .ok (.iconst 0, 1) := by decide +kernel
theorem dX6_wouldBe_44 : decode cX6_wouldBe 44 = .ok (.istore 6, 2) := by decide +kernel
theorem dX6_wouldBe_46 : decode cX6_wouldBe 46 = .ok (.iload 6, 2) := by decide +kernel
theorem dX6_wouldBe_48 : decode cX6_wouldBe 48 = .ok (.bipush 60, 2) := by decide +kernel
theorem dX6_wouldBe_50 : decode cX6_wouldBe 50 = .ok (.if_icmp .ge 23, 3) := by decide +kernel
theorem dX6_wouldBe_53 : decode cX6_wouldBe 53 = .ok (.aload_n 0, 1) := by decide +kernel
theorem dX6_wouldBe_54 : decode cX6_wouldBe 54 = .ok (.getfield 39, 3) := by decide +kernel
theorem dX6_wouldBe_57 : decode cX6_wouldBe 57 = .ok (.iload 6, 2) := by decide +kernel
theorem dX6_wouldBe_59 : decode cX6_wouldBe 59 = .ok (.aload_n 0, 1) := by decide +kernel
theorem dX6_wouldBe_60 : decode cX6_wouldBe 60 = .ok (.getfield 27, 3) := by decide +kernel
theorem dX6_wouldBe_63 : decode cX6_wouldBe 63 = .ok (.iload 6, 2) := by decide +kernel
theorem dX6_wouldBe_65 : decode cX6_wouldBe 65 = .ok (.iaload, 1) := by decide +kernel
theorem dX6_wouldBe_66 : decode cX6_wouldBe 66 = .ok (.iastore, 1) := by decide +kernel
theorem dX6_wouldBe_67 : decode cX6_wouldBe 67 = .ok (.iinc 6 1, 3) := by decide +kernel
theorem dX6_wouldBe_70 : decode cX6_wouldBe 70 = .ok (.goto (-24), 3) := by decide +kernel
theorem dX6_wouldBe_73 : decode cX6_wouldBe 73 = .ok (.aload_n 0, 1) := by decide +kernel
theorem dX6_wouldBe_74 : decode cX6_wouldBe 74 = .ok (.iload_n 3, 1) := by decide +kernel
theorem dX6_wouldBe_75 : decode cX6_wouldBe 75 = .ok (.putfield 109, 3) := by decide +kernel
theorem dX6_wouldBe_78 : decode cX6_wouldBe 78 = .ok (.aload_n 0, 1) := by decide +kernel
theorem dX6_wouldBe_79 : decode cX6_wouldBe 79 = .ok (.iload_n 1, 1) := by decide +kernel
theorem dX6_wouldBe_80 : decode cX6_wouldBe 80 = .ok (.iload_n 2, 1) := by decide +kernel
theorem dX6_wouldBe_81 : decode cX6_wouldBe 81 = .ok (.invokevirtual 162, 3) := by decide +kernel
theorem dX6_wouldBe_84 : decode cX6_wouldBe 84 = .ok (.aload_n 0, 1) := by decide +kernel
theorem dX6_wouldBe_85 : decode cX6_wouldBe 85 = .ok (.invokevirtual 98, 3) := by decide +kernel
theorem dX6_wouldBe_88 : decode cX6_wouldBe 88 = .ok (.istore 6, 2) := by decide +kernel
theorem dX6_wouldBe_90 : decode cX6_wouldBe 90 = .ok (.iconst 0, 1) := by decide +kernel
theorem dX6_wouldBe_91 : decode cX6_wouldBe 91 = .ok (.istore 7, 2) := by decide +kernel
theorem dX6_wouldBe_93 : decode cX6_wouldBe 93 = .ok (.iload 7, 2) := by decide +kernel
theorem dX6_wouldBe_95 : decode cX6_wouldBe 95 = .ok (.sipush 448, 3) := by decide +kernel
theorem dX6_wouldBe_98 : decode cX6_wouldBe 98 = .ok (.if_icmp .ge 23, 3) := by decide +kernel
theorem dX6_wouldBe_101 : decode cX6_wouldBe 101 = .ok (.aload_n 0, 1) := by decide +kernel
theorem dX6_wouldBe_102 : decode cX6_wouldBe 102 = .ok (.getfield 21, 3) := by decide +kernel
theorem dX6_wouldBe_105 : decode cX6_wouldBe 105 = .ok (.iload 7, 2) := by decide +kernel
theorem dX6_wouldBe_107 : decode cX6_wouldBe 107 = .ok (.aload_n 0, 1) := by decide +kernel
theorem dX6_wouldBe_108 : decode cX6_wouldBe 108 = .ok (.getfield 36, 3) := by decide +kernel
theorem dX6_wouldBe_111 : decode cX6_wouldBe 111 = .ok (.iload 7, 2) := by decide +kernel
theorem dX6_wouldBe_113 : decode cX6_wouldBe 113 = .ok (.baload, 1) := by decide +kernel
theorem dX6_wouldBe_114 : decode cX6_wouldBe 114 = .ok (.bastore, 1) := by decide +kernel
theorem dX6_wouldBe_115 : decode cX6_wouldBe 115 = .ok (.iinc 7 1, 3) := by decide +kernel
theorem dX6_wouldBe_118 : decode cX6_wouldBe 118 = .ok (.goto (-25), 3) := by decide +kernel
theorem dX6_wouldBe_121 : decode cX6_wouldBe 121 = .ok (.iconst 0, 1) := by decide +kernel
theorem dX6_wouldBe_122 : decode cX6_wouldBe 122 = .ok (.istore 7, 2) := by decide +kernel
theorem dX6_wouldBe_124 : decode cX6_wouldBe 124 = .ok (.iload 7, 2) := by decide +kernel
theorem dX6_wouldBe_126 : decode cX6_wouldBe 126 = .ok (.bipush 60, 2) := by decide +kernel
theorem dX6_wouldBe_128 : decode cX6_wouldBe 128 = .ok (.if_icmp .ge 23, 3) := by decide +kernel
theorem dX6_wouldBe_131 : decode cX6_wouldBe 131 = .ok (.aload_n 0, 1) := by decide +kernel
theorem dX6_wouldBe_132 : decode cX6_wouldBe 132 = .ok (.getfield 27, 3) := by decide +kernel
theorem dX6_wouldBe_135 : decode cX6_wouldBe 135 = .ok (.iload 7, 2) := by decide +kernel
theorem dX6_wouldBe_137 : decode cX6_wouldBe 137 = .ok (.aload_n 0, 1) := by decide +kernel
theorem dX6_wouldBe_138 : decode cX6_wouldBe 138 = .ok (.getfield 39, 3) := by decide +kernel
theorem dX6_wouldBe_141 : decode cX6_wouldBe 141 = .ok (.iload 7, 2) := by decide +kernel
theorem dX6_wouldBe_143 : decode cX6_wouldBe 143 = .ok (.iaload, 1) := by decide +kernel
theorem dX6_wouldBe_144 : decode cX6_wouldBe 144 = .ok (.iastore, 1) := by decide +kernel
theorem dX6_wouldBe_145 : decode cX6_wouldBe 145 = .ok (.iinc 7 1, 3) := by decide +kernel
theorem dX6_wouldBe_148 : decode cX6_wouldBe 148 = .ok (.goto (-24), 3) := by decide +kernel
theorem dX6_wouldBe_151 : decode cX6_wouldBe 151 = .ok (.aload_n 0, 1) := by decide +kernel
theorem dX6_wouldBe_152 : decode cX6_wouldBe 152 = .ok (.iload 4, 2) := by decide +kernel
theorem dX6_wouldBe_154 : decode cX6_wouldBe 154 = .ok (.putfield 85, 3) := by decide +kernel
theorem dX6_wouldBe_157 : decode cX6_wouldBe 157 = .ok (.aload_n 0, 1) := by decide +kernel
theorem dX6_wouldBe_158 : decode cX6_wouldBe 158 = .ok (.iload 5, 2) := by decide +kernel
theorem dX6_wouldBe_160 : decode cX6_wouldBe 160 = .ok (.putfield 109, 3) := by decide +kernel
theorem dX6_wouldBe_163 : decode cX6_wouldBe 163 = .ok (.iload 6, 2) := by decide +kernel
theorem dX6_wouldBe_165 : decode cX6_wouldBe 165 = .ok (.ireturn, 1) := by decide +kernel
abbrev rmX6_wouldBe : Room := { frames := 10, cells := 0, slots := 0, locals := 243 }
set_option maxRecDepth 100000 in
theorem hinX6_wouldBe_6 : ∀ w ∈ wsX60, w ∈ wsX6_wouldBe := by decide +kernel
def fX6_wouldBe_124b (k124 : AH → Int32 → Int32 → Int32 → Int32 → Option (Int32 × AH)) (a1 : Int32) (a2 : Int32) (a3 : Int32) (h : AH) (x4 : Int32) (x5 : Int32) (x6 : Int32) (x7 : Int32) : Option (Int32 × AH) :=
  if 60 ≤ x7 then (
    nm (sI h 29 7 x4) fun h1 =>
    nm (sI h1 29 1 x5) fun h2 =>
    some (x6, h2)) else (
  ck (inb x7 60) <|
  ck (inb x7 60) <|
  nm (sI h 34 x7.toNatClampNeg (h.1 38 x7.toNatClampNeg)) fun h3 =>
  nm (x7 + 1) fun v4 =>
  k124 h3 x4 x5 x6 v4)
set_option maxHeartbeats 4000000 in
set_option maxRecDepth 100000 in
theorem tX6_wouldBe_124b {h : AH} {a1 : Int32} {a2 : Int32} {a3 : Int32} {k124 : AH → Int32 → Int32 → Int32 → Int32 → Option (Int32 × AH)} {x4 : Int32} {x5 : Int32} {x6 : Int32} {x7 : Int32} {r0 : Int32} {h0 : AH} (C : Cx p rmX6_wouldBe s m args meth c RX6 cX6_wouldBe 8 (some .int) wsX6_wouldBe D ad cy tb 0 0) (H124 : ∀ (h : AH) (x4 : Int32) (x5 : Int32) (x6 : Int32) (x7 : Int32), k124 h x4 x5 x6 x7 = some (r0, h0) → AW p l e rmX6_wouldBe s m args below meth c 8 D ad cy 0 0 (Qi D ad cy below args s r0 h0) 124 [(0, .ref (ad 29)), (1, .int a1), (2, .int a2), (3, .int a3), (4, .int x4), (5, .int x5), (6, .int x6), (7, .int x7)] [] h) (hf : fX6_wouldBe_124b k124 a1 a2 a3 h x4 x5 x6 x7 = some (r0, h0)) : AW p l e rmX6_wouldBe s m args below meth c 8 D ad cy 0 0 (Qi D ad cy below args s r0 h0) 124 [(0, .ref (ad 29)), (1, .int a1), (2, .int a2), (3, .int a3), (4, .int x4), (5, .int x5), (6, .int x6), (7, .int x7)] [] h := by
  unfold fX6_wouldBe_124b at hf
  refine aw_iload C dX6_wouldBe_124 7 rfl ?_
  refine aw_bipush (v := 60) C dX6_wouldBe_126 (by decide) ?_
  refine aw_icmp_ge (tgt := 151) C dX6_wouldBe_128 (by decide) hf (fun hf => ?_) (fun hf => ?_)
  · refine aw_aload_n C dX6_wouldBe_151 rfl 0 rfl ?_
    refine aw_iload C dX6_wouldBe_152 4 rfl ?_
    refine aw_put (ty := .int) C (kd_lt rfl (by decide)) (ce_6 rfl) rfl hinX6_wouldBe_6 tyX6 tyX6_ok nmX6 7 (by decide) rfl (by decide +kernel) rfl (by decide +kernel) rfl rfl (Nat.le_of_ble_eq_true rfl) (cs_6_7 rfl) dX6_wouldBe_154 ?_
    refine aw_nmH hf (fun h1 hf => ?_)
    refine aw_aload_n C dX6_wouldBe_157 rfl 0 rfl ?_
    refine aw_iload C dX6_wouldBe_158 5 rfl ?_
    refine aw_put (ty := .int) C (kd_lt rfl (by decide)) (ce_6 rfl) rfl hinX6_wouldBe_6 tyX6 tyX6_ok nmX6 1 (by decide) rfl (by decide +kernel) rfl (by decide +kernel) rfl rfl (Nat.le_of_ble_eq_true rfl) (cs_6_1 rfl) dX6_wouldBe_160 ?_
    refine aw_nmH hf (fun h2 hf => ?_)
    refine aw_iload C dX6_wouldBe_163 6 rfl ?_
    exact aw_iretW C dX6_wouldBe_165 hf
  refine aw_aload_n C dX6_wouldBe_131 rfl 0 rfl ?_
  refine aw_get C (kd_lt rfl (by decide)) (ce_6 rfl) rfl hinX6_wouldBe_6 6 (by decide) rfl (by decide +kernel) rfl dX6_wouldBe_132 ?_
  refine aw_iload C dX6_wouldBe_135 7 rfl ?_
  refine aw_aload_n C dX6_wouldBe_137 rfl 0 rfl ?_
  refine aw_get C (kd_lt rfl (by decide)) (ce_6 rfl) rfl hinX6_wouldBe_6 12 (by decide) rfl (by decide +kernel) rfl dX6_wouldBe_138 ?_
  refine aw_iload C dX6_wouldBe_141 7 rfl ?_
  refine aw_iald C rfl rfl hf dX6_wouldBe_143 (fun hf => ?_)
  refine aw_iast C rfl rfl hf dX6_wouldBe_144 (fun hf => ?_)
  refine aw_nmH hf (fun h3 hf => ?_)
  obtain ⟨v4, hvv4, hf⟩ := nm_ex hf
  refine aw_iinc (j := 7) (v := v4) (lv1 := [(7, .int v4), (0, .ref (ad 29)), (1, .int a1), (2, .int a2), (3, .int a3), (4, .int x4), (5, .int x5), (6, .int x6)]) C dX6_wouldBe_145 rfl hvv4 (by decide) rfl ?_
  refine aw_goto (tgt := 124) C dX6_wouldBe_148 (by decide) ?_
  refine aw_sub [1, 2, 3, 4, 5, 6, 7, 0] rfl ?_
  exact H124 h3 x4 x5 x6 v4 hf
def fX6_wouldBe_124 (a1 : Int32) (a2 : Int32) (a3 : Int32) : Nat → AH → Int32 → Int32 → Int32 → Int32 → Option (Int32 × AH)
  | 0, _, _, _, _, _ => none
  | n + 1, h, x4, x5, x6, x7 => fX6_wouldBe_124b (fX6_wouldBe_124 a1 a2 a3 n) a1 a2 a3 h x4 x5 x6 x7
set_option maxHeartbeats 4000000 in
set_option maxRecDepth 100000 in
theorem tX6_wouldBe_124  {a1 : Int32} {a2 : Int32} {a3 : Int32} {r0 : Int32} {h0 : AH} (C : Cx p rmX6_wouldBe s m args meth c RX6 cX6_wouldBe 8 (some .int) wsX6_wouldBe D ad cy tb 0 0) : ∀ (n : Nat) (h : AH) (x4 : Int32) (x5 : Int32) (x6 : Int32) (x7 : Int32), fX6_wouldBe_124 a1 a2 a3 n h x4 x5 x6 x7 = some (r0, h0) → AW p l e rmX6_wouldBe s m args below meth c 8 D ad cy 0 0 (Qi D ad cy below args s r0 h0) 124 [(0, .ref (ad 29)), (1, .int a1), (2, .int a2), (3, .int a3), (4, .int x4), (5, .int x5), (6, .int x6), (7, .int x7)] [] h := by
  intro n
  induction n with
  | zero => intro h x4 x5 x6 x7 hf; cases hf
  | succ n ih => intro h x4 x5 x6 x7 hf; exact tX6_wouldBe_124b C  ih  hf
def fX6_wouldBe_93b (k93 : AH → Int32 → Int32 → Int32 → Int32 → Option (Int32 × AH)) (a1 : Int32) (a2 : Int32) (a3 : Int32) (h : AH) (x4 : Int32) (x5 : Int32) (x6 : Int32) (x7 : Int32) : Option (Int32 × AH) :=
  if 448 ≤ x7 then (
    fX6_wouldBe_124  a1 a2 a3 FU h x4 x5 x6 0) else (
  ck (inb x7 448) <|
  ck (inb x7 448) <|
  nm (sI h 32 x7.toNatClampNeg (vp_nar .boolean (h.1 37 x7.toNatClampNeg))) fun h1 =>
  nm (x7 + 1) fun v2 =>
  k93 h1 x4 x5 x6 v2)
set_option maxHeartbeats 4000000 in
set_option maxRecDepth 100000 in
theorem tX6_wouldBe_93b {h : AH} {a1 : Int32} {a2 : Int32} {a3 : Int32} {k93 : AH → Int32 → Int32 → Int32 → Int32 → Option (Int32 × AH)} {x4 : Int32} {x5 : Int32} {x6 : Int32} {x7 : Int32} {r0 : Int32} {h0 : AH} (C : Cx p rmX6_wouldBe s m args meth c RX6 cX6_wouldBe 8 (some .int) wsX6_wouldBe D ad cy tb 0 0) (H93 : ∀ (h : AH) (x4 : Int32) (x5 : Int32) (x6 : Int32) (x7 : Int32), k93 h x4 x5 x6 x7 = some (r0, h0) → AW p l e rmX6_wouldBe s m args below meth c 8 D ad cy 0 0 (Qi D ad cy below args s r0 h0) 93 [(0, .ref (ad 29)), (1, .int a1), (2, .int a2), (3, .int a3), (4, .int x4), (5, .int x5), (6, .int x6), (7, .int x7)] [] h) (hf : fX6_wouldBe_93b k93 a1 a2 a3 h x4 x5 x6 x7 = some (r0, h0)) : AW p l e rmX6_wouldBe s m args below meth c 8 D ad cy 0 0 (Qi D ad cy below args s r0 h0) 93 [(0, .ref (ad 29)), (1, .int a1), (2, .int a2), (3, .int a3), (4, .int x4), (5, .int x5), (6, .int x6), (7, .int x7)] [] h := by
  unfold fX6_wouldBe_93b at hf
  refine aw_iload C dX6_wouldBe_93 7 rfl ?_
  refine aw_sipush (v := 448) C dX6_wouldBe_95 (by decide) ?_
  refine aw_icmp_ge (tgt := 121) C dX6_wouldBe_98 (by decide) hf (fun hf => ?_) (fun hf => ?_)
  · refine aw_iconst (v := 0) C dX6_wouldBe_121 (by decide) ?_
    refine aw_istore (lv1 := [(7, .int 0), (0, .ref (ad 29)), (1, .int a1), (2, .int a2), (3, .int a3), (4, .int x4), (5, .int x5), (6, .int x6)]) C dX6_wouldBe_122 (by decide) rfl ?_
    refine aw_sub [1, 2, 3, 4, 5, 6, 7, 0] rfl ?_
    exact tX6_wouldBe_124 C   FU h x4 x5 x6 0 hf
  refine aw_aload_n C dX6_wouldBe_101 rfl 0 rfl ?_
  refine aw_get C (kd_lt rfl (by decide)) (ce_6 rfl) rfl hinX6_wouldBe_6 4 (by decide) rfl (by decide +kernel) rfl dX6_wouldBe_102 ?_
  refine aw_iload C dX6_wouldBe_105 7 rfl ?_
  refine aw_aload_n C dX6_wouldBe_107 rfl 0 rfl ?_
  refine aw_get C (kd_lt rfl (by decide)) (ce_6 rfl) rfl hinX6_wouldBe_6 11 (by decide) rfl (by decide +kernel) rfl dX6_wouldBe_108 ?_
  refine aw_iload C dX6_wouldBe_111 7 rfl ?_
  refine aw_zald C rfl rfl hf dX6_wouldBe_113 (fun hf => ?_)
  refine aw_zast C rfl rfl hf dX6_wouldBe_114 (fun hf => ?_)
  refine aw_nmH hf (fun h1 hf => ?_)
  obtain ⟨v2, hvv2, hf⟩ := nm_ex hf
  refine aw_iinc (j := 7) (v := v2) (lv1 := [(7, .int v2), (0, .ref (ad 29)), (1, .int a1), (2, .int a2), (3, .int a3), (4, .int x4), (5, .int x5), (6, .int x6)]) C dX6_wouldBe_115 rfl hvv2 (by decide) rfl ?_
  refine aw_goto (tgt := 93) C dX6_wouldBe_118 (by decide) ?_
  refine aw_sub [1, 2, 3, 4, 5, 6, 7, 0] rfl ?_
  exact H93 h1 x4 x5 x6 v2 hf
def fX6_wouldBe_93 (a1 : Int32) (a2 : Int32) (a3 : Int32) : Nat → AH → Int32 → Int32 → Int32 → Int32 → Option (Int32 × AH)
  | 0, _, _, _, _, _ => none
  | n + 1, h, x4, x5, x6, x7 => fX6_wouldBe_93b (fX6_wouldBe_93 a1 a2 a3 n) a1 a2 a3 h x4 x5 x6 x7
set_option maxHeartbeats 4000000 in
set_option maxRecDepth 100000 in
theorem tX6_wouldBe_93  {a1 : Int32} {a2 : Int32} {a3 : Int32} {r0 : Int32} {h0 : AH} (C : Cx p rmX6_wouldBe s m args meth c RX6 cX6_wouldBe 8 (some .int) wsX6_wouldBe D ad cy tb 0 0) : ∀ (n : Nat) (h : AH) (x4 : Int32) (x5 : Int32) (x6 : Int32) (x7 : Int32), fX6_wouldBe_93 a1 a2 a3 n h x4 x5 x6 x7 = some (r0, h0) → AW p l e rmX6_wouldBe s m args below meth c 8 D ad cy 0 0 (Qi D ad cy below args s r0 h0) 93 [(0, .ref (ad 29)), (1, .int a1), (2, .int a2), (3, .int a3), (4, .int x4), (5, .int x5), (6, .int x6), (7, .int x7)] [] h := by
  intro n
  induction n with
  | zero => intro h x4 x5 x6 x7 hf; cases hf
  | succ n ih => intro h x4 x5 x6 x7 hf; exact tX6_wouldBe_93b C  ih  hf
def fX6_wouldBe_46b (k46 : AH → Int32 → Int32 → Int32 → Option (Int32 × AH)) (a1 : Int32) (a2 : Int32) (a3 : Int32) (h : AH) (x4 : Int32) (x5 : Int32) (x6 : Int32) : Option (Int32 × AH) :=
  if 60 ≤ x6 then (
    nm (sI h 29 1 a3) fun h1 =>
    bR (fX6_slides h1 a1 a2) fun h2 =>
    bR (fX6_wrongMany h2 ) fun r3 =>
    fX6_wouldBe_93  a1 a2 a3 FU h2 x4 x5 r3 0) else (
  ck (inb x6 60) <|
  ck (inb x6 60) <|
  nm (sI h 38 x6.toNatClampNeg (h.1 34 x6.toNatClampNeg)) fun h4 =>
  nm (x6 + 1) fun v5 =>
  k46 h4 x4 x5 v5)
set_option maxHeartbeats 4000000 in
set_option maxRecDepth 100000 in
theorem tX6_wouldBe_46b {h : AH} {a1 : Int32} {a2 : Int32} {a3 : Int32} {k46 : AH → Int32 → Int32 → Int32 → Option (Int32 × AH)} {x4 : Int32} {x5 : Int32} {x6 : Int32} {r0 : Int32} {h0 : AH} (C : Cx p rmX6_wouldBe s m args meth c RX6 cX6_wouldBe 8 (some .int) wsX6_wouldBe D ad cy tb 0 0) (H46 : ∀ (h : AH) (x4 : Int32) (x5 : Int32) (x6 : Int32), k46 h x4 x5 x6 = some (r0, h0) → AW p l e rmX6_wouldBe s m args below meth c 8 D ad cy 0 0 (Qi D ad cy below args s r0 h0) 46 [(0, .ref (ad 29)), (1, .int a1), (2, .int a2), (3, .int a3), (4, .int x4), (5, .int x5), (6, .int x6)] [] h) (hf : fX6_wouldBe_46b k46 a1 a2 a3 h x4 x5 x6 = some (r0, h0)) : AW p l e rmX6_wouldBe s m args below meth c 8 D ad cy 0 0 (Qi D ad cy below args s r0 h0) 46 [(0, .ref (ad 29)), (1, .int a1), (2, .int a2), (3, .int a3), (4, .int x4), (5, .int x5), (6, .int x6)] [] h := by
  unfold fX6_wouldBe_46b at hf
  refine aw_iload C dX6_wouldBe_46 6 rfl ?_
  refine aw_bipush (v := 60) C dX6_wouldBe_48 (by decide) ?_
  refine aw_icmp_ge (tgt := 73) C dX6_wouldBe_50 (by decide) hf (fun hf => ?_) (fun hf => ?_)
  · refine aw_aload_n C dX6_wouldBe_73 rfl 0 rfl ?_
    refine aw_iload_n C dX6_wouldBe_74 rfl 3 rfl ?_
    refine aw_put (ty := .int) C (kd_lt rfl (by decide)) (ce_6 rfl) rfl hinX6_wouldBe_6 tyX6 tyX6_ok nmX6 1 (by decide) rfl (by decide +kernel) rfl (by decide +kernel) rfl rfl (Nat.le_of_ble_eq_true rfl) (cs_6_1 rfl) dX6_wouldBe_75 ?_
    refine aw_nmH hf (fun h1 hf => ?_)
    refine aw_aload_n C dX6_wouldBe_78 rfl 0 rfl ?_
    refine aw_iload_n C dX6_wouldBe_79 rfl 1 rfl ?_
    refine aw_iload_n C dX6_wouldBe_80 rfl 2 rfl ?_
    obtain ⟨h2, hc, hf⟩ := bR_some hf
    refine aw_callVv (As := [.int a1, .int a2]) (rest := []) C rfl (by decide) rfl (kX6_slides (l := l) (D := D) (ad := ad) (cy := cy) (tb := tb) C.2.2.2.2.2.2.2.2.1 hc) (fun ht _ => cwV 2 ht gX6_wouldBe_X6_slides rfl rfl rfl (by decide +kernel) ⟨Nat.le_of_ble_eq_true rfl, Nat.le_of_ble_eq_true rfl⟩) rfl rfl (Nat.le_of_ble_eq_true rfl) dX6_wouldBe_81 ?_
    refine aw_aload_n C dX6_wouldBe_84 rfl 0 rfl ?_
    obtain ⟨r3, hc, hf⟩ := bR_some hf
    refine aw_callVi (As := []) (rest := []) C rfl (by decide) rfl (kX6_wrongMany (l := l) (D := D) (ad := ad) (cy := cy) (tb := tb) C.2.2.2.2.2.2.2.2.1 hc) (fun ht _ => cwV 0 ht gX6_wouldBe_X6_wrongMany rfl rfl rfl (by decide +kernel) ⟨Nat.le_of_ble_eq_true rfl, Nat.le_of_ble_eq_true rfl⟩) rfl rfl (Nat.le_of_ble_eq_true rfl) dX6_wouldBe_85 ?_
    refine aw_istore (lv1 := [(6, .int r3), (0, .ref (ad 29)), (1, .int a1), (2, .int a2), (3, .int a3), (4, .int x4), (5, .int x5)]) C dX6_wouldBe_88 (by decide) rfl ?_
    refine aw_iconst (v := 0) C dX6_wouldBe_90 (by decide) ?_
    refine aw_istore (lv1 := [(7, .int 0), (6, .int r3), (0, .ref (ad 29)), (1, .int a1), (2, .int a2), (3, .int a3), (4, .int x4), (5, .int x5)]) C dX6_wouldBe_91 (by decide) rfl ?_
    refine aw_sub [2, 3, 4, 5, 6, 7, 1, 0] rfl ?_
    exact tX6_wouldBe_93 C   FU h2 x4 x5 r3 0 hf
  refine aw_aload_n C dX6_wouldBe_53 rfl 0 rfl ?_
  refine aw_get C (kd_lt rfl (by decide)) (ce_6 rfl) rfl hinX6_wouldBe_6 12 (by decide) rfl (by decide +kernel) rfl dX6_wouldBe_54 ?_
  refine aw_iload C dX6_wouldBe_57 6 rfl ?_
  refine aw_aload_n C dX6_wouldBe_59 rfl 0 rfl ?_
  refine aw_get C (kd_lt rfl (by decide)) (ce_6 rfl) rfl hinX6_wouldBe_6 6 (by decide) rfl (by decide +kernel) rfl dX6_wouldBe_60 ?_
  refine aw_iload C dX6_wouldBe_63 6 rfl ?_
  refine aw_iald C rfl rfl hf dX6_wouldBe_65 (fun hf => ?_)
  refine aw_iast C rfl rfl hf dX6_wouldBe_66 (fun hf => ?_)
  refine aw_nmH hf (fun h4 hf => ?_)
  obtain ⟨v5, hvv5, hf⟩ := nm_ex hf
  refine aw_iinc (j := 6) (v := v5) (lv1 := [(6, .int v5), (0, .ref (ad 29)), (1, .int a1), (2, .int a2), (3, .int a3), (4, .int x4), (5, .int x5)]) C dX6_wouldBe_67 rfl hvv5 (by decide) rfl ?_
  refine aw_goto (tgt := 46) C dX6_wouldBe_70 (by decide) ?_
  refine aw_sub [1, 2, 3, 4, 5, 6, 0] rfl ?_
  exact H46 h4 x4 x5 v5 hf
def fX6_wouldBe_46 (a1 : Int32) (a2 : Int32) (a3 : Int32) : Nat → AH → Int32 → Int32 → Int32 → Option (Int32 × AH)
  | 0, _, _, _, _ => none
  | n + 1, h, x4, x5, x6 => fX6_wouldBe_46b (fX6_wouldBe_46 a1 a2 a3 n) a1 a2 a3 h x4 x5 x6
set_option maxHeartbeats 4000000 in
set_option maxRecDepth 100000 in
theorem tX6_wouldBe_46  {a1 : Int32} {a2 : Int32} {a3 : Int32} {r0 : Int32} {h0 : AH} (C : Cx p rmX6_wouldBe s m args meth c RX6 cX6_wouldBe 8 (some .int) wsX6_wouldBe D ad cy tb 0 0) : ∀ (n : Nat) (h : AH) (x4 : Int32) (x5 : Int32) (x6 : Int32), fX6_wouldBe_46 a1 a2 a3 n h x4 x5 x6 = some (r0, h0) → AW p l e rmX6_wouldBe s m args below meth c 8 D ad cy 0 0 (Qi D ad cy below args s r0 h0) 46 [(0, .ref (ad 29)), (1, .int a1), (2, .int a2), (3, .int a3), (4, .int x4), (5, .int x5), (6, .int x6)] [] h := by
  intro n
  induction n with
  | zero => intro h x4 x5 x6 hf; cases hf
  | succ n ih => intro h x4 x5 x6 hf; exact tX6_wouldBe_46b C  ih  hf
def fX6_wouldBe_15b (k15 : AH → Int32 → Int32 → Int32 → Option (Int32 × AH)) (a1 : Int32) (a2 : Int32) (a3 : Int32) (h : AH) (x4 : Int32) (x5 : Int32) (x6 : Int32) : Option (Int32 × AH) :=
  if 448 ≤ x6 then (
    fX6_wouldBe_46  a1 a2 a3 FU h x4 x5 0) else (
  ck (inb x6 448) <|
  ck (inb x6 448) <|
  nm (sI h 37 x6.toNatClampNeg (vp_nar .boolean (h.1 32 x6.toNatClampNeg))) fun h1 =>
  nm (x6 + 1) fun v2 =>
  k15 h1 x4 x5 v2)
set_option maxHeartbeats 4000000 in
set_option maxRecDepth 100000 in
theorem tX6_wouldBe_15b {h : AH} {a1 : Int32} {a2 : Int32} {a3 : Int32} {k15 : AH → Int32 → Int32 → Int32 → Option (Int32 × AH)} {x4 : Int32} {x5 : Int32} {x6 : Int32} {r0 : Int32} {h0 : AH} (C : Cx p rmX6_wouldBe s m args meth c RX6 cX6_wouldBe 8 (some .int) wsX6_wouldBe D ad cy tb 0 0) (H15 : ∀ (h : AH) (x4 : Int32) (x5 : Int32) (x6 : Int32), k15 h x4 x5 x6 = some (r0, h0) → AW p l e rmX6_wouldBe s m args below meth c 8 D ad cy 0 0 (Qi D ad cy below args s r0 h0) 15 [(0, .ref (ad 29)), (1, .int a1), (2, .int a2), (3, .int a3), (4, .int x4), (5, .int x5), (6, .int x6)] [] h) (hf : fX6_wouldBe_15b k15 a1 a2 a3 h x4 x5 x6 = some (r0, h0)) : AW p l e rmX6_wouldBe s m args below meth c 8 D ad cy 0 0 (Qi D ad cy below args s r0 h0) 15 [(0, .ref (ad 29)), (1, .int a1), (2, .int a2), (3, .int a3), (4, .int x4), (5, .int x5), (6, .int x6)] [] h := by
  unfold fX6_wouldBe_15b at hf
  refine aw_iload C dX6_wouldBe_15 6 rfl ?_
  refine aw_sipush (v := 448) C dX6_wouldBe_17 (by decide) ?_
  refine aw_icmp_ge (tgt := 43) C dX6_wouldBe_20 (by decide) hf (fun hf => ?_) (fun hf => ?_)
  · refine aw_iconst (v := 0) C dX6_wouldBe_43 (by decide) ?_
    refine aw_istore (lv1 := [(6, .int 0), (0, .ref (ad 29)), (1, .int a1), (2, .int a2), (3, .int a3), (4, .int x4), (5, .int x5)]) C dX6_wouldBe_44 (by decide) rfl ?_
    refine aw_sub [1, 2, 3, 4, 5, 6, 0] rfl ?_
    exact tX6_wouldBe_46 C   FU h x4 x5 0 hf
  refine aw_aload_n C dX6_wouldBe_23 rfl 0 rfl ?_
  refine aw_get C (kd_lt rfl (by decide)) (ce_6 rfl) rfl hinX6_wouldBe_6 11 (by decide) rfl (by decide +kernel) rfl dX6_wouldBe_24 ?_
  refine aw_iload C dX6_wouldBe_27 6 rfl ?_
  refine aw_aload_n C dX6_wouldBe_29 rfl 0 rfl ?_
  refine aw_get C (kd_lt rfl (by decide)) (ce_6 rfl) rfl hinX6_wouldBe_6 4 (by decide) rfl (by decide +kernel) rfl dX6_wouldBe_30 ?_
  refine aw_iload C dX6_wouldBe_33 6 rfl ?_
  refine aw_zald C rfl rfl hf dX6_wouldBe_35 (fun hf => ?_)
  refine aw_zast C rfl rfl hf dX6_wouldBe_36 (fun hf => ?_)
  refine aw_nmH hf (fun h1 hf => ?_)
  obtain ⟨v2, hvv2, hf⟩ := nm_ex hf
  refine aw_iinc (j := 6) (v := v2) (lv1 := [(6, .int v2), (0, .ref (ad 29)), (1, .int a1), (2, .int a2), (3, .int a3), (4, .int x4), (5, .int x5)]) C dX6_wouldBe_37 rfl hvv2 (by decide) rfl ?_
  refine aw_goto (tgt := 15) C dX6_wouldBe_40 (by decide) ?_
  refine aw_sub [1, 2, 3, 4, 5, 6, 0] rfl ?_
  exact H15 h1 x4 x5 v2 hf
def fX6_wouldBe_15 (a1 : Int32) (a2 : Int32) (a3 : Int32) : Nat → AH → Int32 → Int32 → Int32 → Option (Int32 × AH)
  | 0, _, _, _, _ => none
  | n + 1, h, x4, x5, x6 => fX6_wouldBe_15b (fX6_wouldBe_15 a1 a2 a3 n) a1 a2 a3 h x4 x5 x6
set_option maxHeartbeats 4000000 in
set_option maxRecDepth 100000 in
theorem tX6_wouldBe_15  {a1 : Int32} {a2 : Int32} {a3 : Int32} {r0 : Int32} {h0 : AH} (C : Cx p rmX6_wouldBe s m args meth c RX6 cX6_wouldBe 8 (some .int) wsX6_wouldBe D ad cy tb 0 0) : ∀ (n : Nat) (h : AH) (x4 : Int32) (x5 : Int32) (x6 : Int32), fX6_wouldBe_15 a1 a2 a3 n h x4 x5 x6 = some (r0, h0) → AW p l e rmX6_wouldBe s m args below meth c 8 D ad cy 0 0 (Qi D ad cy below args s r0 h0) 15 [(0, .ref (ad 29)), (1, .int a1), (2, .int a2), (3, .int a3), (4, .int x4), (5, .int x5), (6, .int x6)] [] h := by
  intro n
  induction n with
  | zero => intro h x4 x5 x6 hf; cases hf
  | succ n ih => intro h x4 x5 x6 hf; exact tX6_wouldBe_15b C  ih  hf
def fX6_wouldBe (h : AH) (a1 : Int32) (a2 : Int32) (a3 : Int32) : Option (Int32 × AH) :=
  nm (h.1 29 7) fun v1 =>
  nm (h.1 29 1) fun v2 =>
  fX6_wouldBe_15  a1 a2 a3 FU h v1 v2 0
set_option maxHeartbeats 4000000 in
set_option maxRecDepth 100000 in
theorem tX6_wouldBe_0 {h : AH} {a1 : Int32} {a2 : Int32} {a3 : Int32} {r0 : Int32} {h0 : AH} (C : Cx p rmX6_wouldBe s m args meth c RX6 cX6_wouldBe 8 (some .int) wsX6_wouldBe D ad cy tb 0 0) (hf : fX6_wouldBe h a1 a2 a3 = some (r0, h0)) : AW p l e rmX6_wouldBe s m args below meth c 8 D ad cy 0 0 (Qi D ad cy below args s r0 h0) 0 [(0, .ref (ad 29)), (1, .int a1), (2, .int a2), (3, .int a3)] [] h := by
  unfold fX6_wouldBe at hf
  refine aw_aload_n C dX6_wouldBe_0 rfl 0 rfl ?_
  refine aw_get C (kd_lt rfl (by decide)) (ce_6 rfl) rfl hinX6_wouldBe_6 7 (by decide) rfl (by decide +kernel) rfl dX6_wouldBe_1 ?_
  refine aw_nmI hf (fun v1 hf => ?_)
  refine aw_istore (lv1 := [(4, .int v1), (0, .ref (ad 29)), (1, .int a1), (2, .int a2), (3, .int a3)]) C dX6_wouldBe_4 (by decide) rfl ?_
  refine aw_aload_n C dX6_wouldBe_6 rfl 1 rfl ?_
  refine aw_get C (kd_lt rfl (by decide)) (ce_6 rfl) rfl hinX6_wouldBe_6 1 (by decide) rfl (by decide +kernel) rfl dX6_wouldBe_7 ?_
  refine aw_nmI hf (fun v2 hf => ?_)
  refine aw_istore (lv1 := [(5, .int v2), (4, .int v1), (0, .ref (ad 29)), (1, .int a1), (2, .int a2), (3, .int a3)]) C dX6_wouldBe_10 (by decide) rfl ?_
  refine aw_iconst (v := 0) C dX6_wouldBe_12 (by decide) ?_
  refine aw_istore (lv1 := [(6, .int 0), (5, .int v2), (4, .int v1), (0, .ref (ad 29)), (1, .int a1), (2, .int a2), (3, .int a3)]) C dX6_wouldBe_13 (by decide) rfl ?_
  refine aw_sub [3, 4, 5, 6, 2, 1, 0] rfl ?_
  exact tX6_wouldBe_15 C   FU h v1 v2 0 hf
theorem kX6_wouldBe {h : AH} {a1 : Int32} {a2 : Int32} {a3 : Int32} {r0 : Int32} {h0 : AH} (hi : Inj ad) (hf : fX6_wouldBe h a1 a2 a3 = some (r0, h0)) : Ki l yX6_wouldBe wsX6_wouldBe rmX6_wouldBe D ad cy tb [.ref (ad 29), .int a1, .int a2, .int a3] h r0 h0 := met_i (lv := [(0, .ref (ad 29)), (1, .int a1), (2, .int a2), (3, .int a3)]) hi (by decide) rfl (Nat.le_of_ble_eq_true rfl) rfl rfl (fun _ _ _ _ _ _ _ _ C => tX6_wouldBe_0 C  hf)
set_option maxRecDepth 20000 in
theorem ggX6_would_X6_in : GoodIn wsX6_would wsX6_in := goodIn_r _ [5] (by decide +kernel) (by decide +kernel)
set_option maxRecDepth 20000 in
theorem gX6_would_X6_in : GoodIn wsX6_would (va_wsS RX6 73 yX6_in wsX6_in) := goodIn_app (goodIn_of _ (by decide +kernel)) ggX6_would_X6_in
set_option maxRecDepth 20000 in
theorem ggX6_would_X6_wouldBe : GoodIn wsX6_would wsX6_wouldBe := goodIn_r _ [9, 10, 11, 12, 13, 14, 15, 16, 17, 18, 4, 19, 1, 20, 21, 22, 23, 24, 25, 26, 27, 28, 29, 30, 31, 32, 33, 34, 35, 36, 37, 38, 39, 40, 41, 42, 43, 44, 45, 46, 47, 48, 49, 50, 51, 52, 53, 54, 55, 56, 57, 58, 59, 60, 61, 62, 63, 64, 65, 66, 67, 68, 69, 70, 71, 72, 73, 74, 75, 76, 77, 78, 79, 80, 81, 82, 83, 84, 85, 86, 87, 88, 89, 90, 91, 92, 93, 94, 95, 96] (by decide +kernel) (by decide +kernel)
set_option maxRecDepth 20000 in
theorem gX6_would_X6_wouldBe : GoodIn wsX6_would (wsV RX6 193 RX6 yX6_wouldBe wsX6_wouldBe) := goodIn_app (goodIn_of _ (by decide +kernel)) ggX6_would_X6_wouldBe
theorem dX6_would_0 : decode cX6_would 0 = .ok (.iload_n 1, 1) := by decide +kernel
theorem dX6_would_1 : decode cX6_would 1 = .ok (.iconst 2, 1) := by decide +kernel
theorem dX6_would_2 : decode cX6_would 2 = .ok (.aload_n 0, 1) := by decide +kernel
theorem dX6_would_3 : decode cX6_would 3 = .ok (.getfield 7, 3) := by decide +kernel
theorem dX6_would_6 : decode cX6_would 6 = .ok (.invokestatic 73, 3) := by decide +kernel
theorem dX6_would_9 : decode cX6_would 9 = .ok (.ifCond .eq 32, 3) := by decide +kernel
theorem dX6_would_12 : decode cX6_would 12 = .ok (.iload_n 2, 1) := by decide +kernel
theorem dX6_would_13 : decode cX6_would 13 = .ok (.iconst 1, 1) := by decide +kernel
theorem dX6_would_14 : decode cX6_would 14 = .ok (.bipush 9, 2) := by decide +kernel
theorem dX6_would_16 : decode cX6_would 16 = .ok (.invokestatic 73, 3) := by decide +kernel
theorem dX6_would_19 : decode cX6_would 19 = .ok (.ifCond .eq 22, 3) := by decide +kernel
theorem dX6_would_22 : decode cX6_would 22 = .ok (.iload_n 3, 1) := by decide +kernel
theorem dX6_would_23 : decode cX6_would 23 = .ok (.iconst 0, 1) := by decide +kernel
theorem dX6_would_24 : decode cX6_would 24 = .ok (.iconst 1, 1) := by decide +kernel
theorem dX6_would_25 : decode cX6_would 25 = .ok (.invokestatic 73, 3) := by decide +kernel
theorem dX6_would_28 : decode cX6_would 28 = .ok (.ifCond .eq 13, 3) := by decide +kernel
theorem dX6_would_31 : decode cX6_would 31 = .ok (.aload_n 0, 1) := by decide +kernel
theorem dX6_would_32 : decode cX6_would 32 = .ok (.iload_n 1, 1) := by decide +kernel
theorem dX6_would_33 : decode cX6_would 33 = .ok (.iload_n 2, 1) := by decide +kernel
theorem dX6_would_34 : decode cX6_would 34 = .ok (.iload_n 3, 1) := by decide +kernel
theorem dX6_would_35 : decode cX6_would 35 = .ok (.invokevirtual 193, 3) := by decide +kernel
theorem dX6_would_38 : decode cX6_would 38 = .ok (.goto 5, 3) := by decide +kernel
theorem dX6_would_41 : decode cX6_would 41 = .ok (.bipush (-2), 2) := by decide +kernel
theorem dX6_would_43 : decode cX6_would 43 = .ok (.ireturn, 1) := by decide +kernel
abbrev rmX6_would : Room := { frames := 11, cells := 0, slots := 0, locals := 270 }
set_option maxRecDepth 100000 in
theorem hinX6_would_6 : ∀ w ∈ wsX60, w ∈ wsX6_would := by decide +kernel
def fX6_would (h : AH) (a1 : Int32) (a2 : Int32) (a3 : Int32) : Option (Int32 × AH) :=
  bR (fX6_in h a1 2 (h.1 29 0)) fun r1 =>
  if r1 = 0 then (
    some ((-2), h)) else (
  bR (fX6_in h a2 1 9) fun r2 =>
  if r2 = 0 then (
    some ((-2), h)) else (
  bR (fX6_in h a3 0 1) fun r3 =>
  if r3 = 0 then (
    some ((-2), h)) else (
  bW (fX6_wouldBe h a1 a2 a3) fun r5 h4 =>
  some (r5, h4))))
set_option maxHeartbeats 4000000 in
set_option maxRecDepth 100000 in
theorem tX6_would_0 {h : AH} {a1 : Int32} {a2 : Int32} {a3 : Int32} {r0 : Int32} {h0 : AH} (C : Cx p rmX6_would s m args meth c RX6 cX6_would 4 (some .int) wsX6_would D ad cy tb 0 0) (hf : fX6_would h a1 a2 a3 = some (r0, h0)) : AW p l e rmX6_would s m args below meth c 4 D ad cy 0 0 (Qi D ad cy below args s r0 h0) 0 [(0, .ref (ad 29)), (1, .int a1), (2, .int a2), (3, .int a3)] [] h := by
  unfold fX6_would at hf
  refine aw_iload_n C dX6_would_0 rfl 1 rfl ?_
  refine aw_iconst (v := 2) C dX6_would_1 (by decide) ?_
  refine aw_aload_n C dX6_would_2 rfl 0 rfl ?_
  refine aw_get C (kd_lt rfl (by decide)) (ce_6 rfl) rfl hinX6_would_6 0 (by decide) rfl (by decide +kernel) rfl dX6_would_3 ?_
  obtain ⟨r1, hc, hf⟩ := bR_some hf
  refine aw_callSi (As := [.int a1, .int 2, .int (h.1 29 0)]) (rest := []) C (kX6_in (l := l) (D := D) (ad := ad) (cy := cy) (tb := tb) C.2.2.2.2.2.2.2.2.1 hc) (fun ht _ => va_cwS 3 ht gX6_would_X6_in rfl rfl rfl (by decide +kernel) ⟨Nat.le_of_ble_eq_true rfl, Nat.le_of_ble_eq_true rfl⟩) rfl rfl (Nat.le_of_ble_eq_true rfl) dX6_would_6 ?_
  refine aw_if_eq (tgt := 41) C dX6_would_9 (by decide) hf (fun hf => ?_) (fun hf => ?_)
  · refine aw_bipush (v := (-2)) C dX6_would_41 (by decide) ?_
    exact aw_iretW C dX6_would_43 hf
  refine aw_iload_n C dX6_would_12 rfl 2 rfl ?_
  refine aw_iconst (v := 1) C dX6_would_13 (by decide) ?_
  refine aw_bipush (v := 9) C dX6_would_14 (by decide) ?_
  obtain ⟨r2, hc, hf⟩ := bR_some hf
  refine aw_callSi (As := [.int a2, .int 1, .int 9]) (rest := []) C (kX6_in (l := l) (D := D) (ad := ad) (cy := cy) (tb := tb) C.2.2.2.2.2.2.2.2.1 hc) (fun ht _ => va_cwS 3 ht gX6_would_X6_in rfl rfl rfl (by decide +kernel) ⟨Nat.le_of_ble_eq_true rfl, Nat.le_of_ble_eq_true rfl⟩) rfl rfl (Nat.le_of_ble_eq_true rfl) dX6_would_16 ?_
  refine aw_if_eq (tgt := 41) C dX6_would_19 (by decide) hf (fun hf => ?_) (fun hf => ?_)
  · refine aw_bipush (v := (-2)) C dX6_would_41 (by decide) ?_
    exact aw_iretW C dX6_would_43 hf
  refine aw_iload_n C dX6_would_22 rfl 3 rfl ?_
  refine aw_iconst (v := 0) C dX6_would_23 (by decide) ?_
  refine aw_iconst (v := 1) C dX6_would_24 (by decide) ?_
  obtain ⟨r3, hc, hf⟩ := bR_some hf
  refine aw_callSi (As := [.int a3, .int 0, .int 1]) (rest := []) C (kX6_in (l := l) (D := D) (ad := ad) (cy := cy) (tb := tb) C.2.2.2.2.2.2.2.2.1 hc) (fun ht _ => va_cwS 3 ht gX6_would_X6_in rfl rfl rfl (by decide +kernel) ⟨Nat.le_of_ble_eq_true rfl, Nat.le_of_ble_eq_true rfl⟩) rfl rfl (Nat.le_of_ble_eq_true rfl) dX6_would_25 ?_
  refine aw_if_eq (tgt := 41) C dX6_would_28 (by decide) hf (fun hf => ?_) (fun hf => ?_)
  · refine aw_bipush (v := (-2)) C dX6_would_41 (by decide) ?_
    exact aw_iretW C dX6_would_43 hf
  refine aw_aload_n C dX6_would_31 rfl 0 rfl ?_
  refine aw_iload_n C dX6_would_32 rfl 1 rfl ?_
  refine aw_iload_n C dX6_would_33 rfl 2 rfl ?_
  refine aw_iload_n C dX6_would_34 rfl 3 rfl ?_
  obtain ⟨r5, h4, hc, hf⟩ := bW_some hf
  refine aw_callVi (As := [.int a1, .int a2, .int a3]) (rest := []) C rfl (by decide) rfl (kX6_wouldBe (l := l) (D := D) (ad := ad) (cy := cy) (tb := tb) C.2.2.2.2.2.2.2.2.1 hc) (fun ht _ => cwV 3 ht gX6_would_X6_wouldBe rfl rfl rfl (by decide +kernel) ⟨Nat.le_of_ble_eq_true rfl, Nat.le_of_ble_eq_true rfl⟩) rfl rfl (Nat.le_of_ble_eq_true rfl) dX6_would_35 ?_
  refine aw_goto (tgt := 43) C dX6_would_38 (by decide) ?_
  exact aw_iretW C dX6_would_43 hf
theorem kX6_would {h : AH} {a1 : Int32} {a2 : Int32} {a3 : Int32} {r0 : Int32} {h0 : AH} (hi : Inj ad) (hf : fX6_would h a1 a2 a3 = some (r0, h0)) : Ki l yX6_would wsX6_would rmX6_would D ad cy tb [.ref (ad 29), .int a1, .int a2, .int a3] h r0 h0 := met_i (lv := [(0, .ref (ad 29)), (1, .int a1), (2, .int a2), (3, .int a3)]) hi (by decide) rfl (Nat.le_of_ble_eq_true rfl) rfl rfl (fun _ _ _ _ _ _ _ _ C => tX6_would_0 C  hf)
set_option maxRecDepth 20000 in
theorem ggX5_best_X5_isTurns : GoodIn wsX5_best wsX5_isTurns := goodIn_r _ [6] (by decide +kernel) (by decide +kernel)
set_option maxRecDepth 20000 in
theorem gX5_best_X5_isTurns : GoodIn wsX5_best (va_wsS RX5 186 yX5_isTurns wsX5_isTurns) := goodIn_app (goodIn_of _ (by decide +kernel)) ggX5_best_X5_isTurns
set_option maxRecDepth 20000 in
theorem ggX5_best_X5_would : GoodIn wsX5_best wsX5_would := goodIn_r _ [10, 11, 2, 12, 13, 14, 5, 15, 3, 4, 6, 16, 17, 18, 19, 20, 21, 22, 23, 24, 25, 26, 27, 28, 29, 30, 31, 32, 33, 34, 35, 36, 37, 38, 39, 40, 41, 42, 43, 44, 45, 46, 47, 48, 49, 50, 51, 52, 53, 54, 55, 56, 57, 58, 59, 60, 61, 62, 63, 64, 65, 66, 67, 68, 69, 70, 71, 72, 73, 74, 75, 76, 77, 78, 79, 80, 81, 82, 83, 84, 85, 86] (by decide +kernel) (by decide +kernel)
set_option maxRecDepth 20000 in
theorem gX5_best_X5_would : GoodIn wsX5_best (wsV RX5 226 RX5 yX5_would wsX5_would) := goodIn_app (goodIn_of _ (by decide +kernel)) ggX5_best_X5_would
theorem dX5_best_0 : decode cX5_best 0 = .ok (.iload_n 1, 1) := by decide +kernel
theorem dX5_best_1 : decode cX5_best 1 = .ok (.invokestatic 186, 3) := by decide +kernel
theorem dX5_best_4 : decode cX5_best 4 = .ok (.ifCond .ne 6, 3) := by decide +kernel
theorem dX5_best_7 : decode cX5_best 7 = .ok (.bipush (-2), 2) := by decide +kernel
theorem dX5_best_9 : decode cX5_best 9 = .ok (.ireturn, 1) := by decide +kernel
theorem dX5_best_10 : decode cX5_best 10 = .ok (.iconst 2, 1) := by decide +kernel
theorem dX5_best_11 : decode cX5_best 11 = .ok (.istore_n 2, 1) := by decide +kernel
theorem dX5_best_12 : decode cX5_best 12 = .ok (.aload_n 0, 1) := by decide +kernel
theorem dX5_best_13 : decode cX5_best 13 = .ok (.iload_n 2, 1) := by decide +kernel
theorem dX5_best_14 : decode cX5_best 14 = .ok (.iload_n 1, 1) := by decide +kernel
theorem dX5_best_15 : decode cX5_best 15 = .ok (.aload_n 0, 1) := by decide +kernel
theorem dX5_best_16 : decode cX5_best 16 = .ok (.getfield 51, 3) := by decide +kernel
theorem dX5_best_19 : decode cX5_best 19 = .ok (.invokevirtual 226, 3) := by decide +kernel
theorem dX5_best_22 : decode cX5_best 22 = .ok (.istore_n 3, 1) := by decide +kernel
theorem dX5_best_23 : decode cX5_best 23 = .ok (.iconst 3, 1) := by decide +kernel
theorem dX5_best_24 : decode cX5_best 24 = .ok (.istore 4, 2) := by decide +kernel
theorem dX5_best_26 : decode cX5_best 26 = .ok (.iload 4, 2) := by decide +kernel
theorem dX5_best_28 : decode cX5_best 28 = .ok (.aload_n 0, 1) := by decide +kernel
theorem dX5_best_29 : decode cX5_best 29 = .ok (.getfield 12, 3) := by decide +kernel
theorem dX5_best_32 : decode cX5_best 32 = .ok (.getfield 58, 3) := by decide +kernel
theorem dX5_best_35 : decode cX5_best 35 = .ok (.if_icmp .gt 34, 3) := by decide +kernel
theorem dX5_best_38 : decode cX5_best 38 = .ok (.aload_n 0, 1) := by decide +kernel
theorem dX5_best_39 : decode cX5_best 39 = .ok (.iload 4, 2) := by decide +kernel
theorem dX5_best_41 : decode cX5_best 41 = .ok (.iload_n 1, 1) := by decide +kernel
theorem dX5_best_42 : decode cX5_best 42 = .ok (.aload_n 0, 1) := by decide +kernel
theorem dX5_best_43 : decode cX5_best 43 = .ok (.getfield 51, 3) := by decide +kernel
theorem dX5_best_46 : decode cX5_best 46 = .ok (.invokevirtual 226, 3) := by decide +kernel
theorem dX5_best_49 : decode cX5_best 49 = .ok (.istore 5, 2) := by decide +kernel
theorem dX5_best_51 : decode cX5_best 51 = .ok (.iload 5, 2) := by decide +kernel
theorem dX5_best_53 : decode cX5_best 53 = .ok (.iload_n 3, 1) := by decide +kernel
theorem dX5_best_54 : decode cX5_best 54 = .ok (.if_icmp .ge 9, 3) := by decide +kernel
theorem dX5_best_57 : decode cX5_best 57 = .ok (.iload 5, 2) := by decide +kernel
theorem dX5_best_59 : decode cX5_best 59 = .ok (.istore_n 3, 1) := by decide +kernel
theorem dX5_best_60 : decode cX5_best 60 = .ok (.iload 4, 2) := by decide +kernel
theorem dX5_best_62 : decode cX5_best 62 = .ok (.istore_n 2, 1) := by decide +kernel
theorem dX5_best_63 : decode cX5_best 63 = .ok (.iinc 4 1, 3) := by decide +kernel
theorem dX5_best_66 : decode cX5_best 66 = .ok (.goto (-40), 3) := by decide +kernel
theorem dX5_best_69 : decode cX5_best 69 = .ok (.iload_n 2, 1) := by decide +kernel
theorem dX5_best_70 : decode cX5_best 70 = .ok (.ireturn, 1) := by decide +kernel
abbrev rmX5_best : Room := { frames := 5, cells := 0, slots := 0, locals := 130 }
set_option maxRecDepth 100000 in
theorem hinX5_best_5 : ∀ w ∈ wsX50, w ∈ wsX5_best := by decide +kernel
set_option maxRecDepth 100000 in
theorem hinX5_best_4 : ∀ w ∈ wsX40, w ∈ wsX5_best := by decide +kernel
def fX5_best_63 (k26 : AH → Int32 → Int32 → Int32 → Option (Int32 × AH)) (a1 : Int32) (h : AH) (x2 : Int32) (x3 : Int32) (x4 : Int32) : Option (Int32 × AH) :=
  nm (x4 + 1) fun v1 =>
  k26 h x2 x3 v1
set_option maxHeartbeats 4000000 in
set_option maxRecDepth 100000 in
theorem tX5_best_63 {h : AH} {a1 : Int32} {k26 : AH → Int32 → Int32 → Int32 → Option (Int32 × AH)} {x2 : Int32} {x3 : Int32} {x4 : Int32} {r0 : Int32} {h0 : AH} (C : Cx p rmX5_best s m args meth c RX5 cX5_best 6 (some .int) wsX5_best D ad cy tb 0 0) (H26 : ∀ (h : AH) (x2 : Int32) (x3 : Int32) (x4 : Int32), k26 h x2 x3 x4 = some (r0, h0) → AW p l e rmX5_best s m args below meth c 6 D ad cy 0 0 (Qi D ad cy below args s r0 h0) 26 [(0, .ref (ad 0)), (1, .int a1), (2, .int x2), (3, .int x3), (4, .int x4)] [] h) (hf : fX5_best_63 k26 a1 h x2 x3 x4 = some (r0, h0)) : AW p l e rmX5_best s m args below meth c 6 D ad cy 0 0 (Qi D ad cy below args s r0 h0) 63 [(0, .ref (ad 0)), (1, .int a1), (2, .int x2), (3, .int x3), (4, .int x4)] [] h := by
  unfold fX5_best_63 at hf
  obtain ⟨v1, hvv1, hf⟩ := nm_ex hf
  refine aw_iinc (j := 4) (v := v1) (lv1 := [(4, .int v1), (0, .ref (ad 0)), (1, .int a1), (2, .int x2), (3, .int x3)]) C dX5_best_63 rfl hvv1 (by decide) rfl ?_
  refine aw_goto (tgt := 26) C dX5_best_66 (by decide) ?_
  refine aw_sub [1, 2, 3, 4, 0] rfl ?_
  exact H26 h x2 x3 v1 hf
def fX5_best_26b (k26 : AH → Int32 → Int32 → Int32 → Option (Int32 × AH)) (a1 : Int32) (h : AH) (x2 : Int32) (x3 : Int32) (x4 : Int32) : Option (Int32 × AH) :=
  if (h.1 1 0) < x4 then (
    some (x2, h)) else (
  bW (fX5_would h x4 a1 (h.1 0 7)) fun r2 h1 =>
  if x3 ≤ r2 then (
    fX5_best_63 k26 a1 h1 x2 x3 x4) else (
  fX5_best_63 k26 a1 h1 x4 r2 x4))
set_option maxHeartbeats 4000000 in
set_option maxRecDepth 100000 in
theorem tX5_best_26b {h : AH} {a1 : Int32} {k26 : AH → Int32 → Int32 → Int32 → Option (Int32 × AH)} {x2 : Int32} {x3 : Int32} {x4 : Int32} {r0 : Int32} {h0 : AH} (C : Cx p rmX5_best s m args meth c RX5 cX5_best 6 (some .int) wsX5_best D ad cy tb 0 0) (H26 : ∀ (h : AH) (x2 : Int32) (x3 : Int32) (x4 : Int32), k26 h x2 x3 x4 = some (r0, h0) → AW p l e rmX5_best s m args below meth c 6 D ad cy 0 0 (Qi D ad cy below args s r0 h0) 26 [(0, .ref (ad 0)), (1, .int a1), (2, .int x2), (3, .int x3), (4, .int x4)] [] h) (hf : fX5_best_26b k26 a1 h x2 x3 x4 = some (r0, h0)) : AW p l e rmX5_best s m args below meth c 6 D ad cy 0 0 (Qi D ad cy below args s r0 h0) 26 [(0, .ref (ad 0)), (1, .int a1), (2, .int x2), (3, .int x3), (4, .int x4)] [] h := by
  unfold fX5_best_26b at hf
  refine aw_iload C dX5_best_26 4 rfl ?_
  refine aw_aload_n C dX5_best_28 rfl 0 rfl ?_
  refine aw_get C (kd_lt rfl (by decide)) (ce_5 rfl) rfl hinX5_best_5 0 (by decide) rfl (by decide +kernel) rfl dX5_best_29 ?_
  refine aw_getN (host := "StairCodes") C (kd_lt rfl (by decide)) (ce_4 rfl) rfl hinX5_best_4 0 (by decide) rfl (by decide +kernel) rfl dX5_best_32 ?_
  refine aw_icmp_gt (tgt := 69) C dX5_best_35 (by decide) hf (fun hf => ?_) (fun hf => ?_)
  · refine aw_iload_n C dX5_best_69 rfl 2 rfl ?_
    exact aw_iretW C dX5_best_70 hf
  refine aw_aload_n C dX5_best_38 rfl 0 rfl ?_
  refine aw_iload C dX5_best_39 4 rfl ?_
  refine aw_iload_n C dX5_best_41 rfl 1 rfl ?_
  refine aw_aload_n C dX5_best_42 rfl 0 rfl ?_
  refine aw_get C (kd_lt rfl (by decide)) (ce_5 rfl) rfl hinX5_best_5 7 (by decide) rfl (by decide +kernel) rfl dX5_best_43 ?_
  obtain ⟨r2, h1, hc, hf⟩ := bW_some hf
  refine aw_callVi (As := [.int x4, .int a1, .int (h.1 0 7)]) (rest := []) C rfl (by decide) rfl (kX5_would (l := l) (D := D) (ad := ad) (cy := cy) (tb := tb) C.2.2.2.2.2.2.2.2.1 hc) (fun ht _ => cwV 3 ht gX5_best_X5_would rfl rfl rfl (by decide +kernel) ⟨Nat.le_of_ble_eq_true rfl, Nat.le_of_ble_eq_true rfl⟩) rfl rfl (Nat.le_of_ble_eq_true rfl) dX5_best_46 ?_
  refine aw_istore (lv1 := [(5, .int r2), (0, .ref (ad 0)), (1, .int a1), (2, .int x2), (3, .int x3), (4, .int x4)]) C dX5_best_49 (by decide) rfl ?_
  refine aw_iload C dX5_best_51 0 rfl ?_
  refine aw_iload_n C dX5_best_53 rfl 4 rfl ?_
  refine aw_icmp_ge (tgt := 63) C dX5_best_54 (by decide) hf (fun hf => ?_) (fun hf => ?_)
  · refine aw_sub [1, 2, 3, 4, 5] rfl ?_
    exact tX5_best_63 C  H26 hf
  refine aw_iload C dX5_best_57 0 rfl ?_
  refine aw_istore_n (lv1 := [(3, .int r2), (5, .int r2), (0, .ref (ad 0)), (1, .int a1), (2, .int x2), (4, .int x4)]) C dX5_best_59 rfl (by decide) rfl ?_
  refine aw_iload C dX5_best_60 5 rfl ?_
  refine aw_istore_n (lv1 := [(2, .int x4), (3, .int r2), (5, .int r2), (0, .ref (ad 0)), (1, .int a1), (4, .int x4)]) C dX5_best_62 rfl (by decide) rfl ?_
  refine aw_sub [3, 4, 0, 1, 5] rfl ?_
  exact tX5_best_63 C  H26 hf
def fX5_best_26 (a1 : Int32) : Nat → AH → Int32 → Int32 → Int32 → Option (Int32 × AH)
  | 0, _, _, _, _ => none
  | n + 1, h, x2, x3, x4 => fX5_best_26b (fX5_best_26 a1 n) a1 h x2 x3 x4
set_option maxHeartbeats 4000000 in
set_option maxRecDepth 100000 in
theorem tX5_best_26  {a1 : Int32} {r0 : Int32} {h0 : AH} (C : Cx p rmX5_best s m args meth c RX5 cX5_best 6 (some .int) wsX5_best D ad cy tb 0 0) : ∀ (n : Nat) (h : AH) (x2 : Int32) (x3 : Int32) (x4 : Int32), fX5_best_26 a1 n h x2 x3 x4 = some (r0, h0) → AW p l e rmX5_best s m args below meth c 6 D ad cy 0 0 (Qi D ad cy below args s r0 h0) 26 [(0, .ref (ad 0)), (1, .int a1), (2, .int x2), (3, .int x3), (4, .int x4)] [] h := by
  intro n
  induction n with
  | zero => intro h x2 x3 x4 hf; cases hf
  | succ n ih => intro h x2 x3 x4 hf; exact tX5_best_26b C  ih  hf
def fX5_best (h : AH) (a1 : Int32) : Option (Int32 × AH) :=
  bR (fX5_isTurns h a1) fun r1 =>
  if r1 = 0 then (
    some ((-2), h)) else (
  bW (fX5_would h 2 a1 (h.1 0 7)) fun r3 h2 =>
  fX5_best_26  a1 FU h2 2 r3 3)
set_option maxHeartbeats 4000000 in
set_option maxRecDepth 100000 in
theorem tX5_best_0 {h : AH} {a1 : Int32} {r0 : Int32} {h0 : AH} (C : Cx p rmX5_best s m args meth c RX5 cX5_best 6 (some .int) wsX5_best D ad cy tb 0 0) (hf : fX5_best h a1 = some (r0, h0)) : AW p l e rmX5_best s m args below meth c 6 D ad cy 0 0 (Qi D ad cy below args s r0 h0) 0 [(0, .ref (ad 0)), (1, .int a1)] [] h := by
  unfold fX5_best at hf
  refine aw_iload_n C dX5_best_0 rfl 1 rfl ?_
  obtain ⟨r1, hc, hf⟩ := bR_some hf
  refine aw_callSi (As := [.int a1]) (rest := []) C (kX5_isTurns (l := l) (D := D) (ad := ad) (cy := cy) (tb := tb) C.2.2.2.2.2.2.2.2.1 hc) (fun ht _ => va_cwS 1 ht gX5_best_X5_isTurns rfl rfl rfl (by decide +kernel) ⟨Nat.le_of_ble_eq_true rfl, Nat.le_of_ble_eq_true rfl⟩) rfl rfl (Nat.le_of_ble_eq_true rfl) dX5_best_1 ?_
  refine aw_if_ne (tgt := 10) C dX5_best_4 (by decide) hf (fun hf => ?_) (fun hf => ?_)
  · refine aw_iconst (v := 2) C dX5_best_10 (by decide) ?_
    refine aw_istore_n (lv1 := [(2, .int 2), (0, .ref (ad 0)), (1, .int a1)]) C dX5_best_11 rfl (by decide) rfl ?_
    refine aw_aload_n C dX5_best_12 rfl 1 rfl ?_
    refine aw_iload_n C dX5_best_13 rfl 0 rfl ?_
    refine aw_iload_n C dX5_best_14 rfl 2 rfl ?_
    refine aw_aload_n C dX5_best_15 rfl 1 rfl ?_
    refine aw_get C (kd_lt rfl (by decide)) (ce_5 rfl) rfl hinX5_best_5 7 (by decide) rfl (by decide +kernel) rfl dX5_best_16 ?_
    obtain ⟨r3, h2, hc, hf⟩ := bW_some hf
    refine aw_callVi (As := [.int 2, .int a1, .int (h.1 0 7)]) (rest := []) C rfl (by decide) rfl (kX5_would (l := l) (D := D) (ad := ad) (cy := cy) (tb := tb) C.2.2.2.2.2.2.2.2.1 hc) (fun ht _ => cwV 3 ht gX5_best_X5_would rfl rfl rfl (by decide +kernel) ⟨Nat.le_of_ble_eq_true rfl, Nat.le_of_ble_eq_true rfl⟩) rfl rfl (Nat.le_of_ble_eq_true rfl) dX5_best_19 ?_
    refine aw_istore_n (lv1 := [(3, .int r3), (2, .int 2), (0, .ref (ad 0)), (1, .int a1)]) C dX5_best_22 rfl (by decide) rfl ?_
    refine aw_iconst (v := 3) C dX5_best_23 (by decide) ?_
    refine aw_istore (lv1 := [(4, .int 3), (3, .int r3), (2, .int 2), (0, .ref (ad 0)), (1, .int a1)]) C dX5_best_24 (by decide) rfl ?_
    refine aw_sub [3, 4, 2, 1, 0] rfl ?_
    exact tX5_best_26 C   FU h2 2 r3 3 hf
  refine aw_bipush (v := (-2)) C dX5_best_7 (by decide) ?_
  exact aw_iretW C dX5_best_9 hf
theorem kX5_best {h : AH} {a1 : Int32} {r0 : Int32} {h0 : AH} (hi : Inj ad) (hf : fX5_best h a1 = some (r0, h0)) : Ki l yX5_best wsX5_best rmX5_best D ad cy tb [.ref (ad 0), .int a1] h r0 h0 := met_i (lv := [(0, .ref (ad 0)), (1, .int a1)]) hi (by decide) rfl (Nat.le_of_ble_eq_true rfl) rfl rfl (fun _ _ _ _ _ _ _ _ C => tX5_best_0 C  hf)
set_option maxRecDepth 20000 in
theorem ggX6_bestOf_X6_wouldBe : GoodIn wsX6_bestOf wsX6_wouldBe := goodIn_r _ [7, 8, 2, 9, 10, 11, 12, 13, 14, 15, 6, 16, 1, 17, 18, 19, 20, 21, 22, 23, 24, 25, 26, 27, 28, 29, 30, 31, 32, 33, 34, 35, 36, 37, 38, 39, 40, 41, 42, 43, 44, 45, 46, 47, 48, 49, 50, 51, 52, 53, 54, 55, 56, 57, 58, 59, 60, 61, 62, 63, 64, 65, 66, 67, 68, 69, 70, 71, 72, 73, 74, 75, 76, 77, 78, 79, 80, 81, 82, 83, 84, 85, 86, 87, 88, 89, 90, 91, 92, 93] (by decide +kernel) (by decide +kernel)
set_option maxRecDepth 20000 in
theorem gX6_bestOf_X6_wouldBe : GoodIn wsX6_bestOf (wsV RX6 193 RX6 yX6_wouldBe wsX6_wouldBe) := goodIn_app (goodIn_of _ (by decide +kernel)) ggX6_bestOf_X6_wouldBe
theorem dX6_bestOf_0 : decode cX6_bestOf 0 = .ok (.iconst (-1), 1) := by decide +kernel
theorem dX6_bestOf_1 : decode cX6_bestOf 1 = .ok (.istore_n 2, 1) := by decide +kernel
theorem dX6_bestOf_2 : decode cX6_bestOf 2 = .ok (.sipush 448, 3) := by decide +kernel
theorem dX6_bestOf_5 : decode cX6_bestOf 5 = .ok (.istore_n 3, 1) := by decide +kernel
theorem dX6_bestOf_6 : decode cX6_bestOf 6 = .ok (.iconst 2, 1) := by decide +kernel
theorem dX6_bestOf_7 : decode cX6_bestOf 7 = .ok (.istore 4, 2) := by decide +kernel
theorem dX6_bestOf_9 : decode cX6_bestOf 9 = .ok (.iload 4, 2) := by decide +kernel
theorem dX6_bestOf_11 : decode cX6_bestOf 11 = .ok (.aload_n 0, 1) := by decide +kernel
theorem dX6_bestOf_12 : decode cX6_bestOf 12 = .ok (.getfield 7, 3) := by decide +kernel
theorem dX6_bestOf_15 : decode cX6_bestOf 15 = .ok (.if_icmp .gt 53, 3) := by decide +kernel
theorem dX6_bestOf_18 : decode cX6_bestOf 18 = .ok (.aload_n 0, 1) := by decide +kernel
theorem dX6_bestOf_19 : decode cX6_bestOf 19 = .ok (.iload 4, 2) := by decide +kernel
theorem dX6_bestOf_21 : decode cX6_bestOf 21 = .ok (.iload_n 1, 1) := by decide +kernel
theorem dX6_bestOf_22 : decode cX6_bestOf 22 = .ok (.aload_n 0, 1) := by decide +kernel
theorem dX6_bestOf_23 : decode cX6_bestOf 23 = .ok (.getfield 109, 3) := by decide +kernel
theorem dX6_bestOf_26 : decode cX6_bestOf 26 = .ok (.invokevirtual 193, 3) := by decide +kernel
theorem dX6_bestOf_29 : decode cX6_bestOf 29 = .ok (.istore 5, 2) := by decide +kernel
theorem dX6_bestOf_31 : decode cX6_bestOf 31 = .ok (.iload_n 2, 1) := by decide +kernel
theorem dX6_bestOf_32 : decode cX6_bestOf 32 = .ok (.iconst (-1), 1) := by decide +kernel
theorem dX6_bestOf_33 : decode cX6_bestOf 33 = .ok (.if_icmp .eq 9, 3) := by decide +kernel
theorem dX6_bestOf_36 : decode cX6_bestOf 36 = .ok (.iload 5, 2) := by decide +kernel
theorem dX6_bestOf_38 : decode cX6_bestOf 38 = .ok (.iload_n 3, 1) := by decide +kernel
theorem dX6_bestOf_39 : decode cX6_bestOf 39 = .ok (.if_icmp .ge 8, 3) := by decide +kernel
theorem dX6_bestOf_42 : decode cX6_bestOf 42 = .ok (.iload 4, 2) := by decide +kernel
theorem dX6_bestOf_44 : decode cX6_bestOf 44 = .ok (.goto 4, 3) := by decide +kernel
theorem dX6_bestOf_47 : decode cX6_bestOf 47 = .ok (.iload_n 2, 1) := by decide +kernel
theorem dX6_bestOf_48 : decode cX6_bestOf 48 = .ok (.istore_n 2, 1) := by decide +kernel
theorem dX6_bestOf_49 : decode cX6_bestOf 49 = .ok (.iload 5, 2) := by decide +kernel
theorem dX6_bestOf_51 : decode cX6_bestOf 51 = .ok (.iload_n 3, 1) := by decide +kernel
theorem dX6_bestOf_52 : decode cX6_bestOf 52 = .ok (.if_icmp .ge 8, 3) := by decide +kernel
theorem dX6_bestOf_55 : decode cX6_bestOf 55 = .ok (.iload 5, 2) := by decide +kernel
theorem dX6_bestOf_57 : decode cX6_bestOf 57 = .ok (.goto 4, 3) := by decide +kernel
theorem dX6_bestOf_60 : decode cX6_bestOf 60 = .ok (.iload_n 3, 1) := by decide +kernel
theorem dX6_bestOf_61 : decode cX6_bestOf 61 = .ok (.istore_n 3, 1) := by decide +kernel
theorem dX6_bestOf_62 : decode cX6_bestOf 62 = .ok (.iinc 4 1, 3) := by decide +kernel
theorem dX6_bestOf_65 : decode cX6_bestOf 65 = .ok (.goto (-56), 3) := by decide +kernel
theorem dX6_bestOf_68 : decode cX6_bestOf 68 = .ok (.iload_n 2, 1) := by decide +kernel
theorem dX6_bestOf_69 : decode cX6_bestOf 69 = .ok (.ireturn, 1) := by decide +kernel
abbrev rmX6_bestOf : Room := { frames := 11, cells := 0, slots := 0, locals := 270 }
set_option maxRecDepth 100000 in
theorem hinX6_bestOf_6 : ∀ w ∈ wsX60, w ∈ wsX6_bestOf := by decide +kernel
def fX6_bestOf_61 (k9 : AH → Int32 → Int32 → Int32 → Option (Int32 × AH)) (a1 : Int32) (h : AH) (x2 : Int32) (x4 : Int32) (s0 : Int32) : Option (Int32 × AH) :=
  nm (x4 + 1) fun v1 =>
  k9 h x2 s0 v1
set_option maxHeartbeats 4000000 in
set_option maxRecDepth 100000 in
theorem tX6_bestOf_61 {h : AH} {a1 : Int32} {k9 : AH → Int32 → Int32 → Int32 → Option (Int32 × AH)} {x2 : Int32} {x4 : Int32} {s0 : Int32} {r0 : Int32} {h0 : AH} (C : Cx p rmX6_bestOf s m args meth c RX6 cX6_bestOf 6 (some .int) wsX6_bestOf D ad cy tb 0 0) (H9 : ∀ (h : AH) (x2 : Int32) (x3 : Int32) (x4 : Int32), k9 h x2 x3 x4 = some (r0, h0) → AW p l e rmX6_bestOf s m args below meth c 6 D ad cy 0 0 (Qi D ad cy below args s r0 h0) 9 [(0, .ref (ad 29)), (1, .int a1), (2, .int x2), (3, .int x3), (4, .int x4)] [] h) (hf : fX6_bestOf_61 k9 a1 h x2 x4 s0 = some (r0, h0)) : AW p l e rmX6_bestOf s m args below meth c 6 D ad cy 0 0 (Qi D ad cy below args s r0 h0) 61 [(0, .ref (ad 29)), (1, .int a1), (2, .int x2), (4, .int x4)] [.int s0] h := by
  unfold fX6_bestOf_61 at hf
  refine aw_istore_n (lv1 := [(3, .int s0), (0, .ref (ad 29)), (1, .int a1), (2, .int x2), (4, .int x4)]) C dX6_bestOf_61 rfl (by decide) rfl ?_
  obtain ⟨v1, hvv1, hf⟩ := nm_ex hf
  refine aw_iinc (j := 4) (v := v1) (lv1 := [(4, .int v1), (3, .int s0), (0, .ref (ad 29)), (1, .int a1), (2, .int x2)]) C dX6_bestOf_62 rfl hvv1 (by decide) rfl ?_
  refine aw_goto (tgt := 9) C dX6_bestOf_65 (by decide) ?_
  refine aw_sub [2, 3, 4, 1, 0] rfl ?_
  exact H9 h x2 s0 v1 hf
def fX6_bestOf_48 (k9 : AH → Int32 → Int32 → Int32 → Option (Int32 × AH)) (a1 : Int32) (h : AH) (x3 : Int32) (x4 : Int32) (x5 : Int32) (s0 : Int32) : Option (Int32 × AH) :=
  if x3 ≤ x5 then (
    fX6_bestOf_61 k9 a1 h s0 x4 x3) else (
  fX6_bestOf_61 k9 a1 h s0 x4 x5)
set_option maxHeartbeats 4000000 in
set_option maxRecDepth 100000 in
theorem tX6_bestOf_48 {h : AH} {a1 : Int32} {k9 : AH → Int32 → Int32 → Int32 → Option (Int32 × AH)} {x3 : Int32} {x4 : Int32} {x5 : Int32} {s0 : Int32} {r0 : Int32} {h0 : AH} (C : Cx p rmX6_bestOf s m args meth c RX6 cX6_bestOf 6 (some .int) wsX6_bestOf D ad cy tb 0 0) (H9 : ∀ (h : AH) (x2 : Int32) (x3 : Int32) (x4 : Int32), k9 h x2 x3 x4 = some (r0, h0) → AW p l e rmX6_bestOf s m args below meth c 6 D ad cy 0 0 (Qi D ad cy below args s r0 h0) 9 [(0, .ref (ad 29)), (1, .int a1), (2, .int x2), (3, .int x3), (4, .int x4)] [] h) (hf : fX6_bestOf_48 k9 a1 h x3 x4 x5 s0 = some (r0, h0)) : AW p l e rmX6_bestOf s m args below meth c 6 D ad cy 0 0 (Qi D ad cy below args s r0 h0) 48 [(0, .ref (ad 29)), (1, .int a1), (3, .int x3), (4, .int x4), (5, .int x5)] [.int s0] h := by
  unfold fX6_bestOf_48 at hf
  refine aw_istore_n (lv1 := [(2, .int s0), (0, .ref (ad 29)), (1, .int a1), (3, .int x3), (4, .int x4), (5, .int x5)]) C dX6_bestOf_48 rfl (by decide) rfl ?_
  refine aw_iload C dX6_bestOf_49 5 rfl ?_
  refine aw_iload_n C dX6_bestOf_51 rfl 3 rfl ?_
  refine aw_icmp_ge (tgt := 60) C dX6_bestOf_52 (by decide) hf (fun hf => ?_) (fun hf => ?_)
  · refine aw_iload_n C dX6_bestOf_60 rfl 3 rfl ?_
    refine aw_sub [1, 2, 0, 4] rfl ?_
    exact tX6_bestOf_61 C  H9 hf
  refine aw_iload C dX6_bestOf_55 5 rfl ?_
  refine aw_goto (tgt := 61) C dX6_bestOf_57 (by decide) ?_
  refine aw_sub [1, 2, 0, 4] rfl ?_
  exact tX6_bestOf_61 C  H9 hf
def fX6_bestOf_42 (k9 : AH → Int32 → Int32 → Int32 → Option (Int32 × AH)) (a1 : Int32) (h : AH) (x3 : Int32) (x4 : Int32) (x5 : Int32) : Option (Int32 × AH) :=
  fX6_bestOf_48 k9 a1 h x3 x4 x5 x4
set_option maxHeartbeats 4000000 in
set_option maxRecDepth 100000 in
theorem tX6_bestOf_42 {h : AH} {a1 : Int32} {k9 : AH → Int32 → Int32 → Int32 → Option (Int32 × AH)} {x3 : Int32} {x4 : Int32} {x5 : Int32} {r0 : Int32} {h0 : AH} (C : Cx p rmX6_bestOf s m args meth c RX6 cX6_bestOf 6 (some .int) wsX6_bestOf D ad cy tb 0 0) (H9 : ∀ (h : AH) (x2 : Int32) (x3 : Int32) (x4 : Int32), k9 h x2 x3 x4 = some (r0, h0) → AW p l e rmX6_bestOf s m args below meth c 6 D ad cy 0 0 (Qi D ad cy below args s r0 h0) 9 [(0, .ref (ad 29)), (1, .int a1), (2, .int x2), (3, .int x3), (4, .int x4)] [] h) (hf : fX6_bestOf_42 k9 a1 h x3 x4 x5 = some (r0, h0)) : AW p l e rmX6_bestOf s m args below meth c 6 D ad cy 0 0 (Qi D ad cy below args s r0 h0) 42 [(0, .ref (ad 29)), (1, .int a1), (3, .int x3), (4, .int x4), (5, .int x5)] [] h := by
  unfold fX6_bestOf_42 at hf
  refine aw_iload C dX6_bestOf_42 3 rfl ?_
  refine aw_goto (tgt := 48) C dX6_bestOf_44 (by decide) ?_
  refine aw_sub [0, 1, 2, 3, 4] rfl ?_
  exact tX6_bestOf_48 C  H9 hf
def fX6_bestOf_9b (k9 : AH → Int32 → Int32 → Int32 → Option (Int32 × AH)) (a1 : Int32) (h : AH) (x2 : Int32) (x3 : Int32) (x4 : Int32) : Option (Int32 × AH) :=
  if (h.1 29 0) < x4 then (
    some (x2, h)) else (
  bW (fX6_wouldBe h x4 a1 (h.1 29 1)) fun r2 h1 =>
  if x2 = (-1) then (
    fX6_bestOf_42 k9 a1 h1 x3 x4 r2) else (
  if x3 ≤ r2 then (
    fX6_bestOf_48 k9 a1 h1 x3 x4 r2 x2) else (
  fX6_bestOf_42 k9 a1 h1 x3 x4 r2)))
set_option maxHeartbeats 4000000 in
set_option maxRecDepth 100000 in
theorem tX6_bestOf_9b {h : AH} {a1 : Int32} {k9 : AH → Int32 → Int32 → Int32 → Option (Int32 × AH)} {x2 : Int32} {x3 : Int32} {x4 : Int32} {r0 : Int32} {h0 : AH} (C : Cx p rmX6_bestOf s m args meth c RX6 cX6_bestOf 6 (some .int) wsX6_bestOf D ad cy tb 0 0) (H9 : ∀ (h : AH) (x2 : Int32) (x3 : Int32) (x4 : Int32), k9 h x2 x3 x4 = some (r0, h0) → AW p l e rmX6_bestOf s m args below meth c 6 D ad cy 0 0 (Qi D ad cy below args s r0 h0) 9 [(0, .ref (ad 29)), (1, .int a1), (2, .int x2), (3, .int x3), (4, .int x4)] [] h) (hf : fX6_bestOf_9b k9 a1 h x2 x3 x4 = some (r0, h0)) : AW p l e rmX6_bestOf s m args below meth c 6 D ad cy 0 0 (Qi D ad cy below args s r0 h0) 9 [(0, .ref (ad 29)), (1, .int a1), (2, .int x2), (3, .int x3), (4, .int x4)] [] h := by
  unfold fX6_bestOf_9b at hf
  refine aw_iload C dX6_bestOf_9 4 rfl ?_
  refine aw_aload_n C dX6_bestOf_11 rfl 0 rfl ?_
  refine aw_get C (kd_lt rfl (by decide)) (ce_6 rfl) rfl hinX6_bestOf_6 0 (by decide) rfl (by decide +kernel) rfl dX6_bestOf_12 ?_
  refine aw_icmp_gt (tgt := 68) C dX6_bestOf_15 (by decide) hf (fun hf => ?_) (fun hf => ?_)
  · refine aw_iload_n C dX6_bestOf_68 rfl 2 rfl ?_
    exact aw_iretW C dX6_bestOf_69 hf
  refine aw_aload_n C dX6_bestOf_18 rfl 0 rfl ?_
  refine aw_iload C dX6_bestOf_19 4 rfl ?_
  refine aw_iload_n C dX6_bestOf_21 rfl 1 rfl ?_
  refine aw_aload_n C dX6_bestOf_22 rfl 0 rfl ?_
  refine aw_get C (kd_lt rfl (by decide)) (ce_6 rfl) rfl hinX6_bestOf_6 1 (by decide) rfl (by decide +kernel) rfl dX6_bestOf_23 ?_
  obtain ⟨r2, h1, hc, hf⟩ := bW_some hf
  refine aw_callVi (As := [.int x4, .int a1, .int (h.1 29 1)]) (rest := []) C rfl (by decide) rfl (kX6_wouldBe (l := l) (D := D) (ad := ad) (cy := cy) (tb := tb) C.2.2.2.2.2.2.2.2.1 hc) (fun ht _ => cwV 3 ht gX6_bestOf_X6_wouldBe rfl rfl rfl (by decide +kernel) ⟨Nat.le_of_ble_eq_true rfl, Nat.le_of_ble_eq_true rfl⟩) rfl rfl (Nat.le_of_ble_eq_true rfl) dX6_bestOf_26 ?_
  refine aw_istore (lv1 := [(5, .int r2), (0, .ref (ad 29)), (1, .int a1), (2, .int x2), (3, .int x3), (4, .int x4)]) C dX6_bestOf_29 (by decide) rfl ?_
  refine aw_iload_n C dX6_bestOf_31 rfl 3 rfl ?_
  refine aw_iconst (v := (-1)) C dX6_bestOf_32 (by decide) ?_
  refine aw_icmp_eq (tgt := 42) C dX6_bestOf_33 (by decide) hf (fun hf => ?_) (fun hf => ?_)
  · refine aw_sub [1, 2, 4, 5, 0] rfl ?_
    exact tX6_bestOf_42 C  H9 hf
  refine aw_iload C dX6_bestOf_36 0 rfl ?_
  refine aw_iload_n C dX6_bestOf_38 rfl 4 rfl ?_
  refine aw_icmp_ge (tgt := 47) C dX6_bestOf_39 (by decide) hf (fun hf => ?_) (fun hf => ?_)
  · refine aw_iload_n C dX6_bestOf_47 rfl 3 rfl ?_
    refine aw_sub [1, 2, 4, 5, 0] rfl ?_
    exact tX6_bestOf_48 C  H9 hf
  refine aw_sub [1, 2, 4, 5, 0] rfl ?_
  exact tX6_bestOf_42 C  H9 hf
def fX6_bestOf_9 (a1 : Int32) : Nat → AH → Int32 → Int32 → Int32 → Option (Int32 × AH)
  | 0, _, _, _, _ => none
  | n + 1, h, x2, x3, x4 => fX6_bestOf_9b (fX6_bestOf_9 a1 n) a1 h x2 x3 x4
set_option maxHeartbeats 4000000 in
set_option maxRecDepth 100000 in
theorem tX6_bestOf_9  {a1 : Int32} {r0 : Int32} {h0 : AH} (C : Cx p rmX6_bestOf s m args meth c RX6 cX6_bestOf 6 (some .int) wsX6_bestOf D ad cy tb 0 0) : ∀ (n : Nat) (h : AH) (x2 : Int32) (x3 : Int32) (x4 : Int32), fX6_bestOf_9 a1 n h x2 x3 x4 = some (r0, h0) → AW p l e rmX6_bestOf s m args below meth c 6 D ad cy 0 0 (Qi D ad cy below args s r0 h0) 9 [(0, .ref (ad 29)), (1, .int a1), (2, .int x2), (3, .int x3), (4, .int x4)] [] h := by
  intro n
  induction n with
  | zero => intro h x2 x3 x4 hf; cases hf
  | succ n ih => intro h x2 x3 x4 hf; exact tX6_bestOf_9b C  ih  hf
def fX6_bestOf (h : AH) (a1 : Int32) : Option (Int32 × AH) :=
  nm (-1) fun v1 =>
  fX6_bestOf_9  a1 FU h v1 448 2
set_option maxHeartbeats 4000000 in
set_option maxRecDepth 100000 in
theorem tX6_bestOf_0 {h : AH} {a1 : Int32} {r0 : Int32} {h0 : AH} (C : Cx p rmX6_bestOf s m args meth c RX6 cX6_bestOf 6 (some .int) wsX6_bestOf D ad cy tb 0 0) (hf : fX6_bestOf h a1 = some (r0, h0)) : AW p l e rmX6_bestOf s m args below meth c 6 D ad cy 0 0 (Qi D ad cy below args s r0 h0) 0 [(0, .ref (ad 29)), (1, .int a1)] [] h := by
  unfold fX6_bestOf at hf
  refine aw_iconst (v := (-1)) C dX6_bestOf_0 (by decide) ?_
  refine aw_nmI hf (fun v1 hf => ?_)
  refine aw_istore_n (lv1 := [(2, .int v1), (0, .ref (ad 29)), (1, .int a1)]) C dX6_bestOf_1 rfl (by decide) rfl ?_
  refine aw_sipush (v := 448) C dX6_bestOf_2 (by decide) ?_
  refine aw_istore_n (lv1 := [(3, .int 448), (2, .int v1), (0, .ref (ad 29)), (1, .int a1)]) C dX6_bestOf_5 rfl (by decide) rfl ?_
  refine aw_iconst (v := 2) C dX6_bestOf_6 (by decide) ?_
  refine aw_istore (lv1 := [(4, .int 2), (3, .int 448), (2, .int v1), (0, .ref (ad 29)), (1, .int a1)]) C dX6_bestOf_7 (by decide) rfl ?_
  refine aw_sub [3, 4, 2, 1, 0] rfl ?_
  exact tX6_bestOf_9 C   FU h v1 448 2 hf
theorem kX6_bestOf {h : AH} {a1 : Int32} {r0 : Int32} {h0 : AH} (hi : Inj ad) (hf : fX6_bestOf h a1 = some (r0, h0)) : Ki l yX6_bestOf wsX6_bestOf rmX6_bestOf D ad cy tb [.ref (ad 29), .int a1] h r0 h0 := met_i (lv := [(0, .ref (ad 29)), (1, .int a1)]) hi (by decide) rfl (Nat.le_of_ble_eq_true rfl) rfl rfl (fun _ _ _ _ _ _ _ _ C => tX6_bestOf_0 C  hf)
set_option maxRecDepth 20000 in
theorem ggX6_best_X6_in : GoodIn wsX6_best wsX6_in := goodIn_r _ [4] (by decide +kernel) (by decide +kernel)
set_option maxRecDepth 20000 in
theorem gX6_best_X6_in : GoodIn wsX6_best (va_wsS RX6 73 yX6_in wsX6_in) := goodIn_app (goodIn_of _ (by decide +kernel)) ggX6_best_X6_in
set_option maxRecDepth 20000 in
theorem ggX6_best_X6_bestOf : GoodIn wsX6_best wsX6_bestOf := goodIn_r _ [8, 9, 10, 11, 12, 13, 3, 14, 15, 16, 17, 18, 19, 20, 21, 22, 23, 24, 25, 26, 27, 28, 29, 30, 31, 32, 33, 34, 35, 36, 37, 38, 39, 40, 41, 42, 43, 44, 45, 46, 47, 48, 49, 50, 51, 52, 53, 54, 55, 56, 57, 58, 59, 60, 61, 62, 63, 64, 65, 66, 67, 68, 69, 70, 71, 72, 73, 74, 75, 76, 77, 78, 79, 80, 81, 82, 83, 84, 85, 86, 87, 88, 89, 90, 91, 92, 93, 94, 95, 96, 97, 98, 99, 100] (by decide +kernel) (by decide +kernel)
set_option maxRecDepth 20000 in
theorem gX6_best_X6_bestOf : GoodIn wsX6_best (wsV RX6 196 RX6 yX6_bestOf wsX6_bestOf) := goodIn_app (goodIn_of _ (by decide +kernel)) ggX6_best_X6_bestOf
theorem dX6_best_0 : decode cX6_best 0 = .ok (.iload_n 1, 1) := by decide +kernel
theorem dX6_best_1 : decode cX6_best 1 = .ok (.iconst 1, 1) := by decide +kernel
theorem dX6_best_2 : decode cX6_best 2 = .ok (.bipush 9, 2) := by decide +kernel
theorem dX6_best_4 : decode cX6_best 4 = .ok (.invokestatic 73, 3) := by decide +kernel
theorem dX6_best_7 : decode cX6_best 7 = .ok (.ifCond .eq 11, 3) := by decide +kernel
theorem dX6_best_10 : decode cX6_best 10 = .ok (.aload_n 0, 1) := by decide +kernel
theorem dX6_best_11 : decode cX6_best 11 = .ok (.iload_n 1, 1) := by decide +kernel
theorem dX6_best_12 : decode cX6_best 12 = .ok (.invokevirtual 196, 3) := by decide +kernel
theorem dX6_best_15 : decode cX6_best 15 = .ok (.goto 5, 3) := by decide +kernel
theorem dX6_best_18 : decode cX6_best 18 = .ok (.bipush (-2), 2) := by decide +kernel
theorem dX6_best_20 : decode cX6_best 20 = .ok (.ireturn, 1) := by decide +kernel
abbrev rmX6_best : Room := { frames := 12, cells := 0, slots := 0, locals := 295 }
def fX6_best (h : AH) (a1 : Int32) : Option (Int32 × AH) :=
  bR (fX6_in h a1 1 9) fun r1 =>
  if r1 = 0 then (
    some ((-2), h)) else (
  bW (fX6_bestOf h a1) fun r3 h2 =>
  some (r3, h2))
set_option maxHeartbeats 4000000 in
set_option maxRecDepth 100000 in
theorem tX6_best_0 {h : AH} {a1 : Int32} {r0 : Int32} {h0 : AH} (C : Cx p rmX6_best s m args meth c RX6 cX6_best 2 (some .int) wsX6_best D ad cy tb 0 0) (hf : fX6_best h a1 = some (r0, h0)) : AW p l e rmX6_best s m args below meth c 2 D ad cy 0 0 (Qi D ad cy below args s r0 h0) 0 [(0, .ref (ad 29)), (1, .int a1)] [] h := by
  unfold fX6_best at hf
  refine aw_iload_n C dX6_best_0 rfl 1 rfl ?_
  refine aw_iconst (v := 1) C dX6_best_1 (by decide) ?_
  refine aw_bipush (v := 9) C dX6_best_2 (by decide) ?_
  obtain ⟨r1, hc, hf⟩ := bR_some hf
  refine aw_callSi (As := [.int a1, .int 1, .int 9]) (rest := []) C (kX6_in (l := l) (D := D) (ad := ad) (cy := cy) (tb := tb) C.2.2.2.2.2.2.2.2.1 hc) (fun ht _ => va_cwS 3 ht gX6_best_X6_in rfl rfl rfl (by decide +kernel) ⟨Nat.le_of_ble_eq_true rfl, Nat.le_of_ble_eq_true rfl⟩) rfl rfl (Nat.le_of_ble_eq_true rfl) dX6_best_4 ?_
  refine aw_if_eq (tgt := 18) C dX6_best_7 (by decide) hf (fun hf => ?_) (fun hf => ?_)
  · refine aw_bipush (v := (-2)) C dX6_best_18 (by decide) ?_
    exact aw_iretW C dX6_best_20 hf
  refine aw_aload_n C dX6_best_10 rfl 0 rfl ?_
  refine aw_iload_n C dX6_best_11 rfl 1 rfl ?_
  obtain ⟨r3, h2, hc, hf⟩ := bW_some hf
  refine aw_callVi (As := [.int a1]) (rest := []) C rfl (by decide) rfl (kX6_bestOf (l := l) (D := D) (ad := ad) (cy := cy) (tb := tb) C.2.2.2.2.2.2.2.2.1 hc) (fun ht _ => cwV 1 ht gX6_best_X6_bestOf rfl rfl rfl (by decide +kernel) ⟨Nat.le_of_ble_eq_true rfl, Nat.le_of_ble_eq_true rfl⟩) rfl rfl (Nat.le_of_ble_eq_true rfl) dX6_best_12 ?_
  refine aw_goto (tgt := 20) C dX6_best_15 (by decide) ?_
  exact aw_iretW C dX6_best_20 hf
theorem kX6_best {h : AH} {a1 : Int32} {r0 : Int32} {h0 : AH} (hi : Inj ad) (hf : fX6_best h a1 = some (r0, h0)) : Ki l yX6_best wsX6_best rmX6_best D ad cy tb [.ref (ad 29), .int a1] h r0 h0 := met_i (lv := [(0, .ref (ad 29)), (1, .int a1)]) hi (by decide) rfl (Nat.le_of_ble_eq_true rfl) rfl rfl (fun _ _ _ _ _ _ _ _ C => tX6_best_0 C  hf)
theorem dX5_isForm_0 : decode cX5_isForm 0 = .ok (.iload_n 0, 1) := by decide +kernel
theorem dX5_isForm_1 : decode cX5_isForm 1 = .ok (.ifCond .lt 12, 3) := by decide +kernel
theorem dX5_isForm_4 : decode cX5_isForm 4 = .ok (.iload_n 0, 1) := by decide +kernel
theorem dX5_isForm_5 : decode cX5_isForm 5 = .ok (.iconst 3, 1) := by decide +kernel
theorem dX5_isForm_6 : decode cX5_isForm 6 = .ok (.if_icmp .ge 7, 3) := by decide +kernel
theorem dX5_isForm_9 : decode cX5_isForm 9 = .ok (.iconst 1, 1) := by decide +kernel
theorem dX5_isForm_10 : decode cX5_isForm 10 = .ok (.goto 4, 3) := by decide +kernel
theorem dX5_isForm_13 : decode cX5_isForm 13 = .ok (.iconst 0, 1) := by decide +kernel
theorem dX5_isForm_14 : decode cX5_isForm 14 = .ok (.ireturn, 1) := by decide +kernel
abbrev rmX5_isForm : Room := { frames := 0, cells := 0, slots := 0, locals := 0 }
def fX5_isForm (h : AH) (a0 : Int32) : Option Int32 :=
  if a0 < 0 then (
    some 0) else (
  if 3 ≤ a0 then (
    some 0) else (
  some 1))
set_option maxHeartbeats 4000000 in
set_option maxRecDepth 100000 in
theorem tX5_isForm_0 {h : AH} {a0 : Int32} {r0 : Int32} (C : Cx p rmX5_isForm s m args meth c RX5 cX5_isForm 1 (some .boolean) wsX5_isForm D ad cy tb 0 0) (hf : fX5_isForm h a0 = some r0) : AW p l e rmX5_isForm s m args below meth c 1 D ad cy 0 0 (Qi D ad cy below args s r0 h) 0 [(0, .int a0)] [] h := by
  unfold fX5_isForm at hf
  refine aw_iload_n C dX5_isForm_0 rfl 0 rfl ?_
  refine aw_if_lt (tgt := 13) C dX5_isForm_1 (by decide) hf (fun hf => ?_) (fun hf => ?_)
  · refine aw_iconst (v := 0) C dX5_isForm_13 (by decide) ?_
    exact aw_zretR C (by decide) dX5_isForm_14 hf
  refine aw_iload_n C dX5_isForm_4 rfl 0 rfl ?_
  refine aw_iconst (v := 3) C dX5_isForm_5 (by decide) ?_
  refine aw_icmp_ge (tgt := 13) C dX5_isForm_6 (by decide) hf (fun hf => ?_) (fun hf => ?_)
  · refine aw_iconst (v := 0) C dX5_isForm_13 (by decide) ?_
    exact aw_zretR C (by decide) dX5_isForm_14 hf
  refine aw_iconst (v := 1) C dX5_isForm_9 (by decide) ?_
  refine aw_goto (tgt := 14) C dX5_isForm_10 (by decide) ?_
  exact aw_zretR C (by decide) dX5_isForm_14 hf
theorem kX5_isForm {h : AH} {a0 : Int32} {r0 : Int32} (hi : Inj ad) (hf : fX5_isForm h a0 = some r0) : Ki l yX5_isForm wsX5_isForm rmX5_isForm D ad cy tb [.int a0] h r0 h := met_i (lv := [(0, .int a0)]) hi (by decide) rfl (Nat.le_of_ble_eq_true rfl) rfl rfl (fun _ _ _ _ _ _ _ _ C => tX5_isForm_0 C  hf)
set_option maxRecDepth 20000 in
theorem ggX3_begin_J7_fill_d0a16 : GoodIn wsX3_begin wsJ7_fill_d0a16 := goodIn_r _ [8] (by decide +kernel) (by decide +kernel)
set_option maxRecDepth 20000 in
theorem gX3_begin_J7_fill_d0a16 : GoodIn wsX3_begin (va_wsS RX3 26 yJ7_fill_d0a16 wsJ7_fill_d0a16) := goodIn_app (goodIn_of _ (by decide +kernel)) ggX3_begin_J7_fill_d0a16
theorem dX3_begin_0 : decode cX3_begin 0 = .ok (.aload_n 0, 1) := by decide +kernel
theorem dX3_begin_1 : decode cX3_begin 1 = .ok (.iconst 0, 1) := by decide +kernel
theorem dX3_begin_2 : decode cX3_begin 2 = .ok (.putfield 9, 3) := by decide +kernel
theorem dX3_begin_5 : decode cX3_begin 5 = .ok (.aload_n 0, 1) := by decide +kernel
theorem dX3_begin_6 : decode cX3_begin 6 = .ok (.iload_n 1, 1) := by decide +kernel
theorem dX3_begin_7 : decode cX3_begin 7 = .ok (.putfield 19, 3) := by decide +kernel
theorem dX3_begin_10 : decode cX3_begin 10 = .ok (.aload_n 0, 1) := by decide +kernel
theorem dX3_begin_11 : decode cX3_begin 11 = .ok (.iload_n 2, 1) := by decide +kernel
theorem dX3_begin_12 : decode cX3_begin 12 = .ok (.putfield 23, 3) := by decide +kernel
theorem dX3_begin_15 : decode cX3_begin 15 = .ok (.aload_n 0, 1) := by decide +kernel
theorem dX3_begin_16 : decode cX3_begin 16 = .ok (.getfield 15, 3) := by decide +kernel
theorem dX3_begin_19 : decode cX3_begin 19 = .ok (.lconst 0, 1) := by decide +kernel
theorem dX3_begin_20 : decode cX3_begin 20 = .ok (.invokestatic 26, 3) := by decide +kernel
theorem dX3_begin_23 : decode cX3_begin 23 = .ok (.return_, 1) := by decide +kernel
abbrev rmX3_begin : Room := { frames := 1, cells := 0, slots := 0, locals := 24 }
set_option maxRecDepth 100000 in
theorem hinX3_begin_3 : ∀ w ∈ wsX30, w ∈ wsX3_begin := by decide +kernel
def fX3_begin (h : AH) (a0 : Nat) (a1 : Int32) (a2 : Int32) : Option AH :=
  nm (sI h a0 0 0) fun h1 =>
  nm (sI h1 a0 1 a1) fun h2 =>
  nm (sI h2 a0 2 a2) fun h3 =>
  bR (fJ7_fill_d0a16 h3 (a0 + 4) 0) fun h4 =>
  some h4
set_option maxHeartbeats 4000000 in
set_option maxRecDepth 100000 in
theorem tX3_begin_0 {h : AH} {a0 : Nat} {a1 : Int32} {a2 : Int32} {h0 : AH} (C : Cx p rmX3_begin s m args meth c RX3 cX3_begin 3 none wsX3_begin D ad cy tb 0 0) (hk0 : kd a0 = 3) (hf : fX3_begin h a0 a1 a2 = some h0) : AW p l e rmX3_begin s m args below meth c 3 D ad cy 0 0 (Qv D ad cy below args s h0) 0 [(0, .ref (ad a0)), (1, .int a1), (2, .int a2)] [] h := by
  unfold fX3_begin at hf
  refine aw_aload_n C dX3_begin_0 rfl 0 rfl ?_
  refine aw_iconst (v := 0) C dX3_begin_1 (by decide) ?_
  refine aw_put (ty := .boolean) C (kd_lt hk0 (by decide)) (ce_3 hk0) rfl hinX3_begin_3 tyX3 tyX3_ok nmX3 0 (by decide) rfl (by decide +kernel) rfl (by decide +kernel) rfl rfl (Nat.le_of_ble_eq_true rfl) (cs_3_0 hk0) dX3_begin_2 ?_
  refine aw_nmH hf (fun h1 hf => ?_)
  refine aw_aload_n C dX3_begin_5 rfl 0 rfl ?_
  refine aw_iload_n C dX3_begin_6 rfl 1 rfl ?_
  refine aw_put (ty := .int) C (kd_lt hk0 (by decide)) (ce_3 hk0) rfl hinX3_begin_3 tyX3 tyX3_ok nmX3 1 (by decide) rfl (by decide +kernel) rfl (by decide +kernel) rfl rfl (Nat.le_of_ble_eq_true rfl) (cs_3_1 hk0) dX3_begin_7 ?_
  refine aw_nmH hf (fun h2 hf => ?_)
  refine aw_aload_n C dX3_begin_10 rfl 0 rfl ?_
  refine aw_iload_n C dX3_begin_11 rfl 2 rfl ?_
  refine aw_put (ty := .int) C (kd_lt hk0 (by decide)) (ce_3 hk0) rfl hinX3_begin_3 tyX3 tyX3_ok nmX3 2 (by decide) rfl (by decide +kernel) rfl (by decide +kernel) rfl rfl (Nat.le_of_ble_eq_true rfl) (cs_3_2 hk0) dX3_begin_12 ?_
  refine aw_nmH hf (fun h3 hf => ?_)
  refine aw_aload_n C dX3_begin_15 rfl 0 rfl ?_
  refine aw_get C (kd_lt hk0 (by decide)) (ce_3 hk0) rfl hinX3_begin_3 3 (by decide) rfl (by decide +kernel) rfl dX3_begin_16 ?_
  refine aw_lconst (v := 0) C dX3_begin_19 (by decide) ?_
  obtain ⟨h4, hc, hf⟩ := bR_some hf
  refine aw_callSv (As := [.ref (ad (a0 + 4)), .long 0]) (rest := []) C (kJ7_fill_d0a16 (l := l) (D := D) (ad := ad) (cy := cy) (tb := tb) C.2.2.2.2.2.2.2.2.1 (kd3a hk0) hc) (fun ht _ => va_cwS 2 ht gX3_begin_J7_fill_d0a16 rfl rfl rfl (by decide +kernel) ⟨Nat.le_of_ble_eq_true rfl, Nat.le_of_ble_eq_true rfl⟩) rfl rfl (Nat.le_of_ble_eq_true rfl) dX3_begin_20 ?_
  exact aw_vret C dX3_begin_23 hf
theorem kX3_begin {h : AH} {a0 : Nat} {a1 : Int32} {a2 : Int32} {h0 : AH} (hi : Inj ad) (hk0 : kd a0 = 3) (hf : fX3_begin h a0 a1 a2 = some h0) : Kv l yX3_begin wsX3_begin rmX3_begin D ad cy tb [.ref (ad a0), .int a1, .int a2] h h0 := met_v (lv := [(0, .ref (ad a0)), (1, .int a1), (2, .int a2)]) hi (by decide) rfl (Nat.le_of_ble_eq_true rfl) rfl rfl (fun _ _ _ _ _ _ _ _ C => tX3_begin_0 C hk0 hf)
set_option maxRecDepth 20000 in
theorem ggX5_sheet_X5_isSheet : GoodIn wsX5_sheet wsX5_isSheet := goodIn_r _ [5] (by decide +kernel) (by decide +kernel)
set_option maxRecDepth 20000 in
theorem gX5_sheet_X5_isSheet : GoodIn wsX5_sheet (va_wsS RX5 109 yX5_isSheet wsX5_isSheet) := goodIn_app (goodIn_of _ (by decide +kernel)) ggX5_sheet_X5_isSheet
set_option maxRecDepth 20000 in
theorem ggX5_sheet_X5_isForm : GoodIn wsX5_sheet wsX5_isForm := goodIn_r _ [8] (by decide +kernel) (by decide +kernel)
set_option maxRecDepth 20000 in
theorem gX5_sheet_X5_isForm : GoodIn wsX5_sheet (va_wsS RX5 229 yX5_isForm wsX5_isForm) := goodIn_app (goodIn_of _ (by decide +kernel)) ggX5_sheet_X5_isForm
set_option maxRecDepth 20000 in
theorem ggX5_sheet_X5_finding : GoodIn wsX5_sheet wsX5_finding := goodIn_r _ [12, 13, 27, 28, 29, 30, 31, 32, 33, 34, 35] (by decide +kernel) (by decide +kernel)
set_option maxRecDepth 20000 in
theorem gX5_sheet_X5_finding : GoodIn wsX5_sheet (wsV RX5 116 RX5 yX5_finding wsX5_finding) := goodIn_app (goodIn_of _ (by decide +kernel)) ggX5_sheet_X5_finding
set_option maxRecDepth 20000 in
theorem ggX5_sheet_X3_begin : GoodIn wsX5_sheet wsX3_begin := goodIn_r _ [18, 19, 20, 21, 22, 23, 24, 25, 26, 36, 37, 38, 39] (by decide +kernel) (by decide +kernel)
set_option maxRecDepth 20000 in
theorem gX5_sheet_X3_begin : GoodIn wsX5_sheet (wsV RX5 232 RX3 yX3_begin wsX3_begin) := goodIn_app (goodIn_of _ (by decide +kernel)) ggX5_sheet_X3_begin
theorem dX5_sheet_0 : decode cX5_sheet 0 = .ok (.iload_n 1, 1) := by decide +kernel
theorem dX5_sheet_1 : decode cX5_sheet 1 = .ok (.invokestatic 109, 3) := by decide +kernel
theorem dX5_sheet_4 : decode cX5_sheet 4 = .ok (.ifCond .eq 16, 3) := by decide +kernel
theorem dX5_sheet_7 : decode cX5_sheet 7 = .ok (.iload_n 2, 1) := by decide +kernel
theorem dX5_sheet_8 : decode cX5_sheet 8 = .ok (.invokestatic 229, 3) := by decide +kernel
theorem dX5_sheet_11 : decode cX5_sheet 11 = .ok (.ifCond .eq 9, 3) := by decide +kernel
theorem dX5_sheet_14 : decode cX5_sheet 14 = .ok (.iload_n 3, 1) := by decide +kernel
theorem dX5_sheet_15 : decode cX5_sheet 15 = .ok (.bipush 64, 2) := by decide +kernel
theorem dX5_sheet_17 : decode cX5_sheet 17 = .ok (.if_icmp .le 6, 3) := by decide +kernel
theorem dX5_sheet_20 : decode cX5_sheet 20 = .ok (.bipush (-2), 2) := by decide +kernel
theorem dX5_sheet_22 : decode cX5_sheet 22 = .ok (.ireturn, 1) := by decide +kernel
theorem dX5_sheet_23 : decode cX5_sheet 23 = .ok (.iload_n 3, 1) := by decide +kernel
theorem dX5_sheet_24 : decode cX5_sheet 24 = .ok (.ifCond .ge 10, 3) := by decide +kernel
theorem dX5_sheet_27 : decode cX5_sheet 27 = .ok (.aload_n 0, 1) := by decide +kernel
theorem dX5_sheet_28 : decode cX5_sheet 28 = .ok (.bipush (-15), 2) := by decide +kernel
theorem dX5_sheet_30 : decode cX5_sheet 30 = .ok (.invokevirtual 116, 3) := by decide +kernel
theorem dX5_sheet_33 : decode cX5_sheet 33 = .ok (.ireturn, 1) := by decide +kernel
theorem dX5_sheet_34 : decode cX5_sheet 34 = .ok (.aload_n 0, 1) := by decide +kernel
theorem dX5_sheet_35 : decode cX5_sheet 35 = .ok (.getfield 46, 3) := by decide +kernel
theorem dX5_sheet_38 : decode cX5_sheet 38 = .ok (.iload_n 1, 1) := by decide +kernel
theorem dX5_sheet_39 : decode cX5_sheet 39 = .ok (.aaload, 1) := by decide +kernel
theorem dX5_sheet_40 : decode cX5_sheet 40 = .ok (.iload_n 2, 1) := by decide +kernel
theorem dX5_sheet_41 : decode cX5_sheet 41 = .ok (.iload_n 3, 1) := by decide +kernel
theorem dX5_sheet_42 : decode cX5_sheet 42 = .ok (.invokevirtual 232, 3) := by decide +kernel
theorem dX5_sheet_45 : decode cX5_sheet 45 = .ok (.iload_n 3, 1) := by decide +kernel
theorem dX5_sheet_46 : decode cX5_sheet 46 = .ok (.ireturn, 1) := by decide +kernel
abbrev rmX5_sheet : Room := { frames := 2, cells := 0, slots := 0, locals := 46 }
set_option maxRecDepth 100000 in
theorem hinX5_sheet_5 : ∀ w ∈ wsX50, w ∈ wsX5_sheet := by decide +kernel
def fX5_sheet (h : AH) (a1 : Int32) (a2 : Int32) (a3 : Int32) : Option (Int32 × AH) :=
  bR (fX5_isSheet h a1) fun r1 =>
  if r1 = 0 then (
    some ((-2), h)) else (
  bR (fX5_isForm h a2) fun r2 =>
  if r2 = 0 then (
    some ((-2), h)) else (
  if a3 ≤ 64 then (
    if 0 ≤ a3 then (
      ck (inb a1 4) <|
      nm (21 + a1.toNatClampNeg) fun r3 =>
      bR (fX3_begin h r3 a2 a3) fun h4 =>
      some (a3, h4)) else (
    bW (fX5_finding h (-15)) fun r6 h5 =>
    some (r6, h5))) else (
  some ((-2), h))))
set_option maxHeartbeats 4000000 in
set_option maxRecDepth 100000 in
theorem tX5_sheet_0 {h : AH} {a1 : Int32} {a2 : Int32} {a3 : Int32} {r0 : Int32} {h0 : AH} (C : Cx p rmX5_sheet s m args meth c RX5 cX5_sheet 4 (some .int) wsX5_sheet D ad cy tb 0 0) (hf : fX5_sheet h a1 a2 a3 = some (r0, h0)) : AW p l e rmX5_sheet s m args below meth c 4 D ad cy 0 0 (Qi D ad cy below args s r0 h0) 0 [(0, .ref (ad 0)), (1, .int a1), (2, .int a2), (3, .int a3)] [] h := by
  unfold fX5_sheet at hf
  refine aw_iload_n C dX5_sheet_0 rfl 1 rfl ?_
  obtain ⟨r1, hc, hf⟩ := bR_some hf
  refine aw_callSi (As := [.int a1]) (rest := []) C (kX5_isSheet (l := l) (D := D) (ad := ad) (cy := cy) (tb := tb) C.2.2.2.2.2.2.2.2.1 hc) (fun ht _ => va_cwS 1 ht gX5_sheet_X5_isSheet rfl rfl rfl (by decide +kernel) ⟨Nat.le_of_ble_eq_true rfl, Nat.le_of_ble_eq_true rfl⟩) rfl rfl (Nat.le_of_ble_eq_true rfl) dX5_sheet_1 ?_
  refine aw_if_eq (tgt := 20) C dX5_sheet_4 (by decide) hf (fun hf => ?_) (fun hf => ?_)
  · refine aw_bipush (v := (-2)) C dX5_sheet_20 (by decide) ?_
    exact aw_iretW C dX5_sheet_22 hf
  refine aw_iload_n C dX5_sheet_7 rfl 2 rfl ?_
  obtain ⟨r2, hc, hf⟩ := bR_some hf
  refine aw_callSi (As := [.int a2]) (rest := []) C (kX5_isForm (l := l) (D := D) (ad := ad) (cy := cy) (tb := tb) C.2.2.2.2.2.2.2.2.1 hc) (fun ht _ => va_cwS 1 ht gX5_sheet_X5_isForm rfl rfl rfl (by decide +kernel) ⟨Nat.le_of_ble_eq_true rfl, Nat.le_of_ble_eq_true rfl⟩) rfl rfl (Nat.le_of_ble_eq_true rfl) dX5_sheet_8 ?_
  refine aw_if_eq (tgt := 20) C dX5_sheet_11 (by decide) hf (fun hf => ?_) (fun hf => ?_)
  · refine aw_bipush (v := (-2)) C dX5_sheet_20 (by decide) ?_
    exact aw_iretW C dX5_sheet_22 hf
  refine aw_iload_n C dX5_sheet_14 rfl 3 rfl ?_
  refine aw_bipush (v := 64) C dX5_sheet_15 (by decide) ?_
  refine aw_icmp_le (tgt := 23) C dX5_sheet_17 (by decide) hf (fun hf => ?_) (fun hf => ?_)
  · refine aw_iload_n C dX5_sheet_23 rfl 3 rfl ?_
    refine aw_if_ge (tgt := 34) C dX5_sheet_24 (by decide) hf (fun hf => ?_) (fun hf => ?_)
    · refine aw_aload_n C dX5_sheet_34 rfl 0 rfl ?_
      refine aw_get C (kd_lt rfl (by decide)) (ce_5 rfl) rfl hinX5_sheet_5 6 (by decide) rfl (by decide +kernel) rfl dX5_sheet_35 ?_
      refine aw_iload_n C dX5_sheet_38 rfl 1 rfl ?_
      refine aw_aald C hf dX5_sheet_39 (fun r3 hkr3 hf => ?_)
      refine aw_iload_n C dX5_sheet_40 rfl 2 rfl ?_
      refine aw_iload_n C dX5_sheet_41 rfl 3 rfl ?_
      obtain ⟨h4, hc, hf⟩ := bR_some hf
      refine aw_callVv (As := [.int a2, .int a3]) (rest := []) C hkr3 (by decide) rfl (kX3_begin (l := l) (D := D) (ad := ad) (cy := cy) (tb := tb) C.2.2.2.2.2.2.2.2.1 hkr3 hc) (fun ht _ => cwV 2 ht gX5_sheet_X3_begin rfl rfl rfl (by decide +kernel) ⟨Nat.le_of_ble_eq_true rfl, Nat.le_of_ble_eq_true rfl⟩) rfl rfl (Nat.le_of_ble_eq_true rfl) dX5_sheet_42 ?_
      refine aw_iload_n C dX5_sheet_45 rfl 3 rfl ?_
      exact aw_iretW C dX5_sheet_46 hf
    refine aw_aload_n C dX5_sheet_27 rfl 0 rfl ?_
    refine aw_bipush (v := (-15)) C dX5_sheet_28 (by decide) ?_
    obtain ⟨r6, h5, hc, hf⟩ := bW_some hf
    refine aw_callVi (As := [.int (-15)]) (rest := []) C rfl (by decide) rfl (kX5_finding (l := l) (D := D) (ad := ad) (cy := cy) (tb := tb) C.2.2.2.2.2.2.2.2.1 hc) (fun ht _ => cwV 1 ht gX5_sheet_X5_finding rfl rfl rfl (by decide +kernel) ⟨Nat.le_of_ble_eq_true rfl, Nat.le_of_ble_eq_true rfl⟩) rfl rfl (Nat.le_of_ble_eq_true rfl) dX5_sheet_30 ?_
    exact aw_iretW C dX5_sheet_33 hf
  refine aw_bipush (v := (-2)) C dX5_sheet_20 (by decide) ?_
  exact aw_iretW C dX5_sheet_22 hf
theorem kX5_sheet {h : AH} {a1 : Int32} {a2 : Int32} {a3 : Int32} {r0 : Int32} {h0 : AH} (hi : Inj ad) (hf : fX5_sheet h a1 a2 a3 = some (r0, h0)) : Ki l yX5_sheet wsX5_sheet rmX5_sheet D ad cy tb [.ref (ad 0), .int a1, .int a2, .int a3] h r0 h0 := met_i (lv := [(0, .ref (ad 0)), (1, .int a1), (2, .int a2), (3, .int a3)]) hi (by decide) rfl (Nat.le_of_ble_eq_true rfl) rfl rfl (fun _ _ _ _ _ _ _ _ C => tX5_sheet_0 C  hf)
