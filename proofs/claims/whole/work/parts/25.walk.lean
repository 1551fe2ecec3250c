variable {p : Program} {l : Launch} {e : Env} {s : State} {m : MethodId} {args : Array Value} {below : List Frame} {meth : Method} {c : Code} {D : va_G} {ad : Nat → Nat} {cy : Nat → ClassId} {tb : Nat → Nat}
set_option maxRecDepth 20000 in
theorem ggX5_count_X4_wrongBits : GoodIn wsX5_count wsX4_wrongBits := goodIn_r _ [9, 10, 11, 12, 13, 14, 15, 16, 17, 18, 118, 119, 120] (by decide +kernel) (by decide +kernel)
set_option maxRecDepth 20000 in
theorem gX5_count_X4_wrongBits : GoodIn wsX5_count (wsV RX5 101 RX4 yX4_wrongBits wsX4_wrongBits) := goodIn_app (goodIn_of _ (by decide +kernel)) ggX5_count_X4_wrongBits
set_option maxRecDepth 20000 in
theorem ggX5_count_X4_unsoundWords : GoodIn wsX5_count wsX4_unsoundWords := goodIn_r _ [22, 23, 24, 25, 8, 26, 10, 27, 28, 29, 30, 31, 118, 119, 120] (by decide +kernel) (by decide +kernel)
set_option maxRecDepth 20000 in
theorem gX5_count_X4_unsoundWords : GoodIn wsX5_count (wsV RX5 200 RX4 yX4_unsoundWords wsX4_unsoundWords) := goodIn_app (goodIn_of _ (by decide +kernel)) ggX5_count_X4_unsoundWords
set_option maxRecDepth 20000 in
theorem ggX5_count_X4_stalledWords : GoodIn wsX5_count wsX4_stalledWords := goodIn_r _ [35, 23, 24, 25, 8, 26, 10, 36, 37, 38, 39, 40, 41, 42, 43, 31, 27, 28, 29, 30, 118, 119, 120] (by decide +kernel) (by decide +kernel)
set_option maxRecDepth 20000 in
theorem gX5_count_X4_stalledWords : GoodIn wsX5_count (wsV RX5 254 RX4 yX4_stalledWords wsX4_stalledWords) := goodIn_app (goodIn_of _ (by decide +kernel)) ggX5_count_X4_stalledWords
set_option maxRecDepth 20000 in
theorem ggX5_count_X5_falseBits : GoodIn wsX5_count wsX5_falseBits := goodIn_r _ [48, 1, 49, 50, 51, 13, 14, 15, 16, 17, 18, 109, 110, 111, 112, 113, 114, 115, 116, 117, 118, 119, 120] (by decide +kernel) (by decide +kernel)
set_option maxRecDepth 20000 in
theorem gX5_count_X5_falseBits : GoodIn wsX5_count (wsV RX5 257 RX5 yX5_falseBits wsX5_falseBits) := goodIn_app (goodIn_of _ (by decide +kernel)) ggX5_count_X5_falseBits
set_option maxRecDepth 20000 in
theorem ggX5_count_X1_find : GoodIn wsX5_count wsX1_find := goodIn_r _ [56, 57, 58, 59, 60, 24, 25, 8, 26, 10, 61, 62, 63, 64, 11, 65, 47, 66, 67, 68, 69, 70, 71, 72, 73, 74, 75, 76, 55, 77, 78, 79, 80, 81, 82, 83, 84, 85, 86, 87, 88, 89, 90, 91, 92, 93, 94, 95, 96, 97, 12, 13, 14, 15, 16, 17, 18, 98, 99, 100, 101, 102, 103, 104, 124, 125, 126, 127, 128, 129, 130, 131, 118, 119, 120] (by decide +kernel) (by decide +kernel)
set_option maxRecDepth 20000 in
theorem gX5_count_X1_find : GoodIn wsX5_count (wsV RX5 216 RX1 yX1_find wsX1_find) := goodIn_app (goodIn_of _ (by decide +kernel)) ggX5_count_X1_find
set_option maxRecDepth 20000 in
theorem ggX5_count_X1_stuckOnes : GoodIn wsX5_count wsX1_stuckOnes := goodIn_r _ [108, 57, 82, 124, 125, 126, 127, 128, 129, 130, 131] (by decide +kernel) (by decide +kernel)
set_option maxRecDepth 20000 in
theorem gX5_count_X1_stuckOnes : GoodIn wsX5_count (wsV RX5 263 RX1 yX1_stuckOnes wsX1_stuckOnes) := goodIn_app (goodIn_of _ (by decide +kernel)) ggX5_count_X1_stuckOnes
theorem dX5_count_0 : decode cX5_count 0 = .ok (.iload_n 1, 1) := by decide +kernel
theorem dX5_count_1 : decode cX5_count 1 = .ok (.tableswitch 139 0 8 #[51, 59, 67, 75, 83, 91, 96, 115, 134], 51) := by decide +kernel
theorem dX5_count_52 : decode cX5_count 52 = .ok (.aload_n 0, 1) := by decide +kernel
theorem dX5_count_53 : decode cX5_count 53 = .ok (.getfield 12, 3) := by decide +kernel
theorem dX5_count_56 : decode cX5_count 56 = .ok (.getfield 58, 3) := by decide +kernel
theorem dX5_count_59 : decode cX5_count 59 = .ok (.ireturn, 1) := by decide +kernel
theorem dX5_count_60 : decode cX5_count 60 = .ok (.aload_n 0, 1) := by decide +kernel
theorem dX5_count_61 : decode cX5_count 61 = .ok (.getfield 12, 3) := by decide +kernel
theorem dX5_count_64 : decode cX5_count 64 = .ok (.invokevirtual 101, 3) := by decide +kernel
theorem dX5_count_67 : decode cX5_count 67 = .ok (.ireturn, 1) := by decide +kernel
theorem dX5_count_68 : decode cX5_count 68 = .ok (.aload_n 0, 1) := by decide +kernel
theorem dX5_count_69 : decode cX5_count 69 = .ok (.getfield 12, 3) := by decide +kernel
theorem dX5_count_72 : decode cX5_count 72 = .ok (.invokevirtual 200, 3) := by decide +kernel
theorem dX5_count_75 : decode cX5_count 75 = .ok (.ireturn, 1) := by decide +kernel
theorem dX5_count_76 : decode cX5_count 76 = .ok (.aload_n 0, 1) := by decide +kernel
theorem dX5_count_77 : decode cX5_count 77 = .ok (.getfield 12, 3) := by decide +kernel
theorem dX5_count_80 : decode cX5_count 80 = .ok (.invokevirtual 254, 3) := by decide +kernel
theorem dX5_count_83 : decode cX5_count 83 = .ok (.ireturn, 1) := by decide +kernel
theorem dX5_count_84 : decode cX5_count 84 = .ok (.aload_n 0, 1) := by decide +kernel
theorem dX5_count_85 : decode cX5_count 85 = .ok (.getfield 33, 3) := by decide +kernel
theorem dX5_count_88 : decode cX5_count 88 = .ok (.getfield 203, 3) := by decide +kernel
theorem dX5_count_91 : decode cX5_count 91 = .ok (.ireturn, 1) := by decide +kernel
theorem dX5_count_92 : decode cX5_count 92 = .ok (.aload_n 0, 1) := by decide +kernel
theorem dX5_count_93 : decode cX5_count 93 = .ok (.invokevirtual 257, 3) := by decide +kernel
theorem dX5_count_96 : decode cX5_count 96 = .ok (.ireturn, 1) := by decide +kernel
theorem dX5_count_97 : decode cX5_count 97 = .ok (.aload_n 0, 1) := by decide +kernel
theorem dX5_count_98 : decode cX5_count 98 = .ok (.getfield 40, 3) := by decide +kernel
theorem dX5_count_101 : decode cX5_count 101 = .ok (.aload_n 0, 1) := by decide +kernel
theorem dX5_count_102 : decode cX5_count 102 = .ok (.getfield 12, 3) := by decide +kernel
theorem dX5_count_105 : decode cX5_count 105 = .ok (.invokevirtual 216, 3) := by decide +kernel
theorem dX5_count_108 : decode cX5_count 108 = .ok (.aload_n 0, 1) := by decide +kernel
theorem dX5_count_109 : decode cX5_count 109 = .ok (.getfield 40, 3) := by decide +kernel
theorem dX5_count_112 : decode cX5_count 112 = .ok (.getfield 260, 3) := by decide +kernel
theorem dX5_count_115 : decode cX5_count 115 = .ok (.ireturn, 1) := by decide +kernel
theorem dX5_count_116 : decode cX5_count 116 = .ok (.aload_n 0, 1) := by decide +kernel
theorem dX5_count_117 : decode cX5_count 117 = .ok (.getfield 40, 3) := by decide +kernel
theorem dX5_count_120 : decode cX5_count 120 = .ok (.aload_n 0, 1) := by decide +kernel
theorem dX5_count_121 : decode cX5_count 121 = .ok (.getfield 12, 3) := by decide +kernel
theorem dX5_count_124 : decode cX5_count 124 = .ok (.invokevirtual 216, 3) := by decide +kernel
theorem dX5_count_127 : decode cX5_count 127 = .ok (.aload_n 0, 1) := by decide +kernel
theorem dX5_count_128 : decode cX5_count 128 = .ok (.getfield 40, 3) := by decide +kernel
theorem dX5_count_131 : decode cX5_count 131 = .ok (.invokevirtual 263, 3) := by decide +kernel
theorem dX5_count_134 : decode cX5_count 134 = .ok (.ireturn, 1) := by decide +kernel
theorem dX5_count_135 : decode cX5_count 135 = .ok (.aload_n 0, 1) := by decide +kernel
theorem dX5_count_136 : decode cX5_count 136 = .ok (.getfield 55, 3) := by decide +kernel
theorem dX5_count_139 : decode cX5_count 139 = .ok (.ireturn, 1) := by decide +kernel
theorem dX5_count_140 : decode cX5_count 140 = .ok (.bipush (-2), 2) := by decide +kernel
theorem dX5_count_142 : decode cX5_count 142 = .ok (.ireturn, 1) := by decide +kernel
abbrev rmX5_count : Room := { frames := 5, cells := 0, slots := 0, locals := 120 }
set_option maxRecDepth 100000 in
theorem hinX5_count_5 : ∀ w ∈ wsX50, w ∈ wsX5_count := by decide +kernel
set_option maxRecDepth 100000 in
theorem hinX5_count_0 : ∀ w ∈ wsX00, w ∈ wsX5_count := by decide +kernel
set_option maxRecDepth 100000 in
theorem hinX5_count_1 : ∀ w ∈ wsX10, w ∈ wsX5_count := by decide +kernel
set_option maxRecDepth 100000 in
theorem hinX5_count_4 : ∀ w ∈ wsX40, w ∈ wsX5_count := by decide +kernel
def fX5_count (h : AH) (a1 : Int32) : Option (Int32 × AH) :=
  if a1 = 0 then (
    some (h.1 1 0, h)) else (
  if a1 = 1 then (
    bR (fX4_wrongBits h 1) fun r1 =>
    some (r1, h)) else (
  if a1 = 2 then (
    bR (fX4_unsoundWords h 1) fun r2 =>
    some (r2, h)) else (
  if a1 = 3 then (
    bR (fX4_stalledWords h 1) fun r3 =>
    some (r3, h)) else (
  if a1 = 4 then (
    some (h.1 11 2, h)) else (
  if a1 = 5 then (
    bR (fX5_falseBits h ) fun r4 =>
    some (r4, h)) else (
  if a1 = 6 then (
    bR (fX1_find h 1) fun h5 =>
    some (h5.1 13 0, h5)) else (
  if a1 = 7 then (
    bR (fX1_find h 1) fun h6 =>
    bR (fX1_stuckOnes h6 ) fun r7 =>
    some (r7, h6)) else (
  if a1 = 8 then (
    some (h.1 0 8, h)) else (
  some ((-2), h))))))))))
set_option maxHeartbeats 4000000 in
set_option maxRecDepth 100000 in
theorem tX5_count_0 {h : AH} {a1 : Int32} {r0 : Int32} {h0 : AH} (C : Cx p rmX5_count s m args meth c RX5 cX5_count 2 (some .int) wsX5_count D ad cy tb 0 0) (hf : fX5_count h a1 = some (r0, h0)) : AW p l e rmX5_count s m args below meth c 2 D ad cy 0 0 (Qi D ad cy below args s r0 h0) 0 [(0, .ref (ad 0)), (1, .int a1)] [] h := by
  unfold fX5_count at hf
  refine aw_iload_n C dX5_count_0 rfl 1 rfl ?_
  rcases Decidable.em (a1 = 0) with hx0 | hx0
  · rw [if_pos hx0] at hf
    refine aw_tabIn (tgt := 52) C dX5_count_1 (by rw [hx0]; decide) (by rw [hx0]; decide) (by rw [hx0]; rfl) (by decide) ?_
    refine aw_aload_n C dX5_count_52 rfl 0 rfl ?_
    refine aw_get C (kd_lt rfl (by decide)) (ce_5 rfl) rfl hinX5_count_5 0 (by decide) rfl (by decide +kernel) rfl dX5_count_53 ?_
    refine aw_getN (host := "StairCodes") C (kd_lt rfl (by decide)) (ce_4 rfl) rfl hinX5_count_4 0 (by decide) rfl (by decide +kernel) rfl dX5_count_56 ?_
    exact aw_iretW C dX5_count_59 hf
  rw [if_neg hx0] at hf
  rcases Decidable.em (a1 = 1) with hx1 | hx1
  · rw [if_pos hx1] at hf
    refine aw_tabIn (tgt := 60) C dX5_count_1 (by rw [hx1]; decide) (by rw [hx1]; decide) (by rw [hx1]; rfl) (by decide) ?_
    refine aw_aload_n C dX5_count_60 rfl 0 rfl ?_
    refine aw_get C (kd_lt rfl (by decide)) (ce_5 rfl) rfl hinX5_count_5 0 (by decide) rfl (by decide +kernel) rfl dX5_count_61 ?_
    obtain ⟨r1, hc, hf⟩ := bR_some hf
    refine aw_callVi (As := []) (rest := []) C rfl (by decide) rfl (kX4_wrongBits (l := l) (D := D) (ad := ad) (cy := cy) (tb := tb) C.2.2.2.2.2.2.2.2.1 rfl hc) (fun ht _ => cwV 0 ht gX5_count_X4_wrongBits rfl rfl rfl (by decide +kernel) ⟨Nat.le_of_ble_eq_true rfl, Nat.le_of_ble_eq_true rfl⟩) rfl rfl (Nat.le_of_ble_eq_true rfl) dX5_count_64 ?_
    exact aw_iretW C dX5_count_67 hf
  rw [if_neg hx1] at hf
  rcases Decidable.em (a1 = 2) with hx2 | hx2
  · rw [if_pos hx2] at hf
    refine aw_tabIn (tgt := 68) C dX5_count_1 (by rw [hx2]; decide) (by rw [hx2]; decide) (by rw [hx2]; rfl) (by decide) ?_
    refine aw_aload_n C dX5_count_68 rfl 0 rfl ?_
    refine aw_get C (kd_lt rfl (by decide)) (ce_5 rfl) rfl hinX5_count_5 0 (by decide) rfl (by decide +kernel) rfl dX5_count_69 ?_
    obtain ⟨r2, hc, hf⟩ := bR_some hf
    refine aw_callVi (As := []) (rest := []) C rfl (by decide) rfl (kX4_unsoundWords (l := l) (D := D) (ad := ad) (cy := cy) (tb := tb) C.2.2.2.2.2.2.2.2.1 rfl hc) (fun ht _ => cwV 0 ht gX5_count_X4_unsoundWords rfl rfl rfl (by decide +kernel) ⟨Nat.le_of_ble_eq_true rfl, Nat.le_of_ble_eq_true rfl⟩) rfl rfl (Nat.le_of_ble_eq_true rfl) dX5_count_72 ?_
    exact aw_iretW C dX5_count_75 hf
  rw [if_neg hx2] at hf
  rcases Decidable.em (a1 = 3) with hx3 | hx3
  · rw [if_pos hx3] at hf
    refine aw_tabIn (tgt := 76) C dX5_count_1 (by rw [hx3]; decide) (by rw [hx3]; decide) (by rw [hx3]; rfl) (by decide) ?_
    refine aw_aload_n C dX5_count_76 rfl 0 rfl ?_
    refine aw_get C (kd_lt rfl (by decide)) (ce_5 rfl) rfl hinX5_count_5 0 (by decide) rfl (by decide +kernel) rfl dX5_count_77 ?_
    obtain ⟨r3, hc, hf⟩ := bR_some hf
    refine aw_callVi (As := []) (rest := []) C rfl (by decide) rfl (kX4_stalledWords (l := l) (D := D) (ad := ad) (cy := cy) (tb := tb) C.2.2.2.2.2.2.2.2.1 rfl hc) (fun ht _ => cwV 0 ht gX5_count_X4_stalledWords rfl rfl rfl (by decide +kernel) ⟨Nat.le_of_ble_eq_true rfl, Nat.le_of_ble_eq_true rfl⟩) rfl rfl (Nat.le_of_ble_eq_true rfl) dX5_count_80 ?_
    exact aw_iretW C dX5_count_83 hf
  rw [if_neg hx3] at hf
  rcases Decidable.em (a1 = 4) with hx4 | hx4
  · rw [if_pos hx4] at hf
    refine aw_tabIn (tgt := 84) C dX5_count_1 (by rw [hx4]; decide) (by rw [hx4]; decide) (by rw [hx4]; rfl) (by decide) ?_
    refine aw_aload_n C dX5_count_84 rfl 0 rfl ?_
    refine aw_get C (kd_lt rfl (by decide)) (ce_5 rfl) rfl hinX5_count_5 4 (by decide) rfl (by decide +kernel) rfl dX5_count_85 ?_
    refine aw_getN (host := "StairCodes") C (kd_lt rfl (by decide)) (ce_0 rfl) rfl hinX5_count_0 2 (by decide) rfl (by decide +kernel) rfl dX5_count_88 ?_
    exact aw_iretW C dX5_count_91 hf
  rw [if_neg hx4] at hf
  rcases Decidable.em (a1 = 5) with hx5 | hx5
  · rw [if_pos hx5] at hf
    refine aw_tabIn (tgt := 92) C dX5_count_1 (by rw [hx5]; decide) (by rw [hx5]; decide) (by rw [hx5]; rfl) (by decide) ?_
    refine aw_aload_n C dX5_count_92 rfl 0 rfl ?_
    obtain ⟨r4, hc, hf⟩ := bR_some hf
    refine aw_callVi (As := []) (rest := []) C rfl (by decide) rfl (kX5_falseBits (l := l) (D := D) (ad := ad) (cy := cy) (tb := tb) C.2.2.2.2.2.2.2.2.1 hc) (fun ht _ => cwV 0 ht gX5_count_X5_falseBits rfl rfl rfl (by decide +kernel) ⟨Nat.le_of_ble_eq_true rfl, Nat.le_of_ble_eq_true rfl⟩) rfl rfl (Nat.le_of_ble_eq_true rfl) dX5_count_93 ?_
    exact aw_iretW C dX5_count_96 hf
  rw [if_neg hx5] at hf
  rcases Decidable.em (a1 = 6) with hx6 | hx6
  · rw [if_pos hx6] at hf
    refine aw_tabIn (tgt := 97) C dX5_count_1 (by rw [hx6]; decide) (by rw [hx6]; decide) (by rw [hx6]; rfl) (by decide) ?_
    refine aw_aload_n C dX5_count_97 rfl 0 rfl ?_
    refine aw_get C (kd_lt rfl (by decide)) (ce_5 rfl) rfl hinX5_count_5 5 (by decide) rfl (by decide +kernel) rfl dX5_count_98 ?_
    refine aw_aload_n C dX5_count_101 rfl 0 rfl ?_
    refine aw_get C (kd_lt rfl (by decide)) (ce_5 rfl) rfl hinX5_count_5 0 (by decide) rfl (by decide +kernel) rfl dX5_count_102 ?_
    obtain ⟨h5, hc, hf⟩ := bR_some hf
    refine aw_callVv (As := [.ref (ad 1)]) (rest := []) C rfl (by decide) rfl (kX1_find (l := l) (D := D) (ad := ad) (cy := cy) (tb := tb) C.2.2.2.2.2.2.2.2.1 rfl hc) (fun ht _ => cwV 1 ht gX5_count_X1_find rfl rfl rfl (by decide +kernel) ⟨Nat.le_of_ble_eq_true rfl, Nat.le_of_ble_eq_true rfl⟩) rfl rfl (Nat.le_of_ble_eq_true rfl) dX5_count_105 ?_
    refine aw_aload_n C dX5_count_108 rfl 0 rfl ?_
    refine aw_get C (kd_lt rfl (by decide)) (ce_5 rfl) rfl hinX5_count_5 5 (by decide) rfl (by decide +kernel) rfl dX5_count_109 ?_
    refine aw_getN (host := "StairCodes") C (kd_lt rfl (by decide)) (ce_1 rfl) rfl hinX5_count_1 0 (by decide) rfl (by decide +kernel) rfl dX5_count_112 ?_
    exact aw_iretW C dX5_count_115 hf
  rw [if_neg hx6] at hf
  rcases Decidable.em (a1 = 7) with hx7 | hx7
  · rw [if_pos hx7] at hf
    refine aw_tabIn (tgt := 116) C dX5_count_1 (by rw [hx7]; decide) (by rw [hx7]; decide) (by rw [hx7]; rfl) (by decide) ?_
    refine aw_aload_n C dX5_count_116 rfl 0 rfl ?_
    refine aw_get C (kd_lt rfl (by decide)) (ce_5 rfl) rfl hinX5_count_5 5 (by decide) rfl (by decide +kernel) rfl dX5_count_117 ?_
    refine aw_aload_n C dX5_count_120 rfl 0 rfl ?_
    refine aw_get C (kd_lt rfl (by decide)) (ce_5 rfl) rfl hinX5_count_5 0 (by decide) rfl (by decide +kernel) rfl dX5_count_121 ?_
    obtain ⟨h6, hc, hf⟩ := bR_some hf
    refine aw_callVv (As := [.ref (ad 1)]) (rest := []) C rfl (by decide) rfl (kX1_find (l := l) (D := D) (ad := ad) (cy := cy) (tb := tb) C.2.2.2.2.2.2.2.2.1 rfl hc) (fun ht _ => cwV 1 ht gX5_count_X1_find rfl rfl rfl (by decide +kernel) ⟨Nat.le_of_ble_eq_true rfl, Nat.le_of_ble_eq_true rfl⟩) rfl rfl (Nat.le_of_ble_eq_true rfl) dX5_count_124 ?_
    refine aw_aload_n C dX5_count_127 rfl 0 rfl ?_
    refine aw_get C (kd_lt rfl (by decide)) (ce_5 rfl) rfl hinX5_count_5 5 (by decide) rfl (by decide +kernel) rfl dX5_count_128 ?_
    obtain ⟨r7, hc, hf⟩ := bR_some hf
    refine aw_callVi (As := []) (rest := []) C rfl (by decide) rfl (kX1_stuckOnes (l := l) (D := D) (ad := ad) (cy := cy) (tb := tb) C.2.2.2.2.2.2.2.2.1 hc) (fun ht _ => cwV 0 ht gX5_count_X1_stuckOnes rfl rfl rfl (by decide +kernel) ⟨Nat.le_of_ble_eq_true rfl, Nat.le_of_ble_eq_true rfl⟩) rfl rfl (Nat.le_of_ble_eq_true rfl) dX5_count_131 ?_
    exact aw_iretW C dX5_count_134 hf
  rw [if_neg hx7] at hf
  rcases Decidable.em (a1 = 8) with hx8 | hx8
  · rw [if_pos hx8] at hf
    refine aw_tabIn (tgt := 135) C dX5_count_1 (by rw [hx8]; decide) (by rw [hx8]; decide) (by rw [hx8]; rfl) (by decide) ?_
    refine aw_aload_n C dX5_count_135 rfl 0 rfl ?_
    refine aw_get C (kd_lt rfl (by decide)) (ce_5 rfl) rfl hinX5_count_5 8 (by decide) rfl (by decide +kernel) rfl dX5_count_136 ?_
    exact aw_iretW C dX5_count_139 hf
  rw [if_neg hx8] at hf
  have hsw := sw_out (x := a1) 9 (by decide) (fun j hj => by
    rcases (show j = 0 ∨ j = 1 ∨ j = 2 ∨ j = 3 ∨ j = 4 ∨ j = 5 ∨ j = 6 ∨ j = 7 ∨ j = 8 by omega) with rfl | rfl | rfl | rfl | rfl | rfl | rfl | rfl | rfl
    · exact hx0
    · exact hx1
    · exact hx2
    · exact hx3
    · exact hx4
    · exact hx5
    · exact hx6
    · exact hx7
    · exact hx8)
  refine aw_tabOut (tgt := 140) C dX5_count_1 (by omega) (by decide) ?_
  refine aw_bipush (v := (-2)) C dX5_count_140 (by decide) ?_
  exact aw_iretW C dX5_count_142 hf
theorem kX5_count {h : AH} {a1 : Int32} {r0 : Int32} {h0 : AH} (hi : Inj ad) (hf : fX5_count h a1 = some (r0, h0)) : Ki l yX5_count wsX5_count rmX5_count D ad cy tb [.ref (ad 0), .int a1] h r0 h0 := met_i (lv := [(0, .ref (ad 0)), (1, .int a1)]) hi (by decide) rfl (Nat.le_of_ble_eq_true rfl) rfl rfl (fun _ _ _ _ _ _ _ _ C => tX5_count_0 C  hf)
theorem dX6_falseNow_0 : decode cX6_falseNow 0 = .ok (.iconst 0, 1) := by decide +kernel
theorem dX6_falseNow_1 : decode cX6_falseNow 1 = .ok (.istore_n 1, 1) := by decide +kernel
theorem dX6_falseNow_2 : decode cX6_falseNow 2 = .ok (.iconst 0, 1) := by decide +kernel
theorem dX6_falseNow_3 : decode cX6_falseNow 3 = .ok (.istore_n 2, 1) := by decide +kernel
theorem dX6_falseNow_4 : decode cX6_falseNow 4 = .ok (.iload_n 2, 1) := by decide +kernel
theorem dX6_falseNow_5 : decode cX6_falseNow 5 = .ok (.sipush 448, 3) := by decide +kernel
theorem dX6_falseNow_8 : decode cX6_falseNow 8 = .ok (.if_icmp .ge 35, 3) := by decide +kernel
theorem dX6_falseNow_11 : decode cX6_falseNow 11 = .ok (.iload_n 1, 1) := by decide +kernel
theorem dX6_falseNow_12 : decode cX6_falseNow 12 = .ok (.aload_n 0, 1) := by decide +kernel
theorem dX6_falseNow_13 : decode cX6_falseNow 13 = .ok (.getfield 21, 3) := by decide +kernel
theorem dX6_falseNow_16 : decode cX6_falseNow 16 = .ok (.iload_n 2, 1) := by decide +kernel
theorem dX6_falseNow_17 : decode cX6_falseNow 17 = .ok (.baload, 1) := by decide +kernel
theorem dX6_falseNow_18 : decode cX6_falseNow 18 = .ok (.ifCond .eq 16, 3) := by decide +kernel
theorem dX6_falseNow_21 : decode cX6_falseNow 21 = .ok (.aload_n 0, 1) := by decide +kernel
theorem dX6_falseNow_22 : decode cX6_falseNow 22 = .ok (.getfield 24, 3) := by decide +kernel
theorem dX6_falseNow_25 : decode cX6_falseNow 25 = .ok (.iload_n 2, 1) := by decide +kernel
theorem dX6_falseNow_26 : decode cX6_falseNow 26 = .ok (.baload, 1) := by decide +kernel
theorem dX6_falseNow_27 : decode cX6_falseNow 27 = .ok (.ifCond .ne 7, 3) := by decide +kernel
theorem dX6_falseNow_30 : decode cX6_falseNow 30 = .ok (.iconst 1, 1) := by decide +kernel
theorem dX6_falseNow_31 : decode cX6_falseNow 31 = .ok (.goto 4, 3) := by decide +kernel
theorem dX6_falseNow_34 : decode cX6_falseNow 34 = .ok (.iconst 0, 1) := by decide +kernel
theorem dX6_falseNow_35 : decode cX6_falseNow 35 = .ok (.iadd, 1) := by decide +kernel
theorem dX6_falseNow_36 : decode cX6_falseNow 36 = .ok (.istore_n 1, 1) := by decide +kernel
theorem dX6_falseNow_37 : decode cX6_falseNow 37 = .ok (.iinc 2 1, 3) := by decide +kernel
theorem dX6_falseNow_40 : decode cX6_falseNow 40 = .ok (.goto (-36), 3) := by decide +kernel
theorem dX6_falseNow_43 : decode cX6_falseNow 43 = .ok (.iload_n 1, 1) := by decide +kernel
theorem dX6_falseNow_44 : decode cX6_falseNow 44 = .ok (.ireturn, 1) := by decide +kernel
abbrev rmX6_falseNow : Room := { frames := 0, cells := 0, slots := 0, locals := 0 }
set_option maxRecDepth 100000 in
theorem hinX6_falseNow_6 : ∀ w ∈ wsX60, w ∈ wsX6_falseNow := by decide +kernel
def fX6_falseNow_35 (k4 : Int32 → Int32 → Option Int32) (h : AH) (x2 : Int32) (s0 : Int32) (s1 : Int32) : Option Int32 :=
  nm (s0 + s1) fun v1 =>
  nm (x2 + 1) fun v2 =>
  k4 v1 v2
set_option maxHeartbeats 4000000 in
set_option maxRecDepth 100000 in
theorem tX6_falseNow_35 {h : AH} {k4 : Int32 → Int32 → Option Int32} {x2 : Int32} {s0 : Int32} {s1 : Int32} {r0 : Int32} (C : Cx p rmX6_falseNow s m args meth c RX6 cX6_falseNow 3 (some .int) wsX6_falseNow D ad cy tb 0 0) (H4 : ∀ (x1 : Int32) (x2 : Int32), k4 x1 x2 = some r0 → AW p l e rmX6_falseNow s m args below meth c 3 D ad cy 0 0 (Qi D ad cy below args s r0 h) 4 [(0, .ref (ad 29)), (1, .int x1), (2, .int x2)] [] h) (hf : fX6_falseNow_35 k4 h x2 s0 s1 = some r0) : AW p l e rmX6_falseNow s m args below meth c 3 D ad cy 0 0 (Qi D ad cy below args s r0 h) 35 [(0, .ref (ad 29)), (2, .int x2)] [.int s1, .int s0] h := by
  unfold fX6_falseNow_35 at hf
  refine aw_iadd C dX6_falseNow_35 ?_
  refine aw_nmI hf (fun v1 hf => ?_)
  refine aw_istore_n (lv1 := [(1, .int v1), (0, .ref (ad 29)), (2, .int x2)]) C dX6_falseNow_36 rfl (by decide) rfl ?_
  obtain ⟨v2, hvv2, hf⟩ := nm_ex hf
  refine aw_iinc (j := 2) (v := v2) (lv1 := [(2, .int v2), (1, .int v1), (0, .ref (ad 29))]) C dX6_falseNow_37 rfl hvv2 (by decide) rfl ?_
  refine aw_goto (tgt := 4) C dX6_falseNow_40 (by decide) ?_
  refine aw_sub [2, 1, 0] rfl ?_
  exact H4 v1 v2 hf
def fX6_falseNow_34 (k4 : Int32 → Int32 → Option Int32) (h : AH) (x2 : Int32) (s0 : Int32) : Option Int32 :=
  fX6_falseNow_35 k4 h  x2 s0 0
set_option maxHeartbeats 4000000 in
set_option maxRecDepth 100000 in
theorem tX6_falseNow_34 {h : AH} {k4 : Int32 → Int32 → Option Int32} {x2 : Int32} {s0 : Int32} {r0 : Int32} (C : Cx p rmX6_falseNow s m args meth c RX6 cX6_falseNow 3 (some .int) wsX6_falseNow D ad cy tb 0 0) (H4 : ∀ (x1 : Int32) (x2 : Int32), k4 x1 x2 = some r0 → AW p l e rmX6_falseNow s m args below meth c 3 D ad cy 0 0 (Qi D ad cy below args s r0 h) 4 [(0, .ref (ad 29)), (1, .int x1), (2, .int x2)] [] h) (hf : fX6_falseNow_34 k4 h x2 s0 = some r0) : AW p l e rmX6_falseNow s m args below meth c 3 D ad cy 0 0 (Qi D ad cy below args s r0 h) 34 [(0, .ref (ad 29)), (2, .int x2)] [.int s0] h := by
  unfold fX6_falseNow_34 at hf
  refine aw_iconst (v := 0) C dX6_falseNow_34 (by decide) ?_
  refine aw_sub [0, 1] rfl ?_
  exact tX6_falseNow_35 C  H4 hf
def fX6_falseNow_4b (k4 : Int32 → Int32 → Option Int32) (h : AH) (x1 : Int32) (x2 : Int32) : Option Int32 :=
  if 448 ≤ x2 then (
    some x1) else (
  ck (inb x2 448) <|
  if (h.1 32 x2.toNatClampNeg) = 0 then (
    fX6_falseNow_34 k4 h  x2 x1) else (
  ck (inb x2 448) <|
  if (h.1 33 x2.toNatClampNeg) = 0 then (
    fX6_falseNow_35 k4 h  x2 x1 1) else (
  fX6_falseNow_34 k4 h  x2 x1)))
set_option maxHeartbeats 4000000 in
set_option maxRecDepth 100000 in
theorem tX6_falseNow_4b {h : AH} {k4 : Int32 → Int32 → Option Int32} {x1 : Int32} {x2 : Int32} {r0 : Int32} (C : Cx p rmX6_falseNow s m args meth c RX6 cX6_falseNow 3 (some .int) wsX6_falseNow D ad cy tb 0 0) (H4 : ∀ (x1 : Int32) (x2 : Int32), k4 x1 x2 = some r0 → AW p l e rmX6_falseNow s m args below meth c 3 D ad cy 0 0 (Qi D ad cy below args s r0 h) 4 [(0, .ref (ad 29)), (1, .int x1), (2, .int x2)] [] h) (hf : fX6_falseNow_4b k4 h x1 x2 = some r0) : AW p l e rmX6_falseNow s m args below meth c 3 D ad cy 0 0 (Qi D ad cy below args s r0 h) 4 [(0, .ref (ad 29)), (1, .int x1), (2, .int x2)] [] h := by
  unfold fX6_falseNow_4b at hf
  refine aw_iload_n C dX6_falseNow_4 rfl 2 rfl ?_
  refine aw_sipush (v := 448) C dX6_falseNow_5 (by decide) ?_
  refine aw_icmp_ge (tgt := 43) C dX6_falseNow_8 (by decide) hf (fun hf => ?_) (fun hf => ?_)
  · refine aw_iload_n C dX6_falseNow_43 rfl 1 rfl ?_
    exact aw_iretR C dX6_falseNow_44 hf
  refine aw_iload_n C dX6_falseNow_11 rfl 1 rfl ?_
  refine aw_aload_n C dX6_falseNow_12 rfl 0 rfl ?_
  refine aw_get C (kd_lt rfl (by decide)) (ce_6 rfl) rfl hinX6_falseNow_6 4 (by decide) rfl (by decide +kernel) rfl dX6_falseNow_13 ?_
  refine aw_iload_n C dX6_falseNow_16 rfl 2 rfl ?_
  refine aw_zald C rfl rfl hf dX6_falseNow_17 (fun hf => ?_)
  refine aw_if_eq (tgt := 34) C dX6_falseNow_18 (by decide) hf (fun hf => ?_) (fun hf => ?_)
  · refine aw_sub [0, 2] rfl ?_
    exact tX6_falseNow_34 C  H4 hf
  refine aw_aload_n C dX6_falseNow_21 rfl 0 rfl ?_
  refine aw_get C (kd_lt rfl (by decide)) (ce_6 rfl) rfl hinX6_falseNow_6 5 (by decide) rfl (by decide +kernel) rfl dX6_falseNow_22 ?_
  refine aw_iload_n C dX6_falseNow_25 rfl 2 rfl ?_
  refine aw_zald C rfl rfl hf dX6_falseNow_26 (fun hf => ?_)
  refine aw_if_ne (tgt := 34) C dX6_falseNow_27 (by decide) hf (fun hf => ?_) (fun hf => ?_)
  · refine aw_sub [0, 2] rfl ?_
    exact tX6_falseNow_34 C  H4 hf
  refine aw_iconst (v := 1) C dX6_falseNow_30 (by decide) ?_
  refine aw_goto (tgt := 35) C dX6_falseNow_31 (by decide) ?_
  refine aw_sub [0, 2] rfl ?_
  exact tX6_falseNow_35 C  H4 hf
def fX6_falseNow_4 (h : AH) : Nat → Int32 → Int32 → Option Int32
  | 0, _, _ => none
  | n + 1, x1, x2 => fX6_falseNow_4b (fX6_falseNow_4 h n) h x1 x2
set_option maxHeartbeats 4000000 in
set_option maxRecDepth 100000 in
theorem tX6_falseNow_4 {h : AH} {r0 : Int32} (C : Cx p rmX6_falseNow s m args meth c RX6 cX6_falseNow 3 (some .int) wsX6_falseNow D ad cy tb 0 0) : ∀ (n : Nat) (x1 : Int32) (x2 : Int32), fX6_falseNow_4 h n x1 x2 = some r0 → AW p l e rmX6_falseNow s m args below meth c 3 D ad cy 0 0 (Qi D ad cy below args s r0 h) 4 [(0, .ref (ad 29)), (1, .int x1), (2, .int x2)] [] h := by
  intro n
  induction n with
  | zero => intro x1 x2 hf; cases hf
  | succ n ih => intro x1 x2 hf; exact tX6_falseNow_4b C  ih  hf
def fX6_falseNow (h : AH) : Option Int32 :=
  fX6_falseNow_4  h  FU 0 0
set_option maxHeartbeats 4000000 in
set_option maxRecDepth 100000 in
theorem tX6_falseNow_0 {h : AH} {r0 : Int32} (C : Cx p rmX6_falseNow s m args meth c RX6 cX6_falseNow 3 (some .int) wsX6_falseNow D ad cy tb 0 0) (hf : fX6_falseNow h = some r0) : AW p l e rmX6_falseNow s m args below meth c 3 D ad cy 0 0 (Qi D ad cy below args s r0 h) 0 [(0, .ref (ad 29))] [] h := by
  unfold fX6_falseNow at hf
  refine aw_iconst (v := 0) C dX6_falseNow_0 (by decide) ?_
  refine aw_istore_n (lv1 := [(1, .int 0), (0, .ref (ad 29))]) C dX6_falseNow_1 rfl (by decide) rfl ?_
  refine aw_iconst (v := 0) C dX6_falseNow_2 (by decide) ?_
  refine aw_istore_n (lv1 := [(2, .int 0), (1, .int 0), (0, .ref (ad 29))]) C dX6_falseNow_3 rfl (by decide) rfl ?_
  refine aw_sub [2, 1, 0] rfl ?_
  exact tX6_falseNow_4 C   FU 0 0 hf
theorem kX6_falseNow {h : AH} {r0 : Int32} (hi : Inj ad) (hf : fX6_falseNow h = some r0) : Ki l yX6_falseNow wsX6_falseNow rmX6_falseNow D ad cy tb [.ref (ad 29)] h r0 h := met_i (lv := [(0, .ref (ad 29))]) hi (by decide) rfl (Nat.le_of_ble_eq_true rfl) rfl rfl (fun _ _ _ _ _ _ _ _ C => tX6_falseNow_0 C  hf)
set_option maxRecDepth 20000 in
theorem ggX6_piecesNow_X6_findsPieces : GoodIn wsX6_piecesNow wsX6_findsPieces := goodIn_r _ [6, 1, 7, 8, 9, 10, 11, 12, 13, 5, 14, 15, 16, 17, 18, 19, 20, 21, 22, 23, 24, 25, 26, 27, 28, 29, 30, 31, 32, 33, 34, 35] (by decide +kernel) (by decide +kernel)
set_option maxRecDepth 20000 in
theorem gX6_piecesNow_X6_findsPieces : GoodIn wsX6_piecesNow (wsV RX6 181 RX6 yX6_findsPieces wsX6_findsPieces) := goodIn_app (goodIn_of _ (by decide +kernel)) ggX6_piecesNow_X6_findsPieces
theorem dX6_piecesNow_0 : decode cX6_piecesNow 0 = .ok (.aload_n 0, 1) := by decide +kernel
theorem dX6_piecesNow_1 : decode cX6_piecesNow 1 = .ok (.invokevirtual 181, 3) := by decide +kernel
theorem dX6_piecesNow_4 : decode cX6_piecesNow 4 = .ok (.aload_n 0, 1) := by decide +kernel
theorem dX6_piecesNow_5 : decode cX6_piecesNow 5 = .ok (.getfield 172, 3) := by decide +kernel
theorem dX6_piecesNow_8 : decode cX6_piecesNow 8 = .ok (.ireturn, 1) := by decide +kernel
abbrev rmX6_piecesNow : Room := { frames := 3, cells := 0, slots := 0, locals := 71 }
set_option maxRecDepth 100000 in
theorem hinX6_piecesNow_6 : ∀ w ∈ wsX60, w ∈ wsX6_piecesNow := by decide +kernel
def fX6_piecesNow (h : AH) : Option (Int32 × AH) :=
  bR (fX6_findsPieces h ) fun h1 =>
  some (h1.1 29 10, h1)
set_option maxHeartbeats 4000000 in
set_option maxRecDepth 100000 in
theorem tX6_piecesNow_0 {h : AH} {r0 : Int32} {h0 : AH} (C : Cx p rmX6_piecesNow s m args meth c RX6 cX6_piecesNow 1 (some .int) wsX6_piecesNow D ad cy tb 0 0) (hf : fX6_piecesNow h = some (r0, h0)) : AW p l e rmX6_piecesNow s m args below meth c 1 D ad cy 0 0 (Qi D ad cy below args s r0 h0) 0 [(0, .ref (ad 29))] [] h := by
  unfold fX6_piecesNow at hf
  refine aw_aload_n C dX6_piecesNow_0 rfl 0 rfl ?_
  obtain ⟨h1, hc, hf⟩ := bR_some hf
  refine aw_callVv (As := []) (rest := []) C rfl (by decide) rfl (kX6_findsPieces (l := l) (D := D) (ad := ad) (cy := cy) (tb := tb) C.2.2.2.2.2.2.2.2.1 hc) (fun ht _ => cwV 0 ht gX6_piecesNow_X6_findsPieces rfl rfl rfl (by decide +kernel) ⟨Nat.le_of_ble_eq_true rfl, Nat.le_of_ble_eq_true rfl⟩) rfl rfl (Nat.le_of_ble_eq_true rfl) dX6_piecesNow_1 ?_
  refine aw_aload_n C dX6_piecesNow_4 rfl 0 rfl ?_
  refine aw_get C (kd_lt rfl (by decide)) (ce_6 rfl) rfl hinX6_piecesNow_6 10 (by decide) rfl (by decide +kernel) rfl dX6_piecesNow_5 ?_
  exact aw_iretW C dX6_piecesNow_8 hf
theorem kX6_piecesNow {h : AH} {r0 : Int32} {h0 : AH} (hi : Inj ad) (hf : fX6_piecesNow h = some (r0, h0)) : Ki l yX6_piecesNow wsX6_piecesNow rmX6_piecesNow D ad cy tb [.ref (ad 29)] h r0 h0 := met_i (lv := [(0, .ref (ad 29))]) hi (by decide) rfl (Nat.le_of_ble_eq_true rfl) rfl rfl (fun _ _ _ _ _ _ _ _ C => tX6_piecesNow_0 C  hf)
set_option maxRecDepth 20000 in
theorem ggX6_stuckNow_X6_findsPieces : GoodIn wsX6_stuckNow wsX6_findsPieces := goodIn_r _ [6, 1, 7, 8, 9, 10, 11, 12, 13, 5, 14, 15, 16, 17, 29, 30, 31, 32, 33, 34, 35, 36, 37, 38, 39, 40, 41, 42, 43, 44, 45, 46] (by decide +kernel) (by decide +kernel)
set_option maxRecDepth 20000 in
theorem gX6_stuckNow_X6_findsPieces : GoodIn wsX6_stuckNow (wsV RX6 181 RX6 yX6_findsPieces wsX6_findsPieces) := goodIn_app (goodIn_of _ (by decide +kernel)) ggX6_stuckNow_X6_findsPieces
set_option maxRecDepth 20000 in
theorem ggX6_stuckNow_X6_pieceBy : GoodIn wsX6_stuckNow wsX6_pieceBy := goodIn_r _ [21, 7, 10, 8, 22, 23, 24, 5, 25, 15, 16, 17, 26, 27, 28, 29, 30, 31, 32, 33, 34, 35, 36, 37, 38, 39, 40, 41, 42, 43, 44, 45, 46] (by decide +kernel) (by decide +kernel)
set_option maxRecDepth 20000 in
theorem gX6_stuckNow_X6_pieceBy : GoodIn wsX6_stuckNow (wsV RX6 184 RX6 yX6_pieceBy wsX6_pieceBy) := goodIn_app (goodIn_of _ (by decide +kernel)) ggX6_stuckNow_X6_pieceBy
theorem dX6_stuckNow_0 : decode cX6_stuckNow 0 = .ok (.aload_n 0, 1) := by decide +kernel
theorem dX6_stuckNow_1 : decode cX6_stuckNow 1 = .ok (.invokevirtual 181, 3) := by decide +kernel
theorem dX6_stuckNow_4 : decode cX6_stuckNow 4 = .ok (.iconst 0, 1) := by decide +kernel
theorem dX6_stuckNow_5 : decode cX6_stuckNow 5 = .ok (.istore_n 1, 1) := by decide +kernel
theorem dX6_stuckNow_6 : decode cX6_stuckNow 6 = .ok (.iconst 0, 1) := by decide +kernel
theorem dX6_stuckNow_7 : decode cX6_stuckNow 7 = .ok (.istore_n 2, 1) := by decide +kernel
theorem dX6_stuckNow_8 : decode cX6_stuckNow 8 = .ok (.iload_n 2, 1) := by decide +kernel
theorem dX6_stuckNow_9 : decode cX6_stuckNow 9 = .ok (.aload_n 0, 1) := by decide +kernel
theorem dX6_stuckNow_10 : decode cX6_stuckNow 10 = .ok (.getfield 172, 3) := by decide +kernel
theorem dX6_stuckNow_13 : decode cX6_stuckNow 13 = .ok (.if_icmp .ge 18, 3) := by decide +kernel
theorem dX6_stuckNow_16 : decode cX6_stuckNow 16 = .ok (.iload_n 1, 1) := by decide +kernel
theorem dX6_stuckNow_17 : decode cX6_stuckNow 17 = .ok (.aload_n 0, 1) := by decide +kernel
theorem dX6_stuckNow_18 : decode cX6_stuckNow 18 = .ok (.iload_n 2, 1) := by decide +kernel
theorem dX6_stuckNow_19 : decode cX6_stuckNow 19 = .ok (.iconst 2, 1) := by decide +kernel
theorem dX6_stuckNow_20 : decode cX6_stuckNow 20 = .ok (.invokevirtual 184, 3) := by decide +kernel
theorem dX6_stuckNow_23 : decode cX6_stuckNow 23 = .ok (.iadd, 1) := by decide +kernel
theorem dX6_stuckNow_24 : decode cX6_stuckNow 24 = .ok (.istore_n 1, 1) := by decide +kernel
theorem dX6_stuckNow_25 : decode cX6_stuckNow 25 = .ok (.iinc 2 1, 3) := by decide +kernel
theorem dX6_stuckNow_28 : decode cX6_stuckNow 28 = .ok (.goto (-20), 3) := by decide +kernel
theorem dX6_stuckNow_31 : decode cX6_stuckNow 31 = .ok (.iload_n 1, 1) := by decide +kernel
theorem dX6_stuckNow_32 : decode cX6_stuckNow 32 = .ok (.ireturn, 1) := by decide +kernel
abbrev rmX6_stuckNow : Room := { frames := 3, cells := 0, slots := 0, locals := 77 }
set_option maxRecDepth 100000 in
theorem hinX6_stuckNow_6 : ∀ w ∈ wsX60, w ∈ wsX6_stuckNow := by decide +kernel
def fX6_stuckNow_8b (k8 : AH → Int32 → Int32 → Option (Int32 × AH)) (h : AH) (x1 : Int32) (x2 : Int32) : Option (Int32 × AH) :=
  if (h.1 29 10) ≤ x2 then (
    some (x1, h)) else (
  bR (fX6_pieceBy h x2 2) fun r1 =>
  nm (x1 + r1) fun v2 =>
  nm (x2 + 1) fun v3 =>
  k8 h v2 v3)
set_option maxHeartbeats 4000000 in
set_option maxRecDepth 100000 in
theorem tX6_stuckNow_8b {h : AH} {k8 : AH → Int32 → Int32 → Option (Int32 × AH)} {x1 : Int32} {x2 : Int32} {r0 : Int32} {h0 : AH} (C : Cx p rmX6_stuckNow s m args meth c RX6 cX6_stuckNow 3 (some .int) wsX6_stuckNow D ad cy tb 0 0) (H8 : ∀ (h : AH) (x1 : Int32) (x2 : Int32), k8 h x1 x2 = some (r0, h0) → AW p l e rmX6_stuckNow s m args below meth c 3 D ad cy 0 0 (Qi D ad cy below args s r0 h0) 8 [(0, .ref (ad 29)), (1, .int x1), (2, .int x2)] [] h) (hf : fX6_stuckNow_8b k8 h x1 x2 = some (r0, h0)) : AW p l e rmX6_stuckNow s m args below meth c 3 D ad cy 0 0 (Qi D ad cy below args s r0 h0) 8 [(0, .ref (ad 29)), (1, .int x1), (2, .int x2)] [] h := by
  unfold fX6_stuckNow_8b at hf
  refine aw_iload_n C dX6_stuckNow_8 rfl 2 rfl ?_
  refine aw_aload_n C dX6_stuckNow_9 rfl 0 rfl ?_
  refine aw_get C (kd_lt rfl (by decide)) (ce_6 rfl) rfl hinX6_stuckNow_6 10 (by decide) rfl (by decide +kernel) rfl dX6_stuckNow_10 ?_
  refine aw_icmp_ge (tgt := 31) C dX6_stuckNow_13 (by decide) hf (fun hf => ?_) (fun hf => ?_)
  · refine aw_iload_n C dX6_stuckNow_31 rfl 1 rfl ?_
    exact aw_iretW C dX6_stuckNow_32 hf
  refine aw_iload_n C dX6_stuckNow_16 rfl 1 rfl ?_
  refine aw_aload_n C dX6_stuckNow_17 rfl 0 rfl ?_
  refine aw_iload_n C dX6_stuckNow_18 rfl 2 rfl ?_
  refine aw_iconst (v := 2) C dX6_stuckNow_19 (by decide) ?_
  obtain ⟨r1, hc, hf⟩ := bR_some hf
  refine aw_callVi (As := [.int x2, .int 2]) (rest := [.int x1]) C rfl (by decide) rfl (kX6_pieceBy (l := l) (D := D) (ad := ad) (cy := cy) (tb := tb) C.2.2.2.2.2.2.2.2.1 hc) (fun ht _ => cwV 2 ht gX6_stuckNow_X6_pieceBy rfl rfl rfl (by decide +kernel) ⟨Nat.le_of_ble_eq_true rfl, Nat.le_of_ble_eq_true rfl⟩) rfl rfl (Nat.le_of_ble_eq_true rfl) dX6_stuckNow_20 ?_
  refine aw_iadd C dX6_stuckNow_23 ?_
  refine aw_nmI hf (fun v2 hf => ?_)
  refine aw_istore_n (lv1 := [(1, .int v2), (0, .ref (ad 29)), (2, .int x2)]) C dX6_stuckNow_24 rfl (by decide) rfl ?_
  obtain ⟨v3, hvv3, hf⟩ := nm_ex hf
  refine aw_iinc (j := 2) (v := v3) (lv1 := [(2, .int v3), (1, .int v2), (0, .ref (ad 29))]) C dX6_stuckNow_25 rfl hvv3 (by decide) rfl ?_
  refine aw_goto (tgt := 8) C dX6_stuckNow_28 (by decide) ?_
  refine aw_sub [2, 1, 0] rfl ?_
  exact H8 h v2 v3 hf
def fX6_stuckNow_8 : Nat → AH → Int32 → Int32 → Option (Int32 × AH)
  | 0, _, _, _ => none
  | n + 1, h, x1, x2 => fX6_stuckNow_8b (fX6_stuckNow_8 n) h x1 x2
set_option maxHeartbeats 4000000 in
set_option maxRecDepth 100000 in
theorem tX6_stuckNow_8  {r0 : Int32} {h0 : AH} (C : Cx p rmX6_stuckNow s m args meth c RX6 cX6_stuckNow 3 (some .int) wsX6_stuckNow D ad cy tb 0 0) : ∀ (n : Nat) (h : AH) (x1 : Int32) (x2 : Int32), fX6_stuckNow_8 n h x1 x2 = some (r0, h0) → AW p l e rmX6_stuckNow s m args below meth c 3 D ad cy 0 0 (Qi D ad cy below args s r0 h0) 8 [(0, .ref (ad 29)), (1, .int x1), (2, .int x2)] [] h := by
  intro n
  induction n with
  | zero => intro h x1 x2 hf; cases hf
  | succ n ih => intro h x1 x2 hf; exact tX6_stuckNow_8b C  ih  hf
def fX6_stuckNow (h : AH) : Option (Int32 × AH) :=
  bR (fX6_findsPieces h ) fun h1 =>
  fX6_stuckNow_8   FU h1 0 0
set_option maxHeartbeats 4000000 in
set_option maxRecDepth 100000 in
theorem tX6_stuckNow_0 {h : AH} {r0 : Int32} {h0 : AH} (C : Cx p rmX6_stuckNow s m args meth c RX6 cX6_stuckNow 3 (some .int) wsX6_stuckNow D ad cy tb 0 0) (hf : fX6_stuckNow h = some (r0, h0)) : AW p l e rmX6_stuckNow s m args below meth c 3 D ad cy 0 0 (Qi D ad cy below args s r0 h0) 0 [(0, .ref (ad 29))] [] h := by
  unfold fX6_stuckNow at hf
  refine aw_aload_n C dX6_stuckNow_0 rfl 0 rfl ?_
  obtain ⟨h1, hc, hf⟩ := bR_some hf
  refine aw_callVv (As := []) (rest := []) C rfl (by decide) rfl (kX6_findsPieces (l := l) (D := D) (ad := ad) (cy := cy) (tb := tb) C.2.2.2.2.2.2.2.2.1 hc) (fun ht _ => cwV 0 ht gX6_stuckNow_X6_findsPieces rfl rfl rfl (by decide +kernel) ⟨Nat.le_of_ble_eq_true rfl, Nat.le_of_ble_eq_true rfl⟩) rfl rfl (Nat.le_of_ble_eq_true rfl) dX6_stuckNow_1 ?_
  refine aw_iconst (v := 0) C dX6_stuckNow_4 (by decide) ?_
  refine aw_istore_n (lv1 := [(1, .int 0), (0, .ref (ad 29))]) C dX6_stuckNow_5 rfl (by decide) rfl ?_
  refine aw_iconst (v := 0) C dX6_stuckNow_6 (by decide) ?_
  refine aw_istore_n (lv1 := [(2, .int 0), (1, .int 0), (0, .ref (ad 29))]) C dX6_stuckNow_7 rfl (by decide) rfl ?_
  refine aw_sub [2, 1, 0] rfl ?_
  exact tX6_stuckNow_8 C   FU h1 0 0 hf
theorem kX6_stuckNow {h : AH} {r0 : Int32} {h0 : AH} (hi : Inj ad) (hf : fX6_stuckNow h = some (r0, h0)) : Ki l yX6_stuckNow wsX6_stuckNow rmX6_stuckNow D ad cy tb [.ref (ad 29)] h r0 h0 := met_i (lv := [(0, .ref (ad 29))]) hi (by decide) rfl (Nat.le_of_ble_eq_true rfl) rfl rfl (fun _ _ _ _ _ _ _ _ C => tX6_stuckNow_0 C  hf)
set_option maxRecDepth 20000 in
theorem ggX6_count_X6_wrongMany : GoodIn wsX6_count wsX6_wrongMany := goodIn_r _ [8, 9, 70, 71, 72, 73, 74, 75, 76, 77, 78, 79, 80, 81, 82, 83, 84, 85, 86, 87] (by decide +kernel) (by decide +kernel)
set_option maxRecDepth 20000 in
theorem gX6_count_X6_wrongMany : GoodIn wsX6_count (wsV RX6 98 RX6 yX6_wrongMany wsX6_wrongMany) := goodIn_app (goodIn_of _ (by decide +kernel)) ggX6_count_X6_wrongMany
set_option maxRecDepth 20000 in
theorem ggX6_count_X6_wordsOf : GoodIn wsX6_count wsX6_wordsOf := goodIn_r _ [13, 1, 14, 15, 16, 7, 17, 18, 19, 20, 21, 9, 22, 23, 24, 25, 26, 27, 28, 29, 30, 31, 32, 33, 34, 35, 36, 37, 70, 71, 72, 73, 74, 75, 76, 77, 78, 79, 80, 81, 82, 83, 84, 85, 86, 87] (by decide +kernel) (by decide +kernel)
set_option maxRecDepth 20000 in
theorem gX6_count_X6_wordsOf : GoodIn wsX6_count (wsV RX6 166 RX6 yX6_wordsOf wsX6_wordsOf) := goodIn_app (goodIn_of _ (by decide +kernel)) ggX6_count_X6_wordsOf
set_option maxRecDepth 20000 in
theorem ggX6_count_X6_falseNow : GoodIn wsX6_count wsX6_falseNow := goodIn_r _ [41, 9, 42, 70, 71, 72, 73, 74, 75, 76, 77, 78, 79, 80, 81, 82, 83, 84, 85, 86, 87] (by decide +kernel) (by decide +kernel)
set_option maxRecDepth 20000 in
theorem gX6_count_X6_falseNow : GoodIn wsX6_count (wsV RX6 205 RX6 yX6_falseNow wsX6_falseNow) := goodIn_app (goodIn_of _ (by decide +kernel)) ggX6_count_X6_falseNow
set_option maxRecDepth 20000 in
theorem ggX6_count_X6_piecesNow : GoodIn wsX6_count wsX6_piecesNow := goodIn_r _ [46, 47, 48, 49, 50, 7, 51, 52, 9, 53, 1, 54, 55, 56, 57, 25, 26, 27, 70, 71, 72, 73, 74, 75, 76, 77, 78, 79, 80, 81, 82, 83, 84, 85, 86, 87] (by decide +kernel) (by decide +kernel)
set_option maxRecDepth 20000 in
theorem gX6_count_X6_piecesNow : GoodIn wsX6_count (wsV RX6 208 RX6 yX6_piecesNow wsX6_piecesNow) := goodIn_app (goodIn_of _ (by decide +kernel)) ggX6_count_X6_piecesNow
set_option maxRecDepth 20000 in
theorem ggX6_count_X6_stuckNow : GoodIn wsX6_count wsX6_stuckNow := goodIn_r _ [61, 47, 48, 49, 50, 7, 51, 52, 9, 53, 1, 54, 55, 56, 57, 25, 26, 27, 62, 63, 64, 65, 66, 67, 68, 69, 22, 23, 24, 70, 71, 72, 73, 74, 75, 76, 77, 78, 79, 80, 81, 82, 83, 84, 85, 86, 87] (by decide +kernel) (by decide +kernel)
set_option maxRecDepth 20000 in
theorem gX6_count_X6_stuckNow : GoodIn wsX6_count (wsV RX6 211 RX6 yX6_stuckNow wsX6_stuckNow) := goodIn_app (goodIn_of _ (by decide +kernel)) ggX6_count_X6_stuckNow
theorem dX6_count_0 : decode cX6_count 0 = .ok (.iload_n 1, 1) := by decide +kernel
theorem dX6_count_1 : decode cX6_count 1 = .ok (.tableswitch 98 0 8 #[51, 56, 61, 67, 73, 78, 83, 88, 93], 51) := by decide +kernel
theorem dX6_count_52 : decode cX6_count 52 = .ok (.aload_n 0, 1) := by decide +kernel
theorem dX6_count_53 : decode cX6_count 53 = .ok (.getfield 7, 3) := by decide +kernel
theorem dX6_count_56 : decode cX6_count 56 = .ok (.ireturn, 1) := by decide +kernel
theorem dX6_count_57 : decode cX6_count 57 = .ok (.aload_n 0, 1) := by decide +kernel
theorem dX6_count_58 : decode cX6_count 58 = .ok (.invokevirtual 98, 3) := by decide +kernel
theorem dX6_count_61 : decode cX6_count 61 = .ok (.ireturn, 1) := by decide +kernel
theorem dX6_count_62 : decode cX6_count 62 = .ok (.aload_n 0, 1) := by decide +kernel
theorem dX6_count_63 : decode cX6_count 63 = .ok (.iconst 0, 1) := by decide +kernel
theorem dX6_count_64 : decode cX6_count 64 = .ok (.invokevirtual 166, 3) := by decide +kernel
theorem dX6_count_67 : decode cX6_count 67 = .ok (.ireturn, 1) := by decide +kernel
theorem dX6_count_68 : decode cX6_count 68 = .ok (.aload_n 0, 1) := by decide +kernel
theorem dX6_count_69 : decode cX6_count 69 = .ok (.iconst 1, 1) := by decide +kernel
theorem dX6_count_70 : decode cX6_count 70 = .ok (.invokevirtual 166, 3) := by decide +kernel
theorem dX6_count_73 : decode cX6_count 73 = .ok (.ireturn, 1) := by decide +kernel
theorem dX6_count_74 : decode cX6_count 74 = .ok (.aload_n 0, 1) := by decide +kernel
theorem dX6_count_75 : decode cX6_count 75 = .ok (.getfield 85, 3) := by decide +kernel
theorem dX6_count_78 : decode cX6_count 78 = .ok (.ireturn, 1) := by decide +kernel
theorem dX6_count_79 : decode cX6_count 79 = .ok (.aload_n 0, 1) := by decide +kernel
theorem dX6_count_80 : decode cX6_count 80 = .ok (.invokevirtual 205, 3) := by decide +kernel
theorem dX6_count_83 : decode cX6_count 83 = .ok (.ireturn, 1) := by decide +kernel
theorem dX6_count_84 : decode cX6_count 84 = .ok (.aload_n 0, 1) := by decide +kernel
theorem dX6_count_85 : decode cX6_count 85 = .ok (.invokevirtual 208, 3) := by decide +kernel
theorem dX6_count_88 : decode cX6_count 88 = .ok (.ireturn, 1) := by decide +kernel
theorem dX6_count_89 : decode cX6_count 89 = .ok (.aload_n 0, 1) := by decide +kernel
theorem dX6_count_90 : decode cX6_count 90 = .ok (.invokevirtual 211, 3) := by decide +kernel
theorem dX6_count_93 : decode cX6_count 93 = .ok (.ireturn, 1) := by decide +kernel
theorem dX6_count_94 : decode cX6_count 94 = .ok (.aload_n 0, 1) := by decide +kernel
theorem dX6_count_95 : decode cX6_count 95 = .ok (.getfield 199, 3) := by decide +kernel
theorem dX6_count_98 : decode cX6_count 98 = .ok (.ireturn, 1) := by decide +kernel
theorem dX6_count_99 : decode cX6_count 99 = .ok (.bipush (-2), 2) := by decide +kernel
theorem dX6_count_101 : decode cX6_count 101 = .ok (.ireturn, 1) := by decide +kernel
abbrev rmX6_count : Room := { frames := 5, cells := 0, slots := 0, locals := 117 }
set_option maxRecDepth 100000 in
theorem hinX6_count_6 : ∀ w ∈ wsX60, w ∈ wsX6_count := by decide +kernel
def fX6_count (h : AH) (a1 : Int32) : Option (Int32 × AH) :=
  if a1 = 0 then (
    some (h.1 29 0, h)) else (
  if a1 = 1 then (
    bR (fX6_wrongMany h ) fun r1 =>
    some (r1, h)) else (
  if a1 = 2 then (
    bR (fX6_wordsOf h 0) fun r2 =>
    some (r2, h)) else (
  if a1 = 3 then (
    bR (fX6_wordsOf h 1) fun r3 =>
    some (r3, h)) else (
  if a1 = 4 then (
    some (h.1 29 7, h)) else (
  if a1 = 5 then (
    bR (fX6_falseNow h ) fun r4 =>
    some (r4, h)) else (
  if a1 = 6 then (
    bW (fX6_piecesNow h ) fun r6 h5 =>
    some (r6, h5)) else (
  if a1 = 7 then (
    bW (fX6_stuckNow h ) fun r8 h7 =>
    some (r8, h7)) else (
  if a1 = 8 then (
    some (h.1 29 17, h)) else (
  some ((-2), h))))))))))
set_option maxHeartbeats 4000000 in
set_option maxRecDepth 100000 in
theorem tX6_count_0 {h : AH} {a1 : Int32} {r0 : Int32} {h0 : AH} (C : Cx p rmX6_count s m args meth c RX6 cX6_count 2 (some .int) wsX6_count D ad cy tb 0 0) (hf : fX6_count h a1 = some (r0, h0)) : AW p l e rmX6_count s m args below meth c 2 D ad cy 0 0 (Qi D ad cy below args s r0 h0) 0 [(0, .ref (ad 29)), (1, .int a1)] [] h := by
  unfold fX6_count at hf
  refine aw_iload_n C dX6_count_0 rfl 1 rfl ?_
  rcases Decidable.em (a1 = 0) with hx0 | hx0
  · rw [if_pos hx0] at hf
    refine aw_tabIn (tgt := 52) C dX6_count_1 (by rw [hx0]; decide) (by rw [hx0]; decide) (by rw [hx0]; rfl) (by decide) ?_
    refine aw_aload_n C dX6_count_52 rfl 0 rfl ?_
    refine aw_get C (kd_lt rfl (by decide)) (ce_6 rfl) rfl hinX6_count_6 0 (by decide) rfl (by decide +kernel) rfl dX6_count_53 ?_
    exact aw_iretW C dX6_count_56 hf
  rw [if_neg hx0] at hf
  rcases Decidable.em (a1 = 1) with hx1 | hx1
  · rw [if_pos hx1] at hf
    refine aw_tabIn (tgt := 57) C dX6_count_1 (by rw [hx1]; decide) (by rw [hx1]; decide) (by rw [hx1]; rfl) (by decide) ?_
    refine aw_aload_n C dX6_count_57 rfl 0 rfl ?_
    obtain ⟨r1, hc, hf⟩ := bR_some hf
    refine aw_callVi (As := []) (rest := []) C rfl (by decide) rfl (kX6_wrongMany (l := l) (D := D) (ad := ad) (cy := cy) (tb := tb) C.2.2.2.2.2.2.2.2.1 hc) (fun ht _ => cwV 0 ht gX6_count_X6_wrongMany rfl rfl rfl (by decide +kernel) ⟨Nat.le_of_ble_eq_true rfl, Nat.le_of_ble_eq_true rfl⟩) rfl rfl (Nat.le_of_ble_eq_true rfl) dX6_count_58 ?_
    exact aw_iretW C dX6_count_61 hf
  rw [if_neg hx1] at hf
  rcases Decidable.em (a1 = 2) with hx2 | hx2
  · rw [if_pos hx2] at hf
    refine aw_tabIn (tgt := 62) C dX6_count_1 (by rw [hx2]; decide) (by rw [hx2]; decide) (by rw [hx2]; rfl) (by decide) ?_
    refine aw_aload_n C dX6_count_62 rfl 0 rfl ?_
    refine aw_iconst (v := 0) C dX6_count_63 (by decide) ?_
    obtain ⟨r2, hc, hf⟩ := bR_some hf
    refine aw_callVi (As := [.int 0]) (rest := []) C rfl (by decide) rfl (kX6_wordsOf (l := l) (D := D) (ad := ad) (cy := cy) (tb := tb) C.2.2.2.2.2.2.2.2.1 hc) (fun ht _ => cwV 1 ht gX6_count_X6_wordsOf rfl rfl rfl (by decide +kernel) ⟨Nat.le_of_ble_eq_true rfl, Nat.le_of_ble_eq_true rfl⟩) rfl rfl (Nat.le_of_ble_eq_true rfl) dX6_count_64 ?_
    exact aw_iretW C dX6_count_67 hf
  rw [if_neg hx2] at hf
  rcases Decidable.em (a1 = 3) with hx3 | hx3
  · rw [if_pos hx3] at hf
    refine aw_tabIn (tgt := 68) C dX6_count_1 (by rw [hx3]; decide) (by rw [hx3]; decide) (by rw [hx3]; rfl) (by decide) ?_
    refine aw_aload_n C dX6_count_68 rfl 0 rfl ?_
    refine aw_iconst (v := 1) C dX6_count_69 (by decide) ?_
    obtain ⟨r3, hc, hf⟩ := bR_some hf
    refine aw_callVi (As := [.int 1]) (rest := []) C rfl (by decide) rfl (kX6_wordsOf (l := l) (D := D) (ad := ad) (cy := cy) (tb := tb) C.2.2.2.2.2.2.2.2.1 hc) (fun ht _ => cwV 1 ht gX6_count_X6_wordsOf rfl rfl rfl (by decide +kernel) ⟨Nat.le_of_ble_eq_true rfl, Nat.le_of_ble_eq_true rfl⟩) rfl rfl (Nat.le_of_ble_eq_true rfl) dX6_count_70 ?_
    exact aw_iretW C dX6_count_73 hf
  rw [if_neg hx3] at hf
  rcases Decidable.em (a1 = 4) with hx4 | hx4
  · rw [if_pos hx4] at hf
    refine aw_tabIn (tgt := 74) C dX6_count_1 (by rw [hx4]; decide) (by rw [hx4]; decide) (by rw [hx4]; rfl) (by decide) ?_
    refine aw_aload_n C dX6_count_74 rfl 0 rfl ?_
    refine aw_get C (kd_lt rfl (by decide)) (ce_6 rfl) rfl hinX6_count_6 7 (by decide) rfl (by decide +kernel) rfl dX6_count_75 ?_
    exact aw_iretW C dX6_count_78 hf
  rw [if_neg hx4] at hf
  rcases Decidable.em (a1 = 5) with hx5 | hx5
  · rw [if_pos hx5] at hf
    refine aw_tabIn (tgt := 79) C dX6_count_1 (by rw [hx5]; decide) (by rw [hx5]; decide) (by rw [hx5]; rfl) (by decide) ?_
    refine aw_aload_n C dX6_count_79 rfl 0 rfl ?_
    obtain ⟨r4, hc, hf⟩ := bR_some hf
    refine aw_callVi (As := []) (rest := []) C rfl (by decide) rfl (kX6_falseNow (l := l) (D := D) (ad := ad) (cy := cy) (tb := tb) C.2.2.2.2.2.2.2.2.1 hc) (fun ht _ => cwV 0 ht gX6_count_X6_falseNow rfl rfl rfl (by decide +kernel) ⟨Nat.le_of_ble_eq_true rfl, Nat.le_of_ble_eq_true rfl⟩) rfl rfl (Nat.le_of_ble_eq_true rfl) dX6_count_80 ?_
    exact aw_iretW C dX6_count_83 hf
  rw [if_neg hx5] at hf
  rcases Decidable.em (a1 = 6) with hx6 | hx6
  · rw [if_pos hx6] at hf
    refine aw_tabIn (tgt := 84) C dX6_count_1 (by rw [hx6]; decide) (by rw [hx6]; decide) (by rw [hx6]; rfl) (by decide) ?_
    refine aw_aload_n C dX6_count_84 rfl 0 rfl ?_
    obtain ⟨r6, h5, hc, hf⟩ := bW_some hf
    refine aw_callVi (As := []) (rest := []) C rfl (by decide) rfl (kX6_piecesNow (l := l) (D := D) (ad := ad) (cy := cy) (tb := tb) C.2.2.2.2.2.2.2.2.1 hc) (fun ht _ => cwV 0 ht gX6_count_X6_piecesNow rfl rfl rfl (by decide +kernel) ⟨Nat.le_of_ble_eq_true rfl, Nat.le_of_ble_eq_true rfl⟩) rfl rfl (Nat.le_of_ble_eq_true rfl) dX6_count_85 ?_
    exact aw_iretW C dX6_count_88 hf
  rw [if_neg hx6] at hf
  rcases Decidable.em (a1 = 7) with hx7 | hx7
  · rw [if_pos hx7] at hf
    refine aw_tabIn (tgt := 89) C dX6_count_1 (by rw [hx7]; decide) (by rw [hx7]; decide) (by rw [hx7]; rfl) (by decide) ?_
    refine aw_aload_n C dX6_count_89 rfl 0 rfl ?_
    obtain ⟨r8, h7, hc, hf⟩ := bW_some hf
    refine aw_callVi (As := []) (rest := []) C rfl (by decide) rfl (kX6_stuckNow (l := l) (D := D) (ad := ad) (cy := cy) (tb := tb) C.2.2.2.2.2.2.2.2.1 hc) (fun ht _ => cwV 0 ht gX6_count_X6_stuckNow rfl rfl rfl (by decide +kernel) ⟨Nat.le_of_ble_eq_true rfl, Nat.le_of_ble_eq_true rfl⟩) rfl rfl (Nat.le_of_ble_eq_true rfl) dX6_count_90 ?_
    exact aw_iretW C dX6_count_93 hf
  rw [if_neg hx7] at hf
  rcases Decidable.em (a1 = 8) with hx8 | hx8
  · rw [if_pos hx8] at hf
    refine aw_tabIn (tgt := 94) C dX6_count_1 (by rw [hx8]; decide) (by rw [hx8]; decide) (by rw [hx8]; rfl) (by decide) ?_
    refine aw_aload_n C dX6_count_94 rfl 0 rfl ?_
    refine aw_get C (kd_lt rfl (by decide)) (ce_6 rfl) rfl hinX6_count_6 17 (by decide) rfl (by decide +kernel) rfl dX6_count_95 ?_
    exact aw_iretW C dX6_count_98 hf
  rw [if_neg hx8] at hf
  have hsw := sw_out (x := a1) 9 (by decide) (fun j hj => by
    rcases (show j = 0 ∨ j = 1 ∨ j = 2 ∨ j = 3 ∨ j = 4 ∨ j = 5 ∨ j = 6 ∨ j = 7 ∨ j = 8 by omega) with rfl | rfl | rfl | rfl | rfl | rfl | rfl | rfl | rfl
    · exact hx0
    · exact hx1
    · exact hx2
    · exact hx3
    · exact hx4
    · exact hx5
    · exact hx6
    · exact hx7
    · exact hx8)
  refine aw_tabOut (tgt := 99) C dX6_count_1 (by omega) (by decide) ?_
  refine aw_bipush (v := (-2)) C dX6_count_99 (by decide) ?_
  exact aw_iretW C dX6_count_101 hf
theorem kX6_count {h : AH} {a1 : Int32} {r0 : Int32} {h0 : AH} (hi : Inj ad) (hf : fX6_count h a1 = some (r0, h0)) : Ki l yX6_count wsX6_count rmX6_count D ad cy tb [.ref (ad 29), .int a1] h r0 h0 := met_i (lv := [(0, .ref (ad 29)), (1, .int a1)]) hi (by decide) rfl (Nat.le_of_ble_eq_true rfl) rfl rfl (fun _ _ _ _ _ _ _ _ C => tX6_count_0 C  hf)
set_option maxRecDepth 20000 in
theorem ggX5_digestOfLists_X0_bitOfMend : GoodIn wsX5_digestOfLists wsX0_bitOfMend := goodIn_r _ [9, 10, 11, 106, 107, 108] (by decide +kernel) (by decide +kernel)
set_option maxRecDepth 20000 in
theorem gX5_digestOfLists_X0_bitOfMend : GoodIn wsX5_digestOfLists (wsV RX5 207 RX0 yX0_bitOfMend wsX0_bitOfMend) := goodIn_app (goodIn_of _ (by decide +kernel)) ggX5_digestOfLists_X0_bitOfMend
set_option maxRecDepth 20000 in
theorem ggX5_digestOfLists_X4_endOfWords : GoodIn wsX5_digestOfLists wsX4_endOfWords := goodIn_r _ [16, 17, 117, 118, 119] (by decide +kernel) (by decide +kernel)
set_option maxRecDepth 20000 in
theorem gX5_digestOfLists_X4_endOfWords : GoodIn wsX5_digestOfLists (wsV RX5 213 RX4 yX4_endOfWords wsX4_endOfWords) := goodIn_app (goodIn_of _ (by decide +kernel)) ggX5_digestOfLists_X4_endOfWords
set_option maxRecDepth 20000 in
theorem ggX5_digestOfLists_X4_isStalled : GoodIn wsX5_digestOfLists wsX4_isStalled := goodIn_r _ [21, 22, 23, 24, 15, 25, 26, 27, 28, 29, 30, 117, 118, 119] (by decide +kernel) (by decide +kernel)
set_option maxRecDepth 20000 in
theorem gX5_digestOfLists_X4_isStalled : GoodIn wsX5_digestOfLists (wsV RX5 170 RX4 yX4_isStalled wsX4_isStalled) := goodIn_app (goodIn_of _ (by decide +kernel)) ggX5_digestOfLists_X4_isStalled
set_option maxRecDepth 20000 in
theorem ggX5_digestOfLists_X1_find : GoodIn wsX5_digestOfLists wsX1_find := goodIn_r _ [35, 36, 37, 38, 39, 13, 14, 15, 16, 17, 40, 41, 42, 43, 44, 45, 46, 47, 48, 49, 50, 51, 52, 53, 54, 55, 56, 57, 34, 58, 59, 60, 61, 62, 63, 64, 65, 66, 67, 68, 69, 70, 71, 72, 73, 74, 75, 76, 77, 78, 79, 80, 81, 82, 83, 84, 85, 86, 87, 88, 89, 90, 91, 92, 109, 110, 111, 112, 113, 114, 115, 116, 117, 118, 119] (by decide +kernel) (by decide +kernel)
set_option maxRecDepth 20000 in
theorem gX5_digestOfLists_X1_find : GoodIn wsX5_digestOfLists (wsV RX5 216 RX1 yX1_find wsX1_find) := goodIn_app (goodIn_of _ (by decide +kernel)) ggX5_digestOfLists_X1_find
set_option maxRecDepth 20000 in
theorem ggX5_digestOfLists_X1_tell : GoodIn wsX5_digestOfLists wsX1_tell := goodIn_r _ [96, 36, 61, 62, 63, 38, 109, 110, 111, 112, 113, 114, 115, 116] (by decide +kernel) (by decide +kernel)
set_option maxRecDepth 20000 in
theorem gX5_digestOfLists_X1_tell : GoodIn wsX5_digestOfLists (wsV RX5 220 RX1 yX1_tell wsX1_tell) := goodIn_app (goodIn_of _ (by decide +kernel)) ggX5_digestOfLists_X1_tell
theorem dX5_digestOfLists_0 : decode cX5_digestOfLists 0 = .ok (.lload_n 1, 1) := by decide +kernel
theorem dX5_digestOfLists_1 : decode cX5_digestOfLists 1 = .ok (.lstore_n 3, 1) := by decide +kernel
theorem dX5_digestOfLists_2 : decode cX5_digestOfLists 2 = .ok (.iconst 0, 1) := by decide +kernel
theorem dX5_digestOfLists_3 : decode cX5_digestOfLists 3 = .ok (.istore 5, 2) := by decide +kernel
theorem dX5_digestOfLists_5 : decode cX5_digestOfLists 5 = .ok (.iload 5, 2) := by decide +kernel
theorem dX5_digestOfLists_7 : decode cX5_digestOfLists 7 = .ok (.aload_n 0, 1) := by decide +kernel
theorem dX5_digestOfLists_8 : decode cX5_digestOfLists 8 = .ok (.getfield 33, 3) := by decide +kernel
theorem dX5_digestOfLists_11 : decode cX5_digestOfLists 11 = .ok (.getfield 203, 3) := by decide +kernel
theorem dX5_digestOfLists_14 : decode cX5_digestOfLists 14 = .ok (.if_icmp .ge 26, 3) := by decide +kernel
theorem dX5_digestOfLists_17 : decode cX5_digestOfLists 17 = .ok (.ldc2_w 268, 3) := by decide +kernel
theorem dX5_digestOfLists_20 : decode cX5_digestOfLists 20 = .ok (.lload_n 3, 1) := by decide +kernel
theorem dX5_digestOfLists_21 : decode cX5_digestOfLists 21 = .ok (.lmul, 1) := by decide +kernel
theorem dX5_digestOfLists_22 : decode cX5_digestOfLists 22 = .ok (.aload_n 0, 1) := by decide +kernel
theorem dX5_digestOfLists_23 : decode cX5_digestOfLists 23 = .ok (.getfield 33, 3) := by decide +kernel
theorem dX5_digestOfLists_26 : decode cX5_digestOfLists 26 = .ok (.iload 5, 2) := by decide +kernel
theorem dX5_digestOfLists_28 : decode cX5_digestOfLists 28 = .ok (.invokevirtual 207, 3) := by decide +kernel
theorem dX5_digestOfLists_31 : decode cX5_digestOfLists 31 = .ok (.i2l, 1) := by decide +kernel
theorem dX5_digestOfLists_32 : decode cX5_digestOfLists 32 = .ok (.ladd, 1) := by decide +kernel
theorem dX5_digestOfLists_33 : decode cX5_digestOfLists 33 = .ok (.lstore_n 3, 1) := by decide +kernel
theorem dX5_digestOfLists_34 : decode cX5_digestOfLists 34 = .ok (.iinc 5 1, 3) := by decide +kernel
theorem dX5_digestOfLists_37 : decode cX5_digestOfLists 37 = .ok (.goto (-32), 3) := by decide +kernel
theorem dX5_digestOfLists_40 : decode cX5_digestOfLists 40 = .ok (.aload_n 0, 1) := by decide +kernel
theorem dX5_digestOfLists_41 : decode cX5_digestOfLists 41 = .ok (.getfield 12, 3) := by decide +kernel
theorem dX5_digestOfLists_44 : decode cX5_digestOfLists 44 = .ok (.invokevirtual 213, 3) := by decide +kernel
theorem dX5_digestOfLists_47 : decode cX5_digestOfLists 47 = .ok (.istore 5, 2) := by decide +kernel
theorem dX5_digestOfLists_49 : decode cX5_digestOfLists 49 = .ok (.bipush 8, 2) := by decide +kernel
theorem dX5_digestOfLists_51 : decode cX5_digestOfLists 51 = .ok (.istore 6, 2) := by decide +kernel
theorem dX5_digestOfLists_53 : decode cX5_digestOfLists 53 = .ok (.iload 6, 2) := by decide +kernel
theorem dX5_digestOfLists_55 : decode cX5_digestOfLists 55 = .ok (.iload 5, 2) := by decide +kernel
theorem dX5_digestOfLists_57 : decode cX5_digestOfLists 57 = .ok (.if_icmp .ge 31, 3) := by decide +kernel
theorem dX5_digestOfLists_60 : decode cX5_digestOfLists 60 = .ok (.aload_n 0, 1) := by decide +kernel
theorem dX5_digestOfLists_61 : decode cX5_digestOfLists 61 = .ok (.getfield 12, 3) := by decide +kernel
theorem dX5_digestOfLists_64 : decode cX5_digestOfLists 64 = .ok (.iload 6, 2) := by decide +kernel
theorem dX5_digestOfLists_66 : decode cX5_digestOfLists 66 = .ok (.invokevirtual 170, 3) := by decide +kernel
theorem dX5_digestOfLists_69 : decode cX5_digestOfLists 69 = .ok (.ifCond .eq 13, 3) := by decide +kernel
theorem dX5_digestOfLists_72 : decode cX5_digestOfLists 72 = .ok (.ldc2_w 268, 3) := by decide +kernel
theorem dX5_digestOfLists_75 : decode cX5_digestOfLists 75 = .ok (.lload_n 3, 1) := by decide +kernel
theorem dX5_digestOfLists_76 : decode cX5_digestOfLists 76 = .ok (.lmul, 1) := by decide +kernel
theorem dX5_digestOfLists_77 : decode cX5_digestOfLists 77 = .ok (.iload 6, 2) := by decide +kernel
theorem dX5_digestOfLists_79 : decode cX5_digestOfLists 79 = .ok (.i2l, 1) := by decide +kernel
theorem dX5_digestOfLists_80 : decode cX5_digestOfLists 80 = .ok (.ladd, 1) := by decide +kernel
theorem dX5_digestOfLists_81 : decode cX5_digestOfLists 81 = .ok (.lstore_n 3, 1) := by decide +kernel
theorem dX5_digestOfLists_82 : decode cX5_digestOfLists 82 = .ok (.iinc 6 1, 3) := by decide +kernel
theorem dX5_digestOfLists_85 : decode cX5_digestOfLists 85 = .ok (.goto (-32), 3) := by decide +kernel
theorem dX5_digestOfLists_88 : decode cX5_digestOfLists 88 = .ok (.aload_n 0, 1) := by decide +kernel
theorem dX5_digestOfLists_89 : decode cX5_digestOfLists 89 = .ok (.getfield 40, 3) := by decide +kernel
theorem dX5_digestOfLists_92 : decode cX5_digestOfLists 92 = .ok (.aload_n 0, 1) := by decide +kernel
theorem dX5_digestOfLists_93 : decode cX5_digestOfLists 93 = .ok (.getfield 12, 3) := by decide +kernel
theorem dX5_digestOfLists_96 : decode cX5_digestOfLists 96 = .ok (.invokevirtual 216, 3) := by decide +kernel
theorem dX5_digestOfLists_99 : decode cX5_digestOfLists 99 = .ok (.iconst 0, 1) := by decide +kernel
theorem dX5_digestOfLists_100 : decode cX5_digestOfLists 100 = .ok (.istore 6, 2) := by decide +kernel
theorem dX5_digestOfLists_102 : decode cX5_digestOfLists 102 = .ok (.iload 6, 2) := by decide +kernel
theorem dX5_digestOfLists_104 : decode cX5_digestOfLists 104 = .ok (.aload_n 0, 1) := by decide +kernel
theorem dX5_digestOfLists_105 : decode cX5_digestOfLists 105 = .ok (.getfield 40, 3) := by decide +kernel
theorem dX5_digestOfLists_108 : decode cX5_digestOfLists 108 = .ok (.getfield 260, 3) := by decide +kernel
theorem dX5_digestOfLists_111 : decode cX5_digestOfLists 111 = .ok (.if_icmp .ge 43, 3) := by decide +kernel
theorem dX5_digestOfLists_114 : decode cX5_digestOfLists 114 = .ok (.iconst 0, 1) := by decide +kernel
theorem dX5_digestOfLists_115 : decode cX5_digestOfLists 115 = .ok (.istore 7, 2) := by decide +kernel
theorem dX5_digestOfLists_117 : decode cX5_digestOfLists 117 = .ok (.iload 7, 2) := by decide +kernel
theorem dX5_digestOfLists_119 : decode cX5_digestOfLists 119 = .ok (.iconst 3, 1) := by decide +kernel
theorem dX5_digestOfLists_120 : decode cX5_digestOfLists 120 = .ok (.if_icmp .gt 28, 3) := by decide +kernel
theorem dX5_digestOfLists_123 : decode cX5_digestOfLists 123 = .ok (.ldc2_w 268, 3) := by decide +kernel
theorem dX5_digestOfLists_126 : decode cX5_digestOfLists 126 = .ok (.lload_n 3, 1) := by decide +kernel
theorem dX5_digestOfLists_127 : decode cX5_digestOfLists 127 = .ok (.lmul, 1) := by decide +kernel
theorem dX5_digestOfLists_128 : decode cX5_digestOfLists 128 = .ok (.aload_n 0, 1) := by decide +kernel
theorem dX5_digestOfLists_129 : decode cX5_digestOfLists 129 = .ok (.getfield 40, 3) := by decide +kernel
theorem dX5_digestOfLists_132 : decode cX5_digestOfLists 132 = .ok (.iload 6, 2) := by decide +kernel
theorem dX5_digestOfLists_134 : decode cX5_digestOfLists 134 = .ok (.iload 7, 2) := by decide +kernel
theorem dX5_digestOfLists_136 : decode cX5_digestOfLists 136 = .ok (.invokevirtual 220, 3) := by decide +kernel
theorem dX5_digestOfLists_139 : decode cX5_digestOfLists 139 = .ok (.i2l, 1) := by decide +kernel
theorem dX5_digestOfLists_140 : decode cX5_digestOfLists 140 = .ok (.ladd, 1) := by decide +kernel
theorem dX5_digestOfLists_141 : decode cX5_digestOfLists 141 = .ok (.lstore_n 3, 1) := by decide +kernel
theorem dX5_digestOfLists_142 : decode cX5_digestOfLists 142 = .ok (.iinc 7 1, 3) := by decide +kernel
theorem dX5_digestOfLists_145 : decode cX5_digestOfLists 145 = .ok (.goto (-28), 3) := by decide +kernel
theorem dX5_digestOfLists_148 : decode cX5_digestOfLists 148 = .ok (.iinc 6 1, 3) := by decide +kernel
theorem dX5_digestOfLists_151 : decode cX5_digestOfLists 151 = .ok (.goto (-49), 3) := by decide +kernel
theorem dX5_digestOfLists_154 : decode cX5_digestOfLists 154 = .ok (.lload_n 3, 1) := by decide +kernel
theorem dX5_digestOfLists_155 : decode cX5_digestOfLists 155 = .ok (.lreturn, 1) := by decide +kernel
abbrev rmX5_digestOfLists : Room := { frames := 5, cells := 0, slots := 0, locals := 120 }
set_option maxRecDepth 100000 in
theorem hinX5_digestOfLists_5 : ∀ w ∈ wsX50, w ∈ wsX5_digestOfLists := by decide +kernel
set_option maxRecDepth 100000 in
theorem hinX5_digestOfLists_0 : ∀ w ∈ wsX00, w ∈ wsX5_digestOfLists := by decide +kernel
set_option maxRecDepth 100000 in
theorem hinX5_digestOfLists_1 : ∀ w ∈ wsX10, w ∈ wsX5_digestOfLists := by decide +kernel
def fX5_digestOfLists_82 (k53 : AH → Int64 → Int32 → Int32 → Option (Int64 × AH)) (a1 : Int64) (h : AH) (x3 : Int64) (x5 : Int32) (x6 : Int32) : Option (Int64 × AH) :=
  nm (x6 + 1) fun v1 =>
  k53 h x3 x5 v1
set_option maxHeartbeats 4000000 in
set_option maxRecDepth 100000 in
theorem tX5_digestOfLists_82 {h : AH} {a1 : Int64} {k53 : AH → Int64 → Int32 → Int32 → Option (Int64 × AH)} {x3 : Int64} {x5 : Int32} {x6 : Int32} {r0 : Int64} {h0 : AH} (C : Cx p rmX5_digestOfLists s m args meth c RX5 cX5_digestOfLists 8 (some .long) wsX5_digestOfLists D ad cy tb 0 0) (H53 : ∀ (h : AH) (x3 : Int64) (x5 : Int32) (x6 : Int32), k53 h x3 x5 x6 = some (r0, h0) → AW p l e rmX5_digestOfLists s m args below meth c 8 D ad cy 0 0 (Ql D ad cy below args s r0 h0) 53 [(0, .ref (ad 0)), (1, .long a1), (3, .long x3), (5, .int x5), (6, .int x6)] [] h) (hf : fX5_digestOfLists_82 k53 a1 h x3 x5 x6 = some (r0, h0)) : AW p l e rmX5_digestOfLists s m args below meth c 8 D ad cy 0 0 (Ql D ad cy below args s r0 h0) 82 [(0, .ref (ad 0)), (1, .long a1), (3, .long x3), (5, .int x5), (6, .int x6)] [] h := by
  unfold fX5_digestOfLists_82 at hf
  obtain ⟨v1, hvv1, hf⟩ := nm_ex hf
  refine aw_iinc (j := 4) (v := v1) (lv1 := [(6, .int v1), (0, .ref (ad 0)), (1, .long a1), (3, .long x3), (5, .int x5)]) C dX5_digestOfLists_82 rfl hvv1 (by decide) rfl ?_
  refine aw_goto (tgt := 53) C dX5_digestOfLists_85 (by decide) ?_
  refine aw_sub [1, 2, 3, 4, 0] rfl ?_
  exact H53 h x3 x5 v1 hf
def fX5_digestOfLists_117b (k102 : AH → Int64 → Int32 → Option (Int64 × AH)) (k117 : AH → Int64 → Int32 → Int32 → Option (Int64 × AH)) (a1 : Int64) (h : AH) (x3 : Int64) (x6 : Int32) (x7 : Int32) : Option (Int64 × AH) :=
  if 3 < x7 then (
    nm (x6 + 1) fun v1 =>
    k102 h x3 v1) else (
  bR (fX1_tell h x6 x7) fun r2 =>
  nm ((31 * x3) + (r2.toInt64)) fun v3 =>
  nm (x7 + 1) fun v4 =>
  k117 h v3 x6 v4)
set_option maxHeartbeats 4000000 in
set_option maxRecDepth 100000 in
theorem tX5_digestOfLists_117b {h : AH} {a1 : Int64} {k102 : AH → Int64 → Int32 → Option (Int64 × AH)} {k117 : AH → Int64 → Int32 → Int32 → Option (Int64 × AH)} {x3 : Int64} {x6 : Int32} {x7 : Int32} {r0 : Int64} {h0 : AH} (C : Cx p rmX5_digestOfLists s m args meth c RX5 cX5_digestOfLists 8 (some .long) wsX5_digestOfLists D ad cy tb 0 0) (H102 : ∀ (h : AH) (x3 : Int64) (x6 : Int32), k102 h x3 x6 = some (r0, h0) → AW p l e rmX5_digestOfLists s m args below meth c 8 D ad cy 0 0 (Ql D ad cy below args s r0 h0) 102 [(0, .ref (ad 0)), (1, .long a1), (3, .long x3), (6, .int x6)] [] h) (H117 : ∀ (h : AH) (x3 : Int64) (x6 : Int32) (x7 : Int32), k117 h x3 x6 x7 = some (r0, h0) → AW p l e rmX5_digestOfLists s m args below meth c 8 D ad cy 0 0 (Ql D ad cy below args s r0 h0) 117 [(0, .ref (ad 0)), (1, .long a1), (3, .long x3), (6, .int x6), (7, .int x7)] [] h) (hf : fX5_digestOfLists_117b k102 k117 a1 h x3 x6 x7 = some (r0, h0)) : AW p l e rmX5_digestOfLists s m args below meth c 8 D ad cy 0 0 (Ql D ad cy below args s r0 h0) 117 [(0, .ref (ad 0)), (1, .long a1), (3, .long x3), (6, .int x6), (7, .int x7)] [] h := by
  unfold fX5_digestOfLists_117b at hf
  refine aw_iload C dX5_digestOfLists_117 4 rfl ?_
  refine aw_iconst (v := 3) C dX5_digestOfLists_119 (by decide) ?_
  refine aw_icmp_gt (tgt := 148) C dX5_digestOfLists_120 (by decide) hf (fun hf => ?_) (fun hf => ?_)
  · obtain ⟨v1, hvv1, hf⟩ := nm_ex hf
    refine aw_iinc (j := 3) (v := v1) (lv1 := [(6, .int v1), (0, .ref (ad 0)), (1, .long a1), (3, .long x3), (7, .int x7)]) C dX5_digestOfLists_148 rfl hvv1 (by decide) rfl ?_
    refine aw_goto (tgt := 102) C dX5_digestOfLists_151 (by decide) ?_
    refine aw_sub [1, 2, 3, 0] rfl ?_
    exact H102 h x3 v1 hf
  refine aw_ldc2 (v := 31) C (by decide +kernel) dX5_digestOfLists_123 ?_
  refine aw_lload_n C dX5_digestOfLists_126 rfl 2 rfl ?_
  refine aw_lmul C dX5_digestOfLists_127 ?_
  refine aw_aload_n C dX5_digestOfLists_128 rfl 0 rfl ?_
  refine aw_get C (kd_lt rfl (by decide)) (ce_5 rfl) rfl hinX5_digestOfLists_5 5 (by decide) rfl (by decide +kernel) rfl dX5_digestOfLists_129 ?_
  refine aw_iload C dX5_digestOfLists_132 3 rfl ?_
  refine aw_iload C dX5_digestOfLists_134 4 rfl ?_
  obtain ⟨r2, hc, hf⟩ := bR_some hf
  refine aw_callVi (As := [.int x6, .int x7]) (rest := [.long (31 * x3)]) C rfl (by decide) rfl (kX1_tell (l := l) (D := D) (ad := ad) (cy := cy) (tb := tb) C.2.2.2.2.2.2.2.2.1 hc) (fun ht _ => cwV 2 ht gX5_digestOfLists_X1_tell rfl rfl rfl (by decide +kernel) ⟨Nat.le_of_ble_eq_true rfl, Nat.le_of_ble_eq_true rfl⟩) rfl rfl (Nat.le_of_ble_eq_true rfl) dX5_digestOfLists_136 ?_
  refine aw_i2l C dX5_digestOfLists_139 ?_
  refine aw_ladd C dX5_digestOfLists_140 ?_
  refine aw_nmL hf (fun v3 hf => ?_)
  refine aw_lstore_n (lv1 := [(3, .long v3), (0, .ref (ad 0)), (1, .long a1), (6, .int x6), (7, .int x7)]) C dX5_digestOfLists_141 rfl (by decide) rfl ?_
  obtain ⟨v4, hvv4, hf⟩ := nm_ex hf
  refine aw_iinc (j := 4) (v := v4) (lv1 := [(7, .int v4), (3, .long v3), (0, .ref (ad 0)), (1, .long a1), (6, .int x6)]) C dX5_digestOfLists_142 rfl hvv4 (by decide) rfl ?_
  refine aw_goto (tgt := 117) C dX5_digestOfLists_145 (by decide) ?_
  refine aw_sub [2, 3, 1, 4, 0] rfl ?_
  exact H117 h v3 x6 v4 hf
def fX5_digestOfLists_117 (k102 : AH → Int64 → Int32 → Option (Int64 × AH)) (a1 : Int64) : Nat → AH → Int64 → Int32 → Int32 → Option (Int64 × AH)
  | 0, _, _, _, _ => none
  | n + 1, h, x3, x6, x7 => fX5_digestOfLists_117b k102 (fX5_digestOfLists_117 k102 a1 n) a1 h x3 x6 x7
set_option maxHeartbeats 4000000 in
set_option maxRecDepth 100000 in
theorem tX5_digestOfLists_117  {a1 : Int64} {k102 : AH → Int64 → Int32 → Option (Int64 × AH)} {r0 : Int64} {h0 : AH} (C : Cx p rmX5_digestOfLists s m args meth c RX5 cX5_digestOfLists 8 (some .long) wsX5_digestOfLists D ad cy tb 0 0) (H102 : ∀ (h : AH) (x3 : Int64) (x6 : Int32), k102 h x3 x6 = some (r0, h0) → AW p l e rmX5_digestOfLists s m args below meth c 8 D ad cy 0 0 (Ql D ad cy below args s r0 h0) 102 [(0, .ref (ad 0)), (1, .long a1), (3, .long x3), (6, .int x6)] [] h) : ∀ (n : Nat) (h : AH) (x3 : Int64) (x6 : Int32) (x7 : Int32), fX5_digestOfLists_117 k102 a1 n h x3 x6 x7 = some (r0, h0) → AW p l e rmX5_digestOfLists s m args below meth c 8 D ad cy 0 0 (Ql D ad cy below args s r0 h0) 117 [(0, .ref (ad 0)), (1, .long a1), (3, .long x3), (6, .int x6), (7, .int x7)] [] h := by
  intro n
  induction n with
  | zero => intro h x3 x6 x7 hf; cases hf
  | succ n ih => intro h x3 x6 x7 hf; exact tX5_digestOfLists_117b C  H102 ih  hf
def fX5_digestOfLists_102b (k102 : AH → Int64 → Int32 → Option (Int64 × AH)) (a1 : Int64) (h : AH) (x3 : Int64) (x6 : Int32) : Option (Int64 × AH) :=
  if (h.1 13 0) ≤ x6 then (
    some (x3, h)) else (
  fX5_digestOfLists_117 k102 a1 FU h x3 x6 0)
set_option maxHeartbeats 4000000 in
set_option maxRecDepth 100000 in
theorem tX5_digestOfLists_102b {h : AH} {a1 : Int64} {k102 : AH → Int64 → Int32 → Option (Int64 × AH)} {x3 : Int64} {x6 : Int32} {r0 : Int64} {h0 : AH} (C : Cx p rmX5_digestOfLists s m args meth c RX5 cX5_digestOfLists 8 (some .long) wsX5_digestOfLists D ad cy tb 0 0) (H102 : ∀ (h : AH) (x3 : Int64) (x6 : Int32), k102 h x3 x6 = some (r0, h0) → AW p l e rmX5_digestOfLists s m args below meth c 8 D ad cy 0 0 (Ql D ad cy below args s r0 h0) 102 [(0, .ref (ad 0)), (1, .long a1), (3, .long x3), (6, .int x6)] [] h) (hf : fX5_digestOfLists_102b k102 a1 h x3 x6 = some (r0, h0)) : AW p l e rmX5_digestOfLists s m args below meth c 8 D ad cy 0 0 (Ql D ad cy below args s r0 h0) 102 [(0, .ref (ad 0)), (1, .long a1), (3, .long x3), (6, .int x6)] [] h := by
  unfold fX5_digestOfLists_102b at hf
  refine aw_iload C dX5_digestOfLists_102 3 rfl ?_
  refine aw_aload_n C dX5_digestOfLists_104 rfl 0 rfl ?_
  refine aw_get C (kd_lt rfl (by decide)) (ce_5 rfl) rfl hinX5_digestOfLists_5 5 (by decide) rfl (by decide +kernel) rfl dX5_digestOfLists_105 ?_
  refine aw_getN (host := "StairCodes") C (kd_lt rfl (by decide)) (ce_1 rfl) rfl hinX5_digestOfLists_1 0 (by decide) rfl (by decide +kernel) rfl dX5_digestOfLists_108 ?_
  refine aw_icmp_ge (tgt := 154) C dX5_digestOfLists_111 (by decide) hf (fun hf => ?_) (fun hf => ?_)
  · refine aw_lload_n C dX5_digestOfLists_154 rfl 2 rfl ?_
    exact aw_lretW C dX5_digestOfLists_155 hf
  refine aw_iconst (v := 0) C dX5_digestOfLists_114 (by decide) ?_
  refine aw_istore (lv1 := [(7, .int 0), (0, .ref (ad 0)), (1, .long a1), (3, .long x3), (6, .int x6)]) C dX5_digestOfLists_115 (by decide) rfl ?_
  refine aw_sub [1, 2, 3, 4, 0] rfl ?_
  exact tX5_digestOfLists_117 C  H102 FU h x3 x6 0 hf
def fX5_digestOfLists_102 (a1 : Int64) : Nat → AH → Int64 → Int32 → Option (Int64 × AH)
  | 0, _, _, _ => none
  | n + 1, h, x3, x6 => fX5_digestOfLists_102b (fX5_digestOfLists_102 a1 n) a1 h x3 x6
set_option maxHeartbeats 4000000 in
set_option maxRecDepth 100000 in
theorem tX5_digestOfLists_102  {a1 : Int64} {r0 : Int64} {h0 : AH} (C : Cx p rmX5_digestOfLists s m args meth c RX5 cX5_digestOfLists 8 (some .long) wsX5_digestOfLists D ad cy tb 0 0) : ∀ (n : Nat) (h : AH) (x3 : Int64) (x6 : Int32), fX5_digestOfLists_102 a1 n h x3 x6 = some (r0, h0) → AW p l e rmX5_digestOfLists s m args below meth c 8 D ad cy 0 0 (Ql D ad cy below args s r0 h0) 102 [(0, .ref (ad 0)), (1, .long a1), (3, .long x3), (6, .int x6)] [] h := by
  intro n
  induction n with
  | zero => intro h x3 x6 hf; cases hf
  | succ n ih => intro h x3 x6 hf; exact tX5_digestOfLists_102b C  ih  hf
def fX5_digestOfLists_53b (k53 : AH → Int64 → Int32 → Int32 → Option (Int64 × AH)) (a1 : Int64) (h : AH) (x3 : Int64) (x5 : Int32) (x6 : Int32) : Option (Int64 × AH) :=
  if x5 ≤ x6 then (
    bR (fX1_find h 1) fun h1 =>
    fX5_digestOfLists_102  a1 FU h1 x3 0) else (
  bR (fX4_isStalled h 1 x6) fun r2 =>
  if r2 = 0 then (
    fX5_digestOfLists_82 k53 a1 h x3 x5 x6) else (
  nm ((31 * x3) + (x6.toInt64)) fun v3 =>
  fX5_digestOfLists_82 k53 a1 h v3 x5 x6))
set_option maxHeartbeats 4000000 in
set_option maxRecDepth 100000 in
theorem tX5_digestOfLists_53b {h : AH} {a1 : Int64} {k53 : AH → Int64 → Int32 → Int32 → Option (Int64 × AH)} {x3 : Int64} {x5 : Int32} {x6 : Int32} {r0 : Int64} {h0 : AH} (C : Cx p rmX5_digestOfLists s m args meth c RX5 cX5_digestOfLists 8 (some .long) wsX5_digestOfLists D ad cy tb 0 0) (H53 : ∀ (h : AH) (x3 : Int64) (x5 : Int32) (x6 : Int32), k53 h x3 x5 x6 = some (r0, h0) → AW p l e rmX5_digestOfLists s m args below meth c 8 D ad cy 0 0 (Ql D ad cy below args s r0 h0) 53 [(0, .ref (ad 0)), (1, .long a1), (3, .long x3), (5, .int x5), (6, .int x6)] [] h) (hf : fX5_digestOfLists_53b k53 a1 h x3 x5 x6 = some (r0, h0)) : AW p l e rmX5_digestOfLists s m args below meth c 8 D ad cy 0 0 (Ql D ad cy below args s r0 h0) 53 [(0, .ref (ad 0)), (1, .long a1), (3, .long x3), (5, .int x5), (6, .int x6)] [] h := by
  unfold fX5_digestOfLists_53b at hf
  refine aw_iload C dX5_digestOfLists_53 4 rfl ?_
  refine aw_iload C dX5_digestOfLists_55 3 rfl ?_
  refine aw_icmp_ge (tgt := 88) C dX5_digestOfLists_57 (by decide) hf (fun hf => ?_) (fun hf => ?_)
  · refine aw_aload_n C dX5_digestOfLists_88 rfl 0 rfl ?_
    refine aw_get C (kd_lt rfl (by decide)) (ce_5 rfl) rfl hinX5_digestOfLists_5 5 (by decide) rfl (by decide +kernel) rfl dX5_digestOfLists_89 ?_
    refine aw_aload_n C dX5_digestOfLists_92 rfl 0 rfl ?_
    refine aw_get C (kd_lt rfl (by decide)) (ce_5 rfl) rfl hinX5_digestOfLists_5 0 (by decide) rfl (by decide +kernel) rfl dX5_digestOfLists_93 ?_
    obtain ⟨h1, hc, hf⟩ := bR_some hf
    refine aw_callVv (As := [.ref (ad 1)]) (rest := []) C rfl (by decide) rfl (kX1_find (l := l) (D := D) (ad := ad) (cy := cy) (tb := tb) C.2.2.2.2.2.2.2.2.1 rfl hc) (fun ht _ => cwV 1 ht gX5_digestOfLists_X1_find rfl rfl rfl (by decide +kernel) ⟨Nat.le_of_ble_eq_true rfl, Nat.le_of_ble_eq_true rfl⟩) rfl rfl (Nat.le_of_ble_eq_true rfl) dX5_digestOfLists_96 ?_
    refine aw_iconst (v := 0) C dX5_digestOfLists_99 (by decide) ?_
    refine aw_istore (lv1 := [(6, .int 0), (0, .ref (ad 0)), (1, .long a1), (3, .long x3), (5, .int x5)]) C dX5_digestOfLists_100 (by decide) rfl ?_
    refine aw_sub [1, 2, 3, 0] rfl ?_
    exact tX5_digestOfLists_102 C   FU h1 x3 0 hf
  refine aw_aload_n C dX5_digestOfLists_60 rfl 0 rfl ?_
  refine aw_get C (kd_lt rfl (by decide)) (ce_5 rfl) rfl hinX5_digestOfLists_5 0 (by decide) rfl (by decide +kernel) rfl dX5_digestOfLists_61 ?_
  refine aw_iload C dX5_digestOfLists_64 4 rfl ?_
  obtain ⟨r2, hc, hf⟩ := bR_some hf
  refine aw_callVi (As := [.int x6]) (rest := []) C rfl (by decide) rfl (kX4_isStalled (l := l) (D := D) (ad := ad) (cy := cy) (tb := tb) C.2.2.2.2.2.2.2.2.1 rfl hc) (fun ht _ => cwV 1 ht gX5_digestOfLists_X4_isStalled rfl rfl rfl (by decide +kernel) ⟨Nat.le_of_ble_eq_true rfl, Nat.le_of_ble_eq_true rfl⟩) rfl rfl (Nat.le_of_ble_eq_true rfl) dX5_digestOfLists_66 ?_
  refine aw_if_eq (tgt := 82) C dX5_digestOfLists_69 (by decide) hf (fun hf => ?_) (fun hf => ?_)
  · refine aw_sub [0, 1, 2, 3, 4] rfl ?_
    exact tX5_digestOfLists_82 C  H53 hf
  refine aw_ldc2 (v := 31) C (by decide +kernel) dX5_digestOfLists_72 ?_
  refine aw_lload_n C dX5_digestOfLists_75 rfl 2 rfl ?_
  refine aw_lmul C dX5_digestOfLists_76 ?_
  refine aw_iload C dX5_digestOfLists_77 4 rfl ?_
  refine aw_i2l C dX5_digestOfLists_79 ?_
  refine aw_ladd C dX5_digestOfLists_80 ?_
  refine aw_nmL hf (fun v3 hf => ?_)
  refine aw_lstore_n (lv1 := [(3, .long v3), (0, .ref (ad 0)), (1, .long a1), (5, .int x5), (6, .int x6)]) C dX5_digestOfLists_81 rfl (by decide) rfl ?_
  refine aw_sub [1, 2, 0, 3, 4] rfl ?_
  exact tX5_digestOfLists_82 C  H53 hf
def fX5_digestOfLists_53 (a1 : Int64) : Nat → AH → Int64 → Int32 → Int32 → Option (Int64 × AH)
  | 0, _, _, _, _ => none
  | n + 1, h, x3, x5, x6 => fX5_digestOfLists_53b (fX5_digestOfLists_53 a1 n) a1 h x3 x5 x6
set_option maxHeartbeats 4000000 in
set_option maxRecDepth 100000 in
theorem tX5_digestOfLists_53  {a1 : Int64} {r0 : Int64} {h0 : AH} (C : Cx p rmX5_digestOfLists s m args meth c RX5 cX5_digestOfLists 8 (some .long) wsX5_digestOfLists D ad cy tb 0 0) : ∀ (n : Nat) (h : AH) (x3 : Int64) (x5 : Int32) (x6 : Int32), fX5_digestOfLists_53 a1 n h x3 x5 x6 = some (r0, h0) → AW p l e rmX5_digestOfLists s m args below meth c 8 D ad cy 0 0 (Ql D ad cy below args s r0 h0) 53 [(0, .ref (ad 0)), (1, .long a1), (3, .long x3), (5, .int x5), (6, .int x6)] [] h := by
  intro n
  induction n with
  | zero => intro h x3 x5 x6 hf; cases hf
  | succ n ih => intro h x3 x5 x6 hf; exact tX5_digestOfLists_53b C  ih  hf
def fX5_digestOfLists_5b (k5 : AH → Int64 → Int32 → Option (Int64 × AH)) (a1 : Int64) (h : AH) (x3 : Int64) (x5 : Int32) : Option (Int64 × AH) :=
  if (h.1 11 2) ≤ x5 then (
    bR (fX4_endOfWords h 1) fun r1 =>
    fX5_digestOfLists_53  a1 FU h x3 r1 8) else (
  bR (fX0_bitOfMend h x5) fun r2 =>
  nm ((31 * x3) + (r2.toInt64)) fun v3 =>
  nm (x5 + 1) fun v4 =>
  k5 h v3 v4)
set_option maxHeartbeats 4000000 in
set_option maxRecDepth 100000 in
theorem tX5_digestOfLists_5b {h : AH} {a1 : Int64} {k5 : AH → Int64 → Int32 → Option (Int64 × AH)} {x3 : Int64} {x5 : Int32} {r0 : Int64} {h0 : AH} (C : Cx p rmX5_digestOfLists s m args meth c RX5 cX5_digestOfLists 8 (some .long) wsX5_digestOfLists D ad cy tb 0 0) (H5 : ∀ (h : AH) (x3 : Int64) (x5 : Int32), k5 h x3 x5 = some (r0, h0) → AW p l e rmX5_digestOfLists s m args below meth c 8 D ad cy 0 0 (Ql D ad cy below args s r0 h0) 5 [(0, .ref (ad 0)), (1, .long a1), (3, .long x3), (5, .int x5)] [] h) (hf : fX5_digestOfLists_5b k5 a1 h x3 x5 = some (r0, h0)) : AW p l e rmX5_digestOfLists s m args below meth c 8 D ad cy 0 0 (Ql D ad cy below args s r0 h0) 5 [(0, .ref (ad 0)), (1, .long a1), (3, .long x3), (5, .int x5)] [] h := by
  unfold fX5_digestOfLists_5b at hf
  refine aw_iload C dX5_digestOfLists_5 3 rfl ?_
  refine aw_aload_n C dX5_digestOfLists_7 rfl 0 rfl ?_
  refine aw_get C (kd_lt rfl (by decide)) (ce_5 rfl) rfl hinX5_digestOfLists_5 4 (by decide) rfl (by decide +kernel) rfl dX5_digestOfLists_8 ?_
  refine aw_getN (host := "StairCodes") C (kd_lt rfl (by decide)) (ce_0 rfl) rfl hinX5_digestOfLists_0 2 (by decide) rfl (by decide +kernel) rfl dX5_digestOfLists_11 ?_
  refine aw_icmp_ge (tgt := 40) C dX5_digestOfLists_14 (by decide) hf (fun hf => ?_) (fun hf => ?_)
  · refine aw_aload_n C dX5_digestOfLists_40 rfl 0 rfl ?_
    refine aw_get C (kd_lt rfl (by decide)) (ce_5 rfl) rfl hinX5_digestOfLists_5 0 (by decide) rfl (by decide +kernel) rfl dX5_digestOfLists_41 ?_
    obtain ⟨r1, hc, hf⟩ := bR_some hf
    refine aw_callVi (As := []) (rest := []) C rfl (by decide) rfl (kX4_endOfWords (l := l) (D := D) (ad := ad) (cy := cy) (tb := tb) C.2.2.2.2.2.2.2.2.1 rfl hc) (fun ht _ => cwV 0 ht gX5_digestOfLists_X4_endOfWords rfl rfl rfl (by decide +kernel) ⟨Nat.le_of_ble_eq_true rfl, Nat.le_of_ble_eq_true rfl⟩) rfl rfl (Nat.le_of_ble_eq_true rfl) dX5_digestOfLists_44 ?_
    refine aw_istore (lv1 := [(5, .int r1), (0, .ref (ad 0)), (1, .long a1), (3, .long x3)]) C dX5_digestOfLists_47 (by decide) rfl ?_
    refine aw_bipush (v := 8) C dX5_digestOfLists_49 (by decide) ?_
    refine aw_istore (lv1 := [(6, .int 8), (5, .int r1), (0, .ref (ad 0)), (1, .long a1), (3, .long x3)]) C dX5_digestOfLists_51 (by decide) rfl ?_
    refine aw_sub [2, 3, 4, 1, 0] rfl ?_
    exact tX5_digestOfLists_53 C   FU h x3 r1 8 hf
  refine aw_ldc2 (v := 31) C (by decide +kernel) dX5_digestOfLists_17 ?_
  refine aw_lload_n C dX5_digestOfLists_20 rfl 2 rfl ?_
  refine aw_lmul C dX5_digestOfLists_21 ?_
  refine aw_aload_n C dX5_digestOfLists_22 rfl 0 rfl ?_
  refine aw_get C (kd_lt rfl (by decide)) (ce_5 rfl) rfl hinX5_digestOfLists_5 4 (by decide) rfl (by decide +kernel) rfl dX5_digestOfLists_23 ?_
  refine aw_iload C dX5_digestOfLists_26 3 rfl ?_
  obtain ⟨r2, hc, hf⟩ := bR_some hf
  refine aw_callVi (As := [.int x5]) (rest := [.long (31 * x3)]) C rfl (by decide) rfl (kX0_bitOfMend (l := l) (D := D) (ad := ad) (cy := cy) (tb := tb) C.2.2.2.2.2.2.2.2.1 hc) (fun ht _ => cwV 1 ht gX5_digestOfLists_X0_bitOfMend rfl rfl rfl (by decide +kernel) ⟨Nat.le_of_ble_eq_true rfl, Nat.le_of_ble_eq_true rfl⟩) rfl rfl (Nat.le_of_ble_eq_true rfl) dX5_digestOfLists_28 ?_
  refine aw_i2l C dX5_digestOfLists_31 ?_
  refine aw_ladd C dX5_digestOfLists_32 ?_
  refine aw_nmL hf (fun v3 hf => ?_)
  refine aw_lstore_n (lv1 := [(3, .long v3), (0, .ref (ad 0)), (1, .long a1), (5, .int x5)]) C dX5_digestOfLists_33 rfl (by decide) rfl ?_
  obtain ⟨v4, hvv4, hf⟩ := nm_ex hf
  refine aw_iinc (j := 3) (v := v4) (lv1 := [(5, .int v4), (3, .long v3), (0, .ref (ad 0)), (1, .long a1)]) C dX5_digestOfLists_34 rfl hvv4 (by decide) rfl ?_
  refine aw_goto (tgt := 5) C dX5_digestOfLists_37 (by decide) ?_
  refine aw_sub [2, 3, 1, 0] rfl ?_
  exact H5 h v3 v4 hf
def fX5_digestOfLists_5 (a1 : Int64) : Nat → AH → Int64 → Int32 → Option (Int64 × AH)
  | 0, _, _, _ => none
  | n + 1, h, x3, x5 => fX5_digestOfLists_5b (fX5_digestOfLists_5 a1 n) a1 h x3 x5
set_option maxHeartbeats 4000000 in
set_option maxRecDepth 100000 in
theorem tX5_digestOfLists_5  {a1 : Int64} {r0 : Int64} {h0 : AH} (C : Cx p rmX5_digestOfLists s m args meth c RX5 cX5_digestOfLists 8 (some .long) wsX5_digestOfLists D ad cy tb 0 0) : ∀ (n : Nat) (h : AH) (x3 : Int64) (x5 : Int32), fX5_digestOfLists_5 a1 n h x3 x5 = some (r0, h0) → AW p l e rmX5_digestOfLists s m args below meth c 8 D ad cy 0 0 (Ql D ad cy below args s r0 h0) 5 [(0, .ref (ad 0)), (1, .long a1), (3, .long x3), (5, .int x5)] [] h := by
  intro n
  induction n with
  | zero => intro h x3 x5 hf; cases hf
  | succ n ih => intro h x3 x5 hf; exact tX5_digestOfLists_5b C  ih  hf
def fX5_digestOfLists (h : AH) (a1 : Int64) : Option (Int64 × AH) :=
  fX5_digestOfLists_5  a1 FU h a1 0
set_option maxHeartbeats 4000000 in
set_option maxRecDepth 100000 in
theorem tX5_digestOfLists_0 {h : AH} {a1 : Int64} {r0 : Int64} {h0 : AH} (C : Cx p rmX5_digestOfLists s m args meth c RX5 cX5_digestOfLists 8 (some .long) wsX5_digestOfLists D ad cy tb 0 0) (hf : fX5_digestOfLists h a1 = some (r0, h0)) : AW p l e rmX5_digestOfLists s m args below meth c 8 D ad cy 0 0 (Ql D ad cy below args s r0 h0) 0 [(0, .ref (ad 0)), (1, .long a1)] [] h := by
  unfold fX5_digestOfLists at hf
  refine aw_lload_n C dX5_digestOfLists_0 rfl 1 rfl ?_
  refine aw_lstore_n (lv1 := [(3, .long a1), (0, .ref (ad 0)), (1, .long a1)]) C dX5_digestOfLists_1 rfl (by decide) rfl ?_
  refine aw_iconst (v := 0) C dX5_digestOfLists_2 (by decide) ?_
  refine aw_istore (lv1 := [(5, .int 0), (3, .long a1), (0, .ref (ad 0)), (1, .long a1)]) C dX5_digestOfLists_3 (by decide) rfl ?_
  refine aw_sub [2, 3, 1, 0] rfl ?_
  exact tX5_digestOfLists_5 C   FU h a1 0 hf
theorem kX5_digestOfLists {h : AH} {a1 : Int64} {r0 : Int64} {h0 : AH} (hi : Inj ad) (hf : fX5_digestOfLists h a1 = some (r0, h0)) : Kl l yX5_digestOfLists wsX5_digestOfLists rmX5_digestOfLists D ad cy tb [.ref (ad 0), .long a1] h r0 h0 := met_l (lv := [(0, .ref (ad 0)), (1, .long a1)]) hi (by decide) rfl (Nat.le_of_ble_eq_true rfl) rfl rfl (fun _ _ _ _ _ _ _ _ C => tX5_digestOfLists_0 C  hf)
set_option maxRecDepth 20000 in
theorem ggX5_digestOfBlock_X5_block : GoodIn wsX5_digestOfBlock wsX5_block := goodIn_r _ [6, 7, 8, 9, 5, 10, 11, 12, 13, 14, 15, 16, 92, 93, 94, 95, 96, 97, 98, 99, 100, 101, 102, 103, 104, 105] (by decide +kernel) (by decide +kernel)
set_option maxRecDepth 20000 in
theorem gX5_digestOfBlock_X5_block : GoodIn wsX5_digestOfBlock (wsV RX5 286 RX5 yX5_block wsX5_block) := goodIn_app (goodIn_of _ (by decide +kernel)) ggX5_digestOfBlock_X5_block
set_option maxRecDepth 20000 in
theorem ggX5_digestOfBlock_X5_row : GoodIn wsX5_digestOfBlock wsX5_row := goodIn_r _ [20, 16, 21, 22, 23, 5, 24, 7, 8, 9, 10, 11, 25, 26, 27, 12, 13, 14, 15, 28, 29, 30, 92, 93, 94, 95, 96, 97, 98, 99, 100, 104, 105, 101, 102, 103] (by decide +kernel) (by decide +kernel)
set_option maxRecDepth 20000 in
theorem gX5_digestOfBlock_X5_row : GoodIn wsX5_digestOfBlock (wsV RX5 289 RX5 yX5_row wsX5_row) := goodIn_app (goodIn_of _ (by decide +kernel)) ggX5_digestOfBlock_X5_row
set_option maxRecDepth 20000 in
theorem ggX5_digestOfBlock_X5_word : GoodIn wsX5_digestOfBlock wsX5_word := goodIn_r _ [34, 11, 35, 36, 37, 38, 39, 21, 22, 23, 5, 24, 7, 8, 9, 10, 25, 26, 27, 40, 41, 42, 43, 44, 45, 46, 47, 48, 49, 50, 51, 52, 53, 54, 55, 56, 57, 58, 59, 60, 61, 62, 63, 64, 65, 66, 67, 29, 30, 68, 69, 70, 71, 72, 73, 74, 75, 76, 77, 78, 79, 80, 81, 82, 83, 84, 85, 86, 87, 88, 89, 90, 91, 92, 93, 94, 95, 96, 97, 98, 99, 100, 101, 102, 103] (by decide +kernel) (by decide +kernel)
set_option maxRecDepth 20000 in
theorem gX5_digestOfBlock_X5_word : GoodIn wsX5_digestOfBlock (wsV RX5 292 RX5 yX5_word wsX5_word) := goodIn_app (goodIn_of _ (by decide +kernel)) ggX5_digestOfBlock_X5_word
theorem dX5_digestOfBlock_0 : decode cX5_digestOfBlock 0 = .ok (.ldc2_w 268, 3) := by decide +kernel
theorem dX5_digestOfBlock_3 : decode cX5_digestOfBlock 3 = .ok (.lload_n 1, 1) := by decide +kernel
theorem dX5_digestOfBlock_4 : decode cX5_digestOfBlock 4 = .ok (.lmul, 1) := by decide +kernel
theorem dX5_digestOfBlock_5 : decode cX5_digestOfBlock 5 = .ok (.aload_n 0, 1) := by decide +kernel
theorem dX5_digestOfBlock_6 : decode cX5_digestOfBlock 6 = .ok (.iload_n 3, 1) := by decide +kernel
theorem dX5_digestOfBlock_7 : decode cX5_digestOfBlock 7 = .ok (.invokevirtual 286, 3) := by decide +kernel
theorem dX5_digestOfBlock_10 : decode cX5_digestOfBlock 10 = .ok (.ladd, 1) := by decide +kernel
theorem dX5_digestOfBlock_11 : decode cX5_digestOfBlock 11 = .ok (.lstore 4, 2) := by decide +kernel
theorem dX5_digestOfBlock_13 : decode cX5_digestOfBlock 13 = .ok (.iconst 0, 1) := by decide +kernel
theorem dX5_digestOfBlock_14 : decode cX5_digestOfBlock 14 = .ok (.istore 6, 2) := by decide +kernel
theorem dX5_digestOfBlock_16 : decode cX5_digestOfBlock 16 = .ok (.iload 6, 2) := by decide +kernel
theorem dX5_digestOfBlock_18 : decode cX5_digestOfBlock 18 = .ok (.bipush 8, 2) := by decide +kernel
theorem dX5_digestOfBlock_20 : decode cX5_digestOfBlock 20 = .ok (.if_icmp .ge 43, 3) := by decide +kernel
theorem dX5_digestOfBlock_23 : decode cX5_digestOfBlock 23 = .ok (.iconst 1, 1) := by decide +kernel
theorem dX5_digestOfBlock_24 : decode cX5_digestOfBlock 24 = .ok (.istore 7, 2) := by decide +kernel
theorem dX5_digestOfBlock_26 : decode cX5_digestOfBlock 26 = .ok (.iload 7, 2) := by decide +kernel
theorem dX5_digestOfBlock_28 : decode cX5_digestOfBlock 28 = .ok (.iconst 3, 1) := by decide +kernel
theorem dX5_digestOfBlock_29 : decode cX5_digestOfBlock 29 = .ok (.if_icmp .gt 28, 3) := by decide +kernel
theorem dX5_digestOfBlock_32 : decode cX5_digestOfBlock 32 = .ok (.ldc2_w 268, 3) := by decide +kernel
theorem dX5_digestOfBlock_35 : decode cX5_digestOfBlock 35 = .ok (.lload 4, 2) := by decide +kernel
theorem dX5_digestOfBlock_37 : decode cX5_digestOfBlock 37 = .ok (.lmul, 1) := by decide +kernel
theorem dX5_digestOfBlock_38 : decode cX5_digestOfBlock 38 = .ok (.aload_n 0, 1) := by decide +kernel
theorem dX5_digestOfBlock_39 : decode cX5_digestOfBlock 39 = .ok (.iload_n 3, 1) := by decide +kernel
theorem dX5_digestOfBlock_40 : decode cX5_digestOfBlock 40 = .ok (.iload 6, 2) := by decide +kernel
theorem dX5_digestOfBlock_42 : decode cX5_digestOfBlock 42 = .ok (.iload 7, 2) := by decide +kernel
theorem dX5_digestOfBlock_44 : decode cX5_digestOfBlock 44 = .ok (.invokevirtual 289, 3) := by decide +kernel
theorem dX5_digestOfBlock_47 : decode cX5_digestOfBlock 47 = .ok (.i2l, 1) := by decide +kernel
theorem dX5_digestOfBlock_48 : decode cX5_digestOfBlock 48 = .ok (.ladd, 1) := by decide +kernel
theorem dX5_digestOfBlock_49 : decode cX5_digestOfBlock 49 = .ok (.lstore 4, 2) := by decide +kernel
theorem dX5_digestOfBlock_51 : decode cX5_digestOfBlock 51 = .ok (.iinc 7 1, 3) := by decide +kernel
theorem dX5_digestOfBlock_54 : decode cX5_digestOfBlock 54 = .ok (.goto (-28), 3) := by decide +kernel
theorem dX5_digestOfBlock_57 : decode cX5_digestOfBlock 57 = .ok (.iinc 6 1, 3) := by decide +kernel
theorem dX5_digestOfBlock_60 : decode cX5_digestOfBlock 60 = .ok (.goto (-44), 3) := by decide +kernel
theorem dX5_digestOfBlock_63 : decode cX5_digestOfBlock 63 = .ok (.iconst 0, 1) := by decide +kernel
theorem dX5_digestOfBlock_64 : decode cX5_digestOfBlock 64 = .ok (.istore 6, 2) := by decide +kernel
theorem dX5_digestOfBlock_66 : decode cX5_digestOfBlock 66 = .ok (.iload 6, 2) := by decide +kernel
theorem dX5_digestOfBlock_68 : decode cX5_digestOfBlock 68 = .ok (.bipush 8, 2) := by decide +kernel
theorem dX5_digestOfBlock_70 : decode cX5_digestOfBlock 70 = .ok (.if_icmp .ge 43, 3) := by decide +kernel
theorem dX5_digestOfBlock_73 : decode cX5_digestOfBlock 73 = .ok (.iconst 0, 1) := by decide +kernel
theorem dX5_digestOfBlock_74 : decode cX5_digestOfBlock 74 = .ok (.istore 7, 2) := by decide +kernel
theorem dX5_digestOfBlock_76 : decode cX5_digestOfBlock 76 = .ok (.iload 7, 2) := by decide +kernel
theorem dX5_digestOfBlock_78 : decode cX5_digestOfBlock 78 = .ok (.iconst 4, 1) := by decide +kernel
theorem dX5_digestOfBlock_79 : decode cX5_digestOfBlock 79 = .ok (.if_icmp .gt 28, 3) := by decide +kernel
theorem dX5_digestOfBlock_82 : decode cX5_digestOfBlock 82 = .ok (.ldc2_w 268, 3) := by decide +kernel
theorem dX5_digestOfBlock_85 : decode cX5_digestOfBlock 85 = .ok (.lload 4, 2) := by decide +kernel
theorem dX5_digestOfBlock_87 : decode cX5_digestOfBlock 87 = .ok (.lmul, 1) := by decide +kernel
theorem dX5_digestOfBlock_88 : decode cX5_digestOfBlock 88 = .ok (.aload_n 0, 1) := by decide +kernel
theorem dX5_digestOfBlock_89 : decode cX5_digestOfBlock 89 = .ok (.iload_n 3, 1) := by decide +kernel
theorem dX5_digestOfBlock_90 : decode cX5_digestOfBlock 90 = .ok (.iload 6, 2) := by decide +kernel
theorem dX5_digestOfBlock_92 : decode cX5_digestOfBlock 92 = .ok (.iload 7, 2) := by decide +kernel
theorem dX5_digestOfBlock_94 : decode cX5_digestOfBlock 94 = .ok (.invokevirtual 292, 3) := by decide +kernel
theorem dX5_digestOfBlock_97 : decode cX5_digestOfBlock 97 = .ok (.i2l, 1) := by decide +kernel
theorem dX5_digestOfBlock_98 : decode cX5_digestOfBlock 98 = .ok (.ladd, 1) := by decide +kernel
theorem dX5_digestOfBlock_99 : decode cX5_digestOfBlock 99 = .ok (.lstore 4, 2) := by decide +kernel
theorem dX5_digestOfBlock_101 : decode cX5_digestOfBlock 101 = .ok (.iinc 7 1, 3) := by decide +kernel
theorem dX5_digestOfBlock_104 : decode cX5_digestOfBlock 104 = .ok (.goto (-28), 3) := by decide +kernel
theorem dX5_digestOfBlock_107 : decode cX5_digestOfBlock 107 = .ok (.iinc 6 1, 3) := by decide +kernel
theorem dX5_digestOfBlock_110 : decode cX5_digestOfBlock 110 = .ok (.goto (-44), 3) := by decide +kernel
theorem dX5_digestOfBlock_113 : decode cX5_digestOfBlock 113 = .ok (.lload 4, 2) := by decide +kernel
theorem dX5_digestOfBlock_115 : decode cX5_digestOfBlock 115 = .ok (.lreturn, 1) := by decide +kernel
abbrev rmX5_digestOfBlock : Room := { frames := 4, cells := 0, slots := 0, locals := 88 }
def fX5_digestOfBlock_26b (k16 : Int64 → Int32 → Option Int64) (k26 : Int64 → Int32 → Int32 → Option Int64) (h : AH) (a1 : Int64) (a3 : Int32) (x4 : Int64) (x6 : Int32) (x7 : Int32) : Option Int64 :=
  if 3 < x7 then (
    nm (x6 + 1) fun v1 =>
    k16 x4 v1) else (
  bR (fX5_row h a3 x6 x7) fun r2 =>
  nm ((31 * x4) + (r2.toInt64)) fun v3 =>
  nm (x7 + 1) fun v4 =>
  k26 v3 x6 v4)
set_option maxHeartbeats 4000000 in
set_option maxRecDepth 100000 in
theorem tX5_digestOfBlock_26b {h : AH} {a1 : Int64} {a3 : Int32} {k16 : Int64 → Int32 → Option Int64} {k26 : Int64 → Int32 → Int32 → Option Int64} {x4 : Int64} {x6 : Int32} {x7 : Int32} {r0 : Int64} (C : Cx p rmX5_digestOfBlock s m args meth c RX5 cX5_digestOfBlock 8 (some .long) wsX5_digestOfBlock D ad cy tb 0 0) (H16 : ∀ (x4 : Int64) (x6 : Int32), k16 x4 x6 = some r0 → AW p l e rmX5_digestOfBlock s m args below meth c 8 D ad cy 0 0 (Ql D ad cy below args s r0 h) 16 [(0, .ref (ad 0)), (1, .long a1), (3, .int a3), (4, .long x4), (6, .int x6)] [] h) (H26 : ∀ (x4 : Int64) (x6 : Int32) (x7 : Int32), k26 x4 x6 x7 = some r0 → AW p l e rmX5_digestOfBlock s m args below meth c 8 D ad cy 0 0 (Ql D ad cy below args s r0 h) 26 [(0, .ref (ad 0)), (1, .long a1), (3, .int a3), (4, .long x4), (6, .int x6), (7, .int x7)] [] h) (hf : fX5_digestOfBlock_26b k16 k26 h a1 a3 x4 x6 x7 = some r0) : AW p l e rmX5_digestOfBlock s m args below meth c 8 D ad cy 0 0 (Ql D ad cy below args s r0 h) 26 [(0, .ref (ad 0)), (1, .long a1), (3, .int a3), (4, .long x4), (6, .int x6), (7, .int x7)] [] h := by
  unfold fX5_digestOfBlock_26b at hf
  refine aw_iload C dX5_digestOfBlock_26 5 rfl ?_
  refine aw_iconst (v := 3) C dX5_digestOfBlock_28 (by decide) ?_
  refine aw_icmp_gt (tgt := 57) C dX5_digestOfBlock_29 (by decide) hf (fun hf => ?_) (fun hf => ?_)
  · obtain ⟨v1, hvv1, hf⟩ := nm_ex hf
    refine aw_iinc (j := 4) (v := v1) (lv1 := [(6, .int v1), (0, .ref (ad 0)), (1, .long a1), (3, .int a3), (4, .long x4), (7, .int x7)]) C dX5_digestOfBlock_57 rfl hvv1 (by decide) rfl ?_
    refine aw_goto (tgt := 16) C dX5_digestOfBlock_60 (by decide) ?_
    refine aw_sub [1, 2, 3, 4, 0] rfl ?_
    exact H16 x4 v1 hf
  refine aw_ldc2 (v := 31) C (by decide +kernel) dX5_digestOfBlock_32 ?_
  refine aw_lload C dX5_digestOfBlock_35 3 rfl ?_
  refine aw_lmul C dX5_digestOfBlock_37 ?_
  refine aw_aload_n C dX5_digestOfBlock_38 rfl 0 rfl ?_
  refine aw_iload_n C dX5_digestOfBlock_39 rfl 2 rfl ?_
  refine aw_iload C dX5_digestOfBlock_40 4 rfl ?_
  refine aw_iload C dX5_digestOfBlock_42 5 rfl ?_
  obtain ⟨r2, hc, hf⟩ := bR_some hf
  refine aw_callVi (As := [.int a3, .int x6, .int x7]) (rest := [.long (31 * x4)]) C rfl (by decide) rfl (kX5_row (l := l) (D := D) (ad := ad) (cy := cy) (tb := tb) C.2.2.2.2.2.2.2.2.1 hc) (fun ht _ => cwV 3 ht gX5_digestOfBlock_X5_row rfl rfl rfl (by decide +kernel) ⟨Nat.le_of_ble_eq_true rfl, Nat.le_of_ble_eq_true rfl⟩) rfl rfl (Nat.le_of_ble_eq_true rfl) dX5_digestOfBlock_44 ?_
  refine aw_i2l C dX5_digestOfBlock_47 ?_
  refine aw_ladd C dX5_digestOfBlock_48 ?_
  refine aw_nmL hf (fun v3 hf => ?_)
  refine aw_lstore (lv1 := [(4, .long v3), (0, .ref (ad 0)), (1, .long a1), (3, .int a3), (6, .int x6), (7, .int x7)]) C dX5_digestOfBlock_49 (by decide) rfl ?_
  obtain ⟨v4, hvv4, hf⟩ := nm_ex hf
  refine aw_iinc (j := 5) (v := v4) (lv1 := [(7, .int v4), (4, .long v3), (0, .ref (ad 0)), (1, .long a1), (3, .int a3), (6, .int x6)]) C dX5_digestOfBlock_51 rfl hvv4 (by decide) rfl ?_
  refine aw_goto (tgt := 26) C dX5_digestOfBlock_54 (by decide) ?_
  refine aw_sub [2, 3, 4, 1, 5, 0] rfl ?_
  exact H26 v3 x6 v4 hf
def fX5_digestOfBlock_26 (k16 : Int64 → Int32 → Option Int64) (h : AH) (a1 : Int64) (a3 : Int32) : Nat → Int64 → Int32 → Int32 → Option Int64
  | 0, _, _, _ => none
  | n + 1, x4, x6, x7 => fX5_digestOfBlock_26b k16 (fX5_digestOfBlock_26 k16 h a1 a3 n) h a1 a3 x4 x6 x7
set_option maxHeartbeats 4000000 in
set_option maxRecDepth 100000 in
theorem tX5_digestOfBlock_26 {h : AH} {a1 : Int64} {a3 : Int32} {k16 : Int64 → Int32 → Option Int64} {r0 : Int64} (C : Cx p rmX5_digestOfBlock s m args meth c RX5 cX5_digestOfBlock 8 (some .long) wsX5_digestOfBlock D ad cy tb 0 0) (H16 : ∀ (x4 : Int64) (x6 : Int32), k16 x4 x6 = some r0 → AW p l e rmX5_digestOfBlock s m args below meth c 8 D ad cy 0 0 (Ql D ad cy below args s r0 h) 16 [(0, .ref (ad 0)), (1, .long a1), (3, .int a3), (4, .long x4), (6, .int x6)] [] h) : ∀ (n : Nat) (x4 : Int64) (x6 : Int32) (x7 : Int32), fX5_digestOfBlock_26 k16 h a1 a3 n x4 x6 x7 = some r0 → AW p l e rmX5_digestOfBlock s m args below meth c 8 D ad cy 0 0 (Ql D ad cy below args s r0 h) 26 [(0, .ref (ad 0)), (1, .long a1), (3, .int a3), (4, .long x4), (6, .int x6), (7, .int x7)] [] h := by
  intro n
  induction n with
  | zero => intro x4 x6 x7 hf; cases hf
  | succ n ih => intro x4 x6 x7 hf; exact tX5_digestOfBlock_26b C  H16 ih  hf
def fX5_digestOfBlock_76b (k66 : Int64 → Int32 → Option Int64) (k76 : Int64 → Int32 → Int32 → Option Int64) (h : AH) (a1 : Int64) (a3 : Int32) (x4 : Int64) (x6 : Int32) (x7 : Int32) : Option Int64 :=
  if 4 < x7 then (
    nm (x6 + 1) fun v1 =>
    k66 x4 v1) else (
  bR (fX5_word h a3 x6 x7) fun r2 =>
  nm ((31 * x4) + (r2.toInt64)) fun v3 =>
  nm (x7 + 1) fun v4 =>
  k76 v3 x6 v4)
set_option maxHeartbeats 4000000 in
set_option maxRecDepth 100000 in
theorem tX5_digestOfBlock_76b {h : AH} {a1 : Int64} {a3 : Int32} {k66 : Int64 → Int32 → Option Int64} {k76 : Int64 → Int32 → Int32 → Option Int64} {x4 : Int64} {x6 : Int32} {x7 : Int32} {r0 : Int64} (C : Cx p rmX5_digestOfBlock s m args meth c RX5 cX5_digestOfBlock 8 (some .long) wsX5_digestOfBlock D ad cy tb 0 0) (H66 : ∀ (x4 : Int64) (x6 : Int32), k66 x4 x6 = some r0 → AW p l e rmX5_digestOfBlock s m args below meth c 8 D ad cy 0 0 (Ql D ad cy below args s r0 h) 66 [(0, .ref (ad 0)), (1, .long a1), (3, .int a3), (4, .long x4), (6, .int x6)] [] h) (H76 : ∀ (x4 : Int64) (x6 : Int32) (x7 : Int32), k76 x4 x6 x7 = some r0 → AW p l e rmX5_digestOfBlock s m args below meth c 8 D ad cy 0 0 (Ql D ad cy below args s r0 h) 76 [(0, .ref (ad 0)), (1, .long a1), (3, .int a3), (4, .long x4), (6, .int x6), (7, .int x7)] [] h) (hf : fX5_digestOfBlock_76b k66 k76 h a1 a3 x4 x6 x7 = some r0) : AW p l e rmX5_digestOfBlock s m args below meth c 8 D ad cy 0 0 (Ql D ad cy below args s r0 h) 76 [(0, .ref (ad 0)), (1, .long a1), (3, .int a3), (4, .long x4), (6, .int x6), (7, .int x7)] [] h := by
  unfold fX5_digestOfBlock_76b at hf
  refine aw_iload C dX5_digestOfBlock_76 5 rfl ?_
  refine aw_iconst (v := 4) C dX5_digestOfBlock_78 (by decide) ?_
  refine aw_icmp_gt (tgt := 107) C dX5_digestOfBlock_79 (by decide) hf (fun hf => ?_) (fun hf => ?_)
  · obtain ⟨v1, hvv1, hf⟩ := nm_ex hf
    refine aw_iinc (j := 4) (v := v1) (lv1 := [(6, .int v1), (0, .ref (ad 0)), (1, .long a1), (3, .int a3), (4, .long x4), (7, .int x7)]) C dX5_digestOfBlock_107 rfl hvv1 (by decide) rfl ?_
    refine aw_goto (tgt := 66) C dX5_digestOfBlock_110 (by decide) ?_
    refine aw_sub [1, 2, 3, 4, 0] rfl ?_
    exact H66 x4 v1 hf
  refine aw_ldc2 (v := 31) C (by decide +kernel) dX5_digestOfBlock_82 ?_
  refine aw_lload C dX5_digestOfBlock_85 3 rfl ?_
  refine aw_lmul C dX5_digestOfBlock_87 ?_
  refine aw_aload_n C dX5_digestOfBlock_88 rfl 0 rfl ?_
  refine aw_iload_n C dX5_digestOfBlock_89 rfl 2 rfl ?_
  refine aw_iload C dX5_digestOfBlock_90 4 rfl ?_
  refine aw_iload C dX5_digestOfBlock_92 5 rfl ?_
  obtain ⟨r2, hc, hf⟩ := bR_some hf
  refine aw_callVi (As := [.int a3, .int x6, .int x7]) (rest := [.long (31 * x4)]) C rfl (by decide) rfl (kX5_word (l := l) (D := D) (ad := ad) (cy := cy) (tb := tb) C.2.2.2.2.2.2.2.2.1 hc) (fun ht _ => cwV 3 ht gX5_digestOfBlock_X5_word rfl rfl rfl (by decide +kernel) ⟨Nat.le_of_ble_eq_true rfl, Nat.le_of_ble_eq_true rfl⟩) rfl rfl (Nat.le_of_ble_eq_true rfl) dX5_digestOfBlock_94 ?_
  refine aw_i2l C dX5_digestOfBlock_97 ?_
  refine aw_ladd C dX5_digestOfBlock_98 ?_
  refine aw_nmL hf (fun v3 hf => ?_)
  refine aw_lstore (lv1 := [(4, .long v3), (0, .ref (ad 0)), (1, .long a1), (3, .int a3), (6, .int x6), (7, .int x7)]) C dX5_digestOfBlock_99 (by decide) rfl ?_
  obtain ⟨v4, hvv4, hf⟩ := nm_ex hf
  refine aw_iinc (j := 5) (v := v4) (lv1 := [(7, .int v4), (4, .long v3), (0, .ref (ad 0)), (1, .long a1), (3, .int a3), (6, .int x6)]) C dX5_digestOfBlock_101 rfl hvv4 (by decide) rfl ?_
  refine aw_goto (tgt := 76) C dX5_digestOfBlock_104 (by decide) ?_
  refine aw_sub [2, 3, 4, 1, 5, 0] rfl ?_
  exact H76 v3 x6 v4 hf
def fX5_digestOfBlock_76 (k66 : Int64 → Int32 → Option Int64) (h : AH) (a1 : Int64) (a3 : Int32) : Nat → Int64 → Int32 → Int32 → Option Int64
  | 0, _, _, _ => none
  | n + 1, x4, x6, x7 => fX5_digestOfBlock_76b k66 (fX5_digestOfBlock_76 k66 h a1 a3 n) h a1 a3 x4 x6 x7
set_option maxHeartbeats 4000000 in
set_option maxRecDepth 100000 in
theorem tX5_digestOfBlock_76 {h : AH} {a1 : Int64} {a3 : Int32} {k66 : Int64 → Int32 → Option Int64} {r0 : Int64} (C : Cx p rmX5_digestOfBlock s m args meth c RX5 cX5_digestOfBlock 8 (some .long) wsX5_digestOfBlock D ad cy tb 0 0) (H66 : ∀ (x4 : Int64) (x6 : Int32), k66 x4 x6 = some r0 → AW p l e rmX5_digestOfBlock s m args below meth c 8 D ad cy 0 0 (Ql D ad cy below args s r0 h) 66 [(0, .ref (ad 0)), (1, .long a1), (3, .int a3), (4, .long x4), (6, .int x6)] [] h) : ∀ (n : Nat) (x4 : Int64) (x6 : Int32) (x7 : Int32), fX5_digestOfBlock_76 k66 h a1 a3 n x4 x6 x7 = some r0 → AW p l e rmX5_digestOfBlock s m args below meth c 8 D ad cy 0 0 (Ql D ad cy below args s r0 h) 76 [(0, .ref (ad 0)), (1, .long a1), (3, .int a3), (4, .long x4), (6, .int x6), (7, .int x7)] [] h := by
  intro n
  induction n with
  | zero => intro x4 x6 x7 hf; cases hf
  | succ n ih => intro x4 x6 x7 hf; exact tX5_digestOfBlock_76b C  H66 ih  hf
def fX5_digestOfBlock_66b (k66 : Int64 → Int32 → Option Int64) (h : AH) (a1 : Int64) (a3 : Int32) (x4 : Int64) (x6 : Int32) : Option Int64 :=
  if 8 ≤ x6 then (
    some x4) else (
  fX5_digestOfBlock_76 k66 h a1 a3 FU x4 x6 0)
set_option maxHeartbeats 4000000 in
set_option maxRecDepth 100000 in
theorem tX5_digestOfBlock_66b {h : AH} {a1 : Int64} {a3 : Int32} {k66 : Int64 → Int32 → Option Int64} {x4 : Int64} {x6 : Int32} {r0 : Int64} (C : Cx p rmX5_digestOfBlock s m args meth c RX5 cX5_digestOfBlock 8 (some .long) wsX5_digestOfBlock D ad cy tb 0 0) (H66 : ∀ (x4 : Int64) (x6 : Int32), k66 x4 x6 = some r0 → AW p l e rmX5_digestOfBlock s m args below meth c 8 D ad cy 0 0 (Ql D ad cy below args s r0 h) 66 [(0, .ref (ad 0)), (1, .long a1), (3, .int a3), (4, .long x4), (6, .int x6)] [] h) (hf : fX5_digestOfBlock_66b k66 h a1 a3 x4 x6 = some r0) : AW p l e rmX5_digestOfBlock s m args below meth c 8 D ad cy 0 0 (Ql D ad cy below args s r0 h) 66 [(0, .ref (ad 0)), (1, .long a1), (3, .int a3), (4, .long x4), (6, .int x6)] [] h := by
  unfold fX5_digestOfBlock_66b at hf
  refine aw_iload C dX5_digestOfBlock_66 4 rfl ?_
  refine aw_bipush (v := 8) C dX5_digestOfBlock_68 (by decide) ?_
  refine aw_icmp_ge (tgt := 113) C dX5_digestOfBlock_70 (by decide) hf (fun hf => ?_) (fun hf => ?_)
  · refine aw_lload C dX5_digestOfBlock_113 3 rfl ?_
    exact aw_lretR C dX5_digestOfBlock_115 hf
  refine aw_iconst (v := 0) C dX5_digestOfBlock_73 (by decide) ?_
  refine aw_istore (lv1 := [(7, .int 0), (0, .ref (ad 0)), (1, .long a1), (3, .int a3), (4, .long x4), (6, .int x6)]) C dX5_digestOfBlock_74 (by decide) rfl ?_
  refine aw_sub [1, 2, 3, 4, 5, 0] rfl ?_
  exact tX5_digestOfBlock_76 C  H66 FU x4 x6 0 hf
def fX5_digestOfBlock_66 (h : AH) (a1 : Int64) (a3 : Int32) : Nat → Int64 → Int32 → Option Int64
  | 0, _, _ => none
  | n + 1, x4, x6 => fX5_digestOfBlock_66b (fX5_digestOfBlock_66 h a1 a3 n) h a1 a3 x4 x6
set_option maxHeartbeats 4000000 in
set_option maxRecDepth 100000 in
theorem tX5_digestOfBlock_66 {h : AH} {a1 : Int64} {a3 : Int32} {r0 : Int64} (C : Cx p rmX5_digestOfBlock s m args meth c RX5 cX5_digestOfBlock 8 (some .long) wsX5_digestOfBlock D ad cy tb 0 0) : ∀ (n : Nat) (x4 : Int64) (x6 : Int32), fX5_digestOfBlock_66 h a1 a3 n x4 x6 = some r0 → AW p l e rmX5_digestOfBlock s m args below meth c 8 D ad cy 0 0 (Ql D ad cy below args s r0 h) 66 [(0, .ref (ad 0)), (1, .long a1), (3, .int a3), (4, .long x4), (6, .int x6)] [] h := by
  intro n
  induction n with
  | zero => intro x4 x6 hf; cases hf
  | succ n ih => intro x4 x6 hf; exact tX5_digestOfBlock_66b C  ih  hf
def fX5_digestOfBlock_16b (k16 : Int64 → Int32 → Option Int64) (h : AH) (a1 : Int64) (a3 : Int32) (x4 : Int64) (x6 : Int32) : Option Int64 :=
  if 8 ≤ x6 then (
    fX5_digestOfBlock_66  h a1 a3 FU x4 0) else (
  fX5_digestOfBlock_26 k16 h a1 a3 FU x4 x6 1)
set_option maxHeartbeats 4000000 in
set_option maxRecDepth 100000 in
theorem tX5_digestOfBlock_16b {h : AH} {a1 : Int64} {a3 : Int32} {k16 : Int64 → Int32 → Option Int64} {x4 : Int64} {x6 : Int32} {r0 : Int64} (C : Cx p rmX5_digestOfBlock s m args meth c RX5 cX5_digestOfBlock 8 (some .long) wsX5_digestOfBlock D ad cy tb 0 0) (H16 : ∀ (x4 : Int64) (x6 : Int32), k16 x4 x6 = some r0 → AW p l e rmX5_digestOfBlock s m args below meth c 8 D ad cy 0 0 (Ql D ad cy below args s r0 h) 16 [(0, .ref (ad 0)), (1, .long a1), (3, .int a3), (4, .long x4), (6, .int x6)] [] h) (hf : fX5_digestOfBlock_16b k16 h a1 a3 x4 x6 = some r0) : AW p l e rmX5_digestOfBlock s m args below meth c 8 D ad cy 0 0 (Ql D ad cy below args s r0 h) 16 [(0, .ref (ad 0)), (1, .long a1), (3, .int a3), (4, .long x4), (6, .int x6)] [] h := by
  unfold fX5_digestOfBlock_16b at hf
  refine aw_iload C dX5_digestOfBlock_16 4 rfl ?_
  refine aw_bipush (v := 8) C dX5_digestOfBlock_18 (by decide) ?_
  refine aw_icmp_ge (tgt := 63) C dX5_digestOfBlock_20 (by decide) hf (fun hf => ?_) (fun hf => ?_)
  · refine aw_iconst (v := 0) C dX5_digestOfBlock_63 (by decide) ?_
    refine aw_istore (lv1 := [(6, .int 0), (0, .ref (ad 0)), (1, .long a1), (3, .int a3), (4, .long x4)]) C dX5_digestOfBlock_64 (by decide) rfl ?_
    refine aw_sub [1, 2, 3, 4, 0] rfl ?_
    exact tX5_digestOfBlock_66 C   FU x4 0 hf
  refine aw_iconst (v := 1) C dX5_digestOfBlock_23 (by decide) ?_
  refine aw_istore (lv1 := [(7, .int 1), (0, .ref (ad 0)), (1, .long a1), (3, .int a3), (4, .long x4), (6, .int x6)]) C dX5_digestOfBlock_24 (by decide) rfl ?_
  refine aw_sub [1, 2, 3, 4, 5, 0] rfl ?_
  exact tX5_digestOfBlock_26 C  H16 FU x4 x6 1 hf
def fX5_digestOfBlock_16 (h : AH) (a1 : Int64) (a3 : Int32) : Nat → Int64 → Int32 → Option Int64
  | 0, _, _ => none
  | n + 1, x4, x6 => fX5_digestOfBlock_16b (fX5_digestOfBlock_16 h a1 a3 n) h a1 a3 x4 x6
set_option maxHeartbeats 4000000 in
set_option maxRecDepth 100000 in
theorem tX5_digestOfBlock_16 {h : AH} {a1 : Int64} {a3 : Int32} {r0 : Int64} (C : Cx p rmX5_digestOfBlock s m args meth c RX5 cX5_digestOfBlock 8 (some .long) wsX5_digestOfBlock D ad cy tb 0 0) : ∀ (n : Nat) (x4 : Int64) (x6 : Int32), fX5_digestOfBlock_16 h a1 a3 n x4 x6 = some r0 → AW p l e rmX5_digestOfBlock s m args below meth c 8 D ad cy 0 0 (Ql D ad cy below args s r0 h) 16 [(0, .ref (ad 0)), (1, .long a1), (3, .int a3), (4, .long x4), (6, .int x6)] [] h := by
  intro n
  induction n with
  | zero => intro x4 x6 hf; cases hf
  | succ n ih => intro x4 x6 hf; exact tX5_digestOfBlock_16b C  ih  hf
def fX5_digestOfBlock (h : AH) (a1 : Int64) (a3 : Int32) : Option Int64 :=
  bR (fX5_block h a3) fun r1 =>
  nm ((31 * a1) + r1) fun v2 =>
  fX5_digestOfBlock_16  h a1 a3 FU v2 0
set_option maxHeartbeats 4000000 in
set_option maxRecDepth 100000 in
theorem tX5_digestOfBlock_0 {h : AH} {a1 : Int64} {a3 : Int32} {r0 : Int64} (C : Cx p rmX5_digestOfBlock s m args meth c RX5 cX5_digestOfBlock 8 (some .long) wsX5_digestOfBlock D ad cy tb 0 0) (hf : fX5_digestOfBlock h a1 a3 = some r0) : AW p l e rmX5_digestOfBlock s m args below meth c 8 D ad cy 0 0 (Ql D ad cy below args s r0 h) 0 [(0, .ref (ad 0)), (1, .long a1), (3, .int a3)] [] h := by
  unfold fX5_digestOfBlock at hf
  refine aw_ldc2 (v := 31) C (by decide +kernel) dX5_digestOfBlock_0 ?_
  refine aw_lload_n C dX5_digestOfBlock_3 rfl 1 rfl ?_
  refine aw_lmul C dX5_digestOfBlock_4 ?_
  refine aw_aload_n C dX5_digestOfBlock_5 rfl 0 rfl ?_
  refine aw_iload_n C dX5_digestOfBlock_6 rfl 2 rfl ?_
  obtain ⟨r1, hc, hf⟩ := bR_some hf
  refine aw_callVl (As := [.int a3]) (rest := [.long (31 * a1)]) C rfl (by decide) rfl (kX5_block (l := l) (D := D) (ad := ad) (cy := cy) (tb := tb) C.2.2.2.2.2.2.2.2.1 hc) (fun ht _ => cwV 1 ht gX5_digestOfBlock_X5_block rfl rfl rfl (by decide +kernel) ⟨Nat.le_of_ble_eq_true rfl, Nat.le_of_ble_eq_true rfl⟩) rfl rfl (Nat.le_of_ble_eq_true rfl) dX5_digestOfBlock_7 ?_
  refine aw_ladd C dX5_digestOfBlock_10 ?_
  refine aw_nmL hf (fun v2 hf => ?_)
  refine aw_lstore (lv1 := [(4, .long v2), (0, .ref (ad 0)), (1, .long a1), (3, .int a3)]) C dX5_digestOfBlock_11 (by decide) rfl ?_
  refine aw_iconst (v := 0) C dX5_digestOfBlock_13 (by decide) ?_
  refine aw_istore (lv1 := [(6, .int 0), (4, .long v2), (0, .ref (ad 0)), (1, .long a1), (3, .int a3)]) C dX5_digestOfBlock_14 (by decide) rfl ?_
  refine aw_sub [2, 3, 4, 1, 0] rfl ?_
  exact tX5_digestOfBlock_16 C   FU v2 0 hf
theorem kX5_digestOfBlock {h : AH} {a1 : Int64} {a3 : Int32} {r0 : Int64} (hi : Inj ad) (hf : fX5_digestOfBlock h a1 a3 = some r0) : Kl l yX5_digestOfBlock wsX5_digestOfBlock rmX5_digestOfBlock D ad cy tb [.ref (ad 0), .long a1, .int a3] h r0 h := met_l (lv := [(0, .ref (ad 0)), (1, .long a1), (3, .int a3)]) hi (by decide) rfl (Nat.le_of_ble_eq_true rfl) rfl rfl (fun _ _ _ _ _ _ _ _ C => tX5_digestOfBlock_0 C  hf)
