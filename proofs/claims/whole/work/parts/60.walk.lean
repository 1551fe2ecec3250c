variable {p : Program} {l : Launch} {e : Env} {s : State} {m : MethodId} {args : Array Value} {below : List Frame} {meth : Method} {c : Code} {D : va_G} {ad : Nat → Nat} {cy : Nat → ClassId} {tb : Nat → Nat}
set_option maxRecDepth 20000 in
theorem ggX6_turn_X6_isBlock : GoodIn wsX6_turn wsX6_isBlock := goodIn_r _ [5, 6, 7, 8, 4, 9, 65, 66, 67, 68, 69, 70, 71, 72, 73, 74, 75, 76, 77, 78, 79, 80, 81, 82] (by decide +kernel) (by decide +kernel)
set_option maxRecDepth 20000 in
theorem gX6_turn_X6_isBlock : GoodIn wsX6_turn (wsV RX6 77 RX6 yX6_isBlock wsX6_isBlock) := goodIn_app (goodIn_of _ (by decide +kernel)) ggX6_turn_X6_isBlock
set_option maxRecDepth 20000 in
theorem ggX6_turn_X6_turnOver : GoodIn wsX6_turn wsX6_turnOver := goodIn_r _ [13, 14, 15, 16, 4, 17, 18, 19, 20, 21, 22, 23, 24, 25, 26, 27, 28, 29, 30, 31, 32, 33, 34, 35, 36, 37, 38, 39, 40, 41, 42, 43, 44, 45, 46, 47, 48, 49, 50, 51, 52, 53, 54, 6, 55, 56, 57, 58, 59, 60, 61, 62, 63, 64, 65, 66, 67, 68, 69, 70, 71, 72, 73, 74, 75, 76, 77, 78, 79, 80, 81, 82] (by decide +kernel) (by decide +kernel)
set_option maxRecDepth 20000 in
theorem gX6_turn_X6_turnOver : GoodIn wsX6_turn (wsV RX6 156 RX6 yX6_turnOver wsX6_turnOver) := goodIn_app (goodIn_of _ (by decide +kernel)) ggX6_turn_X6_turnOver
theorem dX6_turn_0 : decode cX6_turn 0 = .ok (.aload_n 0, 1) := by decide +kernel
theorem dX6_turn_1 : decode cX6_turn 1 = .ok (.iload_n 1, 1) := by decide +kernel
theorem dX6_turn_2 : decode cX6_turn 2 = .ok (.invokevirtual 77, 3) := by decide +kernel
theorem dX6_turn_5 : decode cX6_turn 5 = .ok (.ifCond .eq 25, 3) := by decide +kernel
theorem dX6_turn_8 : decode cX6_turn 8 = .ok (.aload_n 0, 1) := by decide +kernel
theorem dX6_turn_9 : decode cX6_turn 9 = .ok (.iload_n 2, 1) := by decide +kernel
theorem dX6_turn_10 : decode cX6_turn 10 = .ok (.invokevirtual 77, 3) := by decide +kernel
theorem dX6_turn_13 : decode cX6_turn 13 = .ok (.ifCond .eq 17, 3) := by decide +kernel
theorem dX6_turn_16 : decode cX6_turn 16 = .ok (.iload_n 1, 1) := by decide +kernel
theorem dX6_turn_17 : decode cX6_turn 17 = .ok (.iload_n 2, 1) := by decide +kernel
theorem dX6_turn_18 : decode cX6_turn 18 = .ok (.if_icmp .gt 12, 3) := by decide +kernel
theorem dX6_turn_21 : decode cX6_turn 21 = .ok (.aload_n 0, 1) := by decide +kernel
theorem dX6_turn_22 : decode cX6_turn 22 = .ok (.iload_n 1, 1) := by decide +kernel
theorem dX6_turn_23 : decode cX6_turn 23 = .ok (.iload_n 2, 1) := by decide +kernel
theorem dX6_turn_24 : decode cX6_turn 24 = .ok (.invokevirtual 156, 3) := by decide +kernel
theorem dX6_turn_27 : decode cX6_turn 27 = .ok (.goto 5, 3) := by decide +kernel
theorem dX6_turn_30 : decode cX6_turn 30 = .ok (.bipush (-2), 2) := by decide +kernel
theorem dX6_turn_32 : decode cX6_turn 32 = .ok (.ireturn, 1) := by decide +kernel
abbrev rmX6_turn : Room := { frames := 8, cells := 0, slots := 0, locals := 196 }
set_option maxHeartbeats 4000000 in
set_option maxRecDepth 100000 in
theorem tX6_turn_0 {h : AH} {a1 : Int32} {a2 : Int32} {r0 : Int32} {h0 : AH} (C : Cx p rmX6_turn s m args meth c RX6 cX6_turn 3 (some .int) wsX6_turn D ad cy tb 0 0) (hf : fX6_turn h a1 a2 = some (r0, h0)) : AW p l e rmX6_turn s m args below meth c 3 D ad cy 0 0 (Qi D ad cy below args s r0 h0) 0 [(0, .ref (ad 29)), (1, .int a1), (2, .int a2)] [] h := by
  unfold fX6_turn at hf
  refine aw_aload_n C dX6_turn_0 rfl 0 rfl ?_
  refine aw_iload_n C dX6_turn_1 rfl 1 rfl ?_
  obtain ⟨r1, hc, hf⟩ := bR_some hf
  refine aw_callVi (As := [.int a1]) (rest := []) C rfl (by decide) rfl (kX6_isBlock (l := l) (D := D) (ad := ad) (cy := cy) (tb := tb) C.2.2.2.2.2.2.2.2.1 hc) (fun ht _ => cwV 1 ht gX6_turn_X6_isBlock rfl rfl rfl (by decide +kernel) ⟨Nat.le_of_ble_eq_true rfl, Nat.le_of_ble_eq_true rfl⟩) rfl rfl (Nat.le_of_ble_eq_true rfl) dX6_turn_2 ?_
  refine aw_if_eq (tgt := 30) C dX6_turn_5 (by decide) hf (fun hf => ?_) (fun hf => ?_)
  · refine aw_bipush (v := (-2)) C dX6_turn_30 (by decide) ?_
    exact aw_iretW C dX6_turn_32 hf
  refine aw_aload_n C dX6_turn_8 rfl 0 rfl ?_
  refine aw_iload_n C dX6_turn_9 rfl 2 rfl ?_
  obtain ⟨r2, hc, hf⟩ := bR_some hf
  refine aw_callVi (As := [.int a2]) (rest := []) C rfl (by decide) rfl (kX6_isBlock (l := l) (D := D) (ad := ad) (cy := cy) (tb := tb) C.2.2.2.2.2.2.2.2.1 hc) (fun ht _ => cwV 1 ht gX6_turn_X6_isBlock rfl rfl rfl (by decide +kernel) ⟨Nat.le_of_ble_eq_true rfl, Nat.le_of_ble_eq_true rfl⟩) rfl rfl (Nat.le_of_ble_eq_true rfl) dX6_turn_10 ?_
  refine aw_if_eq (tgt := 30) C dX6_turn_13 (by decide) hf (fun hf => ?_) (fun hf => ?_)
  · refine aw_bipush (v := (-2)) C dX6_turn_30 (by decide) ?_
    exact aw_iretW C dX6_turn_32 hf
  refine aw_iload_n C dX6_turn_16 rfl 1 rfl ?_
  refine aw_iload_n C dX6_turn_17 rfl 2 rfl ?_
  refine aw_icmp_gt (tgt := 30) C dX6_turn_18 (by decide) hf (fun hf => ?_) (fun hf => ?_)
  · refine aw_bipush (v := (-2)) C dX6_turn_30 (by decide) ?_
    exact aw_iretW C dX6_turn_32 hf
  refine aw_aload_n C dX6_turn_21 rfl 0 rfl ?_
  refine aw_iload_n C dX6_turn_22 rfl 1 rfl ?_
  refine aw_iload_n C dX6_turn_23 rfl 2 rfl ?_
  obtain ⟨r4, h3, hc, hf⟩ := bW_some hf
  refine aw_callVi (As := [.int a1, .int a2]) (rest := []) C rfl (by decide) rfl (kX6_turnOver (l := l) (D := D) (ad := ad) (cy := cy) (tb := tb) C.2.2.2.2.2.2.2.2.1 hc) (fun ht _ => cwV 2 ht gX6_turn_X6_turnOver rfl rfl rfl (by decide +kernel) ⟨Nat.le_of_ble_eq_true rfl, Nat.le_of_ble_eq_true rfl⟩) rfl rfl (Nat.le_of_ble_eq_true rfl) dX6_turn_24 ?_
  refine aw_goto (tgt := 32) C dX6_turn_27 (by decide) ?_
  exact aw_iretW C dX6_turn_32 hf
theorem kX6_turn {h : AH} {a1 : Int32} {a2 : Int32} {r0 : Int32} {h0 : AH} (hi : Inj ad) (hf : fX6_turn h a1 a2 = some (r0, h0)) : Ki l yX6_turn wsX6_turn rmX6_turn D ad cy tb [.ref (ad 29), .int a1, .int a2] h r0 h0 := met_i (lv := [(0, .ref (ad 29)), (1, .int a1), (2, .int a2)]) hi (by decide) rfl (Nat.le_of_ble_eq_true rfl) rfl rfl (fun _ _ _ _ _ _ _ _ C => tX6_turn_0 C  hf)
theorem dX5_isTurns_0 : decode cX5_isTurns 0 = .ok (.iload_n 0, 1) := by decide +kernel
theorem dX5_isTurns_1 : decode cX5_isTurns 1 = .ok (.iconst 1, 1) := by decide +kernel
theorem dX5_isTurns_2 : decode cX5_isTurns 2 = .ok (.if_icmp .lt 13, 3) := by decide +kernel
theorem dX5_isTurns_5 : decode cX5_isTurns 5 = .ok (.iload_n 0, 1) := by decide +kernel
theorem dX5_isTurns_6 : decode cX5_isTurns 6 = .ok (.bipush 9, 2) := by decide +kernel
theorem dX5_isTurns_8 : decode cX5_isTurns 8 = .ok (.if_icmp .gt 7, 3) := by decide +kernel
theorem dX5_isTurns_11 : decode cX5_isTurns 11 = .ok (.iconst 1, 1) := by decide +kernel
theorem dX5_isTurns_12 : decode cX5_isTurns 12 = .ok (.goto 4, 3) := by decide +kernel
theorem dX5_isTurns_15 : decode cX5_isTurns 15 = .ok (.iconst 0, 1) := by decide +kernel
theorem dX5_isTurns_16 : decode cX5_isTurns 16 = .ok (.ireturn, 1) := by decide +kernel
abbrev rmX5_isTurns : Room := { frames := 0, cells := 0, slots := 0, locals := 0 }
set_option maxHeartbeats 4000000 in
set_option maxRecDepth 100000 in
theorem tX5_isTurns_0 {h : AH} {a0 : Int32} {r0 : Int32} (C : Cx p rmX5_isTurns s m args meth c RX5 cX5_isTurns 1 (some .boolean) wsX5_isTurns D ad cy tb 0 0) (hf : fX5_isTurns h a0 = some r0) : AW p l e rmX5_isTurns s m args below meth c 1 D ad cy 0 0 (Qi D ad cy below args s r0 h) 0 [(0, .int a0)] [] h := by
  unfold fX5_isTurns at hf
  refine aw_iload_n C dX5_isTurns_0 rfl 0 rfl ?_
  refine aw_iconst (v := 1) C dX5_isTurns_1 (by decide) ?_
  refine aw_icmp_lt (tgt := 15) C dX5_isTurns_2 (by decide) hf (fun hf => ?_) (fun hf => ?_)
  · refine aw_iconst (v := 0) C dX5_isTurns_15 (by decide) ?_
    exact aw_zretR C (by decide) dX5_isTurns_16 hf
  refine aw_iload_n C dX5_isTurns_5 rfl 0 rfl ?_
  refine aw_bipush (v := 9) C dX5_isTurns_6 (by decide) ?_
  refine aw_icmp_gt (tgt := 15) C dX5_isTurns_8 (by decide) hf (fun hf => ?_) (fun hf => ?_)
  · refine aw_iconst (v := 0) C dX5_isTurns_15 (by decide) ?_
    exact aw_zretR C (by decide) dX5_isTurns_16 hf
  refine aw_iconst (v := 1) C dX5_isTurns_11 (by decide) ?_
  refine aw_goto (tgt := 16) C dX5_isTurns_12 (by decide) ?_
  exact aw_zretR C (by decide) dX5_isTurns_16 hf
theorem kX5_isTurns {h : AH} {a0 : Int32} {r0 : Int32} (hi : Inj ad) (hf : fX5_isTurns h a0 = some r0) : Ki l yX5_isTurns wsX5_isTurns rmX5_isTurns D ad cy tb [.int a0] h r0 h := met_i (lv := [(0, .int a0)]) hi (by decide) rfl (Nat.le_of_ble_eq_true rfl) rfl rfl (fun _ _ _ _ _ _ _ _ C => tX5_isTurns_0 C  hf)
set_option maxRecDepth 20000 in
theorem ggX4_takeWindow_X4_takeTurn : GoodIn wsX4_takeWindow wsX4_takeTurn := goodIn_r _ [5, 6, 7, 8, 4, 9, 10, 11, 12, 13, 14, 15, 16, 17, 18, 19, 20, 21, 22, 23, 24, 25, 26, 27, 28, 29, 30, 31, 32, 33] (by decide +kernel) (by decide +kernel)
set_option maxRecDepth 20000 in
theorem gX4_takeWindow_X4_takeTurn : GoodIn wsX4_takeWindow (wsV RX4 98 RX4 yX4_takeTurn wsX4_takeTurn) := goodIn_app (goodIn_of _ (by decide +kernel)) ggX4_takeWindow_X4_takeTurn
theorem dX4_takeWindow_0 : decode cX4_takeWindow 0 = .ok (.iconst 0, 1) := by decide +kernel
theorem dX4_takeWindow_1 : decode cX4_takeWindow 1 = .ok (.istore 6, 2) := by decide +kernel
theorem dX4_takeWindow_3 : decode cX4_takeWindow 3 = .ok (.iload 6, 2) := by decide +kernel
theorem dX4_takeWindow_5 : decode cX4_takeWindow 5 = .ok (.iload_n 3, 1) := by decide +kernel
theorem dX4_takeWindow_6 : decode cX4_takeWindow 6 = .ok (.if_icmp .ge 25, 3) := by decide +kernel
theorem dX4_takeWindow_9 : decode cX4_takeWindow 9 = .ok (.aload_n 0, 1) := by decide +kernel
theorem dX4_takeWindow_10 : decode cX4_takeWindow 10 = .ok (.iload_n 1, 1) := by decide +kernel
theorem dX4_takeWindow_11 : decode cX4_takeWindow 11 = .ok (.iload_n 2, 1) := by decide +kernel
theorem dX4_takeWindow_12 : decode cX4_takeWindow 12 = .ok (.iload 4, 2) := by decide +kernel
theorem dX4_takeWindow_14 : decode cX4_takeWindow 14 = .ok (.aload 5, 2) := by decide +kernel
theorem dX4_takeWindow_16 : decode cX4_takeWindow 16 = .ok (.invokevirtual 98, 3) := by decide +kernel
theorem dX4_takeWindow_19 : decode cX4_takeWindow 19 = .ok (.ifCond .ne 6, 3) := by decide +kernel
theorem dX4_takeWindow_22 : decode cX4_takeWindow 22 = .ok (.iload 6, 2) := by decide +kernel
theorem dX4_takeWindow_24 : decode cX4_takeWindow 24 = .ok (.ireturn, 1) := by decide +kernel
theorem dX4_takeWindow_25 : decode cX4_takeWindow 25 = .ok (.iinc 6 1, 3) := by decide +kernel
theorem dX4_takeWindow_28 : decode cX4_takeWindow 28 = .ok (.goto (-25), 3) := by decide +kernel
theorem dX4_takeWindow_31 : decode cX4_takeWindow 31 = .ok (.iload_n 3, 1) := by decide +kernel
theorem dX4_takeWindow_32 : decode cX4_takeWindow 32 = .ok (.ireturn, 1) := by decide +kernel
abbrev rmX4_takeWindow : Room := { frames := 2, cells := 0, slots := 0, locals := 56 }
set_option maxHeartbeats 4000000 in
set_option maxRecDepth 100000 in
theorem tX4_takeWindow_3b {h : AH} {a0 : Nat} {a1 : Int32} {a2 : Int32} {a3 : Int32} {a4 : Int32} {k3 : AH → Int32 → Option (Int32 × AH)} {x6 : Int32} {r0 : Int32} {h0 : AH} (C : Cx p rmX4_takeWindow s m args meth c RX4 cX4_takeWindow 7 (some .int) wsX4_takeWindow D ad cy tb 0 0) (hk0 : kd a0 = 4) (H3 : ∀ (h : AH) (x6 : Int32), k3 h x6 = some (r0, h0) → AW p l e rmX4_takeWindow s m args below meth c 7 D ad cy 0 0 (Qi D ad cy below args s r0 h0) 3 [(0, .ref (ad a0)), (1, .int a1), (2, .int a2), (3, .int a3), (4, .int a4), (5, .ref (ad 11)), (6, .int x6)] [] h) (hf : fX4_takeWindow_3b k3 a0 a1 a2 a3 a4 h x6 = some (r0, h0)) : AW p l e rmX4_takeWindow s m args below meth c 7 D ad cy 0 0 (Qi D ad cy below args s r0 h0) 3 [(0, .ref (ad a0)), (1, .int a1), (2, .int a2), (3, .int a3), (4, .int a4), (5, .ref (ad 11)), (6, .int x6)] [] h := by
  unfold fX4_takeWindow_3b at hf
  refine aw_iload C dX4_takeWindow_3 6 rfl ?_
  refine aw_iload_n C dX4_takeWindow_5 rfl 3 rfl ?_
  refine aw_icmp_ge (tgt := 31) C dX4_takeWindow_6 (by decide) hf (fun hf => ?_) (fun hf => ?_)
  · refine aw_iload_n C dX4_takeWindow_31 rfl 3 rfl ?_
    exact aw_iretW C dX4_takeWindow_32 hf
  refine aw_aload_n C dX4_takeWindow_9 rfl 0 rfl ?_
  refine aw_iload_n C dX4_takeWindow_10 rfl 1 rfl ?_
  refine aw_iload_n C dX4_takeWindow_11 rfl 2 rfl ?_
  refine aw_iload C dX4_takeWindow_12 4 rfl ?_
  refine aw_aload C dX4_takeWindow_14 5 rfl ?_
  obtain ⟨r2, h1, hc, hf⟩ := bW_some hf
  refine aw_callVi (As := [.int a1, .int a2, .int a4, .ref (ad 11)]) (rest := []) C hk0 (by decide) rfl (kX4_takeTurn (l := l) (D := D) (ad := ad) (cy := cy) (tb := tb) C.2.2.2.2.2.2.2.2.1 hk0 hc) (fun ht _ => cwV 4 ht gX4_takeWindow_X4_takeTurn rfl rfl rfl (by decide +kernel) ⟨Nat.le_of_ble_eq_true rfl, Nat.le_of_ble_eq_true rfl⟩) rfl rfl (Nat.le_of_ble_eq_true rfl) dX4_takeWindow_16 ?_
  refine aw_if_ne (tgt := 25) C dX4_takeWindow_19 (by decide) hf (fun hf => ?_) (fun hf => ?_)
  · obtain ⟨v3, hvv3, hf⟩ := nm_ex hf
    refine aw_iinc (j := 6) (v := v3) (lv1 := [(6, .int v3), (0, .ref (ad a0)), (1, .int a1), (2, .int a2), (3, .int a3), (4, .int a4), (5, .ref (ad 11))]) C dX4_takeWindow_25 rfl hvv3 (by decide) rfl ?_
    refine aw_goto (tgt := 3) C dX4_takeWindow_28 (by decide) ?_
    refine aw_sub [1, 2, 3, 4, 5, 6, 0] rfl ?_
    exact H3 h1 v3 hf
  refine aw_iload C dX4_takeWindow_22 6 rfl ?_
  exact aw_iretW C dX4_takeWindow_24 hf
set_option maxHeartbeats 4000000 in
set_option maxRecDepth 100000 in
theorem tX4_takeWindow_3  {a0 : Nat} {a1 : Int32} {a2 : Int32} {a3 : Int32} {a4 : Int32} {r0 : Int32} {h0 : AH} (C : Cx p rmX4_takeWindow s m args meth c RX4 cX4_takeWindow 7 (some .int) wsX4_takeWindow D ad cy tb 0 0) (hk0 : kd a0 = 4) : ∀ (n : Nat) (h : AH) (x6 : Int32), fX4_takeWindow_3 a0 a1 a2 a3 a4 n h x6 = some (r0, h0) → AW p l e rmX4_takeWindow s m args below meth c 7 D ad cy 0 0 (Qi D ad cy below args s r0 h0) 3 [(0, .ref (ad a0)), (1, .int a1), (2, .int a2), (3, .int a3), (4, .int a4), (5, .ref (ad 11)), (6, .int x6)] [] h := by
  intro n
  induction n with
  | zero => intro h x6 hf; cases hf
  | succ n ih => intro h x6 hf; exact tX4_takeWindow_3b C hk0 ih  hf
set_option maxHeartbeats 4000000 in
set_option maxRecDepth 100000 in
theorem tX4_takeWindow_0 {h : AH} {a0 : Nat} {a1 : Int32} {a2 : Int32} {a3 : Int32} {a4 : Int32} {r0 : Int32} {h0 : AH} (C : Cx p rmX4_takeWindow s m args meth c RX4 cX4_takeWindow 7 (some .int) wsX4_takeWindow D ad cy tb 0 0) (hk0 : kd a0 = 4) (hf : fX4_takeWindow h a0 a1 a2 a3 a4 = some (r0, h0)) : AW p l e rmX4_takeWindow s m args below meth c 7 D ad cy 0 0 (Qi D ad cy below args s r0 h0) 0 [(0, .ref (ad a0)), (1, .int a1), (2, .int a2), (3, .int a3), (4, .int a4), (5, .ref (ad 11))] [] h := by
  unfold fX4_takeWindow at hf
  refine aw_iconst (v := 0) C dX4_takeWindow_0 (by decide) ?_
  refine aw_istore (lv1 := [(6, .int 0), (0, .ref (ad a0)), (1, .int a1), (2, .int a2), (3, .int a3), (4, .int a4), (5, .ref (ad 11))]) C dX4_takeWindow_1 (by decide) rfl ?_
  refine aw_sub [1, 2, 3, 4, 5, 6, 0] rfl ?_
  exact tX4_takeWindow_3 C hk0  FU h 0 hf
theorem kX4_takeWindow {h : AH} {a0 : Nat} {a1 : Int32} {a2 : Int32} {a3 : Int32} {a4 : Int32} {r0 : Int32} {h0 : AH} (hi : Inj ad) (hk0 : kd a0 = 4) (hf : fX4_takeWindow h a0 a1 a2 a3 a4 = some (r0, h0)) : Ki l yX4_takeWindow wsX4_takeWindow rmX4_takeWindow D ad cy tb [.ref (ad a0), .int a1, .int a2, .int a3, .int a4, .ref (ad 11)] h r0 h0 := met_i (lv := [(0, .ref (ad a0)), (1, .int a1), (2, .int a2), (3, .int a3), (4, .int a4), (5, .ref (ad 11))]) hi (by decide) rfl (Nat.le_of_ble_eq_true rfl) rfl rfl (fun _ _ _ _ _ _ _ _ C => tX4_takeWindow_0 C hk0 hf)
set_option maxRecDepth 20000 in
theorem ggX5_window_X5_isBlock : GoodIn wsX5_window wsX5_isBlock := goodIn_r _ [8, 1, 42, 43, 44, 45, 46, 47, 48, 49, 50, 51, 52, 53] (by decide +kernel) (by decide +kernel)
set_option maxRecDepth 20000 in
theorem gX5_window_X5_isBlock : GoodIn wsX5_window (wsV RX5 106 RX5 yX5_isBlock wsX5_isBlock) := goodIn_app (goodIn_of _ (by decide +kernel)) ggX5_window_X5_isBlock
set_option maxRecDepth 20000 in
theorem ggX5_window_X5_isTurns : GoodIn wsX5_window wsX5_isTurns := goodIn_r _ [11] (by decide +kernel) (by decide +kernel)
set_option maxRecDepth 20000 in
theorem gX5_window_X5_isTurns : GoodIn wsX5_window (va_wsS RX5 186 yX5_isTurns wsX5_isTurns) := goodIn_app (goodIn_of _ (by decide +kernel)) ggX5_window_X5_isTurns
set_option maxRecDepth 20000 in
theorem ggX5_window_X4_takeWindow : GoodIn wsX5_window wsX4_takeWindow := goodIn_r _ [16, 17, 18, 19, 15, 20, 21, 22, 23, 24, 25, 26, 27, 7, 28, 29, 30, 31, 32, 33, 34, 35, 36, 37, 38, 39, 40, 41, 51, 52, 53, 54, 55, 56] (by decide +kernel) (by decide +kernel)
set_option maxRecDepth 20000 in
theorem gX5_window_X4_takeWindow : GoodIn wsX5_window (wsV RX5 189 RX4 yX4_takeWindow wsX4_takeWindow) := goodIn_app (goodIn_of _ (by decide +kernel)) ggX5_window_X4_takeWindow
theorem dX5_window_0 : decode cX5_window 0 = .ok (.aload_n 0, 1) := by decide +kernel
theorem dX5_window_1 : decode cX5_window 1 = .ok (.iload_n 1, 1) := by decide +kernel
theorem dX5_window_2 : decode cX5_window 2 = .ok (.invokevirtual 106, 3) := by decide +kernel
theorem dX5_window_5 : decode cX5_window 5 = .ok (.ifCond .eq 30, 3) := by decide +kernel
theorem dX5_window_8 : decode cX5_window 8 = .ok (.iload_n 2, 1) := by decide +kernel
theorem dX5_window_9 : decode cX5_window 9 = .ok (.iconst 1, 1) := by decide +kernel
theorem dX5_window_10 : decode cX5_window 10 = .ok (.if_icmp .lt 25, 3) := by decide +kernel
theorem dX5_window_13 : decode cX5_window 13 = .ok (.iload_n 2, 1) := by decide +kernel
theorem dX5_window_14 : decode cX5_window 14 = .ok (.aload_n 0, 1) := by decide +kernel
theorem dX5_window_15 : decode cX5_window 15 = .ok (.getfield 12, 3) := by decide +kernel
theorem dX5_window_18 : decode cX5_window 18 = .ok (.getfield 58, 3) := by decide +kernel
theorem dX5_window_21 : decode cX5_window 21 = .ok (.iload_n 1, 1) := by decide +kernel
theorem dX5_window_22 : decode cX5_window 22 = .ok (.isub, 1) := by decide +kernel
theorem dX5_window_23 : decode cX5_window 23 = .ok (.iconst 1, 1) := by decide +kernel
theorem dX5_window_24 : decode cX5_window 24 = .ok (.iadd, 1) := by decide +kernel
theorem dX5_window_25 : decode cX5_window 25 = .ok (.if_icmp .gt 10, 3) := by decide +kernel
theorem dX5_window_28 : decode cX5_window 28 = .ok (.iload_n 3, 1) := by decide +kernel
theorem dX5_window_29 : decode cX5_window 29 = .ok (.invokestatic 186, 3) := by decide +kernel
theorem dX5_window_32 : decode cX5_window 32 = .ok (.ifCond .ne 6, 3) := by decide +kernel
theorem dX5_window_35 : decode cX5_window 35 = .ok (.bipush (-2), 2) := by decide +kernel
theorem dX5_window_37 : decode cX5_window 37 = .ok (.ireturn, 1) := by decide +kernel
theorem dX5_window_38 : decode cX5_window 38 = .ok (.aload_n 0, 1) := by decide +kernel
theorem dX5_window_39 : decode cX5_window 39 = .ok (.getfield 12, 3) := by decide +kernel
theorem dX5_window_42 : decode cX5_window 42 = .ok (.iload_n 1, 1) := by decide +kernel
theorem dX5_window_43 : decode cX5_window 43 = .ok (.iload_n 1, 1) := by decide +kernel
theorem dX5_window_44 : decode cX5_window 44 = .ok (.iload_n 2, 1) := by decide +kernel
theorem dX5_window_45 : decode cX5_window 45 = .ok (.iadd, 1) := by decide +kernel
theorem dX5_window_46 : decode cX5_window 46 = .ok (.iconst 1, 1) := by decide +kernel
theorem dX5_window_47 : decode cX5_window 47 = .ok (.isub, 1) := by decide +kernel
theorem dX5_window_48 : decode cX5_window 48 = .ok (.iload_n 3, 1) := by decide +kernel
theorem dX5_window_49 : decode cX5_window 49 = .ok (.aload_n 0, 1) := by decide +kernel
theorem dX5_window_50 : decode cX5_window 50 = .ok (.getfield 51, 3) := by decide +kernel
theorem dX5_window_53 : decode cX5_window 53 = .ok (.aload_n 0, 1) := by decide +kernel
theorem dX5_window_54 : decode cX5_window 54 = .ok (.getfield 33, 3) := by decide +kernel
theorem dX5_window_57 : decode cX5_window 57 = .ok (.invokevirtual 189, 3) := by decide +kernel
theorem dX5_window_60 : decode cX5_window 60 = .ok (.ireturn, 1) := by decide +kernel
abbrev rmX5_window : Room := { frames := 3, cells := 0, slots := 0, locals := 82 }
set_option maxRecDepth 100000 in
theorem hinX5_window_5 : ∀ w ∈ wsX50, w ∈ wsX5_window := by decide +kernel
set_option maxRecDepth 100000 in
theorem hinX5_window_4 : ∀ w ∈ wsX40, w ∈ wsX5_window := by decide +kernel
set_option maxHeartbeats 4000000 in
set_option maxRecDepth 100000 in
theorem tX5_window_0 {h : AH} {a1 : Int32} {a2 : Int32} {a3 : Int32} {r0 : Int32} {h0 : AH} (C : Cx p rmX5_window s m args meth c RX5 cX5_window 4 (some .int) wsX5_window D ad cy tb 0 0) (hf : fX5_window h a1 a2 a3 = some (r0, h0)) : AW p l e rmX5_window s m args below meth c 4 D ad cy 0 0 (Qi D ad cy below args s r0 h0) 0 [(0, .ref (ad 0)), (1, .int a1), (2, .int a2), (3, .int a3)] [] h := by
  unfold fX5_window at hf
  refine aw_aload_n C dX5_window_0 rfl 0 rfl ?_
  refine aw_iload_n C dX5_window_1 rfl 1 rfl ?_
  obtain ⟨r1, hc, hf⟩ := bR_some hf
  refine aw_callVi (As := [.int a1]) (rest := []) C rfl (by decide) rfl (kX5_isBlock (l := l) (D := D) (ad := ad) (cy := cy) (tb := tb) C.2.2.2.2.2.2.2.2.1 hc) (fun ht _ => cwV 1 ht gX5_window_X5_isBlock rfl rfl rfl (by decide +kernel) ⟨Nat.le_of_ble_eq_true rfl, Nat.le_of_ble_eq_true rfl⟩) rfl rfl (Nat.le_of_ble_eq_true rfl) dX5_window_2 ?_
  refine aw_if_eq (tgt := 35) C dX5_window_5 (by decide) hf (fun hf => ?_) (fun hf => ?_)
  · refine aw_bipush (v := (-2)) C dX5_window_35 (by decide) ?_
    exact aw_iretW C dX5_window_37 hf
  refine aw_iload_n C dX5_window_8 rfl 2 rfl ?_
  refine aw_iconst (v := 1) C dX5_window_9 (by decide) ?_
  refine aw_icmp_lt (tgt := 35) C dX5_window_10 (by decide) hf (fun hf => ?_) (fun hf => ?_)
  · refine aw_bipush (v := (-2)) C dX5_window_35 (by decide) ?_
    exact aw_iretW C dX5_window_37 hf
  refine aw_iload_n C dX5_window_13 rfl 2 rfl ?_
  refine aw_aload_n C dX5_window_14 rfl 0 rfl ?_
  refine aw_get C (kd_lt rfl (by decide)) (ce_5 rfl) rfl hinX5_window_5 0 (by decide) rfl (by decide +kernel) rfl dX5_window_15 ?_
  refine aw_getN (host := "StairCodes") C (kd_lt rfl (by decide)) (ce_4 rfl) rfl hinX5_window_4 0 (by decide) rfl (by decide +kernel) rfl dX5_window_18 ?_
  refine aw_iload_n C dX5_window_21 rfl 1 rfl ?_
  refine aw_isub C dX5_window_22 ?_
  refine aw_iconst (v := 1) C dX5_window_23 (by decide) ?_
  refine aw_iadd C dX5_window_24 ?_
  refine aw_icmp_gt (tgt := 35) C dX5_window_25 (by decide) hf (fun hf => ?_) (fun hf => ?_)
  · refine aw_bipush (v := (-2)) C dX5_window_35 (by decide) ?_
    exact aw_iretW C dX5_window_37 hf
  refine aw_iload_n C dX5_window_28 rfl 3 rfl ?_
  obtain ⟨r2, hc, hf⟩ := bR_some hf
  refine aw_callSi (As := [.int a3]) (rest := []) C (kX5_isTurns (l := l) (D := D) (ad := ad) (cy := cy) (tb := tb) C.2.2.2.2.2.2.2.2.1 hc) (fun ht _ => va_cwS 1 ht gX5_window_X5_isTurns rfl rfl rfl (by decide +kernel) ⟨Nat.le_of_ble_eq_true rfl, Nat.le_of_ble_eq_true rfl⟩) rfl rfl (Nat.le_of_ble_eq_true rfl) dX5_window_29 ?_
  refine aw_if_ne (tgt := 38) C dX5_window_32 (by decide) hf (fun hf => ?_) (fun hf => ?_)
  · refine aw_aload_n C dX5_window_38 rfl 0 rfl ?_
    refine aw_get C (kd_lt rfl (by decide)) (ce_5 rfl) rfl hinX5_window_5 0 (by decide) rfl (by decide +kernel) rfl dX5_window_39 ?_
    refine aw_iload_n C dX5_window_42 rfl 1 rfl ?_
    refine aw_iload_n C dX5_window_43 rfl 1 rfl ?_
    refine aw_iload_n C dX5_window_44 rfl 2 rfl ?_
    refine aw_iadd C dX5_window_45 ?_
    refine aw_iconst (v := 1) C dX5_window_46 (by decide) ?_
    refine aw_isub C dX5_window_47 ?_
    refine aw_iload_n C dX5_window_48 rfl 3 rfl ?_
    refine aw_aload_n C dX5_window_49 rfl 0 rfl ?_
    refine aw_get C (kd_lt rfl (by decide)) (ce_5 rfl) rfl hinX5_window_5 7 (by decide) rfl (by decide +kernel) rfl dX5_window_50 ?_
    refine aw_aload_n C dX5_window_53 rfl 0 rfl ?_
    refine aw_get C (kd_lt rfl (by decide)) (ce_5 rfl) rfl hinX5_window_5 4 (by decide) rfl (by decide +kernel) rfl dX5_window_54 ?_
    obtain ⟨r4, h3, hc, hf⟩ := bW_some hf
    refine aw_callVi (As := [.int a1, .int ((a1 + a2) - 1), .int a3, .int (h.1 0 7), .ref (ad 11)]) (rest := []) C rfl (by decide) rfl (kX4_takeWindow (l := l) (D := D) (ad := ad) (cy := cy) (tb := tb) C.2.2.2.2.2.2.2.2.1 rfl hc) (fun ht _ => cwV 5 ht gX5_window_X4_takeWindow rfl rfl rfl (by decide +kernel) ⟨Nat.le_of_ble_eq_true rfl, Nat.le_of_ble_eq_true rfl⟩) rfl rfl (Nat.le_of_ble_eq_true rfl) dX5_window_57 ?_
    exact aw_iretW C dX5_window_60 hf
  refine aw_bipush (v := (-2)) C dX5_window_35 (by decide) ?_
  exact aw_iretW C dX5_window_37 hf
theorem kX5_window {h : AH} {a1 : Int32} {a2 : Int32} {a3 : Int32} {r0 : Int32} {h0 : AH} (hi : Inj ad) (hf : fX5_window h a1 a2 a3 = some (r0, h0)) : Ki l yX5_window wsX5_window rmX5_window D ad cy tb [.ref (ad 0), .int a1, .int a2, .int a3] h r0 h0 := met_i (lv := [(0, .ref (ad 0)), (1, .int a1), (2, .int a2), (3, .int a3)]) hi (by decide) rfl (Nat.le_of_ble_eq_true rfl) rfl rfl (fun _ _ _ _ _ _ _ _ C => tX5_window_0 C  hf)
set_option maxRecDepth 20000 in
theorem ggX6_windowOver_X6_turnOver : GoodIn wsX6_windowOver wsX6_turnOver := goodIn_r _ [5, 6, 7, 8, 4, 9, 10, 11, 12, 13, 14, 15, 16, 17, 18, 19, 20, 21, 22, 23, 24, 25, 26, 27, 28, 29, 30, 31, 32, 33, 34, 35, 36, 37, 38, 39, 40, 41, 42, 43, 44, 45, 46, 47, 48, 49, 50, 51, 52, 53, 54, 55, 56, 57, 58, 59, 60, 61, 62, 63, 64, 65, 66, 67, 68, 69, 70, 71, 72, 73, 74, 75] (by decide +kernel) (by decide +kernel)
set_option maxRecDepth 20000 in
theorem gX6_windowOver_X6_turnOver : GoodIn wsX6_windowOver (wsV RX6 156 RX6 yX6_turnOver wsX6_turnOver) := goodIn_app (goodIn_of _ (by decide +kernel)) ggX6_windowOver_X6_turnOver
theorem dX6_windowOver_0 : decode cX6_windowOver 0 = .ok (.iconst 0, 1) := by decide +kernel
theorem dX6_windowOver_1 : decode cX6_windowOver 1 = .ok (.istore 4, 2) := by decide +kernel
theorem dX6_windowOver_3 : decode cX6_windowOver 3 = .ok (.iload 4, 2) := by decide +kernel
theorem dX6_windowOver_5 : decode cX6_windowOver 5 = .ok (.iload_n 3, 1) := by decide +kernel
theorem dX6_windowOver_6 : decode cX6_windowOver 6 = .ok (.if_icmp .ge 22, 3) := by decide +kernel
theorem dX6_windowOver_9 : decode cX6_windowOver 9 = .ok (.aload_n 0, 1) := by decide +kernel
theorem dX6_windowOver_10 : decode cX6_windowOver 10 = .ok (.iload_n 1, 1) := by decide +kernel
theorem dX6_windowOver_11 : decode cX6_windowOver 11 = .ok (.iload_n 1, 1) := by decide +kernel
theorem dX6_windowOver_12 : decode cX6_windowOver 12 = .ok (.iload_n 2, 1) := by decide +kernel
theorem dX6_windowOver_13 : decode cX6_windowOver 13 = .ok (.iadd, 1) := by decide +kernel
theorem dX6_windowOver_14 : decode cX6_windowOver 14 = .ok (.iconst 1, 1) := by decide +kernel
theorem dX6_windowOver_15 : decode cX6_windowOver 15 = .ok (.isub, 1) := by decide +kernel
theorem dX6_windowOver_16 : decode cX6_windowOver 16 = .ok (.invokevirtual 156, 3) := by decide +kernel
theorem dX6_windowOver_19 : decode cX6_windowOver 19 = .ok (.ifCond .le 9, 3) := by decide +kernel
theorem dX6_windowOver_22 : decode cX6_windowOver 22 = .ok (.iinc 4 1, 3) := by decide +kernel
theorem dX6_windowOver_25 : decode cX6_windowOver 25 = .ok (.goto (-22), 3) := by decide +kernel
theorem dX6_windowOver_28 : decode cX6_windowOver 28 = .ok (.iload 4, 2) := by decide +kernel
theorem dX6_windowOver_30 : decode cX6_windowOver 30 = .ok (.ireturn, 1) := by decide +kernel
abbrev rmX6_windowOver : Room := { frames := 8, cells := 0, slots := 0, locals := 196 }
set_option maxHeartbeats 4000000 in
set_option maxRecDepth 100000 in
theorem tX6_windowOver_3b {h : AH} {a1 : Int32} {a2 : Int32} {a3 : Int32} {k3 : AH → Int32 → Option (Int32 × AH)} {x4 : Int32} {r0 : Int32} {h0 : AH} (C : Cx p rmX6_windowOver s m args meth c RX6 cX6_windowOver 5 (some .int) wsX6_windowOver D ad cy tb 0 0) (H3 : ∀ (h : AH) (x4 : Int32), k3 h x4 = some (r0, h0) → AW p l e rmX6_windowOver s m args below meth c 5 D ad cy 0 0 (Qi D ad cy below args s r0 h0) 3 [(0, .ref (ad 29)), (1, .int a1), (2, .int a2), (3, .int a3), (4, .int x4)] [] h) (hf : fX6_windowOver_3b k3 a1 a2 a3 h x4 = some (r0, h0)) : AW p l e rmX6_windowOver s m args below meth c 5 D ad cy 0 0 (Qi D ad cy below args s r0 h0) 3 [(0, .ref (ad 29)), (1, .int a1), (2, .int a2), (3, .int a3), (4, .int x4)] [] h := by
  unfold fX6_windowOver_3b at hf
  refine aw_iload C dX6_windowOver_3 4 rfl ?_
  refine aw_iload_n C dX6_windowOver_5 rfl 3 rfl ?_
  refine aw_icmp_ge (tgt := 28) C dX6_windowOver_6 (by decide) hf (fun hf => ?_) (fun hf => ?_)
  · refine aw_iload C dX6_windowOver_28 4 rfl ?_
    exact aw_iretW C dX6_windowOver_30 hf
  refine aw_aload_n C dX6_windowOver_9 rfl 0 rfl ?_
  refine aw_iload_n C dX6_windowOver_10 rfl 1 rfl ?_
  refine aw_iload_n C dX6_windowOver_11 rfl 1 rfl ?_
  refine aw_iload_n C dX6_windowOver_12 rfl 2 rfl ?_
  refine aw_iadd C dX6_windowOver_13 ?_
  refine aw_iconst (v := 1) C dX6_windowOver_14 (by decide) ?_
  refine aw_isub C dX6_windowOver_15 ?_
  obtain ⟨r2, h1, hc, hf⟩ := bW_some hf
  refine aw_callVi (As := [.int a1, .int ((a1 + a2) - 1)]) (rest := []) C rfl (by decide) rfl (kX6_turnOver (l := l) (D := D) (ad := ad) (cy := cy) (tb := tb) C.2.2.2.2.2.2.2.2.1 hc) (fun ht _ => cwV 2 ht gX6_windowOver_X6_turnOver rfl rfl rfl (by decide +kernel) ⟨Nat.le_of_ble_eq_true rfl, Nat.le_of_ble_eq_true rfl⟩) rfl rfl (Nat.le_of_ble_eq_true rfl) dX6_windowOver_16 ?_
  refine aw_if_le (tgt := 28) C dX6_windowOver_19 (by decide) hf (fun hf => ?_) (fun hf => ?_)
  · refine aw_iload C dX6_windowOver_28 4 rfl ?_
    exact aw_iretW C dX6_windowOver_30 hf
  obtain ⟨v3, hvv3, hf⟩ := nm_ex hf
  refine aw_iinc (j := 4) (v := v3) (lv1 := [(4, .int v3), (0, .ref (ad 29)), (1, .int a1), (2, .int a2), (3, .int a3)]) C dX6_windowOver_22 rfl hvv3 (by decide) rfl ?_
  refine aw_goto (tgt := 3) C dX6_windowOver_25 (by decide) ?_
  refine aw_sub [1, 2, 3, 4, 0] rfl ?_
  exact H3 h1 v3 hf
set_option maxHeartbeats 4000000 in
set_option maxRecDepth 100000 in
theorem tX6_windowOver_3  {a1 : Int32} {a2 : Int32} {a3 : Int32} {r0 : Int32} {h0 : AH} (C : Cx p rmX6_windowOver s m args meth c RX6 cX6_windowOver 5 (some .int) wsX6_windowOver D ad cy tb 0 0) : ∀ (n : Nat) (h : AH) (x4 : Int32), fX6_windowOver_3 a1 a2 a3 n h x4 = some (r0, h0) → AW p l e rmX6_windowOver s m args below meth c 5 D ad cy 0 0 (Qi D ad cy below args s r0 h0) 3 [(0, .ref (ad 29)), (1, .int a1), (2, .int a2), (3, .int a3), (4, .int x4)] [] h := by
  intro n
  induction n with
  | zero => intro h x4 hf; cases hf
  | succ n ih => intro h x4 hf; exact tX6_windowOver_3b C  ih  hf
set_option maxHeartbeats 4000000 in
set_option maxRecDepth 100000 in
theorem tX6_windowOver_0 {h : AH} {a1 : Int32} {a2 : Int32} {a3 : Int32} {r0 : Int32} {h0 : AH} (C : Cx p rmX6_windowOver s m args meth c RX6 cX6_windowOver 5 (some .int) wsX6_windowOver D ad cy tb 0 0) (hf : fX6_windowOver h a1 a2 a3 = some (r0, h0)) : AW p l e rmX6_windowOver s m args below meth c 5 D ad cy 0 0 (Qi D ad cy below args s r0 h0) 0 [(0, .ref (ad 29)), (1, .int a1), (2, .int a2), (3, .int a3)] [] h := by
  unfold fX6_windowOver at hf
  refine aw_iconst (v := 0) C dX6_windowOver_0 (by decide) ?_
  refine aw_istore (lv1 := [(4, .int 0), (0, .ref (ad 29)), (1, .int a1), (2, .int a2), (3, .int a3)]) C dX6_windowOver_1 (by decide) rfl ?_
  refine aw_sub [1, 2, 3, 4, 0] rfl ?_
  exact tX6_windowOver_3 C   FU h 0 hf
theorem kX6_windowOver {h : AH} {a1 : Int32} {a2 : Int32} {a3 : Int32} {r0 : Int32} {h0 : AH} (hi : Inj ad) (hf : fX6_windowOver h a1 a2 a3 = some (r0, h0)) : Ki l yX6_windowOver wsX6_windowOver rmX6_windowOver D ad cy tb [.ref (ad 29), .int a1, .int a2, .int a3] h r0 h0 := met_i (lv := [(0, .ref (ad 29)), (1, .int a1), (2, .int a2), (3, .int a3)]) hi (by decide) rfl (Nat.le_of_ble_eq_true rfl) rfl rfl (fun _ _ _ _ _ _ _ _ C => tX6_windowOver_0 C  hf)
set_option maxRecDepth 20000 in
theorem ggX6_window_X6_isBlock : GoodIn wsX6_window wsX6_isBlock := goodIn_r _ [6, 1, 7, 8, 5, 9, 69, 70, 71, 72, 73, 74, 75, 76, 77, 78, 79, 80, 81, 82, 83, 84, 85, 86] (by decide +kernel) (by decide +kernel)
set_option maxRecDepth 20000 in
theorem gX6_window_X6_isBlock : GoodIn wsX6_window (wsV RX6 77 RX6 yX6_isBlock wsX6_isBlock) := goodIn_app (goodIn_of _ (by decide +kernel)) ggX6_window_X6_isBlock
set_option maxRecDepth 20000 in
theorem ggX6_window_X6_in : GoodIn wsX6_window wsX6_in := goodIn_r _ [9] (by decide +kernel) (by decide +kernel)
set_option maxRecDepth 20000 in
theorem gX6_window_X6_in : GoodIn wsX6_window (va_wsS RX6 73 yX6_in wsX6_in) := goodIn_app (goodIn_of _ (by decide +kernel)) ggX6_window_X6_in
set_option maxRecDepth 20000 in
theorem ggX6_window_X6_windowOver : GoodIn wsX6_window wsX6_windowOver := goodIn_r _ [13, 14, 15, 16, 5, 17, 18, 19, 20, 21, 22, 23, 24, 25, 26, 27, 28, 29, 30, 31, 32, 33, 34, 35, 36, 37, 38, 39, 40, 41, 42, 43, 44, 45, 46, 47, 48, 49, 50, 51, 52, 53, 54, 55, 56, 57, 58, 1, 59, 60, 61, 62, 63, 64, 65, 66, 67, 68, 69, 70, 71, 72, 73, 74, 75, 76, 77, 78, 79, 80, 81, 82, 83, 84, 85, 86] (by decide +kernel) (by decide +kernel)
set_option maxRecDepth 20000 in
theorem gX6_window_X6_windowOver : GoodIn wsX6_window (wsV RX6 159 RX6 yX6_windowOver wsX6_windowOver) := goodIn_app (goodIn_of _ (by decide +kernel)) ggX6_window_X6_windowOver
theorem dX6_window_0 : decode cX6_window 0 = .ok (.aload_n 0, 1) := by decide +kernel
theorem dX6_window_1 : decode cX6_window 1 = .ok (.iload_n 1, 1) := by decide +kernel
theorem dX6_window_2 : decode cX6_window 2 = .ok (.invokevirtual 77, 3) := by decide +kernel
theorem dX6_window_5 : decode cX6_window 5 = .ok (.ifCond .eq 47, 3) := by decide +kernel
theorem dX6_window_8 : decode cX6_window 8 = .ok (.iload_n 2, 1) := by decide +kernel
theorem dX6_window_9 : decode cX6_window 9 = .ok (.iconst 1, 1) := by decide +kernel
theorem dX6_window_10 : decode cX6_window 10 = .ok (.aload_n 0, 1) := by decide +kernel
theorem dX6_window_11 : decode cX6_window 11 = .ok (.getfield 7, 3) := by decide +kernel
theorem dX6_window_14 : decode cX6_window 14 = .ok (.invokestatic 73, 3) := by decide +kernel
theorem dX6_window_17 : decode cX6_window 17 = .ok (.ifCond .eq 35, 3) := by decide +kernel
theorem dX6_window_20 : decode cX6_window 20 = .ok (.aload_n 0, 1) := by decide +kernel
theorem dX6_window_21 : decode cX6_window 21 = .ok (.iload_n 1, 1) := by decide +kernel
theorem dX6_window_22 : decode cX6_window 22 = .ok (.iload_n 2, 1) := by decide +kernel
theorem dX6_window_23 : decode cX6_window 23 = .ok (.iadd, 1) := by decide +kernel
theorem dX6_window_24 : decode cX6_window 24 = .ok (.iconst 1, 1) := by decide +kernel
theorem dX6_window_25 : decode cX6_window 25 = .ok (.isub, 1) := by decide +kernel
theorem dX6_window_26 : decode cX6_window 26 = .ok (.invokevirtual 77, 3) := by decide +kernel
theorem dX6_window_29 : decode cX6_window 29 = .ok (.ifCond .eq 23, 3) := by decide +kernel
theorem dX6_window_32 : decode cX6_window 32 = .ok (.iload_n 3, 1) := by decide +kernel
theorem dX6_window_33 : decode cX6_window 33 = .ok (.iconst 1, 1) := by decide +kernel
theorem dX6_window_34 : decode cX6_window 34 = .ok (.bipush 9, 2) := by decide +kernel
theorem dX6_window_36 : decode cX6_window 36 = .ok (.invokestatic 73, 3) := by decide +kernel
theorem dX6_window_39 : decode cX6_window 39 = .ok (.ifCond .eq 13, 3) := by decide +kernel
theorem dX6_window_42 : decode cX6_window 42 = .ok (.aload_n 0, 1) := by decide +kernel
theorem dX6_window_43 : decode cX6_window 43 = .ok (.iload_n 1, 1) := by decide +kernel
theorem dX6_window_44 : decode cX6_window 44 = .ok (.iload_n 2, 1) := by decide +kernel
theorem dX6_window_45 : decode cX6_window 45 = .ok (.iload_n 3, 1) := by decide +kernel
theorem dX6_window_46 : decode cX6_window 46 = .ok (.invokevirtual 159, 3) := by decide +kernel
theorem dX6_window_49 : decode cX6_window 49 = .ok (.goto 5, 3) := by decide +kernel
theorem dX6_window_52 : decode cX6_window 52 = .ok (.bipush (-2), 2) := by decide +kernel
theorem dX6_window_54 : decode cX6_window 54 = .ok (.ireturn, 1) := by decide +kernel
abbrev rmX6_window : Room := { frames := 9, cells := 0, slots := 0, locals := 220 }
set_option maxRecDepth 100000 in
theorem hinX6_window_6 : ∀ w ∈ wsX60, w ∈ wsX6_window := by decide +kernel
set_option maxHeartbeats 4000000 in
set_option maxRecDepth 100000 in
theorem tX6_window_0 {h : AH} {a1 : Int32} {a2 : Int32} {a3 : Int32} {r0 : Int32} {h0 : AH} (C : Cx p rmX6_window s m args meth c RX6 cX6_window 4 (some .int) wsX6_window D ad cy tb 0 0) (hf : fX6_window h a1 a2 a3 = some (r0, h0)) : AW p l e rmX6_window s m args below meth c 4 D ad cy 0 0 (Qi D ad cy below args s r0 h0) 0 [(0, .ref (ad 29)), (1, .int a1), (2, .int a2), (3, .int a3)] [] h := by
  unfold fX6_window at hf
  refine aw_aload_n C dX6_window_0 rfl 0 rfl ?_
  refine aw_iload_n C dX6_window_1 rfl 1 rfl ?_
  obtain ⟨r1, hc, hf⟩ := bR_some hf
  refine aw_callVi (As := [.int a1]) (rest := []) C rfl (by decide) rfl (kX6_isBlock (l := l) (D := D) (ad := ad) (cy := cy) (tb := tb) C.2.2.2.2.2.2.2.2.1 hc) (fun ht _ => cwV 1 ht gX6_window_X6_isBlock rfl rfl rfl (by decide +kernel) ⟨Nat.le_of_ble_eq_true rfl, Nat.le_of_ble_eq_true rfl⟩) rfl rfl (Nat.le_of_ble_eq_true rfl) dX6_window_2 ?_
  refine aw_if_eq (tgt := 52) C dX6_window_5 (by decide) hf (fun hf => ?_) (fun hf => ?_)
  · refine aw_bipush (v := (-2)) C dX6_window_52 (by decide) ?_
    exact aw_iretW C dX6_window_54 hf
  refine aw_iload_n C dX6_window_8 rfl 2 rfl ?_
  refine aw_iconst (v := 1) C dX6_window_9 (by decide) ?_
  refine aw_aload_n C dX6_window_10 rfl 0 rfl ?_
  refine aw_get C (kd_lt rfl (by decide)) (ce_6 rfl) rfl hinX6_window_6 0 (by decide) rfl (by decide +kernel) rfl dX6_window_11 ?_
  obtain ⟨r2, hc, hf⟩ := bR_some hf
  refine aw_callSi (As := [.int a2, .int 1, .int (h.1 29 0)]) (rest := []) C (kX6_in (l := l) (D := D) (ad := ad) (cy := cy) (tb := tb) C.2.2.2.2.2.2.2.2.1 hc) (fun ht _ => va_cwS 3 ht gX6_window_X6_in rfl rfl rfl (by decide +kernel) ⟨Nat.le_of_ble_eq_true rfl, Nat.le_of_ble_eq_true rfl⟩) rfl rfl (Nat.le_of_ble_eq_true rfl) dX6_window_14 ?_
  refine aw_if_eq (tgt := 52) C dX6_window_17 (by decide) hf (fun hf => ?_) (fun hf => ?_)
  · refine aw_bipush (v := (-2)) C dX6_window_52 (by decide) ?_
    exact aw_iretW C dX6_window_54 hf
  refine aw_aload_n C dX6_window_20 rfl 0 rfl ?_
  refine aw_iload_n C dX6_window_21 rfl 1 rfl ?_
  refine aw_iload_n C dX6_window_22 rfl 2 rfl ?_
  refine aw_iadd C dX6_window_23 ?_
  refine aw_iconst (v := 1) C dX6_window_24 (by decide) ?_
  refine aw_isub C dX6_window_25 ?_
  obtain ⟨r3, hc, hf⟩ := bR_some hf
  refine aw_callVi (As := [.int ((a1 + a2) - 1)]) (rest := []) C rfl (by decide) rfl (kX6_isBlock (l := l) (D := D) (ad := ad) (cy := cy) (tb := tb) C.2.2.2.2.2.2.2.2.1 hc) (fun ht _ => cwV 1 ht gX6_window_X6_isBlock rfl rfl rfl (by decide +kernel) ⟨Nat.le_of_ble_eq_true rfl, Nat.le_of_ble_eq_true rfl⟩) rfl rfl (Nat.le_of_ble_eq_true rfl) dX6_window_26 ?_
  refine aw_if_eq (tgt := 52) C dX6_window_29 (by decide) hf (fun hf => ?_) (fun hf => ?_)
  · refine aw_bipush (v := (-2)) C dX6_window_52 (by decide) ?_
    exact aw_iretW C dX6_window_54 hf
  refine aw_iload_n C dX6_window_32 rfl 3 rfl ?_
  refine aw_iconst (v := 1) C dX6_window_33 (by decide) ?_
  refine aw_bipush (v := 9) C dX6_window_34 (by decide) ?_
  obtain ⟨r4, hc, hf⟩ := bR_some hf
  refine aw_callSi (As := [.int a3, .int 1, .int 9]) (rest := []) C (kX6_in (l := l) (D := D) (ad := ad) (cy := cy) (tb := tb) C.2.2.2.2.2.2.2.2.1 hc) (fun ht _ => va_cwS 3 ht gX6_window_X6_in rfl rfl rfl (by decide +kernel) ⟨Nat.le_of_ble_eq_true rfl, Nat.le_of_ble_eq_true rfl⟩) rfl rfl (Nat.le_of_ble_eq_true rfl) dX6_window_36 ?_
  refine aw_if_eq (tgt := 52) C dX6_window_39 (by decide) hf (fun hf => ?_) (fun hf => ?_)
  · refine aw_bipush (v := (-2)) C dX6_window_52 (by decide) ?_
    exact aw_iretW C dX6_window_54 hf
  refine aw_aload_n C dX6_window_42 rfl 0 rfl ?_
  refine aw_iload_n C dX6_window_43 rfl 1 rfl ?_
  refine aw_iload_n C dX6_window_44 rfl 2 rfl ?_
  refine aw_iload_n C dX6_window_45 rfl 3 rfl ?_
  obtain ⟨r6, h5, hc, hf⟩ := bW_some hf
  refine aw_callVi (As := [.int a1, .int a2, .int a3]) (rest := []) C rfl (by decide) rfl (kX6_windowOver (l := l) (D := D) (ad := ad) (cy := cy) (tb := tb) C.2.2.2.2.2.2.2.2.1 hc) (fun ht _ => cwV 3 ht gX6_window_X6_windowOver rfl rfl rfl (by decide +kernel) ⟨Nat.le_of_ble_eq_true rfl, Nat.le_of_ble_eq_true rfl⟩) rfl rfl (Nat.le_of_ble_eq_true rfl) dX6_window_46 ?_
  refine aw_goto (tgt := 54) C dX6_window_49 (by decide) ?_
  exact aw_iretW C dX6_window_54 hf
theorem kX6_window {h : AH} {a1 : Int32} {a2 : Int32} {a3 : Int32} {r0 : Int32} {h0 : AH} (hi : Inj ad) (hf : fX6_window h a1 a2 a3 = some (r0, h0)) : Ki l yX6_window wsX6_window rmX6_window D ad cy tb [.ref (ad 29), .int a1, .int a2, .int a3] h r0 h0 := met_i (lv := [(0, .ref (ad 29)), (1, .int a1), (2, .int a2), (3, .int a3)]) hi (by decide) rfl (Nat.le_of_ble_eq_true rfl) rfl rfl (fun _ _ _ _ _ _ _ _ C => tX6_window_0 C  hf)
theorem dX5_isSlideSize_0 : decode cX5_isSlideSize 0 = .ok (.iload_n 1, 1) := by decide +kernel
theorem dX5_isSlideSize_1 : decode cX5_isSlideSize 1 = .ok (.iconst 2, 1) := by decide +kernel
theorem dX5_isSlideSize_2 : decode cX5_isSlideSize 2 = .ok (.if_icmp .lt 18, 3) := by decide +kernel
theorem dX5_isSlideSize_5 : decode cX5_isSlideSize 5 = .ok (.iload_n 1, 1) := by decide +kernel
theorem dX5_isSlideSize_6 : decode cX5_isSlideSize 6 = .ok (.aload_n 0, 1) := by decide +kernel
theorem dX5_isSlideSize_7 : decode cX5_isSlideSize 7 = .ok (.getfield 12, 3) := by decide +kernel
theorem dX5_isSlideSize_10 : decode cX5_isSlideSize 10 = .ok (.getfield 58, 3) := by decide +kernel
theorem dX5_isSlideSize_13 : decode cX5_isSlideSize 13 = .ok (.if_icmp .gt 7, 3) := by decide +kernel
theorem dX5_isSlideSize_16 : decode cX5_isSlideSize 16 = .ok (.iconst 1, 1) := by decide +kernel
theorem dX5_isSlideSize_17 : decode cX5_isSlideSize 17 = .ok (.goto 4, 3) := by decide +kernel
theorem dX5_isSlideSize_20 : decode cX5_isSlideSize 20 = .ok (.iconst 0, 1) := by decide +kernel
theorem dX5_isSlideSize_21 : decode cX5_isSlideSize 21 = .ok (.ireturn, 1) := by decide +kernel
abbrev rmX5_isSlideSize : Room := { frames := 0, cells := 0, slots := 0, locals := 0 }
set_option maxRecDepth 100000 in
theorem hinX5_isSlideSize_5 : ∀ w ∈ wsX50, w ∈ wsX5_isSlideSize := by decide +kernel
set_option maxRecDepth 100000 in
theorem hinX5_isSlideSize_4 : ∀ w ∈ wsX40, w ∈ wsX5_isSlideSize := by decide +kernel
set_option maxHeartbeats 4000000 in
set_option maxRecDepth 100000 in
theorem tX5_isSlideSize_0 {h : AH} {a1 : Int32} {r0 : Int32} (C : Cx p rmX5_isSlideSize s m args meth c RX5 cX5_isSlideSize 2 (some .boolean) wsX5_isSlideSize D ad cy tb 0 0) (hf : fX5_isSlideSize h a1 = some r0) : AW p l e rmX5_isSlideSize s m args below meth c 2 D ad cy 0 0 (Qi D ad cy below args s r0 h) 0 [(0, .ref (ad 0)), (1, .int a1)] [] h := by
  unfold fX5_isSlideSize at hf
  refine aw_iload_n C dX5_isSlideSize_0 rfl 1 rfl ?_
  refine aw_iconst (v := 2) C dX5_isSlideSize_1 (by decide) ?_
  refine aw_icmp_lt (tgt := 20) C dX5_isSlideSize_2 (by decide) hf (fun hf => ?_) (fun hf => ?_)
  · refine aw_iconst (v := 0) C dX5_isSlideSize_20 (by decide) ?_
    exact aw_zretR C (by decide) dX5_isSlideSize_21 hf
  refine aw_iload_n C dX5_isSlideSize_5 rfl 1 rfl ?_
  refine aw_aload_n C dX5_isSlideSize_6 rfl 0 rfl ?_
  refine aw_get C (kd_lt rfl (by decide)) (ce_5 rfl) rfl hinX5_isSlideSize_5 0 (by decide) rfl (by decide +kernel) rfl dX5_isSlideSize_7 ?_
  refine aw_getN (host := "StairCodes") C (kd_lt rfl (by decide)) (ce_4 rfl) rfl hinX5_isSlideSize_4 0 (by decide) rfl (by decide +kernel) rfl dX5_isSlideSize_10 ?_
  refine aw_icmp_gt (tgt := 20) C dX5_isSlideSize_13 (by decide) hf (fun hf => ?_) (fun hf => ?_)
  · refine aw_iconst (v := 0) C dX5_isSlideSize_20 (by decide) ?_
    exact aw_zretR C (by decide) dX5_isSlideSize_21 hf
  refine aw_iconst (v := 1) C dX5_isSlideSize_16 (by decide) ?_
  refine aw_goto (tgt := 21) C dX5_isSlideSize_17 (by decide) ?_
  exact aw_zretR C (by decide) dX5_isSlideSize_21 hf
theorem kX5_isSlideSize {h : AH} {a1 : Int32} {r0 : Int32} (hi : Inj ad) (hf : fX5_isSlideSize h a1 = some r0) : Ki l yX5_isSlideSize wsX5_isSlideSize rmX5_isSlideSize D ad cy tb [.ref (ad 0), .int a1] h r0 h := met_i (lv := [(0, .ref (ad 0)), (1, .int a1)]) hi (by decide) rfl (Nat.le_of_ble_eq_true rfl) rfl rfl (fun _ _ _ _ _ _ _ _ C => tX5_isSlideSize_0 C  hf)
set_option maxRecDepth 20000 in
theorem ggX4_takeSlide_X4_takeWindow : GoodIn wsX4_takeSlide wsX4_takeWindow := goodIn_r _ [6, 7, 8, 9, 5, 10, 11, 12, 13, 14, 15, 1, 16, 17, 18, 19, 20, 21, 22, 23, 24, 25, 26, 27, 28, 29, 30, 31, 32, 33, 34, 35, 36, 37] (by decide +kernel) (by decide +kernel)
set_option maxRecDepth 20000 in
theorem gX4_takeSlide_X4_takeWindow : GoodIn wsX4_takeSlide (wsV RX4 102 RX4 yX4_takeWindow wsX4_takeWindow) := goodIn_app (goodIn_of _ (by decide +kernel)) ggX4_takeSlide_X4_takeWindow
theorem dX4_takeSlide_0 : decode cX4_takeSlide 0 = .ok (.iconst 1, 1) := by decide +kernel
theorem dX4_takeSlide_1 : decode cX4_takeSlide 1 = .ok (.istore 5, 2) := by decide +kernel
theorem dX4_takeSlide_3 : decode cX4_takeSlide 3 = .ok (.iload 5, 2) := by decide +kernel
theorem dX4_takeSlide_5 : decode cX4_takeSlide 5 = .ok (.iload_n 1, 1) := by decide +kernel
theorem dX4_takeSlide_6 : decode cX4_takeSlide 6 = .ok (.iadd, 1) := by decide +kernel
theorem dX4_takeSlide_7 : decode cX4_takeSlide 7 = .ok (.iconst 1, 1) := by decide +kernel
theorem dX4_takeSlide_8 : decode cX4_takeSlide 8 = .ok (.isub, 1) := by decide +kernel
theorem dX4_takeSlide_9 : decode cX4_takeSlide 9 = .ok (.aload_n 0, 1) := by decide +kernel
theorem dX4_takeSlide_10 : decode cX4_takeSlide 10 = .ok (.getfield 9, 3) := by decide +kernel
theorem dX4_takeSlide_13 : decode cX4_takeSlide 13 = .ok (.if_icmp .gt 26, 3) := by decide +kernel
theorem dX4_takeSlide_16 : decode cX4_takeSlide 16 = .ok (.aload_n 0, 1) := by decide +kernel
theorem dX4_takeSlide_17 : decode cX4_takeSlide 17 = .ok (.iload 5, 2) := by decide +kernel
theorem dX4_takeSlide_19 : decode cX4_takeSlide 19 = .ok (.iload 5, 2) := by decide +kernel
theorem dX4_takeSlide_21 : decode cX4_takeSlide 21 = .ok (.iload_n 1, 1) := by decide +kernel
theorem dX4_takeSlide_22 : decode cX4_takeSlide 22 = .ok (.iadd, 1) := by decide +kernel
theorem dX4_takeSlide_23 : decode cX4_takeSlide 23 = .ok (.iconst 1, 1) := by decide +kernel
theorem dX4_takeSlide_24 : decode cX4_takeSlide 24 = .ok (.isub, 1) := by decide +kernel
theorem dX4_takeSlide_25 : decode cX4_takeSlide 25 = .ok (.iload_n 2, 1) := by decide +kernel
theorem dX4_takeSlide_26 : decode cX4_takeSlide 26 = .ok (.iload_n 3, 1) := by decide +kernel
theorem dX4_takeSlide_27 : decode cX4_takeSlide 27 = .ok (.aload 4, 2) := by decide +kernel
theorem dX4_takeSlide_29 : decode cX4_takeSlide 29 = .ok (.invokevirtual 102, 3) := by decide +kernel
theorem dX4_takeSlide_32 : decode cX4_takeSlide 32 = .ok (.pop, 1) := by decide +kernel
theorem dX4_takeSlide_33 : decode cX4_takeSlide 33 = .ok (.iinc 5 1, 3) := by decide +kernel
theorem dX4_takeSlide_36 : decode cX4_takeSlide 36 = .ok (.goto (-33), 3) := by decide +kernel
theorem dX4_takeSlide_39 : decode cX4_takeSlide 39 = .ok (.return_, 1) := by decide +kernel
abbrev rmX4_takeSlide : Room := { frames := 3, cells := 0, slots := 0, locals := 82 }
set_option maxRecDepth 100000 in
theorem hinX4_takeSlide_4 : ∀ w ∈ wsX40, w ∈ wsX4_takeSlide := by decide +kernel
set_option maxHeartbeats 4000000 in
set_option maxRecDepth 100000 in
theorem tX4_takeSlide_3b {h : AH} {a0 : Nat} {a1 : Int32} {a2 : Int32} {a3 : Int32} {k3 : AH → Int32 → Option AH} {x5 : Int32} {h0 : AH} (C : Cx p rmX4_takeSlide s m args meth c RX4 cX4_takeSlide 6 none wsX4_takeSlide D ad cy tb 0 0) (hk0 : kd a0 = 4) (H3 : ∀ (h : AH) (x5 : Int32), k3 h x5 = some h0 → AW p l e rmX4_takeSlide s m args below meth c 6 D ad cy 0 0 (Qv D ad cy below args s h0) 3 [(0, .ref (ad a0)), (1, .int a1), (2, .int a2), (3, .int a3), (4, .ref (ad 11)), (5, .int x5)] [] h) (hf : fX4_takeSlide_3b k3 a0 a1 a2 a3 h x5 = some h0) : AW p l e rmX4_takeSlide s m args below meth c 6 D ad cy 0 0 (Qv D ad cy below args s h0) 3 [(0, .ref (ad a0)), (1, .int a1), (2, .int a2), (3, .int a3), (4, .ref (ad 11)), (5, .int x5)] [] h := by
  unfold fX4_takeSlide_3b at hf
  refine aw_iload C dX4_takeSlide_3 5 rfl ?_
  refine aw_iload_n C dX4_takeSlide_5 rfl 1 rfl ?_
  refine aw_iadd C dX4_takeSlide_6 ?_
  refine aw_iconst (v := 1) C dX4_takeSlide_7 (by decide) ?_
  refine aw_isub C dX4_takeSlide_8 ?_
  refine aw_aload_n C dX4_takeSlide_9 rfl 0 rfl ?_
  refine aw_get C (kd_lt hk0 (by decide)) (ce_4 hk0) rfl hinX4_takeSlide_4 0 (by decide) rfl (by decide +kernel) rfl dX4_takeSlide_10 ?_
  refine aw_icmp_gt (tgt := 39) C dX4_takeSlide_13 (by decide) hf (fun hf => ?_) (fun hf => ?_)
  · exact aw_vret C dX4_takeSlide_39 hf
  refine aw_aload_n C dX4_takeSlide_16 rfl 0 rfl ?_
  refine aw_iload C dX4_takeSlide_17 5 rfl ?_
  refine aw_iload C dX4_takeSlide_19 5 rfl ?_
  refine aw_iload_n C dX4_takeSlide_21 rfl 1 rfl ?_
  refine aw_iadd C dX4_takeSlide_22 ?_
  refine aw_iconst (v := 1) C dX4_takeSlide_23 (by decide) ?_
  refine aw_isub C dX4_takeSlide_24 ?_
  refine aw_iload_n C dX4_takeSlide_25 rfl 2 rfl ?_
  refine aw_iload_n C dX4_takeSlide_26 rfl 3 rfl ?_
  refine aw_aload C dX4_takeSlide_27 4 rfl ?_
  obtain ⟨r2, h1, hc, hf⟩ := bW_some hf
  refine aw_callVi (As := [.int x5, .int ((x5 + a1) - 1), .int a2, .int a3, .ref (ad 11)]) (rest := []) C hk0 (by decide) rfl (kX4_takeWindow (l := l) (D := D) (ad := ad) (cy := cy) (tb := tb) C.2.2.2.2.2.2.2.2.1 hk0 hc) (fun ht _ => cwV 5 ht gX4_takeSlide_X4_takeWindow rfl rfl rfl (by decide +kernel) ⟨Nat.le_of_ble_eq_true rfl, Nat.le_of_ble_eq_true rfl⟩) rfl rfl (Nat.le_of_ble_eq_true rfl) dX4_takeSlide_29 ?_
  refine aw_pop C dX4_takeSlide_32 rfl ?_
  obtain ⟨v3, hvv3, hf⟩ := nm_ex hf
  refine aw_iinc (j := 5) (v := v3) (lv1 := [(5, .int v3), (0, .ref (ad a0)), (1, .int a1), (2, .int a2), (3, .int a3), (4, .ref (ad 11))]) C dX4_takeSlide_33 rfl hvv3 (by decide) rfl ?_
  refine aw_goto (tgt := 3) C dX4_takeSlide_36 (by decide) ?_
  refine aw_sub [1, 2, 3, 4, 5, 0] rfl ?_
  exact H3 h1 v3 hf
set_option maxHeartbeats 4000000 in
set_option maxRecDepth 100000 in
theorem tX4_takeSlide_3  {a0 : Nat} {a1 : Int32} {a2 : Int32} {a3 : Int32} {h0 : AH} (C : Cx p rmX4_takeSlide s m args meth c RX4 cX4_takeSlide 6 none wsX4_takeSlide D ad cy tb 0 0) (hk0 : kd a0 = 4) : ∀ (n : Nat) (h : AH) (x5 : Int32), fX4_takeSlide_3 a0 a1 a2 a3 n h x5 = some h0 → AW p l e rmX4_takeSlide s m args below meth c 6 D ad cy 0 0 (Qv D ad cy below args s h0) 3 [(0, .ref (ad a0)), (1, .int a1), (2, .int a2), (3, .int a3), (4, .ref (ad 11)), (5, .int x5)] [] h := by
  intro n
  induction n with
  | zero => intro h x5 hf; cases hf
  | succ n ih => intro h x5 hf; exact tX4_takeSlide_3b C hk0 ih  hf
set_option maxHeartbeats 4000000 in
set_option maxRecDepth 100000 in
theorem tX4_takeSlide_0 {h : AH} {a0 : Nat} {a1 : Int32} {a2 : Int32} {a3 : Int32} {h0 : AH} (C : Cx p rmX4_takeSlide s m args meth c RX4 cX4_takeSlide 6 none wsX4_takeSlide D ad cy tb 0 0) (hk0 : kd a0 = 4) (hf : fX4_takeSlide h a0 a1 a2 a3 = some h0) : AW p l e rmX4_takeSlide s m args below meth c 6 D ad cy 0 0 (Qv D ad cy below args s h0) 0 [(0, .ref (ad a0)), (1, .int a1), (2, .int a2), (3, .int a3), (4, .ref (ad 11))] [] h := by
  unfold fX4_takeSlide at hf
  refine aw_iconst (v := 1) C dX4_takeSlide_0 (by decide) ?_
  refine aw_istore (lv1 := [(5, .int 1), (0, .ref (ad a0)), (1, .int a1), (2, .int a2), (3, .int a3), (4, .ref (ad 11))]) C dX4_takeSlide_1 (by decide) rfl ?_
  refine aw_sub [1, 2, 3, 4, 5, 0] rfl ?_
  exact tX4_takeSlide_3 C hk0  FU h 1 hf
theorem kX4_takeSlide {h : AH} {a0 : Nat} {a1 : Int32} {a2 : Int32} {a3 : Int32} {h0 : AH} (hi : Inj ad) (hk0 : kd a0 = 4) (hf : fX4_takeSlide h a0 a1 a2 a3 = some h0) : Kv l yX4_takeSlide wsX4_takeSlide rmX4_takeSlide D ad cy tb [.ref (ad a0), .int a1, .int a2, .int a3, .ref (ad 11)] h h0 := met_v (lv := [(0, .ref (ad a0)), (1, .int a1), (2, .int a2), (3, .int a3), (4, .ref (ad 11))]) hi (by decide) rfl (Nat.le_of_ble_eq_true rfl) rfl rfl (fun _ _ _ _ _ _ _ _ C => tX4_takeSlide_0 C hk0 hf)
theorem dX4_endOfWords_0 : decode cX4_endOfWords 0 = .ok (.bipush 8, 2) := by decide +kernel
theorem dX4_endOfWords_2 : decode cX4_endOfWords 2 = .ok (.aload_n 0, 1) := by decide +kernel
theorem dX4_endOfWords_3 : decode cX4_endOfWords 3 = .ok (.getfield 9, 3) := by decide +kernel
theorem dX4_endOfWords_6 : decode cX4_endOfWords 6 = .ok (.iconst 1, 1) := by decide +kernel
theorem dX4_endOfWords_7 : decode cX4_endOfWords 7 = .ok (.iadd, 1) := by decide +kernel
theorem dX4_endOfWords_8 : decode cX4_endOfWords 8 = .ok (.imul, 1) := by decide +kernel
theorem dX4_endOfWords_9 : decode cX4_endOfWords 9 = .ok (.ireturn, 1) := by decide +kernel
abbrev rmX4_endOfWords : Room := { frames := 0, cells := 0, slots := 0, locals := 0 }
set_option maxRecDepth 100000 in
theorem hinX4_endOfWords_4 : ∀ w ∈ wsX40, w ∈ wsX4_endOfWords := by decide +kernel
set_option maxHeartbeats 4000000 in
set_option maxRecDepth 100000 in
theorem tX4_endOfWords_0 {h : AH} {a0 : Nat} {r0 : Int32} (C : Cx p rmX4_endOfWords s m args meth c RX4 cX4_endOfWords 1 (some .int) wsX4_endOfWords D ad cy tb 0 0) (hk0 : kd a0 = 4) (hf : fX4_endOfWords h a0 = some r0) : AW p l e rmX4_endOfWords s m args below meth c 1 D ad cy 0 0 (Qi D ad cy below args s r0 h) 0 [(0, .ref (ad a0))] [] h := by
  unfold fX4_endOfWords at hf
  refine aw_bipush (v := 8) C dX4_endOfWords_0 (by decide) ?_
  refine aw_aload_n C dX4_endOfWords_2 rfl 0 rfl ?_
  refine aw_get C (kd_lt hk0 (by decide)) (ce_4 hk0) rfl hinX4_endOfWords_4 0 (by decide) rfl (by decide +kernel) rfl dX4_endOfWords_3 ?_
  refine aw_iconst (v := 1) C dX4_endOfWords_6 (by decide) ?_
  refine aw_iadd C dX4_endOfWords_7 ?_
  refine aw_imul C dX4_endOfWords_8 ?_
  exact aw_iretR C dX4_endOfWords_9 hf
theorem kX4_endOfWords {h : AH} {a0 : Nat} {r0 : Int32} (hi : Inj ad) (hk0 : kd a0 = 4) (hf : fX4_endOfWords h a0 = some r0) : Ki l yX4_endOfWords wsX4_endOfWords rmX4_endOfWords D ad cy tb [.ref (ad a0)] h r0 h := met_i (lv := [(0, .ref (ad a0))]) hi (by decide) rfl (Nat.le_of_ble_eq_true rfl) rfl rfl (fun _ _ _ _ _ _ _ _ C => tX4_endOfWords_0 C hk0 hf)
set_option maxRecDepth 20000 in
theorem ggX4_unsoundWords_X4_endOfWords : GoodIn wsX4_unsoundWords wsX4_endOfWords := goodIn_r _ [5, 6, 12, 13, 14] (by decide +kernel) (by decide +kernel)
set_option maxRecDepth 20000 in
theorem gX4_unsoundWords_X4_endOfWords : GoodIn wsX4_unsoundWords (wsV RX4 72 RX4 yX4_endOfWords wsX4_endOfWords) := goodIn_app (goodIn_of _ (by decide +kernel)) ggX4_unsoundWords_X4_endOfWords
set_option maxRecDepth 20000 in
theorem ggX4_unsoundWords_X4_isSound : GoodIn wsX4_unsoundWords wsX4_isSound := goodIn_r _ [10, 11, 12, 13, 14] (by decide +kernel) (by decide +kernel)
set_option maxRecDepth 20000 in
theorem gX4_unsoundWords_X4_isSound : GoodIn wsX4_unsoundWords (wsV RX4 45 RX4 yX4_isSound wsX4_isSound) := goodIn_app (goodIn_of _ (by decide +kernel)) ggX4_unsoundWords_X4_isSound
theorem dX4_unsoundWords_0 : decode cX4_unsoundWords 0 = .ok (.iconst 0, 1) := by decide +kernel
theorem dX4_unsoundWords_1 : decode cX4_unsoundWords 1 = .ok (.istore_n 1, 1) := by decide +kernel
theorem dX4_unsoundWords_2 : decode cX4_unsoundWords 2 = .ok (.aload_n 0, 1) := by decide +kernel
theorem dX4_unsoundWords_3 : decode cX4_unsoundWords 3 = .ok (.invokevirtual 72, 3) := by decide +kernel
theorem dX4_unsoundWords_6 : decode cX4_unsoundWords 6 = .ok (.istore_n 2, 1) := by decide +kernel
theorem dX4_unsoundWords_7 : decode cX4_unsoundWords 7 = .ok (.bipush 8, 2) := by decide +kernel
theorem dX4_unsoundWords_9 : decode cX4_unsoundWords 9 = .ok (.istore_n 3, 1) := by decide +kernel
theorem dX4_unsoundWords_10 : decode cX4_unsoundWords 10 = .ok (.iload_n 3, 1) := by decide +kernel
theorem dX4_unsoundWords_11 : decode cX4_unsoundWords 11 = .ok (.iload_n 2, 1) := by decide +kernel
theorem dX4_unsoundWords_12 : decode cX4_unsoundWords 12 = .ok (.if_icmp .ge 20, 3) := by decide +kernel
theorem dX4_unsoundWords_15 : decode cX4_unsoundWords 15 = .ok (.aload_n 0, 1) := by decide +kernel
theorem dX4_unsoundWords_16 : decode cX4_unsoundWords 16 = .ok (.iload_n 3, 1) := by decide +kernel
theorem dX4_unsoundWords_17 : decode cX4_unsoundWords 17 = .ok (.invokevirtual 45, 3) := by decide +kernel
theorem dX4_unsoundWords_20 : decode cX4_unsoundWords 20 = .ok (.ifCond .ne 6, 3) := by decide +kernel
theorem dX4_unsoundWords_23 : decode cX4_unsoundWords 23 = .ok (.iinc 1 1, 3) := by decide +kernel
theorem dX4_unsoundWords_26 : decode cX4_unsoundWords 26 = .ok (.iinc 3 1, 3) := by decide +kernel
theorem dX4_unsoundWords_29 : decode cX4_unsoundWords 29 = .ok (.goto (-19), 3) := by decide +kernel
theorem dX4_unsoundWords_32 : decode cX4_unsoundWords 32 = .ok (.iload_n 1, 1) := by decide +kernel
theorem dX4_unsoundWords_33 : decode cX4_unsoundWords 33 = .ok (.ireturn, 1) := by decide +kernel
abbrev rmX4_unsoundWords : Room := { frames := 1, cells := 0, slots := 0, locals := 21 }
set_option maxHeartbeats 4000000 in
set_option maxRecDepth 100000 in
theorem tX4_unsoundWords_26 {h : AH} {a0 : Nat} {k10 : Int32 → Int32 → Int32 → Option Int32} {x1 : Int32} {x2 : Int32} {x3 : Int32} {r0 : Int32} (C : Cx p rmX4_unsoundWords s m args meth c RX4 cX4_unsoundWords 4 (some .int) wsX4_unsoundWords D ad cy tb 0 0) (hk0 : kd a0 = 4) (H10 : ∀ (x1 : Int32) (x2 : Int32) (x3 : Int32), k10 x1 x2 x3 = some r0 → AW p l e rmX4_unsoundWords s m args below meth c 4 D ad cy 0 0 (Qi D ad cy below args s r0 h) 10 [(0, .ref (ad a0)), (1, .int x1), (2, .int x2), (3, .int x3)] [] h) (hf : fX4_unsoundWords_26 k10 h a0 x1 x2 x3 = some r0) : AW p l e rmX4_unsoundWords s m args below meth c 4 D ad cy 0 0 (Qi D ad cy below args s r0 h) 26 [(0, .ref (ad a0)), (1, .int x1), (2, .int x2), (3, .int x3)] [] h := by
  unfold fX4_unsoundWords_26 at hf
  obtain ⟨v1, hvv1, hf⟩ := nm_ex hf
  refine aw_iinc (j := 3) (v := v1) (lv1 := [(3, .int v1), (0, .ref (ad a0)), (1, .int x1), (2, .int x2)]) C dX4_unsoundWords_26 rfl hvv1 (by decide) rfl ?_
  refine aw_goto (tgt := 10) C dX4_unsoundWords_29 (by decide) ?_
  refine aw_sub [1, 2, 3, 0] rfl ?_
  exact H10 x1 x2 v1 hf
set_option maxHeartbeats 4000000 in
set_option maxRecDepth 100000 in
theorem tX4_unsoundWords_10b {h : AH} {a0 : Nat} {k10 : Int32 → Int32 → Int32 → Option Int32} {x1 : Int32} {x2 : Int32} {x3 : Int32} {r0 : Int32} (C : Cx p rmX4_unsoundWords s m args meth c RX4 cX4_unsoundWords 4 (some .int) wsX4_unsoundWords D ad cy tb 0 0) (hk0 : kd a0 = 4) (H10 : ∀ (x1 : Int32) (x2 : Int32) (x3 : Int32), k10 x1 x2 x3 = some r0 → AW p l e rmX4_unsoundWords s m args below meth c 4 D ad cy 0 0 (Qi D ad cy below args s r0 h) 10 [(0, .ref (ad a0)), (1, .int x1), (2, .int x2), (3, .int x3)] [] h) (hf : fX4_unsoundWords_10b k10 h a0 x1 x2 x3 = some r0) : AW p l e rmX4_unsoundWords s m args below meth c 4 D ad cy 0 0 (Qi D ad cy below args s r0 h) 10 [(0, .ref (ad a0)), (1, .int x1), (2, .int x2), (3, .int x3)] [] h := by
  unfold fX4_unsoundWords_10b at hf
  refine aw_iload_n C dX4_unsoundWords_10 rfl 3 rfl ?_
  refine aw_iload_n C dX4_unsoundWords_11 rfl 2 rfl ?_
  refine aw_icmp_ge (tgt := 32) C dX4_unsoundWords_12 (by decide) hf (fun hf => ?_) (fun hf => ?_)
  · refine aw_iload_n C dX4_unsoundWords_32 rfl 1 rfl ?_
    exact aw_iretR C dX4_unsoundWords_33 hf
  refine aw_aload_n C dX4_unsoundWords_15 rfl 0 rfl ?_
  refine aw_iload_n C dX4_unsoundWords_16 rfl 3 rfl ?_
  obtain ⟨r1, hc, hf⟩ := bR_some hf
  refine aw_callVi (As := [.int x3]) (rest := []) C hk0 (by decide) rfl (kX4_isSound (l := l) (D := D) (ad := ad) (cy := cy) (tb := tb) C.2.2.2.2.2.2.2.2.1 hk0 hc) (fun ht _ => cwV 1 ht gX4_unsoundWords_X4_isSound rfl rfl rfl (by decide +kernel) ⟨Nat.le_of_ble_eq_true rfl, Nat.le_of_ble_eq_true rfl⟩) rfl rfl (Nat.le_of_ble_eq_true rfl) dX4_unsoundWords_17 ?_
  refine aw_if_ne (tgt := 26) C dX4_unsoundWords_20 (by decide) hf (fun hf => ?_) (fun hf => ?_)
  · refine aw_sub [0, 1, 2, 3] rfl ?_
    exact tX4_unsoundWords_26 C hk0 H10 hf
  obtain ⟨v2, hvv2, hf⟩ := nm_ex hf
  refine aw_iinc (j := 1) (v := v2) (lv1 := [(1, .int v2), (0, .ref (ad a0)), (2, .int x2), (3, .int x3)]) C dX4_unsoundWords_23 rfl hvv2 (by decide) rfl ?_
  refine aw_sub [1, 0, 2, 3] rfl ?_
  exact tX4_unsoundWords_26 C hk0 H10 hf
set_option maxHeartbeats 4000000 in
set_option maxRecDepth 100000 in
theorem tX4_unsoundWords_10 {h : AH} {a0 : Nat} {r0 : Int32} (C : Cx p rmX4_unsoundWords s m args meth c RX4 cX4_unsoundWords 4 (some .int) wsX4_unsoundWords D ad cy tb 0 0) (hk0 : kd a0 = 4) : ∀ (n : Nat) (x1 : Int32) (x2 : Int32) (x3 : Int32), fX4_unsoundWords_10 h a0 n x1 x2 x3 = some r0 → AW p l e rmX4_unsoundWords s m args below meth c 4 D ad cy 0 0 (Qi D ad cy below args s r0 h) 10 [(0, .ref (ad a0)), (1, .int x1), (2, .int x2), (3, .int x3)] [] h := by
  intro n
  induction n with
  | zero => intro x1 x2 x3 hf; cases hf
  | succ n ih => intro x1 x2 x3 hf; exact tX4_unsoundWords_10b C hk0 ih  hf
set_option maxHeartbeats 4000000 in
set_option maxRecDepth 100000 in
theorem tX4_unsoundWords_0 {h : AH} {a0 : Nat} {r0 : Int32} (C : Cx p rmX4_unsoundWords s m args meth c RX4 cX4_unsoundWords 4 (some .int) wsX4_unsoundWords D ad cy tb 0 0) (hk0 : kd a0 = 4) (hf : fX4_unsoundWords h a0 = some r0) : AW p l e rmX4_unsoundWords s m args below meth c 4 D ad cy 0 0 (Qi D ad cy below args s r0 h) 0 [(0, .ref (ad a0))] [] h := by
  unfold fX4_unsoundWords at hf
  refine aw_iconst (v := 0) C dX4_unsoundWords_0 (by decide) ?_
  refine aw_istore_n (lv1 := [(1, .int 0), (0, .ref (ad a0))]) C dX4_unsoundWords_1 rfl (by decide) rfl ?_
  refine aw_aload_n C dX4_unsoundWords_2 rfl 1 rfl ?_
  obtain ⟨r1, hc, hf⟩ := bR_some hf
  refine aw_callVi (As := []) (rest := []) C hk0 (by decide) rfl (kX4_endOfWords (l := l) (D := D) (ad := ad) (cy := cy) (tb := tb) C.2.2.2.2.2.2.2.2.1 hk0 hc) (fun ht _ => cwV 0 ht gX4_unsoundWords_X4_endOfWords rfl rfl rfl (by decide +kernel) ⟨Nat.le_of_ble_eq_true rfl, Nat.le_of_ble_eq_true rfl⟩) rfl rfl (Nat.le_of_ble_eq_true rfl) dX4_unsoundWords_3 ?_
  refine aw_istore_n (lv1 := [(2, .int r1), (1, .int 0), (0, .ref (ad a0))]) C dX4_unsoundWords_6 rfl (by decide) rfl ?_
  refine aw_bipush (v := 8) C dX4_unsoundWords_7 (by decide) ?_
  refine aw_istore_n (lv1 := [(3, .int 8), (2, .int r1), (1, .int 0), (0, .ref (ad a0))]) C dX4_unsoundWords_9 rfl (by decide) rfl ?_
  refine aw_sub [3, 2, 1, 0] rfl ?_
  exact tX4_unsoundWords_10 C hk0  FU 0 r1 8 hf
theorem kX4_unsoundWords {h : AH} {a0 : Nat} {r0 : Int32} (hi : Inj ad) (hk0 : kd a0 = 4) (hf : fX4_unsoundWords h a0 = some r0) : Ki l yX4_unsoundWords wsX4_unsoundWords rmX4_unsoundWords D ad cy tb [.ref (ad a0)] h r0 h := met_i (lv := [(0, .ref (ad a0))]) hi (by decide) rfl (Nat.le_of_ble_eq_true rfl) rfl rfl (fun _ _ _ _ _ _ _ _ C => tX4_unsoundWords_0 C hk0 hf)
set_option maxRecDepth 20000 in
theorem ggX5_slide_X5_isSlideSize : GoodIn wsX5_slide wsX5_isSlideSize := goodIn_r _ [8, 1, 58, 59, 60, 61, 62, 63, 64, 65, 66, 67, 68, 69] (by decide +kernel) (by decide +kernel)
set_option maxRecDepth 20000 in
theorem gX5_slide_X5_isSlideSize : GoodIn wsX5_slide (wsV RX5 193 RX5 yX5_isSlideSize wsX5_isSlideSize) := goodIn_app (goodIn_of _ (by decide +kernel)) ggX5_slide_X5_isSlideSize
set_option maxRecDepth 20000 in
theorem ggX5_slide_X5_isTurns : GoodIn wsX5_slide wsX5_isTurns := goodIn_r _ [11] (by decide +kernel) (by decide +kernel)
set_option maxRecDepth 20000 in
theorem gX5_slide_X5_isTurns : GoodIn wsX5_slide (va_wsS RX5 186 yX5_isTurns wsX5_isTurns) := goodIn_app (goodIn_of _ (by decide +kernel)) ggX5_slide_X5_isTurns
set_option maxRecDepth 20000 in
theorem ggX5_slide_X4_takeSlide : GoodIn wsX5_slide wsX4_takeSlide := goodIn_r _ [16, 17, 18, 19, 20, 15, 21, 22, 23, 24, 25, 26, 27, 28, 29, 30, 31, 7, 32, 33, 34, 35, 36, 37, 38, 39, 40, 41, 42, 43, 44, 45, 67, 68, 69, 70, 71, 72] (by decide +kernel) (by decide +kernel)
set_option maxRecDepth 20000 in
theorem gX5_slide_X4_takeSlide : GoodIn wsX5_slide (wsV RX5 196 RX4 yX4_takeSlide wsX4_takeSlide) := goodIn_app (goodIn_of _ (by decide +kernel)) ggX5_slide_X4_takeSlide
set_option maxRecDepth 20000 in
theorem ggX5_slide_X4_unsoundWords : GoodIn wsX5_slide wsX4_unsoundWords := goodIn_r _ [49, 50, 51, 52, 15, 53, 17, 54, 55, 56, 57, 30, 67, 68, 69] (by decide +kernel) (by decide +kernel)
set_option maxRecDepth 20000 in
theorem gX5_slide_X4_unsoundWords : GoodIn wsX5_slide (wsV RX5 200 RX4 yX4_unsoundWords wsX4_unsoundWords) := goodIn_app (goodIn_of _ (by decide +kernel)) ggX5_slide_X4_unsoundWords
theorem dX5_slide_0 : decode cX5_slide 0 = .ok (.aload_n 0, 1) := by decide +kernel
theorem dX5_slide_1 : decode cX5_slide 1 = .ok (.iload_n 1, 1) := by decide +kernel
theorem dX5_slide_2 : decode cX5_slide 2 = .ok (.invokevirtual 193, 3) := by decide +kernel
theorem dX5_slide_5 : decode cX5_slide 5 = .ok (.ifCond .eq 10, 3) := by decide +kernel
theorem dX5_slide_8 : decode cX5_slide 8 = .ok (.iload_n 2, 1) := by decide +kernel
theorem dX5_slide_9 : decode cX5_slide 9 = .ok (.invokestatic 186, 3) := by decide +kernel
theorem dX5_slide_12 : decode cX5_slide 12 = .ok (.ifCond .ne 6, 3) := by decide +kernel
theorem dX5_slide_15 : decode cX5_slide 15 = .ok (.bipush (-2), 2) := by decide +kernel
theorem dX5_slide_17 : decode cX5_slide 17 = .ok (.ireturn, 1) := by decide +kernel
theorem dX5_slide_18 : decode cX5_slide 18 = .ok (.aload_n 0, 1) := by decide +kernel
theorem dX5_slide_19 : decode cX5_slide 19 = .ok (.getfield 12, 3) := by decide +kernel
theorem dX5_slide_22 : decode cX5_slide 22 = .ok (.iload_n 1, 1) := by decide +kernel
theorem dX5_slide_23 : decode cX5_slide 23 = .ok (.iload_n 2, 1) := by decide +kernel
theorem dX5_slide_24 : decode cX5_slide 24 = .ok (.aload_n 0, 1) := by decide +kernel
theorem dX5_slide_25 : decode cX5_slide 25 = .ok (.getfield 51, 3) := by decide +kernel
theorem dX5_slide_28 : decode cX5_slide 28 = .ok (.aload_n 0, 1) := by decide +kernel
theorem dX5_slide_29 : decode cX5_slide 29 = .ok (.getfield 33, 3) := by decide +kernel
theorem dX5_slide_32 : decode cX5_slide 32 = .ok (.invokevirtual 196, 3) := by decide +kernel
theorem dX5_slide_35 : decode cX5_slide 35 = .ok (.aload_n 0, 1) := by decide +kernel
theorem dX5_slide_36 : decode cX5_slide 36 = .ok (.getfield 12, 3) := by decide +kernel
theorem dX5_slide_39 : decode cX5_slide 39 = .ok (.invokevirtual 200, 3) := by decide +kernel
theorem dX5_slide_42 : decode cX5_slide 42 = .ok (.ireturn, 1) := by decide +kernel
abbrev rmX5_slide : Room := { frames := 4, cells := 0, slots := 0, locals := 107 }
set_option maxRecDepth 100000 in
theorem hinX5_slide_5 : ∀ w ∈ wsX50, w ∈ wsX5_slide := by decide +kernel
set_option maxHeartbeats 4000000 in
set_option maxRecDepth 100000 in
theorem tX5_slide_0 {h : AH} {a1 : Int32} {a2 : Int32} {r0 : Int32} {h0 : AH} (C : Cx p rmX5_slide s m args meth c RX5 cX5_slide 3 (some .int) wsX5_slide D ad cy tb 0 0) (hf : fX5_slide h a1 a2 = some (r0, h0)) : AW p l e rmX5_slide s m args below meth c 3 D ad cy 0 0 (Qi D ad cy below args s r0 h0) 0 [(0, .ref (ad 0)), (1, .int a1), (2, .int a2)] [] h := by
  unfold fX5_slide at hf
  refine aw_aload_n C dX5_slide_0 rfl 0 rfl ?_
  refine aw_iload_n C dX5_slide_1 rfl 1 rfl ?_
  obtain ⟨r1, hc, hf⟩ := bR_some hf
  refine aw_callVi (As := [.int a1]) (rest := []) C rfl (by decide) rfl (kX5_isSlideSize (l := l) (D := D) (ad := ad) (cy := cy) (tb := tb) C.2.2.2.2.2.2.2.2.1 hc) (fun ht _ => cwV 1 ht gX5_slide_X5_isSlideSize rfl rfl rfl (by decide +kernel) ⟨Nat.le_of_ble_eq_true rfl, Nat.le_of_ble_eq_true rfl⟩) rfl rfl (Nat.le_of_ble_eq_true rfl) dX5_slide_2 ?_
  refine aw_if_eq (tgt := 15) C dX5_slide_5 (by decide) hf (fun hf => ?_) (fun hf => ?_)
  · refine aw_bipush (v := (-2)) C dX5_slide_15 (by decide) ?_
    exact aw_iretW C dX5_slide_17 hf
  refine aw_iload_n C dX5_slide_8 rfl 2 rfl ?_
  obtain ⟨r2, hc, hf⟩ := bR_some hf
  refine aw_callSi (As := [.int a2]) (rest := []) C (kX5_isTurns (l := l) (D := D) (ad := ad) (cy := cy) (tb := tb) C.2.2.2.2.2.2.2.2.1 hc) (fun ht _ => va_cwS 1 ht gX5_slide_X5_isTurns rfl rfl rfl (by decide +kernel) ⟨Nat.le_of_ble_eq_true rfl, Nat.le_of_ble_eq_true rfl⟩) rfl rfl (Nat.le_of_ble_eq_true rfl) dX5_slide_9 ?_
  refine aw_if_ne (tgt := 18) C dX5_slide_12 (by decide) hf (fun hf => ?_) (fun hf => ?_)
  · refine aw_aload_n C dX5_slide_18 rfl 0 rfl ?_
    refine aw_get C (kd_lt rfl (by decide)) (ce_5 rfl) rfl hinX5_slide_5 0 (by decide) rfl (by decide +kernel) rfl dX5_slide_19 ?_
    refine aw_iload_n C dX5_slide_22 rfl 1 rfl ?_
    refine aw_iload_n C dX5_slide_23 rfl 2 rfl ?_
    refine aw_aload_n C dX5_slide_24 rfl 0 rfl ?_
    refine aw_get C (kd_lt rfl (by decide)) (ce_5 rfl) rfl hinX5_slide_5 7 (by decide) rfl (by decide +kernel) rfl dX5_slide_25 ?_
    refine aw_aload_n C dX5_slide_28 rfl 0 rfl ?_
    refine aw_get C (kd_lt rfl (by decide)) (ce_5 rfl) rfl hinX5_slide_5 4 (by decide) rfl (by decide +kernel) rfl dX5_slide_29 ?_
    obtain ⟨h3, hc, hf⟩ := bR_some hf
    refine aw_callVv (As := [.int a1, .int a2, .int (h.1 0 7), .ref (ad 11)]) (rest := []) C rfl (by decide) rfl (kX4_takeSlide (l := l) (D := D) (ad := ad) (cy := cy) (tb := tb) C.2.2.2.2.2.2.2.2.1 rfl hc) (fun ht _ => cwV 4 ht gX5_slide_X4_takeSlide rfl rfl rfl (by decide +kernel) ⟨Nat.le_of_ble_eq_true rfl, Nat.le_of_ble_eq_true rfl⟩) rfl rfl (Nat.le_of_ble_eq_true rfl) dX5_slide_32 ?_
    refine aw_aload_n C dX5_slide_35 rfl 0 rfl ?_
    refine aw_get C (kd_lt rfl (by decide)) (ce_5 rfl) rfl hinX5_slide_5 0 (by decide) rfl (by decide +kernel) rfl dX5_slide_36 ?_
    obtain ⟨r4, hc, hf⟩ := bR_some hf
    refine aw_callVi (As := []) (rest := []) C rfl (by decide) rfl (kX4_unsoundWords (l := l) (D := D) (ad := ad) (cy := cy) (tb := tb) C.2.2.2.2.2.2.2.2.1 rfl hc) (fun ht _ => cwV 0 ht gX5_slide_X4_unsoundWords rfl rfl rfl (by decide +kernel) ⟨Nat.le_of_ble_eq_true rfl, Nat.le_of_ble_eq_true rfl⟩) rfl rfl (Nat.le_of_ble_eq_true rfl) dX5_slide_39 ?_
    exact aw_iretW C dX5_slide_42 hf
  refine aw_bipush (v := (-2)) C dX5_slide_15 (by decide) ?_
  exact aw_iretW C dX5_slide_17 hf
theorem kX5_slide {h : AH} {a1 : Int32} {a2 : Int32} {r0 : Int32} {h0 : AH} (hi : Inj ad) (hf : fX5_slide h a1 a2 = some (r0, h0)) : Ki l yX5_slide wsX5_slide rmX5_slide D ad cy tb [.ref (ad 0), .int a1, .int a2] h r0 h0 := met_i (lv := [(0, .ref (ad 0)), (1, .int a1), (2, .int a2)]) hi (by decide) rfl (Nat.le_of_ble_eq_true rfl) rfl rfl (fun _ _ _ _ _ _ _ _ C => tX5_slide_0 C  hf)
set_option maxRecDepth 20000 in
theorem ggX6_slides_X6_windowOver : GoodIn wsX6_slides wsX6_windowOver := goodIn_r _ [6, 7, 8, 9, 5, 10, 11, 12, 13, 14, 15, 16, 17, 18, 19, 20, 21, 22, 23, 24, 25, 26, 27, 28, 29, 30, 31, 32, 33, 34, 35, 36, 37, 38, 39, 40, 41, 42, 43, 44, 45, 46, 47, 48, 49, 50, 51, 1, 52, 53, 54, 55, 56, 57, 58, 59, 60, 61, 62, 63, 64, 65, 66, 67, 68, 69, 70, 71, 72, 73, 74, 75, 76, 77, 78, 79] (by decide +kernel) (by decide +kernel)
set_option maxRecDepth 20000 in
theorem gX6_slides_X6_windowOver : GoodIn wsX6_slides (wsV RX6 159 RX6 yX6_windowOver wsX6_windowOver) := goodIn_app (goodIn_of _ (by decide +kernel)) ggX6_slides_X6_windowOver
theorem dX6_slides_0 : decode cX6_slides 0 = .ok (.iconst 1, 1) := by decide +kernel
theorem dX6_slides_1 : decode cX6_slides 1 = .ok (.istore_n 3, 1) := by decide +kernel
theorem dX6_slides_2 : decode cX6_slides 2 = .ok (.iload_n 3, 1) := by decide +kernel
theorem dX6_slides_3 : decode cX6_slides 3 = .ok (.iload_n 1, 1) := by decide +kernel
theorem dX6_slides_4 : decode cX6_slides 4 = .ok (.iadd, 1) := by decide +kernel
theorem dX6_slides_5 : decode cX6_slides 5 = .ok (.iconst 1, 1) := by decide +kernel
theorem dX6_slides_6 : decode cX6_slides 6 = .ok (.isub, 1) := by decide +kernel
theorem dX6_slides_7 : decode cX6_slides 7 = .ok (.aload_n 0, 1) := by decide +kernel
theorem dX6_slides_8 : decode cX6_slides 8 = .ok (.getfield 7, 3) := by decide +kernel
theorem dX6_slides_11 : decode cX6_slides 11 = .ok (.if_icmp .gt 17, 3) := by decide +kernel
theorem dX6_slides_14 : decode cX6_slides 14 = .ok (.aload_n 0, 1) := by decide +kernel
theorem dX6_slides_15 : decode cX6_slides 15 = .ok (.iload_n 3, 1) := by decide +kernel
theorem dX6_slides_16 : decode cX6_slides 16 = .ok (.iload_n 1, 1) := by decide +kernel
theorem dX6_slides_17 : decode cX6_slides 17 = .ok (.iload_n 2, 1) := by decide +kernel
theorem dX6_slides_18 : decode cX6_slides 18 = .ok (.invokevirtual 159, 3) := by decide +kernel
theorem dX6_slides_21 : decode cX6_slides 21 = .ok (.pop, 1) := by decide +kernel
theorem dX6_slides_22 : decode cX6_slides 22 = .ok (.iinc 3 1, 3) := by decide +kernel
theorem dX6_slides_25 : decode cX6_slides 25 = .ok (.goto (-23), 3) := by decide +kernel
theorem dX6_slides_28 : decode cX6_slides 28 = .ok (.return_, 1) := by decide +kernel
abbrev rmX6_slides : Room := { frames := 9, cells := 0, slots := 0, locals := 220 }
set_option maxRecDepth 100000 in
theorem hinX6_slides_6 : ∀ w ∈ wsX60, w ∈ wsX6_slides := by decide +kernel
set_option maxHeartbeats 4000000 in
set_option maxRecDepth 100000 in
theorem tX6_slides_2b {h : AH} {a1 : Int32} {a2 : Int32} {k2 : AH → Int32 → Option AH} {x3 : Int32} {h0 : AH} (C : Cx p rmX6_slides s m args meth c RX6 cX6_slides 4 none wsX6_slides D ad cy tb 0 0) (H2 : ∀ (h : AH) (x3 : Int32), k2 h x3 = some h0 → AW p l e rmX6_slides s m args below meth c 4 D ad cy 0 0 (Qv D ad cy below args s h0) 2 [(0, .ref (ad 29)), (1, .int a1), (2, .int a2), (3, .int x3)] [] h) (hf : fX6_slides_2b k2 a1 a2 h x3 = some h0) : AW p l e rmX6_slides s m args below meth c 4 D ad cy 0 0 (Qv D ad cy below args s h0) 2 [(0, .ref (ad 29)), (1, .int a1), (2, .int a2), (3, .int x3)] [] h := by
  unfold fX6_slides_2b at hf
  refine aw_iload_n C dX6_slides_2 rfl 3 rfl ?_
  refine aw_iload_n C dX6_slides_3 rfl 1 rfl ?_
  refine aw_iadd C dX6_slides_4 ?_
  refine aw_iconst (v := 1) C dX6_slides_5 (by decide) ?_
  refine aw_isub C dX6_slides_6 ?_
  refine aw_aload_n C dX6_slides_7 rfl 0 rfl ?_
  refine aw_get C (kd_lt rfl (by decide)) (ce_6 rfl) rfl hinX6_slides_6 0 (by decide) rfl (by decide +kernel) rfl dX6_slides_8 ?_
  refine aw_icmp_gt (tgt := 28) C dX6_slides_11 (by decide) hf (fun hf => ?_) (fun hf => ?_)
  · exact aw_vret C dX6_slides_28 hf
  refine aw_aload_n C dX6_slides_14 rfl 0 rfl ?_
  refine aw_iload_n C dX6_slides_15 rfl 3 rfl ?_
  refine aw_iload_n C dX6_slides_16 rfl 1 rfl ?_
  refine aw_iload_n C dX6_slides_17 rfl 2 rfl ?_
  obtain ⟨r2, h1, hc, hf⟩ := bW_some hf
  refine aw_callVi (As := [.int x3, .int a1, .int a2]) (rest := []) C rfl (by decide) rfl (kX6_windowOver (l := l) (D := D) (ad := ad) (cy := cy) (tb := tb) C.2.2.2.2.2.2.2.2.1 hc) (fun ht _ => cwV 3 ht gX6_slides_X6_windowOver rfl rfl rfl (by decide +kernel) ⟨Nat.le_of_ble_eq_true rfl, Nat.le_of_ble_eq_true rfl⟩) rfl rfl (Nat.le_of_ble_eq_true rfl) dX6_slides_18 ?_
  refine aw_pop C dX6_slides_21 rfl ?_
  obtain ⟨v3, hvv3, hf⟩ := nm_ex hf
  refine aw_iinc (j := 3) (v := v3) (lv1 := [(3, .int v3), (0, .ref (ad 29)), (1, .int a1), (2, .int a2)]) C dX6_slides_22 rfl hvv3 (by decide) rfl ?_
  refine aw_goto (tgt := 2) C dX6_slides_25 (by decide) ?_
  refine aw_sub [1, 2, 3, 0] rfl ?_
  exact H2 h1 v3 hf
set_option maxHeartbeats 4000000 in
set_option maxRecDepth 100000 in
theorem tX6_slides_2  {a1 : Int32} {a2 : Int32} {h0 : AH} (C : Cx p rmX6_slides s m args meth c RX6 cX6_slides 4 none wsX6_slides D ad cy tb 0 0) : ∀ (n : Nat) (h : AH) (x3 : Int32), fX6_slides_2 a1 a2 n h x3 = some h0 → AW p l e rmX6_slides s m args below meth c 4 D ad cy 0 0 (Qv D ad cy below args s h0) 2 [(0, .ref (ad 29)), (1, .int a1), (2, .int a2), (3, .int x3)] [] h := by
  intro n
  induction n with
  | zero => intro h x3 hf; cases hf
  | succ n ih => intro h x3 hf; exact tX6_slides_2b C  ih  hf
set_option maxHeartbeats 4000000 in
set_option maxRecDepth 100000 in
theorem tX6_slides_0 {h : AH} {a1 : Int32} {a2 : Int32} {h0 : AH} (C : Cx p rmX6_slides s m args meth c RX6 cX6_slides 4 none wsX6_slides D ad cy tb 0 0) (hf : fX6_slides h a1 a2 = some h0) : AW p l e rmX6_slides s m args below meth c 4 D ad cy 0 0 (Qv D ad cy below args s h0) 0 [(0, .ref (ad 29)), (1, .int a1), (2, .int a2)] [] h := by
  unfold fX6_slides at hf
  refine aw_iconst (v := 1) C dX6_slides_0 (by decide) ?_
  refine aw_istore_n (lv1 := [(3, .int 1), (0, .ref (ad 29)), (1, .int a1), (2, .int a2)]) C dX6_slides_1 rfl (by decide) rfl ?_
  refine aw_sub [1, 2, 3, 0] rfl ?_
  exact tX6_slides_2 C   FU h 1 hf
theorem kX6_slides {h : AH} {a1 : Int32} {a2 : Int32} {h0 : AH} (hi : Inj ad) (hf : fX6_slides h a1 a2 = some h0) : Kv l yX6_slides wsX6_slides rmX6_slides D ad cy tb [.ref (ad 29), .int a1, .int a2] h h0 := met_v (lv := [(0, .ref (ad 29)), (1, .int a1), (2, .int a2)]) hi (by decide) rfl (Nat.le_of_ble_eq_true rfl) rfl rfl (fun _ _ _ _ _ _ _ _ C => tX6_slides_0 C  hf)
set_option maxRecDepth 20000 in
theorem ggX6_wordsOf_X6_stateOf : GoodIn wsX6_wordsOf wsX6_stateOf := goodIn_r _ [6, 7, 8, 9, 5, 10, 11, 12, 13, 14, 15, 16, 17, 18, 19, 20, 21, 22, 23, 24, 25, 26, 27, 28, 29, 30, 31, 32, 33, 34, 35, 36, 37, 38, 39, 40, 41, 42, 43, 44, 45] (by decide +kernel) (by decide +kernel)
set_option maxRecDepth 20000 in
theorem gX6_wordsOf_X6_stateOf : GoodIn wsX6_wordsOf (wsV RX6 141 RX6 yX6_stateOf wsX6_stateOf) := goodIn_app (goodIn_of _ (by decide +kernel)) ggX6_wordsOf_X6_stateOf
theorem dX6_wordsOf_0 : decode cX6_wordsOf 0 = .ok (.iconst 0, 1) := by decide +kernel
theorem dX6_wordsOf_1 : decode cX6_wordsOf 1 = .ok (.istore_n 2, 1) := by decide +kernel
theorem dX6_wordsOf_2 : decode cX6_wordsOf 2 = .ok (.iconst 1, 1) := by decide +kernel
theorem dX6_wordsOf_3 : decode cX6_wordsOf 3 = .ok (.istore_n 3, 1) := by decide +kernel
theorem dX6_wordsOf_4 : decode cX6_wordsOf 4 = .ok (.iload_n 3, 1) := by decide +kernel
theorem dX6_wordsOf_5 : decode cX6_wordsOf 5 = .ok (.aload_n 0, 1) := by decide +kernel
theorem dX6_wordsOf_6 : decode cX6_wordsOf 6 = .ok (.getfield 7, 3) := by decide +kernel
theorem dX6_wordsOf_9 : decode cX6_wordsOf 9 = .ok (.if_icmp .gt 65, 3) := by decide +kernel
theorem dX6_wordsOf_12 : decode cX6_wordsOf 12 = .ok (.iconst 0, 1) := by decide +kernel
theorem dX6_wordsOf_13 : decode cX6_wordsOf 13 = .ok (.istore 4, 2) := by decide +kernel
theorem dX6_wordsOf_15 : decode cX6_wordsOf 15 = .ok (.iload 4, 2) := by decide +kernel
theorem dX6_wordsOf_17 : decode cX6_wordsOf 17 = .ok (.bipush 8, 2) := by decide +kernel
theorem dX6_wordsOf_19 : decode cX6_wordsOf 19 = .ok (.if_icmp .ge 49, 3) := by decide +kernel
theorem dX6_wordsOf_22 : decode cX6_wordsOf 22 = .ok (.aload_n 0, 1) := by decide +kernel
theorem dX6_wordsOf_23 : decode cX6_wordsOf 23 = .ok (.iload_n 3, 1) := by decide +kernel
theorem dX6_wordsOf_24 : decode cX6_wordsOf 24 = .ok (.iload 4, 2) := by decide +kernel
theorem dX6_wordsOf_26 : decode cX6_wordsOf 26 = .ok (.invokevirtual 141, 3) := by decide +kernel
theorem dX6_wordsOf_29 : decode cX6_wordsOf 29 = .ok (.istore 5, 2) := by decide +kernel
theorem dX6_wordsOf_31 : decode cX6_wordsOf 31 = .ok (.iload_n 2, 1) := by decide +kernel
theorem dX6_wordsOf_32 : decode cX6_wordsOf 32 = .ok (.iload_n 1, 1) := by decide +kernel
theorem dX6_wordsOf_33 : decode cX6_wordsOf 33 = .ok (.ifCond .ne 16, 3) := by decide +kernel
theorem dX6_wordsOf_36 : decode cX6_wordsOf 36 = .ok (.iload 5, 2) := by decide +kernel
theorem dX6_wordsOf_38 : decode cX6_wordsOf 38 = .ok (.ifCond .le 7, 3) := by decide +kernel
theorem dX6_wordsOf_41 : decode cX6_wordsOf 41 = .ok (.iconst 1, 1) := by decide +kernel
theorem dX6_wordsOf_42 : decode cX6_wordsOf 42 = .ok (.goto 18, 3) := by decide +kernel
theorem dX6_wordsOf_45 : decode cX6_wordsOf 45 = .ok (.iconst 0, 1) := by decide +kernel
theorem dX6_wordsOf_46 : decode cX6_wordsOf 46 = .ok (.goto 14, 3) := by decide +kernel
theorem dX6_wordsOf_49 : decode cX6_wordsOf 49 = .ok (.iload 5, 2) := by decide +kernel
theorem dX6_wordsOf_51 : decode cX6_wordsOf 51 = .ok (.iconst 1, 1) := by decide +kernel
theorem dX6_wordsOf_52 : decode cX6_wordsOf 52 = .ok (.if_icmp .ne 7, 3) := by decide +kernel
theorem dX6_wordsOf_55 : decode cX6_wordsOf 55 = .ok (.iconst 1, 1) := by decide +kernel
theorem dX6_wordsOf_56 : decode cX6_wordsOf 56 = .ok (.goto 4, 3) := by decide +kernel
theorem dX6_wordsOf_59 : decode cX6_wordsOf 59 = .ok (.iconst 0, 1) := by decide +kernel
theorem dX6_wordsOf_60 : decode cX6_wordsOf 60 = .ok (.iadd, 1) := by decide +kernel
theorem dX6_wordsOf_61 : decode cX6_wordsOf 61 = .ok (.istore_n 2, 1) := by decide +kernel
theorem dX6_wordsOf_62 : decode cX6_wordsOf 62 = .ok (.iinc 4 1, 3) := by decide +kernel
theorem dX6_wordsOf_65 : decode cX6_wordsOf 65 = .ok (.goto (-50), 3) := by decide +kernel
theorem dX6_wordsOf_68 : decode cX6_wordsOf 68 = .ok (.iinc 3 1, 3) := by decide +kernel
theorem dX6_wordsOf_71 : decode cX6_wordsOf 71 = .ok (.goto (-67), 3) := by decide +kernel
theorem dX6_wordsOf_74 : decode cX6_wordsOf 74 = .ok (.iload_n 2, 1) := by decide +kernel
theorem dX6_wordsOf_75 : decode cX6_wordsOf 75 = .ok (.ireturn, 1) := by decide +kernel
abbrev rmX6_wordsOf : Room := { frames := 4, cells := 0, slots := 0, locals := 92 }
set_option maxRecDepth 100000 in
theorem hinX6_wordsOf_6 : ∀ w ∈ wsX60, w ∈ wsX6_wordsOf := by decide +kernel
set_option maxHeartbeats 4000000 in
set_option maxRecDepth 100000 in
theorem tX6_wordsOf_60 {h : AH} {a1 : Int32} {k4 : Int32 → Int32 → Option Int32} {k15 : Int32 → Int32 → Int32 → Option Int32} {x3 : Int32} {x4 : Int32} {s0 : Int32} {s1 : Int32} {r0 : Int32} (C : Cx p rmX6_wordsOf s m args meth c RX6 cX6_wordsOf 6 (some .int) wsX6_wordsOf D ad cy tb 0 0) (H4 : ∀ (x2 : Int32) (x3 : Int32), k4 x2 x3 = some r0 → AW p l e rmX6_wordsOf s m args below meth c 6 D ad cy 0 0 (Qi D ad cy below args s r0 h) 4 [(0, .ref (ad 29)), (1, .int a1), (2, .int x2), (3, .int x3)] [] h) (H15 : ∀ (x2 : Int32) (x3 : Int32) (x4 : Int32), k15 x2 x3 x4 = some r0 → AW p l e rmX6_wordsOf s m args below meth c 6 D ad cy 0 0 (Qi D ad cy below args s r0 h) 15 [(0, .ref (ad 29)), (1, .int a1), (2, .int x2), (3, .int x3), (4, .int x4)] [] h) (hf : fX6_wordsOf_60 k4 k15 h a1 x3 x4 s0 s1 = some r0) : AW p l e rmX6_wordsOf s m args below meth c 6 D ad cy 0 0 (Qi D ad cy below args s r0 h) 60 [(0, .ref (ad 29)), (1, .int a1), (3, .int x3), (4, .int x4)] [.int s1, .int s0] h := by
  unfold fX6_wordsOf_60 at hf
  refine aw_iadd C dX6_wordsOf_60 ?_
  refine aw_nmI hf (fun v1 hf => ?_)
  refine aw_istore_n (lv1 := [(2, .int v1), (0, .ref (ad 29)), (1, .int a1), (3, .int x3), (4, .int x4)]) C dX6_wordsOf_61 rfl (by decide) rfl ?_
  obtain ⟨v2, hvv2, hf⟩ := nm_ex hf
  refine aw_iinc (j := 4) (v := v2) (lv1 := [(4, .int v2), (2, .int v1), (0, .ref (ad 29)), (1, .int a1), (3, .int x3)]) C dX6_wordsOf_62 rfl hvv2 (by decide) rfl ?_
  refine aw_goto (tgt := 15) C dX6_wordsOf_65 (by decide) ?_
  refine aw_sub [2, 3, 1, 4, 0] rfl ?_
  exact H15 v1 x3 v2 hf
set_option maxHeartbeats 4000000 in
set_option maxRecDepth 100000 in
theorem tX6_wordsOf_15b {h : AH} {a1 : Int32} {k4 : Int32 → Int32 → Option Int32} {k15 : Int32 → Int32 → Int32 → Option Int32} {x2 : Int32} {x3 : Int32} {x4 : Int32} {r0 : Int32} (C : Cx p rmX6_wordsOf s m args meth c RX6 cX6_wordsOf 6 (some .int) wsX6_wordsOf D ad cy tb 0 0) (H4 : ∀ (x2 : Int32) (x3 : Int32), k4 x2 x3 = some r0 → AW p l e rmX6_wordsOf s m args below meth c 6 D ad cy 0 0 (Qi D ad cy below args s r0 h) 4 [(0, .ref (ad 29)), (1, .int a1), (2, .int x2), (3, .int x3)] [] h) (H15 : ∀ (x2 : Int32) (x3 : Int32) (x4 : Int32), k15 x2 x3 x4 = some r0 → AW p l e rmX6_wordsOf s m args below meth c 6 D ad cy 0 0 (Qi D ad cy below args s r0 h) 15 [(0, .ref (ad 29)), (1, .int a1), (2, .int x2), (3, .int x3), (4, .int x4)] [] h) (hf : fX6_wordsOf_15b k4 k15 h a1 x2 x3 x4 = some r0) : AW p l e rmX6_wordsOf s m args below meth c 6 D ad cy 0 0 (Qi D ad cy below args s r0 h) 15 [(0, .ref (ad 29)), (1, .int a1), (2, .int x2), (3, .int x3), (4, .int x4)] [] h := by
  unfold fX6_wordsOf_15b at hf
  refine aw_iload C dX6_wordsOf_15 4 rfl ?_
  refine aw_bipush (v := 8) C dX6_wordsOf_17 (by decide) ?_
  refine aw_icmp_ge (tgt := 68) C dX6_wordsOf_19 (by decide) hf (fun hf => ?_) (fun hf => ?_)
  · obtain ⟨v1, hvv1, hf⟩ := nm_ex hf
    refine aw_iinc (j := 3) (v := v1) (lv1 := [(3, .int v1), (0, .ref (ad 29)), (1, .int a1), (2, .int x2), (4, .int x4)]) C dX6_wordsOf_68 rfl hvv1 (by decide) rfl ?_
    refine aw_goto (tgt := 4) C dX6_wordsOf_71 (by decide) ?_
    refine aw_sub [1, 2, 3, 0] rfl ?_
    exact H4 x2 v1 hf
  refine aw_aload_n C dX6_wordsOf_22 rfl 0 rfl ?_
  refine aw_iload_n C dX6_wordsOf_23 rfl 3 rfl ?_
  refine aw_iload C dX6_wordsOf_24 4 rfl ?_
  obtain ⟨r2, hc, hf⟩ := bR_some hf
  refine aw_callVi (As := [.int x3, .int x4]) (rest := []) C rfl (by decide) rfl (kX6_stateOf (l := l) (D := D) (ad := ad) (cy := cy) (tb := tb) C.2.2.2.2.2.2.2.2.1 hc) (fun ht _ => cwV 2 ht gX6_wordsOf_X6_stateOf rfl rfl rfl (by decide +kernel) ⟨Nat.le_of_ble_eq_true rfl, Nat.le_of_ble_eq_true rfl⟩) rfl rfl (Nat.le_of_ble_eq_true rfl) dX6_wordsOf_26 ?_
  refine aw_istore (lv1 := [(5, .int r2), (0, .ref (ad 29)), (1, .int a1), (2, .int x2), (3, .int x3), (4, .int x4)]) C dX6_wordsOf_29 (by decide) rfl ?_
  refine aw_iload_n C dX6_wordsOf_31 rfl 3 rfl ?_
  refine aw_iload_n C dX6_wordsOf_32 rfl 2 rfl ?_
  refine aw_if_ne (tgt := 49) C dX6_wordsOf_33 (by decide) hf (fun hf => ?_) (fun hf => ?_)
  · refine aw_iload C dX6_wordsOf_49 0 rfl ?_
    refine aw_iconst (v := 1) C dX6_wordsOf_51 (by decide) ?_
    refine aw_icmp_ne (tgt := 59) C dX6_wordsOf_52 (by decide) hf (fun hf => ?_) (fun hf => ?_)
    · refine aw_iconst (v := 0) C dX6_wordsOf_59 (by decide) ?_
      refine aw_sub [1, 2, 4, 5] rfl ?_
      exact tX6_wordsOf_60 C  H4 H15 hf
    refine aw_iconst (v := 1) C dX6_wordsOf_55 (by decide) ?_
    refine aw_goto (tgt := 60) C dX6_wordsOf_56 (by decide) ?_
    refine aw_sub [1, 2, 4, 5] rfl ?_
    exact tX6_wordsOf_60 C  H4 H15 hf
  refine aw_iload C dX6_wordsOf_36 0 rfl ?_
  refine aw_if_le (tgt := 45) C dX6_wordsOf_38 (by decide) hf (fun hf => ?_) (fun hf => ?_)
  · refine aw_iconst (v := 0) C dX6_wordsOf_45 (by decide) ?_
    refine aw_goto (tgt := 60) C dX6_wordsOf_46 (by decide) ?_
    refine aw_sub [1, 2, 4, 5] rfl ?_
    exact tX6_wordsOf_60 C  H4 H15 hf
  refine aw_iconst (v := 1) C dX6_wordsOf_41 (by decide) ?_
  refine aw_goto (tgt := 60) C dX6_wordsOf_42 (by decide) ?_
  refine aw_sub [1, 2, 4, 5] rfl ?_
  exact tX6_wordsOf_60 C  H4 H15 hf
set_option maxHeartbeats 4000000 in
set_option maxRecDepth 100000 in
theorem tX6_wordsOf_15 {h : AH} {a1 : Int32} {k4 : Int32 → Int32 → Option Int32} {r0 : Int32} (C : Cx p rmX6_wordsOf s m args meth c RX6 cX6_wordsOf 6 (some .int) wsX6_wordsOf D ad cy tb 0 0) (H4 : ∀ (x2 : Int32) (x3 : Int32), k4 x2 x3 = some r0 → AW p l e rmX6_wordsOf s m args below meth c 6 D ad cy 0 0 (Qi D ad cy below args s r0 h) 4 [(0, .ref (ad 29)), (1, .int a1), (2, .int x2), (3, .int x3)] [] h) : ∀ (n : Nat) (x2 : Int32) (x3 : Int32) (x4 : Int32), fX6_wordsOf_15 k4 h a1 n x2 x3 x4 = some r0 → AW p l e rmX6_wordsOf s m args below meth c 6 D ad cy 0 0 (Qi D ad cy below args s r0 h) 15 [(0, .ref (ad 29)), (1, .int a1), (2, .int x2), (3, .int x3), (4, .int x4)] [] h := by
  intro n
  induction n with
  | zero => intro x2 x3 x4 hf; cases hf
  | succ n ih => intro x2 x3 x4 hf; exact tX6_wordsOf_15b C  H4 ih  hf
set_option maxHeartbeats 4000000 in
set_option maxRecDepth 100000 in
theorem tX6_wordsOf_4b {h : AH} {a1 : Int32} {k4 : Int32 → Int32 → Option Int32} {x2 : Int32} {x3 : Int32} {r0 : Int32} (C : Cx p rmX6_wordsOf s m args meth c RX6 cX6_wordsOf 6 (some .int) wsX6_wordsOf D ad cy tb 0 0) (H4 : ∀ (x2 : Int32) (x3 : Int32), k4 x2 x3 = some r0 → AW p l e rmX6_wordsOf s m args below meth c 6 D ad cy 0 0 (Qi D ad cy below args s r0 h) 4 [(0, .ref (ad 29)), (1, .int a1), (2, .int x2), (3, .int x3)] [] h) (hf : fX6_wordsOf_4b k4 h a1 x2 x3 = some r0) : AW p l e rmX6_wordsOf s m args below meth c 6 D ad cy 0 0 (Qi D ad cy below args s r0 h) 4 [(0, .ref (ad 29)), (1, .int a1), (2, .int x2), (3, .int x3)] [] h := by
  unfold fX6_wordsOf_4b at hf
  refine aw_iload_n C dX6_wordsOf_4 rfl 3 rfl ?_
  refine aw_aload_n C dX6_wordsOf_5 rfl 0 rfl ?_
  refine aw_get C (kd_lt rfl (by decide)) (ce_6 rfl) rfl hinX6_wordsOf_6 0 (by decide) rfl (by decide +kernel) rfl dX6_wordsOf_6 ?_
  refine aw_icmp_gt (tgt := 74) C dX6_wordsOf_9 (by decide) hf (fun hf => ?_) (fun hf => ?_)
  · refine aw_iload_n C dX6_wordsOf_74 rfl 2 rfl ?_
    exact aw_iretR C dX6_wordsOf_75 hf
  refine aw_iconst (v := 0) C dX6_wordsOf_12 (by decide) ?_
  refine aw_istore (lv1 := [(4, .int 0), (0, .ref (ad 29)), (1, .int a1), (2, .int x2), (3, .int x3)]) C dX6_wordsOf_13 (by decide) rfl ?_
  refine aw_sub [1, 2, 3, 4, 0] rfl ?_
  exact tX6_wordsOf_15 C  H4 FU x2 x3 0 hf
set_option maxHeartbeats 4000000 in
set_option maxRecDepth 100000 in
theorem tX6_wordsOf_4 {h : AH} {a1 : Int32} {r0 : Int32} (C : Cx p rmX6_wordsOf s m args meth c RX6 cX6_wordsOf 6 (some .int) wsX6_wordsOf D ad cy tb 0 0) : ∀ (n : Nat) (x2 : Int32) (x3 : Int32), fX6_wordsOf_4 h a1 n x2 x3 = some r0 → AW p l e rmX6_wordsOf s m args below meth c 6 D ad cy 0 0 (Qi D ad cy below args s r0 h) 4 [(0, .ref (ad 29)), (1, .int a1), (2, .int x2), (3, .int x3)] [] h := by
  intro n
  induction n with
  | zero => intro x2 x3 hf; cases hf
  | succ n ih => intro x2 x3 hf; exact tX6_wordsOf_4b C  ih  hf
set_option maxHeartbeats 4000000 in
set_option maxRecDepth 100000 in
theorem tX6_wordsOf_0 {h : AH} {a1 : Int32} {r0 : Int32} (C : Cx p rmX6_wordsOf s m args meth c RX6 cX6_wordsOf 6 (some .int) wsX6_wordsOf D ad cy tb 0 0) (hf : fX6_wordsOf h a1 = some r0) : AW p l e rmX6_wordsOf s m args below meth c 6 D ad cy 0 0 (Qi D ad cy below args s r0 h) 0 [(0, .ref (ad 29)), (1, .int a1)] [] h := by
  unfold fX6_wordsOf at hf
  refine aw_iconst (v := 0) C dX6_wordsOf_0 (by decide) ?_
  refine aw_istore_n (lv1 := [(2, .int 0), (0, .ref (ad 29)), (1, .int a1)]) C dX6_wordsOf_1 rfl (by decide) rfl ?_
  refine aw_iconst (v := 1) C dX6_wordsOf_2 (by decide) ?_
  refine aw_istore_n (lv1 := [(3, .int 1), (2, .int 0), (0, .ref (ad 29)), (1, .int a1)]) C dX6_wordsOf_3 rfl (by decide) rfl ?_
  refine aw_sub [2, 3, 1, 0] rfl ?_
  exact tX6_wordsOf_4 C   FU 0 1 hf
theorem kX6_wordsOf {h : AH} {a1 : Int32} {r0 : Int32} (hi : Inj ad) (hf : fX6_wordsOf h a1 = some r0) : Ki l yX6_wordsOf wsX6_wordsOf rmX6_wordsOf D ad cy tb [.ref (ad 29), .int a1] h r0 h := met_i (lv := [(0, .ref (ad 29)), (1, .int a1)]) hi (by decide) rfl (Nat.le_of_ble_eq_true rfl) rfl rfl (fun _ _ _ _ _ _ _ _ C => tX6_wordsOf_0 C  hf)
