variable {p : Program} {l : Launch} {e : Env} {s : State} {m : MethodId} {args : Array Value} {below : List Frame} {meth : Method} {c : Code} {D : va_G} {ad : Nat → Nat} {cy : Nat → ClassId} {tb : Nat → Nat}
set_option maxRecDepth 20000 in
theorem ggX6_slide_X6_in : GoodIn wsX6_slide wsX6_in := goodIn_r _ [5] (by decide +kernel) (by decide +kernel)
set_option maxRecDepth 20000 in
theorem gX6_slide_X6_in : GoodIn wsX6_slide (va_wsS RX6 73 yX6_in wsX6_in) := goodIn_app (goodIn_of _ (by decide +kernel)) ggX6_slide_X6_in
set_option maxRecDepth 20000 in
theorem ggX6_slide_X6_slides : GoodIn wsX6_slide wsX6_slides := goodIn_r _ [9, 1, 10, 11, 12, 4, 13, 14, 15, 16, 17, 18, 19, 20, 21, 22, 23, 24, 25, 26, 27, 28, 29, 30, 31, 32, 33, 34, 35, 36, 37, 38, 39, 40, 41, 42, 43, 44, 45, 46, 47, 48, 49, 50, 51, 52, 53, 54, 55, 56, 57, 58, 59, 60, 61, 62, 63, 64, 65, 66, 67, 68, 73, 74, 75, 76, 77, 78, 79, 80, 81, 82, 83, 84, 85, 86, 87, 88, 89, 90] (by decide +kernel) (by decide +kernel)
set_option maxRecDepth 20000 in
theorem gX6_slide_X6_slides : GoodIn wsX6_slide (wsV RX6 162 RX6 yX6_slides wsX6_slides) := goodIn_app (goodIn_of _ (by decide +kernel)) ggX6_slide_X6_slides
set_option maxRecDepth 20000 in
theorem ggX6_slide_X6_wordsOf : GoodIn wsX6_slide wsX6_wordsOf := goodIn_r _ [72, 1, 23, 24, 25, 4, 26, 27, 28, 29, 30, 22, 31, 32, 33, 34, 35, 36, 37, 38, 39, 40, 41, 42, 43, 44, 45, 46, 73, 74, 75, 76, 77, 78, 79, 80, 81, 82, 83, 84, 85, 86, 87, 88, 89, 90] (by decide +kernel) (by decide +kernel)
set_option maxRecDepth 20000 in
theorem gX6_slide_X6_wordsOf : GoodIn wsX6_slide (wsV RX6 166 RX6 yX6_wordsOf wsX6_wordsOf) := goodIn_app (goodIn_of _ (by decide +kernel)) ggX6_slide_X6_wordsOf
theorem dX6_slide_0 : decode cX6_slide 0 = .ok (.iload_n 1, 1) := by decide +kernel
theorem dX6_slide_1 : decode cX6_slide 1 = .ok (.iconst 2, 1) := by decide +kernel
theorem dX6_slide_2 : decode cX6_slide 2 = .ok (.aload_n 0, 1) := by decide +kernel
theorem dX6_slide_3 : decode cX6_slide 3 = .ok (.getfield 7, 3) := by decide +kernel
theorem dX6_slide_6 : decode cX6_slide 6 = .ok (.invokestatic 73, 3) := by decide +kernel
theorem dX6_slide_9 : decode cX6_slide 9 = .ok (.ifCond .eq 13, 3) := by decide +kernel
theorem dX6_slide_12 : decode cX6_slide 12 = .ok (.iload_n 2, 1) := by decide +kernel
theorem dX6_slide_13 : decode cX6_slide 13 = .ok (.iconst 1, 1) := by decide +kernel
theorem dX6_slide_14 : decode cX6_slide 14 = .ok (.bipush 9, 2) := by decide +kernel
theorem dX6_slide_16 : decode cX6_slide 16 = .ok (.invokestatic 73, 3) := by decide +kernel
theorem dX6_slide_19 : decode cX6_slide 19 = .ok (.ifCond .ne 6, 3) := by decide +kernel
theorem dX6_slide_22 : decode cX6_slide 22 = .ok (.bipush (-2), 2) := by decide +kernel
theorem dX6_slide_24 : decode cX6_slide 24 = .ok (.ireturn, 1) := by decide +kernel
theorem dX6_slide_25 : decode cX6_slide 25 = .ok (.aload_n 0, 1) := by decide +kernel
theorem dX6_slide_26 : decode cX6_slide 26 = .ok (.iload_n 1, 1) := by decide +kernel
theorem dX6_slide_27 : decode cX6_slide 27 = .ok (.iload_n 2, 1) := by decide +kernel
theorem dX6_slide_28 : decode cX6_slide 28 = .ok (.invokevirtual 162, 3) := by decide +kernel
theorem dX6_slide_31 : decode cX6_slide 31 = .ok (.aload_n 0, 1) := by decide +kernel
theorem dX6_slide_32 : decode cX6_slide 32 = .ok (.iconst 0, 1) := by decide +kernel
theorem dX6_slide_33 : decode cX6_slide 33 = .ok (.invokevirtual 166, 3) := by decide +kernel
theorem dX6_slide_36 : decode cX6_slide 36 = .ok (.ireturn, 1) := by decide +kernel
abbrev rmX6_slide : Room := { frames := 10, cells := 0, slots := 0, locals := 243 }
set_option maxRecDepth 100000 in
theorem hinX6_slide_6 : ∀ w ∈ wsX60, w ∈ wsX6_slide := by decide +kernel
set_option maxHeartbeats 4000000 in
set_option maxRecDepth 100000 in
theorem tX6_slide_0 {h : AH} {a1 : Int32} {a2 : Int32} {r0 : Int32} {h0 : AH} (C : Cx p rmX6_slide s m args meth c RX6 cX6_slide 3 (some .int) wsX6_slide D ad cy tb 0 0) (hf : fX6_slide h a1 a2 = some (r0, h0)) : AW p l e rmX6_slide s m args below meth c 3 D ad cy 0 0 (Qi D ad cy below args s r0 h0) 0 [(0, .ref (ad 29)), (1, .int a1), (2, .int a2)] [] h := by
  unfold fX6_slide at hf
  refine aw_iload_n C dX6_slide_0 rfl 1 rfl ?_
  refine aw_iconst (v := 2) C dX6_slide_1 (by decide) ?_
  refine aw_aload_n C dX6_slide_2 rfl 0 rfl ?_
  refine aw_get C (kd_lt rfl (by decide)) (ce_6 rfl) rfl hinX6_slide_6 0 (by decide) rfl (by decide +kernel) rfl dX6_slide_3 ?_
  obtain ⟨r1, hc, hf⟩ := bR_some hf
  refine aw_callSi (As := [.int a1, .int 2, .int (h.1 29 0)]) (rest := []) C (kX6_in (l := l) (D := D) (ad := ad) (cy := cy) (tb := tb) C.2.2.2.2.2.2.2.2.1 hc) (fun ht _ => va_cwS 3 ht gX6_slide_X6_in rfl rfl rfl (by decide +kernel) ⟨Nat.le_of_ble_eq_true rfl, Nat.le_of_ble_eq_true rfl⟩) rfl rfl (Nat.le_of_ble_eq_true rfl) dX6_slide_6 ?_
  refine aw_if_eq (tgt := 22) C dX6_slide_9 (by decide) hf (fun hf => ?_) (fun hf => ?_)
  · refine aw_bipush (v := (-2)) C dX6_slide_22 (by decide) ?_
    exact aw_iretW C dX6_slide_24 hf
  refine aw_iload_n C dX6_slide_12 rfl 2 rfl ?_
  refine aw_iconst (v := 1) C dX6_slide_13 (by decide) ?_
  refine aw_bipush (v := 9) C dX6_slide_14 (by decide) ?_
  obtain ⟨r2, hc, hf⟩ := bR_some hf
  refine aw_callSi (As := [.int a2, .int 1, .int 9]) (rest := []) C (kX6_in (l := l) (D := D) (ad := ad) (cy := cy) (tb := tb) C.2.2.2.2.2.2.2.2.1 hc) (fun ht _ => va_cwS 3 ht gX6_slide_X6_in rfl rfl rfl (by decide +kernel) ⟨Nat.le_of_ble_eq_true rfl, Nat.le_of_ble_eq_true rfl⟩) rfl rfl (Nat.le_of_ble_eq_true rfl) dX6_slide_16 ?_
  refine aw_if_ne (tgt := 25) C dX6_slide_19 (by decide) hf (fun hf => ?_) (fun hf => ?_)
  · refine aw_aload_n C dX6_slide_25 rfl 0 rfl ?_
    refine aw_iload_n C dX6_slide_26 rfl 1 rfl ?_
    refine aw_iload_n C dX6_slide_27 rfl 2 rfl ?_
    obtain ⟨h3, hc, hf⟩ := bR_some hf
    refine aw_callVv (As := [.int a1, .int a2]) (rest := []) C rfl (by decide) rfl (kX6_slides (l := l) (D := D) (ad := ad) (cy := cy) (tb := tb) C.2.2.2.2.2.2.2.2.1 hc) (fun ht _ => cwV 2 ht gX6_slide_X6_slides rfl rfl rfl (by decide +kernel) ⟨Nat.le_of_ble_eq_true rfl, Nat.le_of_ble_eq_true rfl⟩) rfl rfl (Nat.le_of_ble_eq_true rfl) dX6_slide_28 ?_
    refine aw_aload_n C dX6_slide_31 rfl 0 rfl ?_
    refine aw_iconst (v := 0) C dX6_slide_32 (by decide) ?_
    obtain ⟨r4, hc, hf⟩ := bR_some hf
    refine aw_callVi (As := [.int 0]) (rest := []) C rfl (by decide) rfl (kX6_wordsOf (l := l) (D := D) (ad := ad) (cy := cy) (tb := tb) C.2.2.2.2.2.2.2.2.1 hc) (fun ht _ => cwV 1 ht gX6_slide_X6_wordsOf rfl rfl rfl (by decide +kernel) ⟨Nat.le_of_ble_eq_true rfl, Nat.le_of_ble_eq_true rfl⟩) rfl rfl (Nat.le_of_ble_eq_true rfl) dX6_slide_33 ?_
    exact aw_iretW C dX6_slide_36 hf
  refine aw_bipush (v := (-2)) C dX6_slide_22 (by decide) ?_
  exact aw_iretW C dX6_slide_24 hf
theorem kX6_slide {h : AH} {a1 : Int32} {a2 : Int32} {r0 : Int32} {h0 : AH} (hi : Inj ad) (hf : fX6_slide h a1 a2 = some (r0, h0)) : Ki l yX6_slide wsX6_slide rmX6_slide D ad cy tb [.ref (ad 29), .int a1, .int a2] h r0 h0 := met_i (lv := [(0, .ref (ad 29)), (1, .int a1), (2, .int a2)]) hi (by decide) rfl (Nat.le_of_ble_eq_true rfl) rfl rfl (fun _ _ _ _ _ _ _ _ C => tX6_slide_0 C  hf)
theorem dX0_remove_0 : decode cX0_remove 0 = .ok (.iload_n 1, 1) := by decide +kernel
theorem dX0_remove_1 : decode cX0_remove 1 = .ok (.iconst 1, 1) := by decide +kernel
theorem dX0_remove_2 : decode cX0_remove 2 = .ok (.iadd, 1) := by decide +kernel
theorem dX0_remove_3 : decode cX0_remove 3 = .ok (.istore_n 2, 1) := by decide +kernel
theorem dX0_remove_4 : decode cX0_remove 4 = .ok (.iload_n 2, 1) := by decide +kernel
theorem dX0_remove_5 : decode cX0_remove 5 = .ok (.aload_n 0, 1) := by decide +kernel
theorem dX0_remove_6 : decode cX0_remove 6 = .ok (.getfield 19, 3) := by decide +kernel
theorem dX0_remove_9 : decode cX0_remove 9 = .ok (.if_icmp .ge 39, 3) := by decide +kernel
theorem dX0_remove_12 : decode cX0_remove 12 = .ok (.aload_n 0, 1) := by decide +kernel
theorem dX0_remove_13 : decode cX0_remove 13 = .ok (.getfield 9, 3) := by decide +kernel
theorem dX0_remove_16 : decode cX0_remove 16 = .ok (.aload_n 0, 1) := by decide +kernel
theorem dX0_remove_17 : decode cX0_remove 17 = .ok (.getfield 15, 3) := by decide +kernel
theorem dX0_remove_20 : decode cX0_remove 20 = .ok (.iload_n 2, 1) := by decide +kernel
theorem dX0_remove_21 : decode cX0_remove 21 = .ok (.iadd, 1) := by decide +kernel
theorem dX0_remove_22 : decode cX0_remove 22 = .ok (.iconst 1, 1) := by decide +kernel
theorem dX0_remove_23 : decode cX0_remove 23 = .ok (.isub, 1) := by decide +kernel
theorem dX0_remove_24 : decode cX0_remove 24 = .ok (.bipush 60, 2) := by decide +kernel
theorem dX0_remove_26 : decode cX0_remove 26 = .ok (.irem, 1) := by decide +kernel
theorem dX0_remove_27 : decode cX0_remove 27 = .ok (.aload_n 0, 1) := by decide +kernel
theorem dX0_remove_28 : decode cX0_remove 28 = .ok (.getfield 9, 3) := by decide +kernel
theorem dX0_remove_31 : decode cX0_remove 31 = .ok (.aload_n 0, 1) := by decide +kernel
theorem dX0_remove_32 : decode cX0_remove 32 = .ok (.getfield 15, 3) := by decide +kernel
theorem dX0_remove_35 : decode cX0_remove 35 = .ok (.iload_n 2, 1) := by decide +kernel
theorem dX0_remove_36 : decode cX0_remove 36 = .ok (.iadd, 1) := by decide +kernel
theorem dX0_remove_37 : decode cX0_remove 37 = .ok (.bipush 60, 2) := by decide +kernel
theorem dX0_remove_39 : decode cX0_remove 39 = .ok (.irem, 1) := by decide +kernel
theorem dX0_remove_40 : decode cX0_remove 40 = .ok (.iaload, 1) := by decide +kernel
theorem dX0_remove_41 : decode cX0_remove 41 = .ok (.iastore, 1) := by decide +kernel
theorem dX0_remove_42 : decode cX0_remove 42 = .ok (.iinc 2 1, 3) := by decide +kernel
theorem dX0_remove_45 : decode cX0_remove 45 = .ok (.goto (-41), 3) := by decide +kernel
theorem dX0_remove_48 : decode cX0_remove 48 = .ok (.aload_n 0, 1) := by decide +kernel
theorem dX0_remove_49 : decode cX0_remove 49 = .ok (.dup, 1) := by decide +kernel
theorem dX0_remove_50 : decode cX0_remove 50 = .ok (.getfield 19, 3) := by decide +kernel
theorem dX0_remove_53 : decode cX0_remove 53 = .ok (.iconst 1, 1) := by decide +kernel
theorem dX0_remove_54 : decode cX0_remove 54 = .ok (.isub, 1) := by decide +kernel
theorem dX0_remove_55 : decode cX0_remove 55 = .ok (.putfield 19, 3) := by decide +kernel
theorem dX0_remove_58 : decode cX0_remove 58 = .ok (.return_, 1) := by decide +kernel
abbrev rmX0_remove : Room := { frames := 0, cells := 0, slots := 0, locals := 0 }
set_option maxRecDepth 100000 in
theorem hinX0_remove_0 : ∀ w ∈ wsX00, w ∈ wsX0_remove := by decide +kernel
set_option maxHeartbeats 4000000 in
set_option maxRecDepth 100000 in
theorem tX0_remove_4b {h : AH} {a1 : Int32} {k4 : AH → Int32 → Option AH} {x2 : Int32} {h0 : AH} (C : Cx p rmX0_remove s m args meth c RX0 cX0_remove 3 none wsX0_remove D ad cy tb 0 0) (H4 : ∀ (h : AH) (x2 : Int32), k4 h x2 = some h0 → AW p l e rmX0_remove s m args below meth c 3 D ad cy 0 0 (Qv D ad cy below args s h0) 4 [(0, .ref (ad 11)), (1, .int a1), (2, .int x2)] [] h) (hf : fX0_remove_4b k4 a1 h x2 = some h0) : AW p l e rmX0_remove s m args below meth c 3 D ad cy 0 0 (Qv D ad cy below args s h0) 4 [(0, .ref (ad 11)), (1, .int a1), (2, .int x2)] [] h := by
  unfold fX0_remove_4b at hf
  refine aw_iload_n C dX0_remove_4 rfl 2 rfl ?_
  refine aw_aload_n C dX0_remove_5 rfl 0 rfl ?_
  refine aw_get C (kd_lt rfl (by decide)) (ce_0 rfl) rfl hinX0_remove_0 2 (by decide) rfl (by decide +kernel) rfl dX0_remove_6 ?_
  refine aw_icmp_ge (tgt := 48) C dX0_remove_9 (by decide) hf (fun hf => ?_) (fun hf => ?_)
  · refine aw_aload_n C dX0_remove_48 rfl 0 rfl ?_
    refine aw_dup C dX0_remove_49 rfl ?_
    refine aw_get C (kd_lt rfl (by decide)) (ce_0 rfl) rfl hinX0_remove_0 2 (by decide) rfl (by decide +kernel) rfl dX0_remove_50 ?_
    refine aw_iconst (v := 1) C dX0_remove_53 (by decide) ?_
    refine aw_isub C dX0_remove_54 ?_
    refine aw_put (ty := .int) C (kd_lt rfl (by decide)) (ce_0 rfl) rfl hinX0_remove_0 tyX0 tyX0_ok nmX0 2 (by decide) rfl (by decide +kernel) rfl (by decide +kernel) rfl rfl (Nat.le_of_ble_eq_true rfl) (cs_0_2 rfl) dX0_remove_55 ?_
    refine aw_nmH hf (fun h1 hf => ?_)
    exact aw_vret C dX0_remove_58 hf
  refine aw_aload_n C dX0_remove_12 rfl 0 rfl ?_
  refine aw_get C (kd_lt rfl (by decide)) (ce_0 rfl) rfl hinX0_remove_0 0 (by decide) rfl (by decide +kernel) rfl dX0_remove_13 ?_
  refine aw_aload_n C dX0_remove_16 rfl 0 rfl ?_
  refine aw_get C (kd_lt rfl (by decide)) (ce_0 rfl) rfl hinX0_remove_0 1 (by decide) rfl (by decide +kernel) rfl dX0_remove_17 ?_
  refine aw_iload_n C dX0_remove_20 rfl 2 rfl ?_
  refine aw_iadd C dX0_remove_21 ?_
  refine aw_iconst (v := 1) C dX0_remove_22 (by decide) ?_
  refine aw_isub C dX0_remove_23 ?_
  refine aw_bipush (v := 60) C dX0_remove_24 (by decide) ?_
  refine aw_nm2 hf (fun v2 hf => ?_)
  refine aw_irem C dX0_remove_26 (by decide) ?_
  refine aw_aload_n C dX0_remove_27 rfl 0 rfl ?_
  refine aw_get C (kd_lt rfl (by decide)) (ce_0 rfl) rfl hinX0_remove_0 0 (by decide) rfl (by decide +kernel) rfl dX0_remove_28 ?_
  refine aw_aload_n C dX0_remove_31 rfl 0 rfl ?_
  refine aw_get C (kd_lt rfl (by decide)) (ce_0 rfl) rfl hinX0_remove_0 1 (by decide) rfl (by decide +kernel) rfl dX0_remove_32 ?_
  refine aw_iload_n C dX0_remove_35 rfl 2 rfl ?_
  refine aw_iadd C dX0_remove_36 ?_
  refine aw_bipush (v := 60) C dX0_remove_37 (by decide) ?_
  refine aw_nm2 hf (fun v3 hf => ?_)
  refine aw_irem C dX0_remove_39 (by decide) ?_
  refine aw_nmI hf (fun v4 hf => ?_)
  refine aw_iald C rfl rfl hf dX0_remove_40 (fun hf => ?_)
  refine aw_nm2 hf (fun v5 hf => ?_)
  refine aw_iast C rfl rfl hf dX0_remove_41 (fun hf => ?_)
  refine aw_nmH hf (fun h6 hf => ?_)
  obtain ⟨v7, hvv7, hf⟩ := nm_ex hf
  refine aw_iinc (j := 2) (v := v7) (lv1 := [(2, .int v7), (0, .ref (ad 11)), (1, .int a1)]) C dX0_remove_42 rfl hvv7 (by decide) rfl ?_
  refine aw_goto (tgt := 4) C dX0_remove_45 (by decide) ?_
  refine aw_sub [1, 2, 0] rfl ?_
  exact H4 h6 v7 hf
set_option maxHeartbeats 4000000 in
set_option maxRecDepth 100000 in
theorem tX0_remove_4  {a1 : Int32} {h0 : AH} (C : Cx p rmX0_remove s m args meth c RX0 cX0_remove 3 none wsX0_remove D ad cy tb 0 0) : ∀ (n : Nat) (h : AH) (x2 : Int32), fX0_remove_4 a1 n h x2 = some h0 → AW p l e rmX0_remove s m args below meth c 3 D ad cy 0 0 (Qv D ad cy below args s h0) 4 [(0, .ref (ad 11)), (1, .int a1), (2, .int x2)] [] h := by
  intro n
  induction n with
  | zero => intro h x2 hf; cases hf
  | succ n ih => intro h x2 hf; exact tX0_remove_4b C  ih  hf
set_option maxHeartbeats 4000000 in
set_option maxRecDepth 100000 in
theorem tX0_remove_0 {h : AH} {a1 : Int32} {h0 : AH} (C : Cx p rmX0_remove s m args meth c RX0 cX0_remove 3 none wsX0_remove D ad cy tb 0 0) (hf : fX0_remove h a1 = some h0) : AW p l e rmX0_remove s m args below meth c 3 D ad cy 0 0 (Qv D ad cy below args s h0) 0 [(0, .ref (ad 11)), (1, .int a1)] [] h := by
  unfold fX0_remove at hf
  refine aw_iload_n C dX0_remove_0 rfl 1 rfl ?_
  refine aw_iconst (v := 1) C dX0_remove_1 (by decide) ?_
  refine aw_iadd C dX0_remove_2 ?_
  refine aw_nmI hf (fun v1 hf => ?_)
  refine aw_istore_n (lv1 := [(2, .int v1), (0, .ref (ad 11)), (1, .int a1)]) C dX0_remove_3 rfl (by decide) rfl ?_
  refine aw_sub [1, 2, 0] rfl ?_
  exact tX0_remove_4 C   FU h v1 hf
theorem kX0_remove {h : AH} {a1 : Int32} {h0 : AH} (hi : Inj ad) (hf : fX0_remove h a1 = some h0) : Kv l yX0_remove wsX0_remove rmX0_remove D ad cy tb [.ref (ad 11), .int a1] h h0 := met_v (lv := [(0, .ref (ad 11)), (1, .int a1)]) hi (by decide) rfl (Nat.le_of_ble_eq_true rfl) rfl rfl (fun _ _ _ _ _ _ _ _ C => tX0_remove_0 C  hf)
set_option maxRecDepth 20000 in
theorem ggX5_takeBack_X0_bitOfMend : GoodIn wsX5_takeBack wsX0_bitOfMend := goodIn_r _ [7, 8, 9, 32, 33, 34] (by decide +kernel) (by decide +kernel)
set_option maxRecDepth 20000 in
theorem gX5_takeBack_X0_bitOfMend : GoodIn wsX5_takeBack (wsV RX5 207 RX0 yX0_bitOfMend wsX0_bitOfMend) := goodIn_app (goodIn_of _ (by decide +kernel)) ggX5_takeBack_X0_bitOfMend
set_option maxRecDepth 20000 in
theorem ggX5_takeBack_X4_turnBit : GoodIn wsX5_takeBack wsX4_turnBit := goodIn_r _ [14, 15, 16, 17, 35, 36, 37] (by decide +kernel) (by decide +kernel)
set_option maxRecDepth 20000 in
theorem gX5_takeBack_X4_turnBit : GoodIn wsX5_takeBack (wsV RX5 176 RX4 yX4_turnBit wsX4_turnBit) := goodIn_app (goodIn_of _ (by decide +kernel)) ggX5_takeBack_X4_turnBit
set_option maxRecDepth 20000 in
theorem ggX5_takeBack_X0_remove : GoodIn wsX5_takeBack wsX0_remove := goodIn_r _ [21, 22, 8, 9, 32, 33, 34] (by decide +kernel) (by decide +kernel)
set_option maxRecDepth 20000 in
theorem gX5_takeBack_X0_remove : GoodIn wsX5_takeBack (wsV RX5 299 RX0 yX0_remove wsX0_remove) := goodIn_app (goodIn_of _ (by decide +kernel)) ggX5_takeBack_X0_remove
theorem dX5_takeBack_0 : decode cX5_takeBack 0 = .ok (.aload_n 0, 1) := by decide +kernel
theorem dX5_takeBack_1 : decode cX5_takeBack 1 = .ok (.getfield 12, 3) := by decide +kernel
theorem dX5_takeBack_4 : decode cX5_takeBack 4 = .ok (.aload_n 0, 1) := by decide +kernel
theorem dX5_takeBack_5 : decode cX5_takeBack 5 = .ok (.getfield 33, 3) := by decide +kernel
theorem dX5_takeBack_8 : decode cX5_takeBack 8 = .ok (.iload_n 1, 1) := by decide +kernel
theorem dX5_takeBack_9 : decode cX5_takeBack 9 = .ok (.invokevirtual 207, 3) := by decide +kernel
theorem dX5_takeBack_12 : decode cX5_takeBack 12 = .ok (.invokevirtual 176, 3) := by decide +kernel
theorem dX5_takeBack_15 : decode cX5_takeBack 15 = .ok (.aload_n 0, 1) := by decide +kernel
theorem dX5_takeBack_16 : decode cX5_takeBack 16 = .ok (.getfield 33, 3) := by decide +kernel
theorem dX5_takeBack_19 : decode cX5_takeBack 19 = .ok (.iload_n 1, 1) := by decide +kernel
theorem dX5_takeBack_20 : decode cX5_takeBack 20 = .ok (.invokevirtual 299, 3) := by decide +kernel
theorem dX5_takeBack_23 : decode cX5_takeBack 23 = .ok (.return_, 1) := by decide +kernel
abbrev rmX5_takeBack : Room := { frames := 1, cells := 0, slots := 0, locals := 24 }
set_option maxRecDepth 100000 in
theorem hinX5_takeBack_5 : ∀ w ∈ wsX50, w ∈ wsX5_takeBack := by decide +kernel
set_option maxHeartbeats 4000000 in
set_option maxRecDepth 100000 in
theorem tX5_takeBack_0 {h : AH} {a1 : Int32} {h0 : AH} (C : Cx p rmX5_takeBack s m args meth c RX5 cX5_takeBack 2 none wsX5_takeBack D ad cy tb 0 0) (hf : fX5_takeBack h a1 = some h0) : AW p l e rmX5_takeBack s m args below meth c 2 D ad cy 0 0 (Qv D ad cy below args s h0) 0 [(0, .ref (ad 0)), (1, .int a1)] [] h := by
  unfold fX5_takeBack at hf
  refine aw_aload_n C dX5_takeBack_0 rfl 0 rfl ?_
  refine aw_get C (kd_lt rfl (by decide)) (ce_5 rfl) rfl hinX5_takeBack_5 0 (by decide) rfl (by decide +kernel) rfl dX5_takeBack_1 ?_
  refine aw_aload_n C dX5_takeBack_4 rfl 0 rfl ?_
  refine aw_get C (kd_lt rfl (by decide)) (ce_5 rfl) rfl hinX5_takeBack_5 4 (by decide) rfl (by decide +kernel) rfl dX5_takeBack_5 ?_
  refine aw_iload_n C dX5_takeBack_8 rfl 1 rfl ?_
  obtain ⟨r1, hc, hf⟩ := bR_some hf
  refine aw_callVi (As := [.int a1]) (rest := [.ref (ad 1)]) C rfl (by decide) rfl (kX0_bitOfMend (l := l) (D := D) (ad := ad) (cy := cy) (tb := tb) C.2.2.2.2.2.2.2.2.1 hc) (fun ht _ => cwV 1 ht gX5_takeBack_X0_bitOfMend rfl rfl rfl (by decide +kernel) ⟨Nat.le_of_ble_eq_true rfl, Nat.le_of_ble_eq_true rfl⟩) rfl rfl (Nat.le_of_ble_eq_true rfl) dX5_takeBack_9 ?_
  obtain ⟨h2, hc, hf⟩ := bR_some hf
  refine aw_callVv (As := [.int r1]) (rest := []) C rfl (by decide) rfl (kX4_turnBit (l := l) (D := D) (ad := ad) (cy := cy) (tb := tb) C.2.2.2.2.2.2.2.2.1 rfl hc) (fun ht _ => cwV 1 ht gX5_takeBack_X4_turnBit rfl rfl rfl (by decide +kernel) ⟨Nat.le_of_ble_eq_true rfl, Nat.le_of_ble_eq_true rfl⟩) rfl rfl (Nat.le_of_ble_eq_true rfl) dX5_takeBack_12 ?_
  refine aw_aload_n C dX5_takeBack_15 rfl 0 rfl ?_
  refine aw_get C (kd_lt rfl (by decide)) (ce_5 rfl) rfl hinX5_takeBack_5 4 (by decide) rfl (by decide +kernel) rfl dX5_takeBack_16 ?_
  refine aw_iload_n C dX5_takeBack_19 rfl 1 rfl ?_
  obtain ⟨h3, hc, hf⟩ := bR_some hf
  refine aw_callVv (As := [.int a1]) (rest := []) C rfl (by decide) rfl (kX0_remove (l := l) (D := D) (ad := ad) (cy := cy) (tb := tb) C.2.2.2.2.2.2.2.2.1 hc) (fun ht _ => cwV 1 ht gX5_takeBack_X0_remove rfl rfl rfl (by decide +kernel) ⟨Nat.le_of_ble_eq_true rfl, Nat.le_of_ble_eq_true rfl⟩) rfl rfl (Nat.le_of_ble_eq_true rfl) dX5_takeBack_20 ?_
  exact aw_vret C dX5_takeBack_23 hf
theorem kX5_takeBack {h : AH} {a1 : Int32} {h0 : AH} (hi : Inj ad) (hf : fX5_takeBack h a1 = some h0) : Kv l yX5_takeBack wsX5_takeBack rmX5_takeBack D ad cy tb [.ref (ad 0), .int a1] h h0 := met_v (lv := [(0, .ref (ad 0)), (1, .int a1)]) hi (by decide) rfl (Nat.le_of_ble_eq_true rfl) rfl rfl (fun _ _ _ _ _ _ _ _ C => tX5_takeBack_0 C  hf)
set_option maxRecDepth 20000 in
theorem ggX5_undo_X5_takeBack : GoodIn wsX5_undo wsX5_takeBack := goodIn_r _ [6, 7, 1, 8, 9, 10, 11, 12, 13, 14, 15, 16, 17, 18, 19, 20, 21, 22, 23, 24, 25, 26, 27, 28, 29, 30, 31, 32, 33, 34, 35, 36, 37, 38, 39, 40, 41, 42] (by decide +kernel) (by decide +kernel)
set_option maxRecDepth 20000 in
theorem gX5_undo_X5_takeBack : GoodIn wsX5_undo (wsV RX5 204 RX5 yX5_takeBack wsX5_takeBack) := goodIn_app (goodIn_of _ (by decide +kernel)) ggX5_undo_X5_takeBack
theorem dX5_undo_0 : decode cX5_undo 0 = .ok (.aload_n 0, 1) := by decide +kernel
theorem dX5_undo_1 : decode cX5_undo 1 = .ok (.getfield 33, 3) := by decide +kernel
theorem dX5_undo_4 : decode cX5_undo 4 = .ok (.getfield 203, 3) := by decide +kernel
theorem dX5_undo_7 : decode cX5_undo 7 = .ok (.ifCond .ne 6, 3) := by decide +kernel
theorem dX5_undo_10 : decode cX5_undo 10 = .ok (.bipush (-3), 2) := by decide +kernel
theorem dX5_undo_12 : decode cX5_undo 12 = .ok (.ireturn, 1) := by decide +kernel
theorem dX5_undo_13 : decode cX5_undo 13 = .ok (.aload_n 0, 1) := by decide +kernel
theorem dX5_undo_14 : decode cX5_undo 14 = .ok (.aload_n 0, 1) := by decide +kernel
theorem dX5_undo_15 : decode cX5_undo 15 = .ok (.getfield 33, 3) := by decide +kernel
theorem dX5_undo_18 : decode cX5_undo 18 = .ok (.getfield 203, 3) := by decide +kernel
theorem dX5_undo_21 : decode cX5_undo 21 = .ok (.iconst 1, 1) := by decide +kernel
theorem dX5_undo_22 : decode cX5_undo 22 = .ok (.isub, 1) := by decide +kernel
theorem dX5_undo_23 : decode cX5_undo 23 = .ok (.invokevirtual 204, 3) := by decide +kernel
theorem dX5_undo_26 : decode cX5_undo 26 = .ok (.aload_n 0, 1) := by decide +kernel
theorem dX5_undo_27 : decode cX5_undo 27 = .ok (.getfield 33, 3) := by decide +kernel
theorem dX5_undo_30 : decode cX5_undo 30 = .ok (.getfield 203, 3) := by decide +kernel
theorem dX5_undo_33 : decode cX5_undo 33 = .ok (.ireturn, 1) := by decide +kernel
abbrev rmX5_undo : Room := { frames := 2, cells := 0, slots := 0, locals := 45 }
set_option maxRecDepth 100000 in
theorem hinX5_undo_5 : ∀ w ∈ wsX50, w ∈ wsX5_undo := by decide +kernel
set_option maxRecDepth 100000 in
theorem hinX5_undo_0 : ∀ w ∈ wsX00, w ∈ wsX5_undo := by decide +kernel
set_option maxHeartbeats 4000000 in
set_option maxRecDepth 100000 in
theorem tX5_undo_0 {h : AH} {r0 : Int32} {h0 : AH} (C : Cx p rmX5_undo s m args meth c RX5 cX5_undo 1 (some .int) wsX5_undo D ad cy tb 0 0) (hf : fX5_undo h = some (r0, h0)) : AW p l e rmX5_undo s m args below meth c 1 D ad cy 0 0 (Qi D ad cy below args s r0 h0) 0 [(0, .ref (ad 0))] [] h := by
  unfold fX5_undo at hf
  refine aw_aload_n C dX5_undo_0 rfl 0 rfl ?_
  refine aw_get C (kd_lt rfl (by decide)) (ce_5 rfl) rfl hinX5_undo_5 4 (by decide) rfl (by decide +kernel) rfl dX5_undo_1 ?_
  refine aw_getN (host := "StairCodes") C (kd_lt rfl (by decide)) (ce_0 rfl) rfl hinX5_undo_0 2 (by decide) rfl (by decide +kernel) rfl dX5_undo_4 ?_
  refine aw_if_ne (tgt := 13) C dX5_undo_7 (by decide) hf (fun hf => ?_) (fun hf => ?_)
  · refine aw_aload_n C dX5_undo_13 rfl 0 rfl ?_
    refine aw_aload_n C dX5_undo_14 rfl 0 rfl ?_
    refine aw_get C (kd_lt rfl (by decide)) (ce_5 rfl) rfl hinX5_undo_5 4 (by decide) rfl (by decide +kernel) rfl dX5_undo_15 ?_
    refine aw_getN (host := "StairCodes") C (kd_lt rfl (by decide)) (ce_0 rfl) rfl hinX5_undo_0 2 (by decide) rfl (by decide +kernel) rfl dX5_undo_18 ?_
    refine aw_iconst (v := 1) C dX5_undo_21 (by decide) ?_
    refine aw_isub C dX5_undo_22 ?_
    obtain ⟨h1, hc, hf⟩ := bR_some hf
    refine aw_callVv (As := [.int ((h.1 11 2) - 1)]) (rest := []) C rfl (by decide) rfl (kX5_takeBack (l := l) (D := D) (ad := ad) (cy := cy) (tb := tb) C.2.2.2.2.2.2.2.2.1 hc) (fun ht _ => cwV 1 ht gX5_undo_X5_takeBack rfl rfl rfl (by decide +kernel) ⟨Nat.le_of_ble_eq_true rfl, Nat.le_of_ble_eq_true rfl⟩) rfl rfl (Nat.le_of_ble_eq_true rfl) dX5_undo_23 ?_
    refine aw_aload_n C dX5_undo_26 rfl 0 rfl ?_
    refine aw_get C (kd_lt rfl (by decide)) (ce_5 rfl) rfl hinX5_undo_5 4 (by decide) rfl (by decide +kernel) rfl dX5_undo_27 ?_
    refine aw_getN (host := "StairCodes") C (kd_lt rfl (by decide)) (ce_0 rfl) rfl hinX5_undo_0 2 (by decide) rfl (by decide +kernel) rfl dX5_undo_30 ?_
    exact aw_iretW C dX5_undo_33 hf
  refine aw_bipush (v := (-3)) C dX5_undo_10 (by decide) ?_
  exact aw_iretW C dX5_undo_12 hf
theorem kX5_undo {h : AH} {r0 : Int32} {h0 : AH} (hi : Inj ad) (hf : fX5_undo h = some (r0, h0)) : Ki l yX5_undo wsX5_undo rmX5_undo D ad cy tb [.ref (ad 0)] h r0 h0 := met_i (lv := [(0, .ref (ad 0))]) hi (by decide) rfl (Nat.le_of_ble_eq_true rfl) rfl rfl (fun _ _ _ _ _ _ _ _ C => tX5_undo_0 C  hf)
theorem dX6_undo_0 : decode cX6_undo 0 = .ok (.aload_n 0, 1) := by decide +kernel
theorem dX6_undo_1 : decode cX6_undo 1 = .ok (.getfield 85, 3) := by decide +kernel
theorem dX6_undo_4 : decode cX6_undo 4 = .ok (.ifCond .ne 6, 3) := by decide +kernel
theorem dX6_undo_7 : decode cX6_undo 7 = .ok (.bipush (-3), 2) := by decide +kernel
theorem dX6_undo_9 : decode cX6_undo 9 = .ok (.ireturn, 1) := by decide +kernel
theorem dX6_undo_10 : decode cX6_undo 10 = .ok (.aload_n 0, 1) := by decide +kernel
theorem dX6_undo_11 : decode cX6_undo 11 = .ok (.dup, 1) := by decide +kernel
theorem dX6_undo_12 : decode cX6_undo 12 = .ok (.getfield 85, 3) := by decide +kernel
theorem dX6_undo_15 : decode cX6_undo 15 = .ok (.iconst 1, 1) := by decide +kernel
theorem dX6_undo_16 : decode cX6_undo 16 = .ok (.isub, 1) := by decide +kernel
theorem dX6_undo_17 : decode cX6_undo 17 = .ok (.putfield 85, 3) := by decide +kernel
theorem dX6_undo_20 : decode cX6_undo 20 = .ok (.aload_n 0, 1) := by decide +kernel
theorem dX6_undo_21 : decode cX6_undo 21 = .ok (.getfield 21, 3) := by decide +kernel
theorem dX6_undo_24 : decode cX6_undo 24 = .ok (.aload_n 0, 1) := by decide +kernel
theorem dX6_undo_25 : decode cX6_undo 25 = .ok (.getfield 27, 3) := by decide +kernel
theorem dX6_undo_28 : decode cX6_undo 28 = .ok (.aload_n 0, 1) := by decide +kernel
theorem dX6_undo_29 : decode cX6_undo 29 = .ok (.getfield 85, 3) := by decide +kernel
theorem dX6_undo_32 : decode cX6_undo 32 = .ok (.iaload, 1) := by decide +kernel
theorem dX6_undo_33 : decode cX6_undo 33 = .ok (.aload_n 0, 1) := by decide +kernel
theorem dX6_undo_34 : decode cX6_undo 34 = .ok (.getfield 21, 3) := by decide +kernel
theorem dX6_undo_37 : decode cX6_undo 37 = .ok (.aload_n 0, 1) := by decide +kernel
theorem dX6_undo_38 : decode cX6_undo 38 = .ok (.getfield 27, 3) := by decide +kernel
theorem dX6_undo_41 : decode cX6_undo 41 = .ok (.aload_n 0, 1) := by decide +kernel
theorem dX6_undo_42 : decode cX6_undo 42 = .ok (.getfield 85, 3) := by decide +kernel
theorem dX6_undo_45 : decode cX6_undo 45 = .ok (.iaload, 1) := by decide +kernel
theorem dX6_undo_46 : decode cX6_undo 46 = .ok (.baload, 1) := by decide +kernel
theorem dX6_undo_47 : decode cX6_undo 47 = .ok (.ifCond .ne 7, 3) := by decide +kernel
theorem dX6_undo_50 : decode cX6_undo 50 = .ok (.iconst 1, 1) := by decide +kernel
theorem dX6_undo_51 : decode cX6_undo 51 = .ok (.goto 4, 3) := by decide +kernel
theorem dX6_undo_54 : decode cX6_undo 54 = .ok (.iconst 0, 1) := by decide +kernel
theorem dX6_undo_55 : decode cX6_undo 55 = .ok (.bastore, 1) := by decide +kernel
theorem dX6_undo_56 : decode cX6_undo 56 = .ok (.aload_n 0, 1) := by decide +kernel
theorem dX6_undo_57 : decode cX6_undo 57 = .ok (.getfield 85, 3) := by decide +kernel
theorem dX6_undo_60 : decode cX6_undo 60 = .ok (.ireturn, 1) := by decide +kernel
abbrev rmX6_undo : Room := { frames := 0, cells := 0, slots := 0, locals := 0 }
set_option maxRecDepth 100000 in
theorem hinX6_undo_6 : ∀ w ∈ wsX60, w ∈ wsX6_undo := by decide +kernel
set_option maxHeartbeats 4000000 in
set_option maxRecDepth 100000 in
theorem tX6_undo_55 {h : AH} {s1 : Int32} {s2 : Int32} {r0 : Int32} {h0 : AH} (C : Cx p rmX6_undo s m args meth c RX6 cX6_undo 1 (some .int) wsX6_undo D ad cy tb 0 0) (hf : fX6_undo_55 h s1 s2 = some (r0, h0)) : AW p l e rmX6_undo s m args below meth c 1 D ad cy 0 0 (Qi D ad cy below args s r0 h0) 55 [(0, .ref (ad 29))] [.int s2, .int s1, .ref (ad 32)] h := by
  unfold fX6_undo_55 at hf
  refine aw_zast C rfl rfl hf dX6_undo_55 (fun hf => ?_)
  refine aw_nmH hf (fun h1 hf => ?_)
  refine aw_aload_n C dX6_undo_56 rfl 0 rfl ?_
  refine aw_get C (kd_lt rfl (by decide)) (ce_6 rfl) rfl hinX6_undo_6 7 (by decide) rfl (by decide +kernel) rfl dX6_undo_57 ?_
  exact aw_iretW C dX6_undo_60 hf
set_option maxHeartbeats 4000000 in
set_option maxRecDepth 100000 in
theorem tX6_undo_0 {h : AH} {r0 : Int32} {h0 : AH} (C : Cx p rmX6_undo s m args meth c RX6 cX6_undo 1 (some .int) wsX6_undo D ad cy tb 0 0) (hf : fX6_undo h = some (r0, h0)) : AW p l e rmX6_undo s m args below meth c 1 D ad cy 0 0 (Qi D ad cy below args s r0 h0) 0 [(0, .ref (ad 29))] [] h := by
  unfold fX6_undo at hf
  refine aw_aload_n C dX6_undo_0 rfl 0 rfl ?_
  refine aw_get C (kd_lt rfl (by decide)) (ce_6 rfl) rfl hinX6_undo_6 7 (by decide) rfl (by decide +kernel) rfl dX6_undo_1 ?_
  refine aw_if_ne (tgt := 10) C dX6_undo_4 (by decide) hf (fun hf => ?_) (fun hf => ?_)
  · refine aw_aload_n C dX6_undo_10 rfl 0 rfl ?_
    refine aw_dup C dX6_undo_11 rfl ?_
    refine aw_get C (kd_lt rfl (by decide)) (ce_6 rfl) rfl hinX6_undo_6 7 (by decide) rfl (by decide +kernel) rfl dX6_undo_12 ?_
    refine aw_iconst (v := 1) C dX6_undo_15 (by decide) ?_
    refine aw_isub C dX6_undo_16 ?_
    refine aw_put (ty := .int) C (kd_lt rfl (by decide)) (ce_6 rfl) rfl hinX6_undo_6 tyX6 tyX6_ok nmX6 7 (by decide) rfl (by decide +kernel) rfl (by decide +kernel) rfl rfl (Nat.le_of_ble_eq_true rfl) (cs_6_7 rfl) dX6_undo_17 ?_
    refine aw_nmH hf (fun h1 hf => ?_)
    refine aw_aload_n C dX6_undo_20 rfl 0 rfl ?_
    refine aw_get C (kd_lt rfl (by decide)) (ce_6 rfl) rfl hinX6_undo_6 4 (by decide) rfl (by decide +kernel) rfl dX6_undo_21 ?_
    refine aw_aload_n C dX6_undo_24 rfl 0 rfl ?_
    refine aw_get C (kd_lt rfl (by decide)) (ce_6 rfl) rfl hinX6_undo_6 6 (by decide) rfl (by decide +kernel) rfl dX6_undo_25 ?_
    refine aw_aload_n C dX6_undo_28 rfl 0 rfl ?_
    refine aw_get C (kd_lt rfl (by decide)) (ce_6 rfl) rfl hinX6_undo_6 7 (by decide) rfl (by decide +kernel) rfl dX6_undo_29 ?_
    refine aw_nmI hf (fun v2 hf => ?_)
    refine aw_iald C rfl rfl hf dX6_undo_32 (fun hf => ?_)
    refine aw_aload_n C dX6_undo_33 rfl 0 rfl ?_
    refine aw_get C (kd_lt rfl (by decide)) (ce_6 rfl) rfl hinX6_undo_6 4 (by decide) rfl (by decide +kernel) rfl dX6_undo_34 ?_
    refine aw_aload_n C dX6_undo_37 rfl 0 rfl ?_
    refine aw_get C (kd_lt rfl (by decide)) (ce_6 rfl) rfl hinX6_undo_6 6 (by decide) rfl (by decide +kernel) rfl dX6_undo_38 ?_
    refine aw_aload_n C dX6_undo_41 rfl 0 rfl ?_
    refine aw_get C (kd_lt rfl (by decide)) (ce_6 rfl) rfl hinX6_undo_6 7 (by decide) rfl (by decide +kernel) rfl dX6_undo_42 ?_
    refine aw_nmI hf (fun v3 hf => ?_)
    refine aw_iald C rfl rfl hf dX6_undo_45 (fun hf => ?_)
    refine aw_nmI hf (fun v4 hf => ?_)
    refine aw_zald C rfl rfl hf dX6_undo_46 (fun hf => ?_)
    refine aw_if_ne (tgt := 54) C dX6_undo_47 (by decide) hf (fun hf => ?_) (fun hf => ?_)
    · refine aw_iconst (v := 0) C dX6_undo_54 (by decide) ?_
      refine aw_sub [0] rfl ?_
      exact tX6_undo_55 C   hf
    refine aw_iconst (v := 1) C dX6_undo_50 (by decide) ?_
    refine aw_goto (tgt := 55) C dX6_undo_51 (by decide) ?_
    refine aw_sub [0] rfl ?_
    exact tX6_undo_55 C   hf
  refine aw_bipush (v := (-3)) C dX6_undo_7 (by decide) ?_
  exact aw_iretW C dX6_undo_9 hf
theorem kX6_undo {h : AH} {r0 : Int32} {h0 : AH} (hi : Inj ad) (hf : fX6_undo h = some (r0, h0)) : Ki l yX6_undo wsX6_undo rmX6_undo D ad cy tb [.ref (ad 29)] h r0 h0 := met_i (lv := [(0, .ref (ad 29))]) hi (by decide) rfl (Nat.le_of_ble_eq_true rfl) rfl rfl (fun _ _ _ _ _ _ _ _ C => tX6_undo_0 C  hf)
set_option maxRecDepth 20000 in
theorem ggX4_hasSoundWord_X4_isSound : GoodIn wsX4_hasSoundWord wsX4_isSound := goodIn_r _ [6, 7, 8, 9, 10] (by decide +kernel) (by decide +kernel)
set_option maxRecDepth 20000 in
theorem gX4_hasSoundWord_X4_isSound : GoodIn wsX4_hasSoundWord (wsV RX4 45 RX4 yX4_isSound wsX4_isSound) := goodIn_app (goodIn_of _ (by decide +kernel)) ggX4_hasSoundWord_X4_isSound
theorem dX4_hasSoundWord_0 : decode cX4_hasSoundWord 0 = .ok (.iload_n 1, 1) := by decide +kernel
theorem dX4_hasSoundWord_1 : decode cX4_hasSoundWord 1 = .ok (.bipush 6, 2) := by decide +kernel
theorem dX4_hasSoundWord_3 : decode cX4_hasSoundWord 3 = .ok (.ishr, 1) := by decide +kernel
theorem dX4_hasSoundWord_4 : decode cX4_hasSoundWord 4 = .ok (.istore_n 2, 1) := by decide +kernel
theorem dX4_hasSoundWord_5 : decode cX4_hasSoundWord 5 = .ok (.aload_n 0, 1) := by decide +kernel
theorem dX4_hasSoundWord_6 : decode cX4_hasSoundWord 6 = .ok (.iload_n 1, 1) := by decide +kernel
theorem dX4_hasSoundWord_7 : decode cX4_hasSoundWord 7 = .ok (.iconst 3, 1) := by decide +kernel
theorem dX4_hasSoundWord_8 : decode cX4_hasSoundWord 8 = .ok (.ishr, 1) := by decide +kernel
theorem dX4_hasSoundWord_9 : decode cX4_hasSoundWord 9 = .ok (.invokevirtual 45, 3) := by decide +kernel
theorem dX4_hasSoundWord_12 : decode cX4_hasSoundWord 12 = .ok (.ifCond .ne 29, 3) := by decide +kernel
theorem dX4_hasSoundWord_15 : decode cX4_hasSoundWord 15 = .ok (.iload_n 2, 1) := by decide +kernel
theorem dX4_hasSoundWord_16 : decode cX4_hasSoundWord 16 = .ok (.aload_n 0, 1) := by decide +kernel
theorem dX4_hasSoundWord_17 : decode cX4_hasSoundWord 17 = .ok (.getfield 9, 3) := by decide +kernel
theorem dX4_hasSoundWord_20 : decode cX4_hasSoundWord 20 = .ok (.if_icmp .ge 25, 3) := by decide +kernel
theorem dX4_hasSoundWord_23 : decode cX4_hasSoundWord 23 = .ok (.aload_n 0, 1) := by decide +kernel
theorem dX4_hasSoundWord_24 : decode cX4_hasSoundWord 24 = .ok (.bipush 8, 2) := by decide +kernel
theorem dX4_hasSoundWord_26 : decode cX4_hasSoundWord 26 = .ok (.iload_n 2, 1) := by decide +kernel
theorem dX4_hasSoundWord_27 : decode cX4_hasSoundWord 27 = .ok (.iconst 1, 1) := by decide +kernel
theorem dX4_hasSoundWord_28 : decode cX4_hasSoundWord 28 = .ok (.iadd, 1) := by decide +kernel
theorem dX4_hasSoundWord_29 : decode cX4_hasSoundWord 29 = .ok (.imul, 1) := by decide +kernel
theorem dX4_hasSoundWord_30 : decode cX4_hasSoundWord 30 = .ok (.iload_n 1, 1) := by decide +kernel
theorem dX4_hasSoundWord_31 : decode cX4_hasSoundWord 31 = .ok (.bipush 7, 2) := by decide +kernel
theorem dX4_hasSoundWord_33 : decode cX4_hasSoundWord 33 = .ok (.iand, 1) := by decide +kernel
theorem dX4_hasSoundWord_34 : decode cX4_hasSoundWord 34 = .ok (.iadd, 1) := by decide +kernel
theorem dX4_hasSoundWord_35 : decode cX4_hasSoundWord 35 = .ok (.invokevirtual 45, 3) := by decide +kernel
theorem dX4_hasSoundWord_38 : decode cX4_hasSoundWord 38 = .ok (.ifCond .eq 7, 3) := by decide +kernel
theorem dX4_hasSoundWord_41 : decode cX4_hasSoundWord 41 = .ok (.iconst 1, 1) := by decide +kernel
theorem dX4_hasSoundWord_42 : decode cX4_hasSoundWord 42 = .ok (.goto 4, 3) := by decide +kernel
theorem dX4_hasSoundWord_45 : decode cX4_hasSoundWord 45 = .ok (.iconst 0, 1) := by decide +kernel
theorem dX4_hasSoundWord_46 : decode cX4_hasSoundWord 46 = .ok (.ireturn, 1) := by decide +kernel
abbrev rmX4_hasSoundWord : Room := { frames := 1, cells := 0, slots := 0, locals := 21 }
set_option maxRecDepth 100000 in
theorem hinX4_hasSoundWord_4 : ∀ w ∈ wsX40, w ∈ wsX4_hasSoundWord := by decide +kernel
set_option maxHeartbeats 4000000 in
set_option maxRecDepth 100000 in
theorem tX4_hasSoundWord_0 {h : AH} {a0 : Nat} {a1 : Int32} {r0 : Int32} (C : Cx p rmX4_hasSoundWord s m args meth c RX4 cX4_hasSoundWord 3 (some .boolean) wsX4_hasSoundWord D ad cy tb 0 0) (hk0 : kd a0 = 4) (hf : fX4_hasSoundWord h a0 a1 = some r0) : AW p l e rmX4_hasSoundWord s m args below meth c 3 D ad cy 0 0 (Qi D ad cy below args s r0 h) 0 [(0, .ref (ad a0)), (1, .int a1)] [] h := by
  unfold fX4_hasSoundWord at hf
  refine aw_iload_n C dX4_hasSoundWord_0 rfl 1 rfl ?_
  refine aw_bipush (v := 6) C dX4_hasSoundWord_1 (by decide) ?_
  refine aw_ishr C dX4_hasSoundWord_3 ?_
  refine aw_nmI hf (fun v1 hf => ?_)
  refine aw_istore_n (lv1 := [(2, .int v1), (0, .ref (ad a0)), (1, .int a1)]) C dX4_hasSoundWord_4 rfl (by decide) rfl ?_
  refine aw_aload_n C dX4_hasSoundWord_5 rfl 1 rfl ?_
  refine aw_iload_n C dX4_hasSoundWord_6 rfl 2 rfl ?_
  refine aw_iconst (v := 3) C dX4_hasSoundWord_7 (by decide) ?_
  refine aw_ishr C dX4_hasSoundWord_8 ?_
  obtain ⟨r2, hc, hf⟩ := bR_some hf
  refine aw_callVi (As := [.int (a1 >>> ((3 : Int32) &&& 31))]) (rest := []) C hk0 (by decide) rfl (kX4_isSound (l := l) (D := D) (ad := ad) (cy := cy) (tb := tb) C.2.2.2.2.2.2.2.2.1 hk0 hc) (fun ht _ => cwV 1 ht gX4_hasSoundWord_X4_isSound rfl rfl rfl (by decide +kernel) ⟨Nat.le_of_ble_eq_true rfl, Nat.le_of_ble_eq_true rfl⟩) rfl rfl (Nat.le_of_ble_eq_true rfl) dX4_hasSoundWord_9 ?_
  refine aw_if_ne (tgt := 41) C dX4_hasSoundWord_12 (by decide) hf (fun hf => ?_) (fun hf => ?_)
  · refine aw_iconst (v := 1) C dX4_hasSoundWord_41 (by decide) ?_
    refine aw_goto (tgt := 46) C dX4_hasSoundWord_42 (by decide) ?_
    exact aw_zretR C (by decide) dX4_hasSoundWord_46 hf
  refine aw_iload_n C dX4_hasSoundWord_15 rfl 0 rfl ?_
  refine aw_aload_n C dX4_hasSoundWord_16 rfl 1 rfl ?_
  refine aw_get C (kd_lt hk0 (by decide)) (ce_4 hk0) rfl hinX4_hasSoundWord_4 0 (by decide) rfl (by decide +kernel) rfl dX4_hasSoundWord_17 ?_
  refine aw_icmp_ge (tgt := 45) C dX4_hasSoundWord_20 (by decide) hf (fun hf => ?_) (fun hf => ?_)
  · refine aw_iconst (v := 0) C dX4_hasSoundWord_45 (by decide) ?_
    exact aw_zretR C (by decide) dX4_hasSoundWord_46 hf
  refine aw_aload_n C dX4_hasSoundWord_23 rfl 1 rfl ?_
  refine aw_bipush (v := 8) C dX4_hasSoundWord_24 (by decide) ?_
  refine aw_iload_n C dX4_hasSoundWord_26 rfl 0 rfl ?_
  refine aw_iconst (v := 1) C dX4_hasSoundWord_27 (by decide) ?_
  refine aw_iadd C dX4_hasSoundWord_28 ?_
  refine aw_imul C dX4_hasSoundWord_29 ?_
  refine aw_iload_n C dX4_hasSoundWord_30 rfl 2 rfl ?_
  refine aw_bipush (v := 7) C dX4_hasSoundWord_31 (by decide) ?_
  refine aw_iand C dX4_hasSoundWord_33 ?_
  refine aw_iadd C dX4_hasSoundWord_34 ?_
  obtain ⟨r3, hc, hf⟩ := bR_some hf
  refine aw_callVi (As := [.int ((8 * (v1 + 1)) + (a1 &&& 7))]) (rest := []) C hk0 (by decide) rfl (kX4_isSound (l := l) (D := D) (ad := ad) (cy := cy) (tb := tb) C.2.2.2.2.2.2.2.2.1 hk0 hc) (fun ht _ => cwV 1 ht gX4_hasSoundWord_X4_isSound rfl rfl rfl (by decide +kernel) ⟨Nat.le_of_ble_eq_true rfl, Nat.le_of_ble_eq_true rfl⟩) rfl rfl (Nat.le_of_ble_eq_true rfl) dX4_hasSoundWord_35 ?_
  refine aw_if_eq (tgt := 45) C dX4_hasSoundWord_38 (by decide) hf (fun hf => ?_) (fun hf => ?_)
  · refine aw_iconst (v := 0) C dX4_hasSoundWord_45 (by decide) ?_
    exact aw_zretR C (by decide) dX4_hasSoundWord_46 hf
  refine aw_iconst (v := 1) C dX4_hasSoundWord_41 (by decide) ?_
  refine aw_goto (tgt := 46) C dX4_hasSoundWord_42 (by decide) ?_
  exact aw_zretR C (by decide) dX4_hasSoundWord_46 hf
theorem kX4_hasSoundWord {h : AH} {a0 : Nat} {a1 : Int32} {r0 : Int32} (hi : Inj ad) (hk0 : kd a0 = 4) (hf : fX4_hasSoundWord h a0 a1 = some r0) : Ki l yX4_hasSoundWord wsX4_hasSoundWord rmX4_hasSoundWord D ad cy tb [.ref (ad a0), .int a1] h r0 h := met_i (lv := [(0, .ref (ad a0)), (1, .int a1)]) hi (by decide) rfl (Nat.le_of_ble_eq_true rfl) rfl rfl (fun _ _ _ _ _ _ _ _ C => tX4_hasSoundWord_0 C hk0 hf)
set_option maxRecDepth 20000 in
theorem ggX5_back_X0_bitOfMend : GoodIn wsX5_back wsX0_bitOfMend := goodIn_r _ [7, 8, 9, 45, 46, 47] (by decide +kernel) (by decide +kernel)
set_option maxRecDepth 20000 in
theorem gX5_back_X0_bitOfMend : GoodIn wsX5_back (wsV RX5 207 RX0 yX0_bitOfMend wsX0_bitOfMend) := goodIn_app (goodIn_of _ (by decide +kernel)) ggX5_back_X0_bitOfMend
set_option maxRecDepth 20000 in
theorem ggX5_back_X4_hasSoundWord : GoodIn wsX5_back wsX4_hasSoundWord := goodIn_r _ [14, 15, 16, 17, 18, 13, 19, 20, 48, 49, 50] (by decide +kernel) (by decide +kernel)
set_option maxRecDepth 20000 in
theorem gX5_back_X4_hasSoundWord : GoodIn wsX5_back (wsV RX5 210 RX4 yX4_hasSoundWord wsX4_hasSoundWord) := goodIn_app (goodIn_of _ (by decide +kernel)) ggX5_back_X4_hasSoundWord
set_option maxRecDepth 20000 in
theorem ggX5_back_X5_takeBack : GoodIn wsX5_back wsX5_takeBack := goodIn_r _ [25, 2, 1, 3, 4, 5, 6, 7, 8, 9, 26, 27, 28, 13, 29, 30, 20, 15, 31, 32, 33, 34, 35, 36, 37, 38, 39, 40, 41, 42, 43, 44, 45, 46, 47, 48, 49, 50] (by decide +kernel) (by decide +kernel)
set_option maxRecDepth 20000 in
theorem gX5_back_X5_takeBack : GoodIn wsX5_back (wsV RX5 204 RX5 yX5_takeBack wsX5_takeBack) := goodIn_app (goodIn_of _ (by decide +kernel)) ggX5_back_X5_takeBack
theorem dX5_back_0 : decode cX5_back 0 = .ok (.iconst 0, 1) := by decide +kernel
theorem dX5_back_1 : decode cX5_back 1 = .ok (.istore_n 1, 1) := by decide +kernel
theorem dX5_back_2 : decode cX5_back 2 = .ok (.aload_n 0, 1) := by decide +kernel
theorem dX5_back_3 : decode cX5_back 3 = .ok (.getfield 33, 3) := by decide +kernel
theorem dX5_back_6 : decode cX5_back 6 = .ok (.getfield 203, 3) := by decide +kernel
theorem dX5_back_9 : decode cX5_back 9 = .ok (.iconst 1, 1) := by decide +kernel
theorem dX5_back_10 : decode cX5_back 10 = .ok (.isub, 1) := by decide +kernel
theorem dX5_back_11 : decode cX5_back 11 = .ok (.istore_n 2, 1) := by decide +kernel
theorem dX5_back_12 : decode cX5_back 12 = .ok (.iload_n 2, 1) := by decide +kernel
theorem dX5_back_13 : decode cX5_back 13 = .ok (.ifCond .lt 35, 3) := by decide +kernel
theorem dX5_back_16 : decode cX5_back 16 = .ok (.aload_n 0, 1) := by decide +kernel
theorem dX5_back_17 : decode cX5_back 17 = .ok (.getfield 12, 3) := by decide +kernel
theorem dX5_back_20 : decode cX5_back 20 = .ok (.aload_n 0, 1) := by decide +kernel
theorem dX5_back_21 : decode cX5_back 21 = .ok (.getfield 33, 3) := by decide +kernel
theorem dX5_back_24 : decode cX5_back 24 = .ok (.iload_n 2, 1) := by decide +kernel
theorem dX5_back_25 : decode cX5_back 25 = .ok (.invokevirtual 207, 3) := by decide +kernel
theorem dX5_back_28 : decode cX5_back 28 = .ok (.invokevirtual 210, 3) := by decide +kernel
theorem dX5_back_31 : decode cX5_back 31 = .ok (.ifCond .ne 11, 3) := by decide +kernel
theorem dX5_back_34 : decode cX5_back 34 = .ok (.aload_n 0, 1) := by decide +kernel
theorem dX5_back_35 : decode cX5_back 35 = .ok (.iload_n 2, 1) := by decide +kernel
theorem dX5_back_36 : decode cX5_back 36 = .ok (.invokevirtual 204, 3) := by decide +kernel
theorem dX5_back_39 : decode cX5_back 39 = .ok (.iinc 1 1, 3) := by decide +kernel
theorem dX5_back_42 : decode cX5_back 42 = .ok (.iinc 2 (-1), 3) := by decide +kernel
theorem dX5_back_45 : decode cX5_back 45 = .ok (.goto (-33), 3) := by decide +kernel
theorem dX5_back_48 : decode cX5_back 48 = .ok (.iload_n 1, 1) := by decide +kernel
theorem dX5_back_49 : decode cX5_back 49 = .ok (.ireturn, 1) := by decide +kernel
abbrev rmX5_back : Room := { frames := 2, cells := 0, slots := 0, locals := 45 }
set_option maxRecDepth 100000 in
theorem hinX5_back_5 : ∀ w ∈ wsX50, w ∈ wsX5_back := by decide +kernel
set_option maxRecDepth 100000 in
theorem hinX5_back_0 : ∀ w ∈ wsX00, w ∈ wsX5_back := by decide +kernel
set_option maxHeartbeats 4000000 in
set_option maxRecDepth 100000 in
theorem tX5_back_42 {h : AH} {k12 : AH → Int32 → Int32 → Option (Int32 × AH)} {x1 : Int32} {x2 : Int32} {r0 : Int32} {h0 : AH} (C : Cx p rmX5_back s m args meth c RX5 cX5_back 3 (some .int) wsX5_back D ad cy tb 0 0) (H12 : ∀ (h : AH) (x1 : Int32) (x2 : Int32), k12 h x1 x2 = some (r0, h0) → AW p l e rmX5_back s m args below meth c 3 D ad cy 0 0 (Qi D ad cy below args s r0 h0) 12 [(0, .ref (ad 0)), (1, .int x1), (2, .int x2)] [] h) (hf : fX5_back_42 k12 h x1 x2 = some (r0, h0)) : AW p l e rmX5_back s m args below meth c 3 D ad cy 0 0 (Qi D ad cy below args s r0 h0) 42 [(0, .ref (ad 0)), (1, .int x1), (2, .int x2)] [] h := by
  unfold fX5_back_42 at hf
  obtain ⟨v1, hvv1, hf⟩ := nm_ex hf
  refine aw_iinc (j := 2) (v := v1) (lv1 := [(2, .int v1), (0, .ref (ad 0)), (1, .int x1)]) C dX5_back_42 rfl hvv1 (by decide) rfl ?_
  refine aw_goto (tgt := 12) C dX5_back_45 (by decide) ?_
  refine aw_sub [1, 2, 0] rfl ?_
  exact H12 h x1 v1 hf
set_option maxHeartbeats 4000000 in
set_option maxRecDepth 100000 in
theorem tX5_back_12b {h : AH} {k12 : AH → Int32 → Int32 → Option (Int32 × AH)} {x1 : Int32} {x2 : Int32} {r0 : Int32} {h0 : AH} (C : Cx p rmX5_back s m args meth c RX5 cX5_back 3 (some .int) wsX5_back D ad cy tb 0 0) (H12 : ∀ (h : AH) (x1 : Int32) (x2 : Int32), k12 h x1 x2 = some (r0, h0) → AW p l e rmX5_back s m args below meth c 3 D ad cy 0 0 (Qi D ad cy below args s r0 h0) 12 [(0, .ref (ad 0)), (1, .int x1), (2, .int x2)] [] h) (hf : fX5_back_12b k12 h x1 x2 = some (r0, h0)) : AW p l e rmX5_back s m args below meth c 3 D ad cy 0 0 (Qi D ad cy below args s r0 h0) 12 [(0, .ref (ad 0)), (1, .int x1), (2, .int x2)] [] h := by
  unfold fX5_back_12b at hf
  refine aw_iload_n C dX5_back_12 rfl 2 rfl ?_
  refine aw_if_lt (tgt := 48) C dX5_back_13 (by decide) hf (fun hf => ?_) (fun hf => ?_)
  · refine aw_iload_n C dX5_back_48 rfl 1 rfl ?_
    exact aw_iretW C dX5_back_49 hf
  refine aw_aload_n C dX5_back_16 rfl 0 rfl ?_
  refine aw_get C (kd_lt rfl (by decide)) (ce_5 rfl) rfl hinX5_back_5 0 (by decide) rfl (by decide +kernel) rfl dX5_back_17 ?_
  refine aw_aload_n C dX5_back_20 rfl 0 rfl ?_
  refine aw_get C (kd_lt rfl (by decide)) (ce_5 rfl) rfl hinX5_back_5 4 (by decide) rfl (by decide +kernel) rfl dX5_back_21 ?_
  refine aw_iload_n C dX5_back_24 rfl 2 rfl ?_
  obtain ⟨r1, hc, hf⟩ := bR_some hf
  refine aw_callVi (As := [.int x2]) (rest := [.ref (ad 1)]) C rfl (by decide) rfl (kX0_bitOfMend (l := l) (D := D) (ad := ad) (cy := cy) (tb := tb) C.2.2.2.2.2.2.2.2.1 hc) (fun ht _ => cwV 1 ht gX5_back_X0_bitOfMend rfl rfl rfl (by decide +kernel) ⟨Nat.le_of_ble_eq_true rfl, Nat.le_of_ble_eq_true rfl⟩) rfl rfl (Nat.le_of_ble_eq_true rfl) dX5_back_25 ?_
  obtain ⟨r2, hc, hf⟩ := bR_some hf
  refine aw_callVi (As := [.int r1]) (rest := []) C rfl (by decide) rfl (kX4_hasSoundWord (l := l) (D := D) (ad := ad) (cy := cy) (tb := tb) C.2.2.2.2.2.2.2.2.1 rfl hc) (fun ht _ => cwV 1 ht gX5_back_X4_hasSoundWord rfl rfl rfl (by decide +kernel) ⟨Nat.le_of_ble_eq_true rfl, Nat.le_of_ble_eq_true rfl⟩) rfl rfl (Nat.le_of_ble_eq_true rfl) dX5_back_28 ?_
  refine aw_if_ne (tgt := 42) C dX5_back_31 (by decide) hf (fun hf => ?_) (fun hf => ?_)
  · refine aw_sub [0, 1, 2] rfl ?_
    exact tX5_back_42 C  H12 hf
  refine aw_aload_n C dX5_back_34 rfl 0 rfl ?_
  refine aw_iload_n C dX5_back_35 rfl 2 rfl ?_
  obtain ⟨h3, hc, hf⟩ := bR_some hf
  refine aw_callVv (As := [.int x2]) (rest := []) C rfl (by decide) rfl (kX5_takeBack (l := l) (D := D) (ad := ad) (cy := cy) (tb := tb) C.2.2.2.2.2.2.2.2.1 hc) (fun ht _ => cwV 1 ht gX5_back_X5_takeBack rfl rfl rfl (by decide +kernel) ⟨Nat.le_of_ble_eq_true rfl, Nat.le_of_ble_eq_true rfl⟩) rfl rfl (Nat.le_of_ble_eq_true rfl) dX5_back_36 ?_
  obtain ⟨v4, hvv4, hf⟩ := nm_ex hf
  refine aw_iinc (j := 1) (v := v4) (lv1 := [(1, .int v4), (0, .ref (ad 0)), (2, .int x2)]) C dX5_back_39 rfl hvv4 (by decide) rfl ?_
  refine aw_sub [1, 0, 2] rfl ?_
  exact tX5_back_42 C  H12 hf
set_option maxHeartbeats 4000000 in
set_option maxRecDepth 100000 in
theorem tX5_back_12  {r0 : Int32} {h0 : AH} (C : Cx p rmX5_back s m args meth c RX5 cX5_back 3 (some .int) wsX5_back D ad cy tb 0 0) : ∀ (n : Nat) (h : AH) (x1 : Int32) (x2 : Int32), fX5_back_12 n h x1 x2 = some (r0, h0) → AW p l e rmX5_back s m args below meth c 3 D ad cy 0 0 (Qi D ad cy below args s r0 h0) 12 [(0, .ref (ad 0)), (1, .int x1), (2, .int x2)] [] h := by
  intro n
  induction n with
  | zero => intro h x1 x2 hf; cases hf
  | succ n ih => intro h x1 x2 hf; exact tX5_back_12b C  ih  hf
set_option maxHeartbeats 4000000 in
set_option maxRecDepth 100000 in
theorem tX5_back_0 {h : AH} {r0 : Int32} {h0 : AH} (C : Cx p rmX5_back s m args meth c RX5 cX5_back 3 (some .int) wsX5_back D ad cy tb 0 0) (hf : fX5_back h = some (r0, h0)) : AW p l e rmX5_back s m args below meth c 3 D ad cy 0 0 (Qi D ad cy below args s r0 h0) 0 [(0, .ref (ad 0))] [] h := by
  unfold fX5_back at hf
  refine aw_iconst (v := 0) C dX5_back_0 (by decide) ?_
  refine aw_istore_n (lv1 := [(1, .int 0), (0, .ref (ad 0))]) C dX5_back_1 rfl (by decide) rfl ?_
  refine aw_aload_n C dX5_back_2 rfl 1 rfl ?_
  refine aw_get C (kd_lt rfl (by decide)) (ce_5 rfl) rfl hinX5_back_5 4 (by decide) rfl (by decide +kernel) rfl dX5_back_3 ?_
  refine aw_getN (host := "StairCodes") C (kd_lt rfl (by decide)) (ce_0 rfl) rfl hinX5_back_0 2 (by decide) rfl (by decide +kernel) rfl dX5_back_6 ?_
  refine aw_iconst (v := 1) C dX5_back_9 (by decide) ?_
  refine aw_isub C dX5_back_10 ?_
  refine aw_nmI hf (fun v1 hf => ?_)
  refine aw_istore_n (lv1 := [(2, .int v1), (1, .int 0), (0, .ref (ad 0))]) C dX5_back_11 rfl (by decide) rfl ?_
  refine aw_sub [2, 1, 0] rfl ?_
  exact tX5_back_12 C   FU h 0 v1 hf
theorem kX5_back {h : AH} {r0 : Int32} {h0 : AH} (hi : Inj ad) (hf : fX5_back h = some (r0, h0)) : Ki l yX5_back wsX5_back rmX5_back D ad cy tb [.ref (ad 0)] h r0 h0 := met_i (lv := [(0, .ref (ad 0))]) hi (by decide) rfl (Nat.le_of_ble_eq_true rfl) rfl rfl (fun _ _ _ _ _ _ _ _ C => tX5_back_0 C  hf)
set_option maxRecDepth 20000 in
theorem ggX6_back_X6_hasSound : GoodIn wsX6_back wsX6_hasSound := goodIn_r _ [8, 9, 10, 11, 12, 7, 13, 14, 15, 16, 17, 3, 18, 19, 20, 21, 22, 23, 24, 25, 26, 27, 28, 29, 30, 31, 32, 33, 34, 35, 36, 37, 38, 39, 40, 41, 42, 43, 44, 45, 46, 47, 48, 49, 50, 51] (by decide +kernel) (by decide +kernel)
set_option maxRecDepth 20000 in
theorem gX6_back_X6_hasSound : GoodIn wsX6_back (wsV RX6 138 RX6 yX6_hasSound wsX6_hasSound) := goodIn_app (goodIn_of _ (by decide +kernel)) ggX6_back_X6_hasSound
theorem dX6_back_0 : decode cX6_back 0 = .ok (.iconst 0, 1) := by decide +kernel
theorem dX6_back_1 : decode cX6_back 1 = .ok (.istore_n 1, 1) := by decide +kernel
theorem dX6_back_2 : decode cX6_back 2 = .ok (.aload_n 0, 1) := by decide +kernel
theorem dX6_back_3 : decode cX6_back 3 = .ok (.getfield 85, 3) := by decide +kernel
theorem dX6_back_6 : decode cX6_back 6 = .ok (.iconst 1, 1) := by decide +kernel
theorem dX6_back_7 : decode cX6_back 7 = .ok (.isub, 1) := by decide +kernel
theorem dX6_back_8 : decode cX6_back 8 = .ok (.istore_n 2, 1) := by decide +kernel
theorem dX6_back_9 : decode cX6_back 9 = .ok (.iload_n 2, 1) := by decide +kernel
theorem dX6_back_10 : decode cX6_back 10 = .ok (.ifCond .lt 95, 3) := by decide +kernel
theorem dX6_back_13 : decode cX6_back 13 = .ok (.aload_n 0, 1) := by decide +kernel
theorem dX6_back_14 : decode cX6_back 14 = .ok (.getfield 27, 3) := by decide +kernel
theorem dX6_back_17 : decode cX6_back 17 = .ok (.iload_n 2, 1) := by decide +kernel
theorem dX6_back_18 : decode cX6_back 18 = .ok (.iaload, 1) := by decide +kernel
theorem dX6_back_19 : decode cX6_back 19 = .ok (.istore_n 3, 1) := by decide +kernel
theorem dX6_back_20 : decode cX6_back 20 = .ok (.aload_n 0, 1) := by decide +kernel
theorem dX6_back_21 : decode cX6_back 21 = .ok (.iload_n 3, 1) := by decide +kernel
theorem dX6_back_22 : decode cX6_back 22 = .ok (.iconst 0, 1) := by decide +kernel
theorem dX6_back_23 : decode cX6_back 23 = .ok (.iconst 0, 1) := by decide +kernel
theorem dX6_back_24 : decode cX6_back 24 = .ok (.invokevirtual 138, 3) := by decide +kernel
theorem dX6_back_27 : decode cX6_back 27 = .ok (.ifCond .ne 72, 3) := by decide +kernel
theorem dX6_back_30 : decode cX6_back 30 = .ok (.aload_n 0, 1) := by decide +kernel
theorem dX6_back_31 : decode cX6_back 31 = .ok (.getfield 21, 3) := by decide +kernel
theorem dX6_back_34 : decode cX6_back 34 = .ok (.iload_n 3, 1) := by decide +kernel
theorem dX6_back_35 : decode cX6_back 35 = .ok (.aload_n 0, 1) := by decide +kernel
theorem dX6_back_36 : decode cX6_back 36 = .ok (.getfield 21, 3) := by decide +kernel
theorem dX6_back_39 : decode cX6_back 39 = .ok (.iload_n 3, 1) := by decide +kernel
theorem dX6_back_40 : decode cX6_back 40 = .ok (.baload, 1) := by decide +kernel
theorem dX6_back_41 : decode cX6_back 41 = .ok (.ifCond .ne 7, 3) := by decide +kernel
theorem dX6_back_44 : decode cX6_back 44 = .ok (.iconst 1, 1) := by decide +kernel
theorem dX6_back_45 : decode cX6_back 45 = .ok (.goto 4, 3) := by decide +kernel
theorem dX6_back_48 : decode cX6_back 48 = .ok (.iconst 0, 1) := by decide +kernel
theorem dX6_back_49 : decode cX6_back 49 = .ok (.bastore, 1) := by decide +kernel
theorem dX6_back_50 : decode cX6_back 50 = .ok (.iload_n 2, 1) := by decide +kernel
theorem dX6_back_51 : decode cX6_back 51 = .ok (.iconst 1, 1) := by decide +kernel
theorem dX6_back_52 : decode cX6_back 52 = .ok (.iadd, 1) := by decide +kernel
theorem dX6_back_53 : decode cX6_back 53 = .ok (.istore 4, 2) := by decide +kernel
theorem dX6_back_55 : decode cX6_back 55 = .ok (.iload 4, 2) := by decide +kernel
theorem dX6_back_57 : decode cX6_back 57 = .ok (.aload_n 0, 1) := by decide +kernel
theorem dX6_back_58 : decode cX6_back 58 = .ok (.getfield 85, 3) := by decide +kernel
theorem dX6_back_61 : decode cX6_back 61 = .ok (.if_icmp .ge 25, 3) := by decide +kernel
theorem dX6_back_64 : decode cX6_back 64 = .ok (.aload_n 0, 1) := by decide +kernel
theorem dX6_back_65 : decode cX6_back 65 = .ok (.getfield 27, 3) := by decide +kernel
theorem dX6_back_68 : decode cX6_back 68 = .ok (.iload 4, 2) := by decide +kernel
theorem dX6_back_70 : decode cX6_back 70 = .ok (.iconst 1, 1) := by decide +kernel
theorem dX6_back_71 : decode cX6_back 71 = .ok (.isub, 1) := by decide +kernel
theorem dX6_back_72 : decode cX6_back 72 = .ok (.aload_n 0, 1) := by decide +kernel
theorem dX6_back_73 : decode cX6_back 73 = .ok (.getfield 27, 3) := by decide +kernel
theorem dX6_back_76 : decode cX6_back 76 = .ok (.iload 4, 2) := by decide +kernel
theorem dX6_back_78 : decode cX6_back 78 = .ok (.iaload, 1) := by decide +kernel
theorem dX6_back_79 : decode cX6_back 79 = .ok (.iastore, 1) := by decide +kernel
theorem dX6_back_80 : decode cX6_back 80 = .ok (.iinc 4 1, 3) := by decide +kernel
theorem dX6_back_83 : decode cX6_back 83 = .ok (.goto (-28), 3) := by decide +kernel
theorem dX6_back_86 : decode cX6_back 86 = .ok (.aload_n 0, 1) := by decide +kernel
theorem dX6_back_87 : decode cX6_back 87 = .ok (.dup, 1) := by decide +kernel
theorem dX6_back_88 : decode cX6_back 88 = .ok (.getfield 85, 3) := by decide +kernel
theorem dX6_back_91 : decode cX6_back 91 = .ok (.iconst 1, 1) := by decide +kernel
theorem dX6_back_92 : decode cX6_back 92 = .ok (.isub, 1) := by decide +kernel
theorem dX6_back_93 : decode cX6_back 93 = .ok (.putfield 85, 3) := by decide +kernel
theorem dX6_back_96 : decode cX6_back 96 = .ok (.iinc 1 1, 3) := by decide +kernel
theorem dX6_back_99 : decode cX6_back 99 = .ok (.iinc 2 (-1), 3) := by decide +kernel
theorem dX6_back_102 : decode cX6_back 102 = .ok (.goto (-93), 3) := by decide +kernel
theorem dX6_back_105 : decode cX6_back 105 = .ok (.iload_n 1, 1) := by decide +kernel
theorem dX6_back_106 : decode cX6_back 106 = .ok (.ireturn, 1) := by decide +kernel
abbrev rmX6_back : Room := { frames := 5, cells := 0, slots := 0, locals := 120 }
set_option maxRecDepth 100000 in
theorem hinX6_back_6 : ∀ w ∈ wsX60, w ∈ wsX6_back := by decide +kernel
set_option maxHeartbeats 4000000 in
set_option maxRecDepth 100000 in
theorem tX6_back_99 {h : AH} {k9 : AH → Int32 → Int32 → Option (Int32 × AH)} {x1 : Int32} {x2 : Int32} {r0 : Int32} {h0 : AH} (C : Cx p rmX6_back s m args meth c RX6 cX6_back 5 (some .int) wsX6_back D ad cy tb 0 0) (H9 : ∀ (h : AH) (x1 : Int32) (x2 : Int32), k9 h x1 x2 = some (r0, h0) → AW p l e rmX6_back s m args below meth c 5 D ad cy 0 0 (Qi D ad cy below args s r0 h0) 9 [(0, .ref (ad 29)), (1, .int x1), (2, .int x2)] [] h) (hf : fX6_back_99 k9 h x1 x2 = some (r0, h0)) : AW p l e rmX6_back s m args below meth c 5 D ad cy 0 0 (Qi D ad cy below args s r0 h0) 99 [(0, .ref (ad 29)), (1, .int x1), (2, .int x2)] [] h := by
  unfold fX6_back_99 at hf
  obtain ⟨v1, hvv1, hf⟩ := nm_ex hf
  refine aw_iinc (j := 2) (v := v1) (lv1 := [(2, .int v1), (0, .ref (ad 29)), (1, .int x1)]) C dX6_back_99 rfl hvv1 (by decide) rfl ?_
  refine aw_goto (tgt := 9) C dX6_back_102 (by decide) ?_
  refine aw_sub [1, 2, 0] rfl ?_
  exact H9 h x1 v1 hf
set_option maxHeartbeats 4000000 in
set_option maxRecDepth 100000 in
theorem tX6_back_55b {h : AH} {k9 : AH → Int32 → Int32 → Option (Int32 × AH)} {k55 : AH → Int32 → Int32 → Int32 → Option (Int32 × AH)} {x1 : Int32} {x2 : Int32} {x4 : Int32} {r0 : Int32} {h0 : AH} (C : Cx p rmX6_back s m args meth c RX6 cX6_back 5 (some .int) wsX6_back D ad cy tb 0 0) (H9 : ∀ (h : AH) (x1 : Int32) (x2 : Int32), k9 h x1 x2 = some (r0, h0) → AW p l e rmX6_back s m args below meth c 5 D ad cy 0 0 (Qi D ad cy below args s r0 h0) 9 [(0, .ref (ad 29)), (1, .int x1), (2, .int x2)] [] h) (H55 : ∀ (h : AH) (x1 : Int32) (x2 : Int32) (x4 : Int32), k55 h x1 x2 x4 = some (r0, h0) → AW p l e rmX6_back s m args below meth c 5 D ad cy 0 0 (Qi D ad cy below args s r0 h0) 55 [(0, .ref (ad 29)), (1, .int x1), (2, .int x2), (4, .int x4)] [] h) (hf : fX6_back_55b k9 k55 h x1 x2 x4 = some (r0, h0)) : AW p l e rmX6_back s m args below meth c 5 D ad cy 0 0 (Qi D ad cy below args s r0 h0) 55 [(0, .ref (ad 29)), (1, .int x1), (2, .int x2), (4, .int x4)] [] h := by
  unfold fX6_back_55b at hf
  refine aw_iload C dX6_back_55 3 rfl ?_
  refine aw_aload_n C dX6_back_57 rfl 0 rfl ?_
  refine aw_get C (kd_lt rfl (by decide)) (ce_6 rfl) rfl hinX6_back_6 7 (by decide) rfl (by decide +kernel) rfl dX6_back_58 ?_
  refine aw_icmp_ge (tgt := 86) C dX6_back_61 (by decide) hf (fun hf => ?_) (fun hf => ?_)
  · refine aw_aload_n C dX6_back_86 rfl 0 rfl ?_
    refine aw_dup C dX6_back_87 rfl ?_
    refine aw_get C (kd_lt rfl (by decide)) (ce_6 rfl) rfl hinX6_back_6 7 (by decide) rfl (by decide +kernel) rfl dX6_back_88 ?_
    refine aw_iconst (v := 1) C dX6_back_91 (by decide) ?_
    refine aw_isub C dX6_back_92 ?_
    refine aw_put (ty := .int) C (kd_lt rfl (by decide)) (ce_6 rfl) rfl hinX6_back_6 tyX6 tyX6_ok nmX6 7 (by decide) rfl (by decide +kernel) rfl (by decide +kernel) rfl rfl (Nat.le_of_ble_eq_true rfl) (cs_6_7 rfl) dX6_back_93 ?_
    refine aw_nmH hf (fun h1 hf => ?_)
    obtain ⟨v2, hvv2, hf⟩ := nm_ex hf
    refine aw_iinc (j := 1) (v := v2) (lv1 := [(1, .int v2), (0, .ref (ad 29)), (2, .int x2), (4, .int x4)]) C dX6_back_96 rfl hvv2 (by decide) rfl ?_
    refine aw_sub [1, 0, 2] rfl ?_
    exact tX6_back_99 C  H9 hf
  refine aw_aload_n C dX6_back_64 rfl 0 rfl ?_
  refine aw_get C (kd_lt rfl (by decide)) (ce_6 rfl) rfl hinX6_back_6 6 (by decide) rfl (by decide +kernel) rfl dX6_back_65 ?_
  refine aw_iload C dX6_back_68 3 rfl ?_
  refine aw_iconst (v := 1) C dX6_back_70 (by decide) ?_
  refine aw_isub C dX6_back_71 ?_
  refine aw_aload_n C dX6_back_72 rfl 0 rfl ?_
  refine aw_get C (kd_lt rfl (by decide)) (ce_6 rfl) rfl hinX6_back_6 6 (by decide) rfl (by decide +kernel) rfl dX6_back_73 ?_
  refine aw_iload C dX6_back_76 3 rfl ?_
  refine aw_iald C rfl rfl hf dX6_back_78 (fun hf => ?_)
  refine aw_nm2 hf (fun v3 hf => ?_)
  refine aw_iast C rfl rfl hf dX6_back_79 (fun hf => ?_)
  refine aw_nmH hf (fun h4 hf => ?_)
  obtain ⟨v5, hvv5, hf⟩ := nm_ex hf
  refine aw_iinc (j := 3) (v := v5) (lv1 := [(4, .int v5), (0, .ref (ad 29)), (1, .int x1), (2, .int x2)]) C dX6_back_80 rfl hvv5 (by decide) rfl ?_
  refine aw_goto (tgt := 55) C dX6_back_83 (by decide) ?_
  refine aw_sub [1, 2, 3, 0] rfl ?_
  exact H55 h4 x1 x2 v5 hf
set_option maxHeartbeats 4000000 in
set_option maxRecDepth 100000 in
theorem tX6_back_55  {k9 : AH → Int32 → Int32 → Option (Int32 × AH)} {r0 : Int32} {h0 : AH} (C : Cx p rmX6_back s m args meth c RX6 cX6_back 5 (some .int) wsX6_back D ad cy tb 0 0) (H9 : ∀ (h : AH) (x1 : Int32) (x2 : Int32), k9 h x1 x2 = some (r0, h0) → AW p l e rmX6_back s m args below meth c 5 D ad cy 0 0 (Qi D ad cy below args s r0 h0) 9 [(0, .ref (ad 29)), (1, .int x1), (2, .int x2)] [] h) : ∀ (n : Nat) (h : AH) (x1 : Int32) (x2 : Int32) (x4 : Int32), fX6_back_55 k9 n h x1 x2 x4 = some (r0, h0) → AW p l e rmX6_back s m args below meth c 5 D ad cy 0 0 (Qi D ad cy below args s r0 h0) 55 [(0, .ref (ad 29)), (1, .int x1), (2, .int x2), (4, .int x4)] [] h := by
  intro n
  induction n with
  | zero => intro h x1 x2 x4 hf; cases hf
  | succ n ih => intro h x1 x2 x4 hf; exact tX6_back_55b C  H9 ih  hf
set_option maxHeartbeats 4000000 in
set_option maxRecDepth 100000 in
theorem tX6_back_49 {h : AH} {k9 : AH → Int32 → Int32 → Option (Int32 × AH)} {x1 : Int32} {x2 : Int32} {s1 : Int32} {s2 : Int32} {r0 : Int32} {h0 : AH} (C : Cx p rmX6_back s m args meth c RX6 cX6_back 5 (some .int) wsX6_back D ad cy tb 0 0) (H9 : ∀ (h : AH) (x1 : Int32) (x2 : Int32), k9 h x1 x2 = some (r0, h0) → AW p l e rmX6_back s m args below meth c 5 D ad cy 0 0 (Qi D ad cy below args s r0 h0) 9 [(0, .ref (ad 29)), (1, .int x1), (2, .int x2)] [] h) (hf : fX6_back_49 k9 h x1 x2 s1 s2 = some (r0, h0)) : AW p l e rmX6_back s m args below meth c 5 D ad cy 0 0 (Qi D ad cy below args s r0 h0) 49 [(0, .ref (ad 29)), (1, .int x1), (2, .int x2)] [.int s2, .int s1, .ref (ad 32)] h := by
  unfold fX6_back_49 at hf
  refine aw_zast C rfl rfl hf dX6_back_49 (fun hf => ?_)
  refine aw_nmH hf (fun h1 hf => ?_)
  refine aw_iload_n C dX6_back_50 rfl 2 rfl ?_
  refine aw_iconst (v := 1) C dX6_back_51 (by decide) ?_
  refine aw_iadd C dX6_back_52 ?_
  refine aw_nmI hf (fun v2 hf => ?_)
  refine aw_istore (lv1 := [(4, .int v2), (0, .ref (ad 29)), (1, .int x1), (2, .int x2)]) C dX6_back_53 (by decide) rfl ?_
  refine aw_sub [1, 2, 3, 0] rfl ?_
  exact tX6_back_55 C  H9 FU h1 x1 x2 v2 hf
set_option maxHeartbeats 4000000 in
set_option maxRecDepth 100000 in
theorem tX6_back_9b {h : AH} {k9 : AH → Int32 → Int32 → Option (Int32 × AH)} {x1 : Int32} {x2 : Int32} {r0 : Int32} {h0 : AH} (C : Cx p rmX6_back s m args meth c RX6 cX6_back 5 (some .int) wsX6_back D ad cy tb 0 0) (H9 : ∀ (h : AH) (x1 : Int32) (x2 : Int32), k9 h x1 x2 = some (r0, h0) → AW p l e rmX6_back s m args below meth c 5 D ad cy 0 0 (Qi D ad cy below args s r0 h0) 9 [(0, .ref (ad 29)), (1, .int x1), (2, .int x2)] [] h) (hf : fX6_back_9b k9 h x1 x2 = some (r0, h0)) : AW p l e rmX6_back s m args below meth c 5 D ad cy 0 0 (Qi D ad cy below args s r0 h0) 9 [(0, .ref (ad 29)), (1, .int x1), (2, .int x2)] [] h := by
  unfold fX6_back_9b at hf
  refine aw_iload_n C dX6_back_9 rfl 2 rfl ?_
  refine aw_if_lt (tgt := 105) C dX6_back_10 (by decide) hf (fun hf => ?_) (fun hf => ?_)
  · refine aw_iload_n C dX6_back_105 rfl 1 rfl ?_
    exact aw_iretW C dX6_back_106 hf
  refine aw_aload_n C dX6_back_13 rfl 0 rfl ?_
  refine aw_get C (kd_lt rfl (by decide)) (ce_6 rfl) rfl hinX6_back_6 6 (by decide) rfl (by decide +kernel) rfl dX6_back_14 ?_
  refine aw_iload_n C dX6_back_17 rfl 2 rfl ?_
  refine aw_iald C rfl rfl hf dX6_back_18 (fun hf => ?_)
  refine aw_nmI hf (fun v1 hf => ?_)
  refine aw_istore_n (lv1 := [(3, .int v1), (0, .ref (ad 29)), (1, .int x1), (2, .int x2)]) C dX6_back_19 rfl (by decide) rfl ?_
  refine aw_aload_n C dX6_back_20 rfl 1 rfl ?_
  refine aw_iload_n C dX6_back_21 rfl 0 rfl ?_
  refine aw_iconst (v := 0) C dX6_back_22 (by decide) ?_
  refine aw_iconst (v := 0) C dX6_back_23 (by decide) ?_
  obtain ⟨r2, hc, hf⟩ := bR_some hf
  refine aw_callVi (As := [.int v1, .int 0, .int 0]) (rest := []) C rfl (by decide) rfl (kX6_hasSound (l := l) (D := D) (ad := ad) (cy := cy) (tb := tb) C.2.2.2.2.2.2.2.2.1 hc) (fun ht _ => cwV 3 ht gX6_back_X6_hasSound rfl rfl rfl (by decide +kernel) ⟨Nat.le_of_ble_eq_true rfl, Nat.le_of_ble_eq_true rfl⟩) rfl rfl (Nat.le_of_ble_eq_true rfl) dX6_back_24 ?_
  refine aw_if_ne (tgt := 99) C dX6_back_27 (by decide) hf (fun hf => ?_) (fun hf => ?_)
  · refine aw_sub [1, 2, 3] rfl ?_
    exact tX6_back_99 C  H9 hf
  refine aw_aload_n C dX6_back_30 rfl 1 rfl ?_
  refine aw_get C (kd_lt rfl (by decide)) (ce_6 rfl) rfl hinX6_back_6 4 (by decide) rfl (by decide +kernel) rfl dX6_back_31 ?_
  refine aw_iload_n C dX6_back_34 rfl 0 rfl ?_
  refine aw_aload_n C dX6_back_35 rfl 1 rfl ?_
  refine aw_get C (kd_lt rfl (by decide)) (ce_6 rfl) rfl hinX6_back_6 4 (by decide) rfl (by decide +kernel) rfl dX6_back_36 ?_
  refine aw_iload_n C dX6_back_39 rfl 0 rfl ?_
  refine aw_zald C rfl rfl hf dX6_back_40 (fun hf => ?_)
  refine aw_if_ne (tgt := 48) C dX6_back_41 (by decide) hf (fun hf => ?_) (fun hf => ?_)
  · refine aw_iconst (v := 0) C dX6_back_48 (by decide) ?_
    refine aw_sub [1, 2, 3] rfl ?_
    exact tX6_back_49 C  H9 hf
  refine aw_iconst (v := 1) C dX6_back_44 (by decide) ?_
  refine aw_goto (tgt := 49) C dX6_back_45 (by decide) ?_
  refine aw_sub [1, 2, 3] rfl ?_
  exact tX6_back_49 C  H9 hf
set_option maxHeartbeats 4000000 in
set_option maxRecDepth 100000 in
theorem tX6_back_9  {r0 : Int32} {h0 : AH} (C : Cx p rmX6_back s m args meth c RX6 cX6_back 5 (some .int) wsX6_back D ad cy tb 0 0) : ∀ (n : Nat) (h : AH) (x1 : Int32) (x2 : Int32), fX6_back_9 n h x1 x2 = some (r0, h0) → AW p l e rmX6_back s m args below meth c 5 D ad cy 0 0 (Qi D ad cy below args s r0 h0) 9 [(0, .ref (ad 29)), (1, .int x1), (2, .int x2)] [] h := by
  intro n
  induction n with
  | zero => intro h x1 x2 hf; cases hf
  | succ n ih => intro h x1 x2 hf; exact tX6_back_9b C  ih  hf
set_option maxHeartbeats 4000000 in
set_option maxRecDepth 100000 in
theorem tX6_back_0 {h : AH} {r0 : Int32} {h0 : AH} (C : Cx p rmX6_back s m args meth c RX6 cX6_back 5 (some .int) wsX6_back D ad cy tb 0 0) (hf : fX6_back h = some (r0, h0)) : AW p l e rmX6_back s m args below meth c 5 D ad cy 0 0 (Qi D ad cy below args s r0 h0) 0 [(0, .ref (ad 29))] [] h := by
  unfold fX6_back at hf
  refine aw_iconst (v := 0) C dX6_back_0 (by decide) ?_
  refine aw_istore_n (lv1 := [(1, .int 0), (0, .ref (ad 29))]) C dX6_back_1 rfl (by decide) rfl ?_
  refine aw_aload_n C dX6_back_2 rfl 1 rfl ?_
  refine aw_get C (kd_lt rfl (by decide)) (ce_6 rfl) rfl hinX6_back_6 7 (by decide) rfl (by decide +kernel) rfl dX6_back_3 ?_
  refine aw_iconst (v := 1) C dX6_back_6 (by decide) ?_
  refine aw_isub C dX6_back_7 ?_
  refine aw_nmI hf (fun v1 hf => ?_)
  refine aw_istore_n (lv1 := [(2, .int v1), (1, .int 0), (0, .ref (ad 29))]) C dX6_back_8 rfl (by decide) rfl ?_
  refine aw_sub [2, 1, 0] rfl ?_
  exact tX6_back_9 C   FU h 0 v1 hf
theorem kX6_back {h : AH} {r0 : Int32} {h0 : AH} (hi : Inj ad) (hf : fX6_back h = some (r0, h0)) : Ki l yX6_back wsX6_back rmX6_back D ad cy tb [.ref (ad 29)] h r0 h0 := met_i (lv := [(0, .ref (ad 29))]) hi (by decide) rfl (Nat.le_of_ble_eq_true rfl) rfl rfl (fun _ _ _ _ _ _ _ _ C => tX6_back_0 C  hf)
set_option maxRecDepth 20000 in
theorem ggX5_settle_X0_clear : GoodIn wsX5_settle wsX0_clear := goodIn_r _ [6, 7, 8, 18, 19, 20] (by decide +kernel) (by decide +kernel)
set_option maxRecDepth 20000 in
theorem gX5_settle_X0_clear : GoodIn wsX5_settle (wsV RX5 73 RX0 yX0_clear wsX0_clear) := goodIn_app (goodIn_of _ (by decide +kernel)) ggX5_settle_X0_clear
theorem dX5_settle_0 : decode cX5_settle 0 = .ok (.aload_n 0, 1) := by decide +kernel
theorem dX5_settle_1 : decode cX5_settle 1 = .ok (.getfield 33, 3) := by decide +kernel
theorem dX5_settle_4 : decode cX5_settle 4 = .ok (.getfield 203, 3) := by decide +kernel
theorem dX5_settle_7 : decode cX5_settle 7 = .ok (.istore_n 1, 1) := by decide +kernel
theorem dX5_settle_8 : decode cX5_settle 8 = .ok (.aload_n 0, 1) := by decide +kernel
theorem dX5_settle_9 : decode cX5_settle 9 = .ok (.getfield 33, 3) := by decide +kernel
theorem dX5_settle_12 : decode cX5_settle 12 = .ok (.invokevirtual 73, 3) := by decide +kernel
theorem dX5_settle_15 : decode cX5_settle 15 = .ok (.iload_n 1, 1) := by decide +kernel
theorem dX5_settle_16 : decode cX5_settle 16 = .ok (.ireturn, 1) := by decide +kernel
abbrev rmX5_settle : Room := { frames := 1, cells := 0, slots := 0, locals := 20 }
set_option maxRecDepth 100000 in
theorem hinX5_settle_5 : ∀ w ∈ wsX50, w ∈ wsX5_settle := by decide +kernel
set_option maxRecDepth 100000 in
theorem hinX5_settle_0 : ∀ w ∈ wsX00, w ∈ wsX5_settle := by decide +kernel
set_option maxHeartbeats 4000000 in
set_option maxRecDepth 100000 in
theorem tX5_settle_0 {h : AH} {r0 : Int32} {h0 : AH} (C : Cx p rmX5_settle s m args meth c RX5 cX5_settle 2 (some .int) wsX5_settle D ad cy tb 0 0) (hf : fX5_settle h = some (r0, h0)) : AW p l e rmX5_settle s m args below meth c 2 D ad cy 0 0 (Qi D ad cy below args s r0 h0) 0 [(0, .ref (ad 0))] [] h := by
  unfold fX5_settle at hf
  refine aw_aload_n C dX5_settle_0 rfl 0 rfl ?_
  refine aw_get C (kd_lt rfl (by decide)) (ce_5 rfl) rfl hinX5_settle_5 4 (by decide) rfl (by decide +kernel) rfl dX5_settle_1 ?_
  refine aw_getN (host := "StairCodes") C (kd_lt rfl (by decide)) (ce_0 rfl) rfl hinX5_settle_0 2 (by decide) rfl (by decide +kernel) rfl dX5_settle_4 ?_
  refine aw_nmI hf (fun v1 hf => ?_)
  refine aw_istore_n (lv1 := [(1, .int v1), (0, .ref (ad 0))]) C dX5_settle_7 rfl (by decide) rfl ?_
  refine aw_aload_n C dX5_settle_8 rfl 1 rfl ?_
  refine aw_get C (kd_lt rfl (by decide)) (ce_5 rfl) rfl hinX5_settle_5 4 (by decide) rfl (by decide +kernel) rfl dX5_settle_9 ?_
  obtain ⟨h2, hc, hf⟩ := bR_some hf
  refine aw_callVv (As := []) (rest := []) C rfl (by decide) rfl (kX0_clear (l := l) (D := D) (ad := ad) (cy := cy) (tb := tb) C.2.2.2.2.2.2.2.2.1 hc) (fun ht _ => cwV 0 ht gX5_settle_X0_clear rfl rfl rfl (by decide +kernel) ⟨Nat.le_of_ble_eq_true rfl, Nat.le_of_ble_eq_true rfl⟩) rfl rfl (Nat.le_of_ble_eq_true rfl) dX5_settle_12 ?_
  refine aw_iload_n C dX5_settle_15 rfl 0 rfl ?_
  exact aw_iretW C dX5_settle_16 hf
theorem kX5_settle {h : AH} {r0 : Int32} {h0 : AH} (hi : Inj ad) (hf : fX5_settle h = some (r0, h0)) : Ki l yX5_settle wsX5_settle rmX5_settle D ad cy tb [.ref (ad 0)] h r0 h0 := met_i (lv := [(0, .ref (ad 0))]) hi (by decide) rfl (Nat.le_of_ble_eq_true rfl) rfl rfl (fun _ _ _ _ _ _ _ _ C => tX5_settle_0 C  hf)
theorem dX6_settle_0 : decode cX6_settle 0 = .ok (.aload_n 0, 1) := by decide +kernel
theorem dX6_settle_1 : decode cX6_settle 1 = .ok (.getfield 85, 3) := by decide +kernel
theorem dX6_settle_4 : decode cX6_settle 4 = .ok (.istore_n 1, 1) := by decide +kernel
theorem dX6_settle_5 : decode cX6_settle 5 = .ok (.aload_n 0, 1) := by decide +kernel
theorem dX6_settle_6 : decode cX6_settle 6 = .ok (.iconst 0, 1) := by decide +kernel
theorem dX6_settle_7 : decode cX6_settle 7 = .ok (.putfield 85, 3) := by decide +kernel
theorem dX6_settle_10 : decode cX6_settle 10 = .ok (.iload_n 1, 1) := by decide +kernel
theorem dX6_settle_11 : decode cX6_settle 11 = .ok (.ireturn, 1) := by decide +kernel
abbrev rmX6_settle : Room := { frames := 0, cells := 0, slots := 0, locals := 0 }
set_option maxRecDepth 100000 in
theorem hinX6_settle_6 : ∀ w ∈ wsX60, w ∈ wsX6_settle := by decide +kernel
set_option maxHeartbeats 4000000 in
set_option maxRecDepth 100000 in
theorem tX6_settle_0 {h : AH} {r0 : Int32} {h0 : AH} (C : Cx p rmX6_settle s m args meth c RX6 cX6_settle 2 (some .int) wsX6_settle D ad cy tb 0 0) (hf : fX6_settle h = some (r0, h0)) : AW p l e rmX6_settle s m args below meth c 2 D ad cy 0 0 (Qi D ad cy below args s r0 h0) 0 [(0, .ref (ad 29))] [] h := by
  unfold fX6_settle at hf
  refine aw_aload_n C dX6_settle_0 rfl 0 rfl ?_
  refine aw_get C (kd_lt rfl (by decide)) (ce_6 rfl) rfl hinX6_settle_6 7 (by decide) rfl (by decide +kernel) rfl dX6_settle_1 ?_
  refine aw_nmI hf (fun v1 hf => ?_)
  refine aw_istore_n (lv1 := [(1, .int v1), (0, .ref (ad 29))]) C dX6_settle_4 rfl (by decide) rfl ?_
  refine aw_aload_n C dX6_settle_5 rfl 1 rfl ?_
  refine aw_iconst (v := 0) C dX6_settle_6 (by decide) ?_
  refine aw_put (ty := .int) C (kd_lt rfl (by decide)) (ce_6 rfl) rfl hinX6_settle_6 tyX6 tyX6_ok nmX6 7 (by decide) rfl (by decide +kernel) rfl (by decide +kernel) rfl rfl (Nat.le_of_ble_eq_true rfl) (cs_6_7 rfl) dX6_settle_7 ?_
  refine aw_nmH hf (fun h2 hf => ?_)
  refine aw_iload_n C dX6_settle_10 rfl 0 rfl ?_
  exact aw_iretW C dX6_settle_11 hf
theorem kX6_settle {h : AH} {r0 : Int32} {h0 : AH} (hi : Inj ad) (hf : fX6_settle h = some (r0, h0)) : Ki l yX6_settle wsX6_settle rmX6_settle D ad cy tb [.ref (ad 29)] h r0 h0 := met_i (lv := [(0, .ref (ad 29))]) hi (by decide) rfl (Nat.le_of_ble_eq_true rfl) rfl rfl (fun _ _ _ _ _ _ _ _ C => tX6_settle_0 C  hf)
set_option maxRecDepth 20000 in
theorem ggX5_journal_X0_bitOfMend : GoodIn wsX5_journal wsX0_bitOfMend := goodIn_r _ [6, 7, 8, 18, 19, 20] (by decide +kernel) (by decide +kernel)
set_option maxRecDepth 20000 in
theorem gX5_journal_X0_bitOfMend : GoodIn wsX5_journal (wsV RX5 207 RX0 yX0_bitOfMend wsX0_bitOfMend) := goodIn_app (goodIn_of _ (by decide +kernel)) ggX5_journal_X0_bitOfMend
theorem dX5_journal_0 : decode cX5_journal 0 = .ok (.iload_n 1, 1) := by decide +kernel
theorem dX5_journal_1 : decode cX5_journal 1 = .ok (.ifCond .lt 25, 3) := by decide +kernel
theorem dX5_journal_4 : decode cX5_journal 4 = .ok (.iload_n 1, 1) := by decide +kernel
theorem dX5_journal_5 : decode cX5_journal 5 = .ok (.aload_n 0, 1) := by decide +kernel
theorem dX5_journal_6 : decode cX5_journal 6 = .ok (.getfield 33, 3) := by decide +kernel
theorem dX5_journal_9 : decode cX5_journal 9 = .ok (.getfield 203, 3) := by decide +kernel
theorem dX5_journal_12 : decode cX5_journal 12 = .ok (.if_icmp .ge 14, 3) := by decide +kernel
theorem dX5_journal_15 : decode cX5_journal 15 = .ok (.aload_n 0, 1) := by decide +kernel
theorem dX5_journal_16 : decode cX5_journal 16 = .ok (.getfield 33, 3) := by decide +kernel
theorem dX5_journal_19 : decode cX5_journal 19 = .ok (.iload_n 1, 1) := by decide +kernel
theorem dX5_journal_20 : decode cX5_journal 20 = .ok (.invokevirtual 207, 3) := by decide +kernel
theorem dX5_journal_23 : decode cX5_journal 23 = .ok (.goto 5, 3) := by decide +kernel
theorem dX5_journal_26 : decode cX5_journal 26 = .ok (.bipush (-2), 2) := by decide +kernel
theorem dX5_journal_28 : decode cX5_journal 28 = .ok (.ireturn, 1) := by decide +kernel
abbrev rmX5_journal : Room := { frames := 1, cells := 0, slots := 0, locals := 21 }
set_option maxRecDepth 100000 in
theorem hinX5_journal_5 : ∀ w ∈ wsX50, w ∈ wsX5_journal := by decide +kernel
set_option maxRecDepth 100000 in
theorem hinX5_journal_0 : ∀ w ∈ wsX00, w ∈ wsX5_journal := by decide +kernel
set_option maxHeartbeats 4000000 in
set_option maxRecDepth 100000 in
theorem tX5_journal_0 {h : AH} {a1 : Int32} {r0 : Int32} (C : Cx p rmX5_journal s m args meth c RX5 cX5_journal 2 (some .int) wsX5_journal D ad cy tb 0 0) (hf : fX5_journal h a1 = some r0) : AW p l e rmX5_journal s m args below meth c 2 D ad cy 0 0 (Qi D ad cy below args s r0 h) 0 [(0, .ref (ad 0)), (1, .int a1)] [] h := by
  unfold fX5_journal at hf
  refine aw_iload_n C dX5_journal_0 rfl 1 rfl ?_
  refine aw_if_lt (tgt := 26) C dX5_journal_1 (by decide) hf (fun hf => ?_) (fun hf => ?_)
  · refine aw_bipush (v := (-2)) C dX5_journal_26 (by decide) ?_
    exact aw_iretR C dX5_journal_28 hf
  refine aw_iload_n C dX5_journal_4 rfl 1 rfl ?_
  refine aw_aload_n C dX5_journal_5 rfl 0 rfl ?_
  refine aw_get C (kd_lt rfl (by decide)) (ce_5 rfl) rfl hinX5_journal_5 4 (by decide) rfl (by decide +kernel) rfl dX5_journal_6 ?_
  refine aw_getN (host := "StairCodes") C (kd_lt rfl (by decide)) (ce_0 rfl) rfl hinX5_journal_0 2 (by decide) rfl (by decide +kernel) rfl dX5_journal_9 ?_
  refine aw_icmp_ge (tgt := 26) C dX5_journal_12 (by decide) hf (fun hf => ?_) (fun hf => ?_)
  · refine aw_bipush (v := (-2)) C dX5_journal_26 (by decide) ?_
    exact aw_iretR C dX5_journal_28 hf
  refine aw_aload_n C dX5_journal_15 rfl 0 rfl ?_
  refine aw_get C (kd_lt rfl (by decide)) (ce_5 rfl) rfl hinX5_journal_5 4 (by decide) rfl (by decide +kernel) rfl dX5_journal_16 ?_
  refine aw_iload_n C dX5_journal_19 rfl 1 rfl ?_
  obtain ⟨r1, hc, hf⟩ := bR_some hf
  refine aw_callVi (As := [.int a1]) (rest := []) C rfl (by decide) rfl (kX0_bitOfMend (l := l) (D := D) (ad := ad) (cy := cy) (tb := tb) C.2.2.2.2.2.2.2.2.1 hc) (fun ht _ => cwV 1 ht gX5_journal_X0_bitOfMend rfl rfl rfl (by decide +kernel) ⟨Nat.le_of_ble_eq_true rfl, Nat.le_of_ble_eq_true rfl⟩) rfl rfl (Nat.le_of_ble_eq_true rfl) dX5_journal_20 ?_
  refine aw_goto (tgt := 28) C dX5_journal_23 (by decide) ?_
  exact aw_iretR C dX5_journal_28 hf
theorem kX5_journal {h : AH} {a1 : Int32} {r0 : Int32} (hi : Inj ad) (hf : fX5_journal h a1 = some r0) : Ki l yX5_journal wsX5_journal rmX5_journal D ad cy tb [.ref (ad 0), .int a1] h r0 h := met_i (lv := [(0, .ref (ad 0)), (1, .int a1)]) hi (by decide) rfl (Nat.le_of_ble_eq_true rfl) rfl rfl (fun _ _ _ _ _ _ _ _ C => tX5_journal_0 C  hf)
set_option maxRecDepth 20000 in
theorem ggX6_journal_X6_in : GoodIn wsX6_journal wsX6_in := goodIn_r _ [6] (by decide +kernel) (by decide +kernel)
set_option maxRecDepth 20000 in
theorem gX6_journal_X6_in : GoodIn wsX6_journal (va_wsS RX6 73 yX6_in wsX6_in) := goodIn_app (goodIn_of _ (by decide +kernel)) ggX6_journal_X6_in
theorem dX6_journal_0 : decode cX6_journal 0 = .ok (.iload_n 1, 1) := by decide +kernel
theorem dX6_journal_1 : decode cX6_journal 1 = .ok (.iconst 0, 1) := by decide +kernel
theorem dX6_journal_2 : decode cX6_journal 2 = .ok (.aload_n 0, 1) := by decide +kernel
theorem dX6_journal_3 : decode cX6_journal 3 = .ok (.getfield 85, 3) := by decide +kernel
theorem dX6_journal_6 : decode cX6_journal 6 = .ok (.iconst 1, 1) := by decide +kernel
theorem dX6_journal_7 : decode cX6_journal 7 = .ok (.isub, 1) := by decide +kernel
theorem dX6_journal_8 : decode cX6_journal 8 = .ok (.invokestatic 73, 3) := by decide +kernel
theorem dX6_journal_11 : decode cX6_journal 11 = .ok (.ifCond .eq 12, 3) := by decide +kernel
theorem dX6_journal_14 : decode cX6_journal 14 = .ok (.aload_n 0, 1) := by decide +kernel
theorem dX6_journal_15 : decode cX6_journal 15 = .ok (.getfield 27, 3) := by decide +kernel
theorem dX6_journal_18 : decode cX6_journal 18 = .ok (.iload_n 1, 1) := by decide +kernel
theorem dX6_journal_19 : decode cX6_journal 19 = .ok (.iaload, 1) := by decide +kernel
theorem dX6_journal_20 : decode cX6_journal 20 = .ok (.goto 5, 3) := by decide +kernel
theorem dX6_journal_23 : decode cX6_journal 23 = .ok (.bipush (-2), 2) := by decide +kernel
theorem dX6_journal_25 : decode cX6_journal 25 = .ok (.ireturn, 1) := by decide +kernel
abbrev rmX6_journal : Room := { frames := 1, cells := 0, slots := 0, locals := 22 }
set_option maxRecDepth 100000 in
theorem hinX6_journal_6 : ∀ w ∈ wsX60, w ∈ wsX6_journal := by decide +kernel
set_option maxHeartbeats 4000000 in
set_option maxRecDepth 100000 in
theorem tX6_journal_0 {h : AH} {a1 : Int32} {r0 : Int32} (C : Cx p rmX6_journal s m args meth c RX6 cX6_journal 2 (some .int) wsX6_journal D ad cy tb 0 0) (hf : fX6_journal h a1 = some r0) : AW p l e rmX6_journal s m args below meth c 2 D ad cy 0 0 (Qi D ad cy below args s r0 h) 0 [(0, .ref (ad 29)), (1, .int a1)] [] h := by
  unfold fX6_journal at hf
  refine aw_iload_n C dX6_journal_0 rfl 1 rfl ?_
  refine aw_iconst (v := 0) C dX6_journal_1 (by decide) ?_
  refine aw_aload_n C dX6_journal_2 rfl 0 rfl ?_
  refine aw_get C (kd_lt rfl (by decide)) (ce_6 rfl) rfl hinX6_journal_6 7 (by decide) rfl (by decide +kernel) rfl dX6_journal_3 ?_
  refine aw_iconst (v := 1) C dX6_journal_6 (by decide) ?_
  refine aw_isub C dX6_journal_7 ?_
  obtain ⟨r1, hc, hf⟩ := bR_some hf
  refine aw_callSi (As := [.int a1, .int 0, .int ((h.1 29 7) - 1)]) (rest := []) C (kX6_in (l := l) (D := D) (ad := ad) (cy := cy) (tb := tb) C.2.2.2.2.2.2.2.2.1 hc) (fun ht _ => va_cwS 3 ht gX6_journal_X6_in rfl rfl rfl (by decide +kernel) ⟨Nat.le_of_ble_eq_true rfl, Nat.le_of_ble_eq_true rfl⟩) rfl rfl (Nat.le_of_ble_eq_true rfl) dX6_journal_8 ?_
  refine aw_if_eq (tgt := 23) C dX6_journal_11 (by decide) hf (fun hf => ?_) (fun hf => ?_)
  · refine aw_bipush (v := (-2)) C dX6_journal_23 (by decide) ?_
    exact aw_iretR C dX6_journal_25 hf
  refine aw_aload_n C dX6_journal_14 rfl 0 rfl ?_
  refine aw_get C (kd_lt rfl (by decide)) (ce_6 rfl) rfl hinX6_journal_6 6 (by decide) rfl (by decide +kernel) rfl dX6_journal_15 ?_
  refine aw_iload_n C dX6_journal_18 rfl 1 rfl ?_
  refine aw_iald C rfl rfl hf dX6_journal_19 (fun hf => ?_)
  refine aw_goto (tgt := 25) C dX6_journal_20 (by decide) ?_
  exact aw_iretR C dX6_journal_25 hf
theorem kX6_journal {h : AH} {a1 : Int32} {r0 : Int32} (hi : Inj ad) (hf : fX6_journal h a1 = some r0) : Ki l yX6_journal wsX6_journal rmX6_journal D ad cy tb [.ref (ad 29), .int a1] h r0 h := met_i (lv := [(0, .ref (ad 29)), (1, .int a1)]) hi (by decide) rfl (Nat.le_of_ble_eq_true rfl) rfl rfl (fun _ _ _ _ _ _ _ _ C => tX6_journal_0 C  hf)
set_option maxRecDepth 20000 in
theorem ggX5_stall_X4_endOfWords : GoodIn wsX5_stall wsX4_endOfWords := goodIn_r _ [6, 7, 30, 31, 32] (by decide +kernel) (by decide +kernel)
set_option maxRecDepth 20000 in
theorem gX5_stall_X4_endOfWords : GoodIn wsX5_stall (wsV RX5 213 RX4 yX4_endOfWords wsX4_endOfWords) := goodIn_app (goodIn_of _ (by decide +kernel)) ggX5_stall_X4_endOfWords
set_option maxRecDepth 20000 in
theorem ggX5_stall_X4_isStalled : GoodIn wsX5_stall wsX4_isStalled := goodIn_r _ [11, 12, 13, 14, 5, 15, 16, 17, 18, 19, 20, 30, 31, 32] (by decide +kernel) (by decide +kernel)
set_option maxRecDepth 20000 in
theorem gX5_stall_X4_isStalled : GoodIn wsX5_stall (wsV RX5 170 RX4 yX4_isStalled wsX4_isStalled) := goodIn_app (goodIn_of _ (by decide +kernel)) ggX5_stall_X4_isStalled
theorem dX5_stall_0 : decode cX5_stall 0 = .ok (.iload_n 1, 1) := by decide +kernel
theorem dX5_stall_1 : decode cX5_stall 1 = .ok (.ifCond .ge 6, 3) := by decide +kernel
theorem dX5_stall_4 : decode cX5_stall 4 = .ok (.bipush (-2), 2) := by decide +kernel
theorem dX5_stall_6 : decode cX5_stall 6 = .ok (.ireturn, 1) := by decide +kernel
theorem dX5_stall_7 : decode cX5_stall 7 = .ok (.iload_n 1, 1) := by decide +kernel
theorem dX5_stall_8 : decode cX5_stall 8 = .ok (.istore_n 2, 1) := by decide +kernel
theorem dX5_stall_9 : decode cX5_stall 9 = .ok (.aload_n 0, 1) := by decide +kernel
theorem dX5_stall_10 : decode cX5_stall 10 = .ok (.getfield 12, 3) := by decide +kernel
theorem dX5_stall_13 : decode cX5_stall 13 = .ok (.invokevirtual 213, 3) := by decide +kernel
theorem dX5_stall_16 : decode cX5_stall 16 = .ok (.istore_n 3, 1) := by decide +kernel
theorem dX5_stall_17 : decode cX5_stall 17 = .ok (.bipush 8, 2) := by decide +kernel
theorem dX5_stall_19 : decode cX5_stall 19 = .ok (.istore 4, 2) := by decide +kernel
theorem dX5_stall_21 : decode cX5_stall 21 = .ok (.iload 4, 2) := by decide +kernel
theorem dX5_stall_23 : decode cX5_stall 23 = .ok (.iload_n 3, 1) := by decide +kernel
theorem dX5_stall_24 : decode cX5_stall 24 = .ok (.if_icmp .ge 31, 3) := by decide +kernel
theorem dX5_stall_27 : decode cX5_stall 27 = .ok (.aload_n 0, 1) := by decide +kernel
theorem dX5_stall_28 : decode cX5_stall 28 = .ok (.getfield 12, 3) := by decide +kernel
theorem dX5_stall_31 : decode cX5_stall 31 = .ok (.iload 4, 2) := by decide +kernel
theorem dX5_stall_33 : decode cX5_stall 33 = .ok (.invokevirtual 170, 3) := by decide +kernel
theorem dX5_stall_36 : decode cX5_stall 36 = .ok (.ifCond .eq 13, 3) := by decide +kernel
theorem dX5_stall_39 : decode cX5_stall 39 = .ok (.iload_n 2, 1) := by decide +kernel
theorem dX5_stall_40 : decode cX5_stall 40 = .ok (.ifCond .ne 6, 3) := by decide +kernel
theorem dX5_stall_43 : decode cX5_stall 43 = .ok (.iload 4, 2) := by decide +kernel
theorem dX5_stall_45 : decode cX5_stall 45 = .ok (.ireturn, 1) := by decide +kernel
theorem dX5_stall_46 : decode cX5_stall 46 = .ok (.iinc 2 (-1), 3) := by decide +kernel
theorem dX5_stall_49 : decode cX5_stall 49 = .ok (.iinc 4 1, 3) := by decide +kernel
theorem dX5_stall_52 : decode cX5_stall 52 = .ok (.goto (-31), 3) := by decide +kernel
theorem dX5_stall_55 : decode cX5_stall 55 = .ok (.bipush (-2), 2) := by decide +kernel
theorem dX5_stall_57 : decode cX5_stall 57 = .ok (.ireturn, 1) := by decide +kernel
abbrev rmX5_stall : Room := { frames := 2, cells := 0, slots := 0, locals := 42 }
set_option maxRecDepth 100000 in
theorem hinX5_stall_5 : ∀ w ∈ wsX50, w ∈ wsX5_stall := by decide +kernel
set_option maxHeartbeats 4000000 in
set_option maxRecDepth 100000 in
theorem tX5_stall_49 {h : AH} {a1 : Int32} {k21 : Int32 → Int32 → Int32 → Option Int32} {x2 : Int32} {x3 : Int32} {x4 : Int32} {r0 : Int32} (C : Cx p rmX5_stall s m args meth c RX5 cX5_stall 5 (some .int) wsX5_stall D ad cy tb 0 0) (H21 : ∀ (x2 : Int32) (x3 : Int32) (x4 : Int32), k21 x2 x3 x4 = some r0 → AW p l e rmX5_stall s m args below meth c 5 D ad cy 0 0 (Qi D ad cy below args s r0 h) 21 [(0, .ref (ad 0)), (1, .int a1), (2, .int x2), (3, .int x3), (4, .int x4)] [] h) (hf : fX5_stall_49 k21 h a1 x2 x3 x4 = some r0) : AW p l e rmX5_stall s m args below meth c 5 D ad cy 0 0 (Qi D ad cy below args s r0 h) 49 [(0, .ref (ad 0)), (1, .int a1), (2, .int x2), (3, .int x3), (4, .int x4)] [] h := by
  unfold fX5_stall_49 at hf
  obtain ⟨v1, hvv1, hf⟩ := nm_ex hf
  refine aw_iinc (j := 4) (v := v1) (lv1 := [(4, .int v1), (0, .ref (ad 0)), (1, .int a1), (2, .int x2), (3, .int x3)]) C dX5_stall_49 rfl hvv1 (by decide) rfl ?_
  refine aw_goto (tgt := 21) C dX5_stall_52 (by decide) ?_
  refine aw_sub [1, 2, 3, 4, 0] rfl ?_
  exact H21 x2 x3 v1 hf
set_option maxHeartbeats 4000000 in
set_option maxRecDepth 100000 in
theorem tX5_stall_21b {h : AH} {a1 : Int32} {k21 : Int32 → Int32 → Int32 → Option Int32} {x2 : Int32} {x3 : Int32} {x4 : Int32} {r0 : Int32} (C : Cx p rmX5_stall s m args meth c RX5 cX5_stall 5 (some .int) wsX5_stall D ad cy tb 0 0) (H21 : ∀ (x2 : Int32) (x3 : Int32) (x4 : Int32), k21 x2 x3 x4 = some r0 → AW p l e rmX5_stall s m args below meth c 5 D ad cy 0 0 (Qi D ad cy below args s r0 h) 21 [(0, .ref (ad 0)), (1, .int a1), (2, .int x2), (3, .int x3), (4, .int x4)] [] h) (hf : fX5_stall_21b k21 h a1 x2 x3 x4 = some r0) : AW p l e rmX5_stall s m args below meth c 5 D ad cy 0 0 (Qi D ad cy below args s r0 h) 21 [(0, .ref (ad 0)), (1, .int a1), (2, .int x2), (3, .int x3), (4, .int x4)] [] h := by
  unfold fX5_stall_21b at hf
  refine aw_iload C dX5_stall_21 4 rfl ?_
  refine aw_iload_n C dX5_stall_23 rfl 3 rfl ?_
  refine aw_icmp_ge (tgt := 55) C dX5_stall_24 (by decide) hf (fun hf => ?_) (fun hf => ?_)
  · refine aw_bipush (v := (-2)) C dX5_stall_55 (by decide) ?_
    exact aw_iretR C dX5_stall_57 hf
  refine aw_aload_n C dX5_stall_27 rfl 0 rfl ?_
  refine aw_get C (kd_lt rfl (by decide)) (ce_5 rfl) rfl hinX5_stall_5 0 (by decide) rfl (by decide +kernel) rfl dX5_stall_28 ?_
  refine aw_iload C dX5_stall_31 4 rfl ?_
  obtain ⟨r1, hc, hf⟩ := bR_some hf
  refine aw_callVi (As := [.int x4]) (rest := []) C rfl (by decide) rfl (kX4_isStalled (l := l) (D := D) (ad := ad) (cy := cy) (tb := tb) C.2.2.2.2.2.2.2.2.1 rfl hc) (fun ht _ => cwV 1 ht gX5_stall_X4_isStalled rfl rfl rfl (by decide +kernel) ⟨Nat.le_of_ble_eq_true rfl, Nat.le_of_ble_eq_true rfl⟩) rfl rfl (Nat.le_of_ble_eq_true rfl) dX5_stall_33 ?_
  refine aw_if_eq (tgt := 49) C dX5_stall_36 (by decide) hf (fun hf => ?_) (fun hf => ?_)
  · refine aw_sub [0, 1, 2, 3, 4] rfl ?_
    exact tX5_stall_49 C  H21 hf
  refine aw_iload_n C dX5_stall_39 rfl 2 rfl ?_
  refine aw_if_ne (tgt := 46) C dX5_stall_40 (by decide) hf (fun hf => ?_) (fun hf => ?_)
  · obtain ⟨v2, hvv2, hf⟩ := nm_ex hf
    refine aw_iinc (j := 2) (v := v2) (lv1 := [(2, .int v2), (0, .ref (ad 0)), (1, .int a1), (3, .int x3), (4, .int x4)]) C dX5_stall_46 rfl hvv2 (by decide) rfl ?_
    refine aw_sub [1, 2, 0, 3, 4] rfl ?_
    exact tX5_stall_49 C  H21 hf
  refine aw_iload C dX5_stall_43 4 rfl ?_
  exact aw_iretR C dX5_stall_45 hf
set_option maxHeartbeats 4000000 in
set_option maxRecDepth 100000 in
theorem tX5_stall_21 {h : AH} {a1 : Int32} {r0 : Int32} (C : Cx p rmX5_stall s m args meth c RX5 cX5_stall 5 (some .int) wsX5_stall D ad cy tb 0 0) : ∀ (n : Nat) (x2 : Int32) (x3 : Int32) (x4 : Int32), fX5_stall_21 h a1 n x2 x3 x4 = some r0 → AW p l e rmX5_stall s m args below meth c 5 D ad cy 0 0 (Qi D ad cy below args s r0 h) 21 [(0, .ref (ad 0)), (1, .int a1), (2, .int x2), (3, .int x3), (4, .int x4)] [] h := by
  intro n
  induction n with
  | zero => intro x2 x3 x4 hf; cases hf
  | succ n ih => intro x2 x3 x4 hf; exact tX5_stall_21b C  ih  hf
set_option maxHeartbeats 4000000 in
set_option maxRecDepth 100000 in
theorem tX5_stall_0 {h : AH} {a1 : Int32} {r0 : Int32} (C : Cx p rmX5_stall s m args meth c RX5 cX5_stall 5 (some .int) wsX5_stall D ad cy tb 0 0) (hf : fX5_stall h a1 = some r0) : AW p l e rmX5_stall s m args below meth c 5 D ad cy 0 0 (Qi D ad cy below args s r0 h) 0 [(0, .ref (ad 0)), (1, .int a1)] [] h := by
  unfold fX5_stall at hf
  refine aw_iload_n C dX5_stall_0 rfl 1 rfl ?_
  refine aw_if_ge (tgt := 7) C dX5_stall_1 (by decide) hf (fun hf => ?_) (fun hf => ?_)
  · refine aw_iload_n C dX5_stall_7 rfl 1 rfl ?_
    refine aw_istore_n (lv1 := [(2, .int a1), (0, .ref (ad 0)), (1, .int a1)]) C dX5_stall_8 rfl (by decide) rfl ?_
    refine aw_aload_n C dX5_stall_9 rfl 1 rfl ?_
    refine aw_get C (kd_lt rfl (by decide)) (ce_5 rfl) rfl hinX5_stall_5 0 (by decide) rfl (by decide +kernel) rfl dX5_stall_10 ?_
    obtain ⟨r1, hc, hf⟩ := bR_some hf
    refine aw_callVi (As := []) (rest := []) C rfl (by decide) rfl (kX4_endOfWords (l := l) (D := D) (ad := ad) (cy := cy) (tb := tb) C.2.2.2.2.2.2.2.2.1 rfl hc) (fun ht _ => cwV 0 ht gX5_stall_X4_endOfWords rfl rfl rfl (by decide +kernel) ⟨Nat.le_of_ble_eq_true rfl, Nat.le_of_ble_eq_true rfl⟩) rfl rfl (Nat.le_of_ble_eq_true rfl) dX5_stall_13 ?_
    refine aw_istore_n (lv1 := [(3, .int r1), (2, .int a1), (0, .ref (ad 0)), (1, .int a1)]) C dX5_stall_16 rfl (by decide) rfl ?_
    refine aw_bipush (v := 8) C dX5_stall_17 (by decide) ?_
    refine aw_istore (lv1 := [(4, .int 8), (3, .int r1), (2, .int a1), (0, .ref (ad 0)), (1, .int a1)]) C dX5_stall_19 (by decide) rfl ?_
    refine aw_sub [3, 4, 2, 1, 0] rfl ?_
    exact tX5_stall_21 C   FU a1 r1 8 hf
  refine aw_bipush (v := (-2)) C dX5_stall_4 (by decide) ?_
  exact aw_iretR C dX5_stall_6 hf
theorem kX5_stall {h : AH} {a1 : Int32} {r0 : Int32} (hi : Inj ad) (hf : fX5_stall h a1 = some r0) : Ki l yX5_stall wsX5_stall rmX5_stall D ad cy tb [.ref (ad 0), .int a1] h r0 h := met_i (lv := [(0, .ref (ad 0)), (1, .int a1)]) hi (by decide) rfl (Nat.le_of_ble_eq_true rfl) rfl rfl (fun _ _ _ _ _ _ _ _ C => tX5_stall_0 C  hf)
