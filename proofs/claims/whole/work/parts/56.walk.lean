variable {p : Program} {l : Launch} {e : Env} {s : State} {m : MethodId} {args : Array Value} {below : List Frame} {meth : Method} {c : Code} {D : va_G} {ad : Nat → Nat} {cy : Nat → ClassId} {tb : Nat → Nat}
theorem dX5_isSheet_0 : decode cX5_isSheet 0 = .ok (.iload_n 0, 1) := by decide +kernel
theorem dX5_isSheet_1 : decode cX5_isSheet 1 = .ok (.ifCond .lt 12, 3) := by decide +kernel
theorem dX5_isSheet_4 : decode cX5_isSheet 4 = .ok (.iload_n 0, 1) := by decide +kernel
theorem dX5_isSheet_5 : decode cX5_isSheet 5 = .ok (.iconst 4, 1) := by decide +kernel
theorem dX5_isSheet_6 : decode cX5_isSheet 6 = .ok (.if_icmp .ge 7, 3) := by decide +kernel
theorem dX5_isSheet_9 : decode cX5_isSheet 9 = .ok (.iconst 1, 1) := by decide +kernel
theorem dX5_isSheet_10 : decode cX5_isSheet 10 = .ok (.goto 4, 3) := by decide +kernel
theorem dX5_isSheet_13 : decode cX5_isSheet 13 = .ok (.iconst 0, 1) := by decide +kernel
theorem dX5_isSheet_14 : decode cX5_isSheet 14 = .ok (.ireturn, 1) := by decide +kernel
abbrev rmX5_isSheet : Room := { frames := 0, cells := 0, slots := 0, locals := 0 }
set_option maxHeartbeats 4000000 in
set_option maxRecDepth 100000 in
theorem tX5_isSheet_0 {h : AH} {a0 : Int32} {r0 : Int32} (C : Cx p rmX5_isSheet s m args meth c RX5 cX5_isSheet 1 (some .boolean) wsX5_isSheet D ad cy tb 0 0) (hf : fX5_isSheet h a0 = some r0) : AW p l e rmX5_isSheet s m args below meth c 1 D ad cy 0 0 (Qi D ad cy below args s r0 h) 0 [(0, .int a0)] [] h := by
  unfold fX5_isSheet at hf
  refine aw_iload_n C dX5_isSheet_0 rfl 0 rfl ?_
  refine aw_if_lt (tgt := 13) C dX5_isSheet_1 (by decide) hf (fun hf => ?_) (fun hf => ?_)
  · refine aw_iconst (v := 0) C dX5_isSheet_13 (by decide) ?_
    exact aw_zretR C (by decide) dX5_isSheet_14 hf
  refine aw_iload_n C dX5_isSheet_4 rfl 0 rfl ?_
  refine aw_iconst (v := 4) C dX5_isSheet_5 (by decide) ?_
  refine aw_icmp_ge (tgt := 13) C dX5_isSheet_6 (by decide) hf (fun hf => ?_) (fun hf => ?_)
  · refine aw_iconst (v := 0) C dX5_isSheet_13 (by decide) ?_
    exact aw_zretR C (by decide) dX5_isSheet_14 hf
  refine aw_iconst (v := 1) C dX5_isSheet_9 (by decide) ?_
  refine aw_goto (tgt := 14) C dX5_isSheet_10 (by decide) ?_
  exact aw_zretR C (by decide) dX5_isSheet_14 hf
theorem kX5_isSheet {h : AH} {a0 : Int32} {r0 : Int32} (hi : Inj ad) (hf : fX5_isSheet h a0 = some r0) : Ki l yX5_isSheet wsX5_isSheet rmX5_isSheet D ad cy tb [.int a0] h r0 h := met_i (lv := [(0, .int a0)]) hi (by decide) rfl (Nat.le_of_ble_eq_true rfl) rfl rfl (fun _ _ _ _ _ _ _ _ C => tX5_isSheet_0 C  hf)
theorem dX5_finding_0 : decode cX5_finding 0 = .ok (.aload_n 0, 1) := by decide +kernel
theorem dX5_finding_1 : decode cX5_finding 1 = .ok (.bipush (-10), 2) := by decide +kernel
theorem dX5_finding_3 : decode cX5_finding 3 = .ok (.iload_n 1, 1) := by decide +kernel
theorem dX5_finding_4 : decode cX5_finding 4 = .ok (.isub, 1) := by decide +kernel
theorem dX5_finding_5 : decode cX5_finding 5 = .ok (.putfield 55, 3) := by decide +kernel
theorem dX5_finding_8 : decode cX5_finding 8 = .ok (.iload_n 1, 1) := by decide +kernel
theorem dX5_finding_9 : decode cX5_finding 9 = .ok (.ireturn, 1) := by decide +kernel
abbrev rmX5_finding : Room := { frames := 0, cells := 0, slots := 0, locals := 0 }
set_option maxRecDepth 100000 in
theorem hinX5_finding_5 : ∀ w ∈ wsX50, w ∈ wsX5_finding := by decide +kernel
set_option maxHeartbeats 4000000 in
set_option maxRecDepth 100000 in
theorem tX5_finding_0 {h : AH} {a1 : Int32} {r0 : Int32} {h0 : AH} (C : Cx p rmX5_finding s m args meth c RX5 cX5_finding 2 (some .int) wsX5_finding D ad cy tb 0 0) (hf : fX5_finding h a1 = some (r0, h0)) : AW p l e rmX5_finding s m args below meth c 2 D ad cy 0 0 (Qi D ad cy below args s r0 h0) 0 [(0, .ref (ad 0)), (1, .int a1)] [] h := by
  unfold fX5_finding at hf
  refine aw_aload_n C dX5_finding_0 rfl 0 rfl ?_
  refine aw_bipush (v := (-10)) C dX5_finding_1 (by decide) ?_
  refine aw_iload_n C dX5_finding_3 rfl 1 rfl ?_
  refine aw_isub C dX5_finding_4 ?_
  refine aw_put (ty := .int) C (kd_lt rfl (by decide)) (ce_5 rfl) rfl hinX5_finding_5 tyX5 tyX5_ok nmX5 8 (by decide) rfl (by decide +kernel) rfl (by decide +kernel) rfl rfl (Nat.le_of_ble_eq_true rfl) (cs_5_8 rfl) dX5_finding_5 ?_
  refine aw_nmH hf (fun h1 hf => ?_)
  refine aw_iload_n C dX5_finding_8 rfl 1 rfl ?_
  exact aw_iretW C dX5_finding_9 hf
theorem kX5_finding {h : AH} {a1 : Int32} {r0 : Int32} {h0 : AH} (hi : Inj ad) (hf : fX5_finding h a1 = some (r0, h0)) : Ki l yX5_finding wsX5_finding rmX5_finding D ad cy tb [.ref (ad 0), .int a1] h r0 h0 := met_i (lv := [(0, .ref (ad 0)), (1, .int a1)]) hi (by decide) rfl (Nat.le_of_ble_eq_true rfl) rfl rfl (fun _ _ _ _ _ _ _ _ C => tX5_finding_0 C  hf)
set_option maxRecDepth 20000 in
theorem ggX5_read_X5_isBlock : GoodIn wsX5_read wsX5_isBlock := goodIn_r _ [6, 7, 29, 30, 31, 32, 33, 34, 35, 36, 37, 42, 43, 44] (by decide +kernel) (by decide +kernel)
set_option maxRecDepth 20000 in
theorem gX5_read_X5_isBlock : GoodIn wsX5_read (wsV RX5 106 RX5 yX5_isBlock wsX5_isBlock) := goodIn_app (goodIn_of _ (by decide +kernel)) ggX5_read_X5_isBlock
set_option maxRecDepth 20000 in
theorem ggX5_read_X5_isSheet : GoodIn wsX5_read wsX5_isSheet := goodIn_r _ [10] (by decide +kernel) (by decide +kernel)
set_option maxRecDepth 20000 in
theorem gX5_read_X5_isSheet : GoodIn wsX5_read (va_wsS RX5 109 yX5_isSheet wsX5_isSheet) := goodIn_app (goodIn_of _ (by decide +kernel)) ggX5_read_X5_isSheet
set_option maxRecDepth 20000 in
theorem ggX5_read_X5_finding : GoodIn wsX5_read wsX5_finding := goodIn_r _ [14, 15, 29, 30, 31, 32, 33, 34, 35, 36, 37] (by decide +kernel) (by decide +kernel)
set_option maxRecDepth 20000 in
theorem gX5_read_X5_finding : GoodIn wsX5_read (wsV RX5 116 RX5 yX5_finding wsX5_finding) := goodIn_app (goodIn_of _ (by decide +kernel)) ggX5_read_X5_finding
set_option maxRecDepth 20000 in
theorem ggX5_read_X5_hitBit : GoodIn wsX5_read wsX5_hitBit := goodIn_r _ [19, 7, 20, 21, 22, 23, 24, 25, 26, 27, 28, 29, 30, 31, 32, 33, 34, 35, 36, 37, 42, 43, 44] (by decide +kernel) (by decide +kernel)
set_option maxRecDepth 20000 in
theorem gX5_read_X5_hitBit : GoodIn wsX5_read (wsV RX5 98 RX5 yX5_hitBit wsX5_hitBit) := goodIn_app (goodIn_of _ (by decide +kernel)) ggX5_read_X5_hitBit
theorem dX5_read_0 : decode cX5_read 0 = .ok (.aload_n 0, 1) := by decide +kernel
theorem dX5_read_1 : decode cX5_read 1 = .ok (.iload_n 1, 1) := by decide +kernel
theorem dX5_read_2 : decode cX5_read 2 = .ok (.invokevirtual 106, 3) := by decide +kernel
theorem dX5_read_5 : decode cX5_read 5 = .ok (.ifCond .eq 10, 3) := by decide +kernel
theorem dX5_read_8 : decode cX5_read 8 = .ok (.iload_n 2, 1) := by decide +kernel
theorem dX5_read_9 : decode cX5_read 9 = .ok (.invokestatic 109, 3) := by decide +kernel
theorem dX5_read_12 : decode cX5_read 12 = .ok (.ifCond .ne 6, 3) := by decide +kernel
theorem dX5_read_15 : decode cX5_read 15 = .ok (.bipush (-2), 2) := by decide +kernel
theorem dX5_read_17 : decode cX5_read 17 = .ok (.ireturn, 1) := by decide +kernel
theorem dX5_read_18 : decode cX5_read 18 = .ok (.aload_n 0, 1) := by decide +kernel
theorem dX5_read_19 : decode cX5_read 19 = .ok (.getfield 46, 3) := by decide +kernel
theorem dX5_read_22 : decode cX5_read 22 = .ok (.iload_n 2, 1) := by decide +kernel
theorem dX5_read_23 : decode cX5_read 23 = .ok (.aaload, 1) := by decide +kernel
theorem dX5_read_24 : decode cX5_read 24 = .ok (.astore_n 3, 1) := by decide +kernel
theorem dX5_read_25 : decode cX5_read 25 = .ok (.aload_n 3, 1) := by decide +kernel
theorem dX5_read_26 : decode cX5_read 26 = .ok (.getfield 112, 3) := by decide +kernel
theorem dX5_read_29 : decode cX5_read 29 = .ok (.ifCond .eq 10, 3) := by decide +kernel
theorem dX5_read_32 : decode cX5_read 32 = .ok (.aload_n 0, 1) := by decide +kernel
theorem dX5_read_33 : decode cX5_read 33 = .ok (.bipush (-11), 2) := by decide +kernel
theorem dX5_read_35 : decode cX5_read 35 = .ok (.invokevirtual 116, 3) := by decide +kernel
theorem dX5_read_38 : decode cX5_read 38 = .ok (.ireturn, 1) := by decide +kernel
theorem dX5_read_39 : decode cX5_read 39 = .ok (.iconst 0, 1) := by decide +kernel
theorem dX5_read_40 : decode cX5_read 40 = .ok (.istore 4, 2) := by decide +kernel
theorem dX5_read_42 : decode cX5_read 42 = .ok (.iconst 0, 1) := by decide +kernel
theorem dX5_read_43 : decode cX5_read 43 = .ok (.istore 5, 2) := by decide +kernel
theorem dX5_read_45 : decode cX5_read 45 = .ok (.iload 5, 2) := by decide +kernel
theorem dX5_read_47 : decode cX5_read 47 = .ok (.aload_n 3, 1) := by decide +kernel
theorem dX5_read_48 : decode cX5_read 48 = .ok (.getfield 120, 3) := by decide +kernel
theorem dX5_read_51 : decode cX5_read 51 = .ok (.if_icmp .ge 35, 3) := by decide +kernel
theorem dX5_read_54 : decode cX5_read 54 = .ok (.aload_n 3, 1) := by decide +kernel
theorem dX5_read_55 : decode cX5_read 55 = .ok (.getfield 123, 3) := by decide +kernel
theorem dX5_read_58 : decode cX5_read 58 = .ok (.iload 5, 2) := by decide +kernel
theorem dX5_read_60 : decode cX5_read 60 = .ok (.laload, 1) := by decide +kernel
theorem dX5_read_61 : decode cX5_read 61 = .ok (.lconst 0, 1) := by decide +kernel
theorem dX5_read_62 : decode cX5_read 62 = .ok (.lcmp, 1) := by decide +kernel
theorem dX5_read_63 : decode cX5_read 63 = .ok (.ifCond .eq 17, 3) := by decide +kernel
theorem dX5_read_66 : decode cX5_read 66 = .ok (.aload_n 0, 1) := by decide +kernel
theorem dX5_read_67 : decode cX5_read 67 = .ok (.bipush 64, 2) := by decide +kernel
theorem dX5_read_69 : decode cX5_read 69 = .ok (.iload_n 1, 1) := by decide +kernel
theorem dX5_read_70 : decode cX5_read 70 = .ok (.imul, 1) := by decide +kernel
theorem dX5_read_71 : decode cX5_read 71 = .ok (.iload 5, 2) := by decide +kernel
theorem dX5_read_73 : decode cX5_read 73 = .ok (.iadd, 1) := by decide +kernel
theorem dX5_read_74 : decode cX5_read 74 = .ok (.invokevirtual 98, 3) := by decide +kernel
theorem dX5_read_77 : decode cX5_read 77 = .ok (.iinc 4 1, 3) := by decide +kernel
theorem dX5_read_80 : decode cX5_read 80 = .ok (.iinc 5 1, 3) := by decide +kernel
theorem dX5_read_83 : decode cX5_read 83 = .ok (.goto (-38), 3) := by decide +kernel
theorem dX5_read_86 : decode cX5_read 86 = .ok (.iload 4, 2) := by decide +kernel
theorem dX5_read_88 : decode cX5_read 88 = .ok (.ireturn, 1) := by decide +kernel
abbrev rmX5_read : Room := { frames := 2, cells := 0, slots := 0, locals := 45 }
set_option maxRecDepth 100000 in
theorem hinX5_read_5 : ∀ w ∈ wsX50, w ∈ wsX5_read := by decide +kernel
set_option maxRecDepth 100000 in
theorem hinX5_read_3 : ∀ w ∈ wsX30, w ∈ wsX5_read := by decide +kernel
set_option maxHeartbeats 4000000 in
set_option maxRecDepth 100000 in
theorem tX5_read_80 {h : AH} {a1 : Int32} {a2 : Int32} {k45 : AH → Nat → Int32 → Int32 → Option (Int32 × AH)} {x3 : Nat} {x4 : Int32} {x5 : Int32} {r0 : Int32} {h0 : AH} (C : Cx p rmX5_read s m args meth c RX5 cX5_read 6 (some .int) wsX5_read D ad cy tb 0 0) (H45 : ∀ (h : AH) (x3 : Nat) (x4 : Int32) (x5 : Int32), kd x3 = 3 → k45 h x3 x4 x5 = some (r0, h0) → AW p l e rmX5_read s m args below meth c 6 D ad cy 0 0 (Qi D ad cy below args s r0 h0) 45 [(0, .ref (ad 0)), (1, .int a1), (2, .int a2), (3, .ref (ad x3)), (4, .int x4), (5, .int x5)] [] h) (hk_x3 : kd x3 = 3) (hf : fX5_read_80 k45 a1 a2 h x3 x4 x5 = some (r0, h0)) : AW p l e rmX5_read s m args below meth c 6 D ad cy 0 0 (Qi D ad cy below args s r0 h0) 80 [(0, .ref (ad 0)), (1, .int a1), (2, .int a2), (3, .ref (ad x3)), (4, .int x4), (5, .int x5)] [] h := by
  unfold fX5_read_80 at hf
  obtain ⟨v1, hvv1, hf⟩ := nm_ex hf
  refine aw_iinc (j := 5) (v := v1) (lv1 := [(5, .int v1), (0, .ref (ad 0)), (1, .int a1), (2, .int a2), (3, .ref (ad x3)), (4, .int x4)]) C dX5_read_80 rfl hvv1 (by decide) rfl ?_
  refine aw_goto (tgt := 45) C dX5_read_83 (by decide) ?_
  refine aw_sub [1, 2, 3, 4, 5, 0] rfl ?_
  exact H45 h x3 x4 v1 hk_x3 hf
set_option maxHeartbeats 4000000 in
set_option maxRecDepth 100000 in
theorem tX5_read_45b {h : AH} {a1 : Int32} {a2 : Int32} {k45 : AH → Nat → Int32 → Int32 → Option (Int32 × AH)} {x3 : Nat} {x4 : Int32} {x5 : Int32} {r0 : Int32} {h0 : AH} (C : Cx p rmX5_read s m args meth c RX5 cX5_read 6 (some .int) wsX5_read D ad cy tb 0 0) (H45 : ∀ (h : AH) (x3 : Nat) (x4 : Int32) (x5 : Int32), kd x3 = 3 → k45 h x3 x4 x5 = some (r0, h0) → AW p l e rmX5_read s m args below meth c 6 D ad cy 0 0 (Qi D ad cy below args s r0 h0) 45 [(0, .ref (ad 0)), (1, .int a1), (2, .int a2), (3, .ref (ad x3)), (4, .int x4), (5, .int x5)] [] h) (hk_x3 : kd x3 = 3) (hf : fX5_read_45b k45 a1 a2 h x3 x4 x5 = some (r0, h0)) : AW p l e rmX5_read s m args below meth c 6 D ad cy 0 0 (Qi D ad cy below args s r0 h0) 45 [(0, .ref (ad 0)), (1, .int a1), (2, .int a2), (3, .ref (ad x3)), (4, .int x4), (5, .int x5)] [] h := by
  unfold fX5_read_45b at hf
  refine aw_iload C dX5_read_45 5 rfl ?_
  refine aw_aload_n C dX5_read_47 rfl 3 rfl ?_
  refine aw_getN (host := "StairCodes") C (kd_lt hk_x3 (by decide)) (ce_3 hk_x3) rfl hinX5_read_3 2 (by decide) rfl (by decide +kernel) rfl dX5_read_48 ?_
  refine aw_icmp_ge (tgt := 86) C dX5_read_51 (by decide) hf (fun hf => ?_) (fun hf => ?_)
  · refine aw_iload C dX5_read_86 4 rfl ?_
    exact aw_iretW C dX5_read_88 hf
  refine aw_aload_n C dX5_read_54 rfl 3 rfl ?_
  refine aw_getN (host := "StairCodes") C (kd_lt hk_x3 (by decide)) (ce_3 hk_x3) rfl hinX5_read_3 3 (by decide) rfl (by decide +kernel) rfl dX5_read_55 ?_
  refine aw_iload C dX5_read_58 5 rfl ?_
  refine aw_lald C (kd3a hk_x3) (ln3a hk_x3) hf dX5_read_60 (fun hf => ?_)
  refine aw_lconst (v := 0) C dX5_read_61 (by decide) ?_
  refine aw_lcmp C dX5_read_62 ?_
  refine aw_if_eq (tgt := 80) C dX5_read_63 (by decide) hf (fun hf => ?_) (fun hf => ?_)
  · refine aw_sub [0, 1, 2, 3, 4, 5] rfl ?_
    exact tX5_read_80 C  H45 hk_x3 hf
  refine aw_aload_n C dX5_read_66 rfl 0 rfl ?_
  refine aw_bipush (v := 64) C dX5_read_67 (by decide) ?_
  refine aw_iload_n C dX5_read_69 rfl 1 rfl ?_
  refine aw_imul C dX5_read_70 ?_
  refine aw_iload C dX5_read_71 5 rfl ?_
  refine aw_iadd C dX5_read_73 ?_
  obtain ⟨h1, hc, hf⟩ := bR_some hf
  refine aw_callVv (As := [.int ((64 * a1) + x5)]) (rest := []) C rfl (by decide) rfl (kX5_hitBit (l := l) (D := D) (ad := ad) (cy := cy) (tb := tb) C.2.2.2.2.2.2.2.2.1 hc) (fun ht _ => cwV 1 ht gX5_read_X5_hitBit rfl rfl rfl (by decide +kernel) ⟨Nat.le_of_ble_eq_true rfl, Nat.le_of_ble_eq_true rfl⟩) rfl rfl (Nat.le_of_ble_eq_true rfl) dX5_read_74 ?_
  obtain ⟨v2, hvv2, hf⟩ := nm_ex hf
  refine aw_iinc (j := 4) (v := v2) (lv1 := [(4, .int v2), (0, .ref (ad 0)), (1, .int a1), (2, .int a2), (3, .ref (ad x3)), (5, .int x5)]) C dX5_read_77 rfl hvv2 (by decide) rfl ?_
  refine aw_sub [1, 2, 3, 4, 0, 5] rfl ?_
  exact tX5_read_80 C  H45 hk_x3 hf
set_option maxHeartbeats 4000000 in
set_option maxRecDepth 100000 in
theorem tX5_read_45  {a1 : Int32} {a2 : Int32} {r0 : Int32} {h0 : AH} (C : Cx p rmX5_read s m args meth c RX5 cX5_read 6 (some .int) wsX5_read D ad cy tb 0 0) : ∀ (n : Nat) (h : AH) (x3 : Nat) (x4 : Int32) (x5 : Int32), kd x3 = 3 → fX5_read_45 a1 a2 n h x3 x4 x5 = some (r0, h0) → AW p l e rmX5_read s m args below meth c 6 D ad cy 0 0 (Qi D ad cy below args s r0 h0) 45 [(0, .ref (ad 0)), (1, .int a1), (2, .int a2), (3, .ref (ad x3)), (4, .int x4), (5, .int x5)] [] h := by
  intro n
  induction n with
  | zero => intro h x3 x4 x5 hk_x3 hf; cases hf
  | succ n ih => intro h x3 x4 x5 hk_x3 hf; exact tX5_read_45b C  ih hk_x3 hf
set_option maxHeartbeats 4000000 in
set_option maxRecDepth 100000 in
theorem tX5_read_0 {h : AH} {a1 : Int32} {a2 : Int32} {r0 : Int32} {h0 : AH} (C : Cx p rmX5_read s m args meth c RX5 cX5_read 6 (some .int) wsX5_read D ad cy tb 0 0) (hf : fX5_read h a1 a2 = some (r0, h0)) : AW p l e rmX5_read s m args below meth c 6 D ad cy 0 0 (Qi D ad cy below args s r0 h0) 0 [(0, .ref (ad 0)), (1, .int a1), (2, .int a2)] [] h := by
  unfold fX5_read at hf
  refine aw_aload_n C dX5_read_0 rfl 0 rfl ?_
  refine aw_iload_n C dX5_read_1 rfl 1 rfl ?_
  obtain ⟨r1, hc, hf⟩ := bR_some hf
  refine aw_callVi (As := [.int a1]) (rest := []) C rfl (by decide) rfl (kX5_isBlock (l := l) (D := D) (ad := ad) (cy := cy) (tb := tb) C.2.2.2.2.2.2.2.2.1 hc) (fun ht _ => cwV 1 ht gX5_read_X5_isBlock rfl rfl rfl (by decide +kernel) ⟨Nat.le_of_ble_eq_true rfl, Nat.le_of_ble_eq_true rfl⟩) rfl rfl (Nat.le_of_ble_eq_true rfl) dX5_read_2 ?_
  refine aw_if_eq (tgt := 15) C dX5_read_5 (by decide) hf (fun hf => ?_) (fun hf => ?_)
  · refine aw_bipush (v := (-2)) C dX5_read_15 (by decide) ?_
    exact aw_iretW C dX5_read_17 hf
  refine aw_iload_n C dX5_read_8 rfl 2 rfl ?_
  obtain ⟨r2, hc, hf⟩ := bR_some hf
  refine aw_callSi (As := [.int a2]) (rest := []) C (kX5_isSheet (l := l) (D := D) (ad := ad) (cy := cy) (tb := tb) C.2.2.2.2.2.2.2.2.1 hc) (fun ht _ => va_cwS 1 ht gX5_read_X5_isSheet rfl rfl rfl (by decide +kernel) ⟨Nat.le_of_ble_eq_true rfl, Nat.le_of_ble_eq_true rfl⟩) rfl rfl (Nat.le_of_ble_eq_true rfl) dX5_read_9 ?_
  refine aw_if_ne (tgt := 18) C dX5_read_12 (by decide) hf (fun hf => ?_) (fun hf => ?_)
  · refine aw_aload_n C dX5_read_18 rfl 0 rfl ?_
    refine aw_get C (kd_lt rfl (by decide)) (ce_5 rfl) rfl hinX5_read_5 6 (by decide) rfl (by decide +kernel) rfl dX5_read_19 ?_
    refine aw_iload_n C dX5_read_22 rfl 2 rfl ?_
    refine aw_aald C hf dX5_read_23 (fun r3 hkr3 hf => ?_)
    refine aw_astore_n (lv1 := [(3, .ref (ad r3)), (0, .ref (ad 0)), (1, .int a1), (2, .int a2)]) C dX5_read_24 rfl (by decide) rfl ?_
    refine aw_aload_n C dX5_read_25 rfl 0 rfl ?_
    refine aw_getN (host := "StairCodes") C (kd_lt hkr3 (by decide)) (ce_3 hkr3) rfl hinX5_read_3 0 (by decide) rfl (by decide +kernel) rfl dX5_read_26 ?_
    refine aw_if_eq (tgt := 39) C dX5_read_29 (by decide) hf (fun hf => ?_) (fun hf => ?_)
    · refine aw_iconst (v := 0) C dX5_read_39 (by decide) ?_
      refine aw_istore (lv1 := [(4, .int 0), (3, .ref (ad r3)), (0, .ref (ad 0)), (1, .int a1), (2, .int a2)]) C dX5_read_40 (by decide) rfl ?_
      refine aw_iconst (v := 0) C dX5_read_42 (by decide) ?_
      refine aw_istore (lv1 := [(5, .int 0), (4, .int 0), (3, .ref (ad r3)), (0, .ref (ad 0)), (1, .int a1), (2, .int a2)]) C dX5_read_43 (by decide) rfl ?_
      refine aw_sub [3, 4, 5, 2, 1, 0] rfl ?_
      exact tX5_read_45 C   FU h r3 0 0 hkr3 hf
    refine aw_aload_n C dX5_read_32 rfl 1 rfl ?_
    refine aw_bipush (v := (-11)) C dX5_read_33 (by decide) ?_
    obtain ⟨r5, h4, hc, hf⟩ := bW_some hf
    refine aw_callVi (As := [.int (-11)]) (rest := []) C rfl (by decide) rfl (kX5_finding (l := l) (D := D) (ad := ad) (cy := cy) (tb := tb) C.2.2.2.2.2.2.2.2.1 hc) (fun ht _ => cwV 1 ht gX5_read_X5_finding rfl rfl rfl (by decide +kernel) ⟨Nat.le_of_ble_eq_true rfl, Nat.le_of_ble_eq_true rfl⟩) rfl rfl (Nat.le_of_ble_eq_true rfl) dX5_read_35 ?_
    exact aw_iretW C dX5_read_38 hf
  refine aw_bipush (v := (-2)) C dX5_read_15 (by decide) ?_
  exact aw_iretW C dX5_read_17 hf
theorem kX5_read {h : AH} {a1 : Int32} {a2 : Int32} {r0 : Int32} {h0 : AH} (hi : Inj ad) (hf : fX5_read h a1 a2 = some (r0, h0)) : Ki l yX5_read wsX5_read rmX5_read D ad cy tb [.ref (ad 0), .int a1, .int a2] h r0 h0 := met_i (lv := [(0, .ref (ad 0)), (1, .int a1), (2, .int a2)]) hi (by decide) rfl (Nat.le_of_ble_eq_true rfl) rfl rfl (fun _ _ _ _ _ _ _ _ C => tX5_read_0 C  hf)
set_option maxRecDepth 20000 in
theorem ggX6_isSheet_X6_in : GoodIn wsX6_isSheet wsX6_in := goodIn_r _ [4] (by decide +kernel) (by decide +kernel)
set_option maxRecDepth 20000 in
theorem gX6_isSheet_X6_in : GoodIn wsX6_isSheet (va_wsS RX6 73 yX6_in wsX6_in) := goodIn_app (goodIn_of _ (by decide +kernel)) ggX6_isSheet_X6_in
theorem dX6_isSheet_0 : decode cX6_isSheet 0 = .ok (.iload_n 0, 1) := by decide +kernel
theorem dX6_isSheet_1 : decode cX6_isSheet 1 = .ok (.iconst 0, 1) := by decide +kernel
theorem dX6_isSheet_2 : decode cX6_isSheet 2 = .ok (.iconst 3, 1) := by decide +kernel
theorem dX6_isSheet_3 : decode cX6_isSheet 3 = .ok (.invokestatic 73, 3) := by decide +kernel
theorem dX6_isSheet_6 : decode cX6_isSheet 6 = .ok (.ireturn, 1) := by decide +kernel
abbrev rmX6_isSheet : Room := { frames := 1, cells := 0, slots := 0, locals := 22 }
set_option maxHeartbeats 4000000 in
set_option maxRecDepth 100000 in
theorem tX6_isSheet_0 {h : AH} {a0 : Int32} {r0 : Int32} (C : Cx p rmX6_isSheet s m args meth c RX6 cX6_isSheet 1 (some .boolean) wsX6_isSheet D ad cy tb 0 0) (hf : fX6_isSheet h a0 = some r0) : AW p l e rmX6_isSheet s m args below meth c 1 D ad cy 0 0 (Qi D ad cy below args s r0 h) 0 [(0, .int a0)] [] h := by
  unfold fX6_isSheet at hf
  refine aw_iload_n C dX6_isSheet_0 rfl 0 rfl ?_
  refine aw_iconst (v := 0) C dX6_isSheet_1 (by decide) ?_
  refine aw_iconst (v := 3) C dX6_isSheet_2 (by decide) ?_
  obtain ⟨r1, hc, hf⟩ := bR_some hf
  refine aw_callSi (As := [.int a0, .int 0, .int 3]) (rest := []) C (kX6_in (l := l) (D := D) (ad := ad) (cy := cy) (tb := tb) C.2.2.2.2.2.2.2.2.1 hc) (fun ht _ => va_cwS 3 ht gX6_isSheet_X6_in rfl rfl rfl (by decide +kernel) ⟨Nat.le_of_ble_eq_true rfl, Nat.le_of_ble_eq_true rfl⟩) rfl rfl (Nat.le_of_ble_eq_true rfl) dX6_isSheet_3 ?_
  exact aw_zretN C dX6_isSheet_6 hf
theorem kX6_isSheet {h : AH} {a0 : Int32} {r0 : Int32} (hi : Inj ad) (hf : fX6_isSheet h a0 = some r0) : Ki l yX6_isSheet wsX6_isSheet rmX6_isSheet D ad cy tb [.int a0] h r0 h := met_i (lv := [(0, .int a0)]) hi (by decide) rfl (Nat.le_of_ble_eq_true rfl) rfl rfl (fun _ _ _ _ _ _ _ _ C => tX6_isSheet_0 C  hf)
theorem dX6_meets_0 : decode cX6_meets 0 = .ok (.aload_n 0, 1) := by decide +kernel
theorem dX6_meets_1 : decode cX6_meets 1 = .ok (.iload_n 1, 1) := by decide +kernel
theorem dX6_meets_2 : decode cX6_meets 2 = .ok (.putfield 199, 3) := by decide +kernel
theorem dX6_meets_5 : decode cX6_meets 5 = .ok (.bipush (-10), 2) := by decide +kernel
theorem dX6_meets_7 : decode cX6_meets 7 = .ok (.iload_n 1, 1) := by decide +kernel
theorem dX6_meets_8 : decode cX6_meets 8 = .ok (.isub, 1) := by decide +kernel
theorem dX6_meets_9 : decode cX6_meets 9 = .ok (.ireturn, 1) := by decide +kernel
abbrev rmX6_meets : Room := { frames := 0, cells := 0, slots := 0, locals := 0 }
set_option maxRecDepth 100000 in
theorem hinX6_meets_6 : ∀ w ∈ wsX60, w ∈ wsX6_meets := by decide +kernel
set_option maxHeartbeats 4000000 in
set_option maxRecDepth 100000 in
theorem tX6_meets_0 {h : AH} {a1 : Int32} {r0 : Int32} {h0 : AH} (C : Cx p rmX6_meets s m args meth c RX6 cX6_meets 2 (some .int) wsX6_meets D ad cy tb 0 0) (hf : fX6_meets h a1 = some (r0, h0)) : AW p l e rmX6_meets s m args below meth c 2 D ad cy 0 0 (Qi D ad cy below args s r0 h0) 0 [(0, .ref (ad 29)), (1, .int a1)] [] h := by
  unfold fX6_meets at hf
  refine aw_aload_n C dX6_meets_0 rfl 0 rfl ?_
  refine aw_iload_n C dX6_meets_1 rfl 1 rfl ?_
  refine aw_put (ty := .int) C (kd_lt rfl (by decide)) (ce_6 rfl) rfl hinX6_meets_6 tyX6 tyX6_ok nmX6 17 (by decide) rfl (by decide +kernel) rfl (by decide +kernel) rfl rfl (Nat.le_of_ble_eq_true rfl) (cs_6_17 rfl) dX6_meets_2 ?_
  refine aw_nmH hf (fun h1 hf => ?_)
  refine aw_bipush (v := (-10)) C dX6_meets_5 (by decide) ?_
  refine aw_iload_n C dX6_meets_7 rfl 1 rfl ?_
  refine aw_isub C dX6_meets_8 ?_
  exact aw_iretW C dX6_meets_9 hf
theorem kX6_meets {h : AH} {a1 : Int32} {r0 : Int32} {h0 : AH} (hi : Inj ad) (hf : fX6_meets h a1 = some (r0, h0)) : Ki l yX6_meets wsX6_meets rmX6_meets D ad cy tb [.ref (ad 29), .int a1] h r0 h0 := met_i (lv := [(0, .ref (ad 29)), (1, .int a1)]) hi (by decide) rfl (Nat.le_of_ble_eq_true rfl) rfl rfl (fun _ _ _ _ _ _ _ _ C => tX6_meets_0 C  hf)
set_option maxRecDepth 20000 in
theorem ggX6_read_X6_isBlock : GoodIn wsX6_read wsX6_isBlock := goodIn_r _ [8, 9, 10, 11, 7, 12, 27, 28, 29, 30, 31, 32, 33, 34, 35, 36, 37, 38, 39, 40, 41, 42, 43, 44] (by decide +kernel) (by decide +kernel)
set_option maxRecDepth 20000 in
theorem gX6_read_X6_isBlock : GoodIn wsX6_read (wsV RX6 77 RX6 yX6_isBlock wsX6_isBlock) := goodIn_app (goodIn_of _ (by decide +kernel)) ggX6_read_X6_isBlock
set_option maxRecDepth 20000 in
theorem ggX6_read_X6_isSheet : GoodIn wsX6_read wsX6_isSheet := goodIn_r _ [15, 10, 11, 7, 12] (by decide +kernel) (by decide +kernel)
set_option maxRecDepth 20000 in
theorem gX6_read_X6_isSheet : GoodIn wsX6_read (va_wsS RX6 103 yX6_isSheet wsX6_isSheet) := goodIn_app (goodIn_of _ (by decide +kernel)) ggX6_read_X6_isSheet
set_option maxRecDepth 20000 in
theorem ggX6_read_X6_meets : GoodIn wsX6_read wsX6_meets := goodIn_r _ [19, 20, 27, 28, 29, 30, 31, 32, 33, 34, 35, 36, 37, 38, 39, 40, 41, 42, 43, 44] (by decide +kernel) (by decide +kernel)
set_option maxRecDepth 20000 in
theorem gX6_read_X6_meets : GoodIn wsX6_read (wsV RX6 106 RX6 yX6_meets wsX6_meets) := goodIn_app (goodIn_of _ (by decide +kernel)) ggX6_read_X6_meets
set_option maxRecDepth 20000 in
theorem ggX6_read_X6_hits : GoodIn wsX6_read wsX6_hits := goodIn_r _ [24, 25, 26, 27, 28, 29, 30, 31, 32, 33, 34, 35, 36, 37, 38, 39, 40, 41, 42, 43, 44] (by decide +kernel) (by decide +kernel)
set_option maxRecDepth 20000 in
theorem gX6_read_X6_hits : GoodIn wsX6_read (wsV RX6 94 RX6 yX6_hits wsX6_hits) := goodIn_app (goodIn_of _ (by decide +kernel)) ggX6_read_X6_hits
theorem dX6_read_0 : decode cX6_read 0 = .ok (.aload_n 0, 1) := by decide +kernel
theorem dX6_read_1 : decode cX6_read 1 = .ok (.iload_n 1, 1) := by decide +kernel
theorem dX6_read_2 : decode cX6_read 2 = .ok (.invokevirtual 77, 3) := by decide +kernel
theorem dX6_read_5 : decode cX6_read 5 = .ok (.ifCond .eq 10, 3) := by decide +kernel
theorem dX6_read_8 : decode cX6_read 8 = .ok (.iload_n 2, 1) := by decide +kernel
theorem dX6_read_9 : decode cX6_read 9 = .ok (.invokestatic 103, 3) := by decide +kernel
theorem dX6_read_12 : decode cX6_read 12 = .ok (.ifCond .ne 6, 3) := by decide +kernel
theorem dX6_read_15 : decode cX6_read 15 = .ok (.bipush (-2), 2) := by decide +kernel
theorem dX6_read_17 : decode cX6_read 17 = .ok (.ireturn, 1) := by decide +kernel
theorem dX6_read_18 : decode cX6_read 18 = .ok (.aload_n 0, 1) := by decide +kernel
theorem dX6_read_19 : decode cX6_read 19 = .ok (.getfield 42, 3) := by decide +kernel
theorem dX6_read_22 : decode cX6_read 22 = .ok (.iload_n 2, 1) := by decide +kernel
theorem dX6_read_23 : decode cX6_read 23 = .ok (.iaload, 1) := by decide +kernel
theorem dX6_read_24 : decode cX6_read 24 = .ok (.iconst (-1), 1) := by decide +kernel
theorem dX6_read_25 : decode cX6_read 25 = .ok (.if_icmp .ne 9, 3) := by decide +kernel
theorem dX6_read_28 : decode cX6_read 28 = .ok (.aload_n 0, 1) := by decide +kernel
theorem dX6_read_29 : decode cX6_read 29 = .ok (.iconst 1, 1) := by decide +kernel
theorem dX6_read_30 : decode cX6_read 30 = .ok (.invokevirtual 106, 3) := by decide +kernel
theorem dX6_read_33 : decode cX6_read 33 = .ok (.ireturn, 1) := by decide +kernel
theorem dX6_read_34 : decode cX6_read 34 = .ok (.iconst 0, 1) := by decide +kernel
theorem dX6_read_35 : decode cX6_read 35 = .ok (.istore_n 3, 1) := by decide +kernel
theorem dX6_read_36 : decode cX6_read 36 = .ok (.iconst 0, 1) := by decide +kernel
theorem dX6_read_37 : decode cX6_read 37 = .ok (.istore 4, 2) := by decide +kernel
theorem dX6_read_39 : decode cX6_read 39 = .ok (.iload 4, 2) := by decide +kernel
theorem dX6_read_41 : decode cX6_read 41 = .ok (.aload_n 0, 1) := by decide +kernel
theorem dX6_read_42 : decode cX6_read 42 = .ok (.getfield 45, 3) := by decide +kernel
theorem dX6_read_45 : decode cX6_read 45 = .ok (.iload_n 2, 1) := by decide +kernel
theorem dX6_read_46 : decode cX6_read 46 = .ok (.iaload, 1) := by decide +kernel
theorem dX6_read_47 : decode cX6_read 47 = .ok (.if_icmp .ge 40, 3) := by decide +kernel
theorem dX6_read_50 : decode cX6_read 50 = .ok (.aload_n 0, 1) := by decide +kernel
theorem dX6_read_51 : decode cX6_read 51 = .ok (.getfield 48, 3) := by decide +kernel
theorem dX6_read_54 : decode cX6_read 54 = .ok (.bipush 64, 2) := by decide +kernel
theorem dX6_read_56 : decode cX6_read 56 = .ok (.iload_n 2, 1) := by decide +kernel
theorem dX6_read_57 : decode cX6_read 57 = .ok (.imul, 1) := by decide +kernel
theorem dX6_read_58 : decode cX6_read 58 = .ok (.iload 4, 2) := by decide +kernel
theorem dX6_read_60 : decode cX6_read 60 = .ok (.iadd, 1) := by decide +kernel
theorem dX6_read_61 : decode cX6_read 61 = .ok (.laload, 1) := by decide +kernel
theorem dX6_read_62 : decode cX6_read 62 = .ok (.lconst 0, 1) := by decide +kernel
theorem dX6_read_63 : decode cX6_read 63 = .ok (.lcmp, 1) := by decide +kernel
theorem dX6_read_64 : decode cX6_read 64 = .ok (.ifCond .eq 17, 3) := by decide +kernel
theorem dX6_read_67 : decode cX6_read 67 = .ok (.aload_n 0, 1) := by decide +kernel
theorem dX6_read_68 : decode cX6_read 68 = .ok (.bipush 64, 2) := by decide +kernel
theorem dX6_read_70 : decode cX6_read 70 = .ok (.iload_n 1, 1) := by decide +kernel
theorem dX6_read_71 : decode cX6_read 71 = .ok (.imul, 1) := by decide +kernel
theorem dX6_read_72 : decode cX6_read 72 = .ok (.iload 4, 2) := by decide +kernel
theorem dX6_read_74 : decode cX6_read 74 = .ok (.iadd, 1) := by decide +kernel
theorem dX6_read_75 : decode cX6_read 75 = .ok (.invokevirtual 94, 3) := by decide +kernel
theorem dX6_read_78 : decode cX6_read 78 = .ok (.iinc 3 1, 3) := by decide +kernel
theorem dX6_read_81 : decode cX6_read 81 = .ok (.iinc 4 1, 3) := by decide +kernel
theorem dX6_read_84 : decode cX6_read 84 = .ok (.goto (-45), 3) := by decide +kernel
theorem dX6_read_87 : decode cX6_read 87 = .ok (.iload_n 3, 1) := by decide +kernel
theorem dX6_read_88 : decode cX6_read 88 = .ok (.ireturn, 1) := by decide +kernel
abbrev rmX6_read : Room := { frames := 2, cells := 0, slots := 0, locals := 43 }
set_option maxRecDepth 100000 in
theorem hinX6_read_6 : ∀ w ∈ wsX60, w ∈ wsX6_read := by decide +kernel
set_option maxHeartbeats 4000000 in
set_option maxRecDepth 100000 in
theorem tX6_read_81 {h : AH} {a1 : Int32} {a2 : Int32} {k39 : AH → Int32 → Int32 → Option (Int32 × AH)} {x3 : Int32} {x4 : Int32} {r0 : Int32} {h0 : AH} (C : Cx p rmX6_read s m args meth c RX6 cX6_read 5 (some .int) wsX6_read D ad cy tb 0 0) (H39 : ∀ (h : AH) (x3 : Int32) (x4 : Int32), k39 h x3 x4 = some (r0, h0) → AW p l e rmX6_read s m args below meth c 5 D ad cy 0 0 (Qi D ad cy below args s r0 h0) 39 [(0, .ref (ad 29)), (1, .int a1), (2, .int a2), (3, .int x3), (4, .int x4)] [] h) (hf : fX6_read_81 k39 a1 a2 h x3 x4 = some (r0, h0)) : AW p l e rmX6_read s m args below meth c 5 D ad cy 0 0 (Qi D ad cy below args s r0 h0) 81 [(0, .ref (ad 29)), (1, .int a1), (2, .int a2), (3, .int x3), (4, .int x4)] [] h := by
  unfold fX6_read_81 at hf
  obtain ⟨v1, hvv1, hf⟩ := nm_ex hf
  refine aw_iinc (j := 4) (v := v1) (lv1 := [(4, .int v1), (0, .ref (ad 29)), (1, .int a1), (2, .int a2), (3, .int x3)]) C dX6_read_81 rfl hvv1 (by decide) rfl ?_
  refine aw_goto (tgt := 39) C dX6_read_84 (by decide) ?_
  refine aw_sub [1, 2, 3, 4, 0] rfl ?_
  exact H39 h x3 v1 hf
set_option maxHeartbeats 4000000 in
set_option maxRecDepth 100000 in
theorem tX6_read_39b {h : AH} {a1 : Int32} {a2 : Int32} {k39 : AH → Int32 → Int32 → Option (Int32 × AH)} {x3 : Int32} {x4 : Int32} {r0 : Int32} {h0 : AH} (C : Cx p rmX6_read s m args meth c RX6 cX6_read 5 (some .int) wsX6_read D ad cy tb 0 0) (H39 : ∀ (h : AH) (x3 : Int32) (x4 : Int32), k39 h x3 x4 = some (r0, h0) → AW p l e rmX6_read s m args below meth c 5 D ad cy 0 0 (Qi D ad cy below args s r0 h0) 39 [(0, .ref (ad 29)), (1, .int a1), (2, .int a2), (3, .int x3), (4, .int x4)] [] h) (hf : fX6_read_39b k39 a1 a2 h x3 x4 = some (r0, h0)) : AW p l e rmX6_read s m args below meth c 5 D ad cy 0 0 (Qi D ad cy below args s r0 h0) 39 [(0, .ref (ad 29)), (1, .int a1), (2, .int a2), (3, .int x3), (4, .int x4)] [] h := by
  unfold fX6_read_39b at hf
  refine aw_iload C dX6_read_39 4 rfl ?_
  refine aw_aload_n C dX6_read_41 rfl 0 rfl ?_
  refine aw_get C (kd_lt rfl (by decide)) (ce_6 rfl) rfl hinX6_read_6 14 (by decide) rfl (by decide +kernel) rfl dX6_read_42 ?_
  refine aw_iload_n C dX6_read_45 rfl 2 rfl ?_
  refine aw_iald C rfl rfl hf dX6_read_46 (fun hf => ?_)
  refine aw_icmp_ge (tgt := 87) C dX6_read_47 (by decide) hf (fun hf => ?_) (fun hf => ?_)
  · refine aw_iload_n C dX6_read_87 rfl 3 rfl ?_
    exact aw_iretW C dX6_read_88 hf
  refine aw_aload_n C dX6_read_50 rfl 0 rfl ?_
  refine aw_get C (kd_lt rfl (by decide)) (ce_6 rfl) rfl hinX6_read_6 15 (by decide) rfl (by decide +kernel) rfl dX6_read_51 ?_
  refine aw_bipush (v := 64) C dX6_read_54 (by decide) ?_
  refine aw_iload_n C dX6_read_56 rfl 2 rfl ?_
  refine aw_imul C dX6_read_57 ?_
  refine aw_iload C dX6_read_58 4 rfl ?_
  refine aw_iadd C dX6_read_60 ?_
  refine aw_nmI hf (fun v1 hf => ?_)
  refine aw_lald C rfl rfl hf dX6_read_61 (fun hf => ?_)
  refine aw_lconst (v := 0) C dX6_read_62 (by decide) ?_
  refine aw_lcmp C dX6_read_63 ?_
  refine aw_if_eq (tgt := 81) C dX6_read_64 (by decide) hf (fun hf => ?_) (fun hf => ?_)
  · refine aw_sub [0, 1, 2, 3, 4] rfl ?_
    exact tX6_read_81 C  H39 hf
  refine aw_aload_n C dX6_read_67 rfl 0 rfl ?_
  refine aw_bipush (v := 64) C dX6_read_68 (by decide) ?_
  refine aw_iload_n C dX6_read_70 rfl 1 rfl ?_
  refine aw_imul C dX6_read_71 ?_
  refine aw_iload C dX6_read_72 4 rfl ?_
  refine aw_iadd C dX6_read_74 ?_
  obtain ⟨h2, hc, hf⟩ := bR_some hf
  refine aw_callVv (As := [.int ((64 * a1) + x4)]) (rest := []) C rfl (by decide) rfl (kX6_hits (l := l) (D := D) (ad := ad) (cy := cy) (tb := tb) C.2.2.2.2.2.2.2.2.1 hc) (fun ht _ => cwV 1 ht gX6_read_X6_hits rfl rfl rfl (by decide +kernel) ⟨Nat.le_of_ble_eq_true rfl, Nat.le_of_ble_eq_true rfl⟩) rfl rfl (Nat.le_of_ble_eq_true rfl) dX6_read_75 ?_
  obtain ⟨v3, hvv3, hf⟩ := nm_ex hf
  refine aw_iinc (j := 3) (v := v3) (lv1 := [(3, .int v3), (0, .ref (ad 29)), (1, .int a1), (2, .int a2), (4, .int x4)]) C dX6_read_78 rfl hvv3 (by decide) rfl ?_
  refine aw_sub [1, 2, 3, 0, 4] rfl ?_
  exact tX6_read_81 C  H39 hf
set_option maxHeartbeats 4000000 in
set_option maxRecDepth 100000 in
theorem tX6_read_39  {a1 : Int32} {a2 : Int32} {r0 : Int32} {h0 : AH} (C : Cx p rmX6_read s m args meth c RX6 cX6_read 5 (some .int) wsX6_read D ad cy tb 0 0) : ∀ (n : Nat) (h : AH) (x3 : Int32) (x4 : Int32), fX6_read_39 a1 a2 n h x3 x4 = some (r0, h0) → AW p l e rmX6_read s m args below meth c 5 D ad cy 0 0 (Qi D ad cy below args s r0 h0) 39 [(0, .ref (ad 29)), (1, .int a1), (2, .int a2), (3, .int x3), (4, .int x4)] [] h := by
  intro n
  induction n with
  | zero => intro h x3 x4 hf; cases hf
  | succ n ih => intro h x3 x4 hf; exact tX6_read_39b C  ih  hf
set_option maxHeartbeats 4000000 in
set_option maxRecDepth 100000 in
theorem tX6_read_0 {h : AH} {a1 : Int32} {a2 : Int32} {r0 : Int32} {h0 : AH} (C : Cx p rmX6_read s m args meth c RX6 cX6_read 5 (some .int) wsX6_read D ad cy tb 0 0) (hf : fX6_read h a1 a2 = some (r0, h0)) : AW p l e rmX6_read s m args below meth c 5 D ad cy 0 0 (Qi D ad cy below args s r0 h0) 0 [(0, .ref (ad 29)), (1, .int a1), (2, .int a2)] [] h := by
  unfold fX6_read at hf
  refine aw_aload_n C dX6_read_0 rfl 0 rfl ?_
  refine aw_iload_n C dX6_read_1 rfl 1 rfl ?_
  obtain ⟨r1, hc, hf⟩ := bR_some hf
  refine aw_callVi (As := [.int a1]) (rest := []) C rfl (by decide) rfl (kX6_isBlock (l := l) (D := D) (ad := ad) (cy := cy) (tb := tb) C.2.2.2.2.2.2.2.2.1 hc) (fun ht _ => cwV 1 ht gX6_read_X6_isBlock rfl rfl rfl (by decide +kernel) ⟨Nat.le_of_ble_eq_true rfl, Nat.le_of_ble_eq_true rfl⟩) rfl rfl (Nat.le_of_ble_eq_true rfl) dX6_read_2 ?_
  refine aw_if_eq (tgt := 15) C dX6_read_5 (by decide) hf (fun hf => ?_) (fun hf => ?_)
  · refine aw_bipush (v := (-2)) C dX6_read_15 (by decide) ?_
    exact aw_iretW C dX6_read_17 hf
  refine aw_iload_n C dX6_read_8 rfl 2 rfl ?_
  obtain ⟨r2, hc, hf⟩ := bR_some hf
  refine aw_callSi (As := [.int a2]) (rest := []) C (kX6_isSheet (l := l) (D := D) (ad := ad) (cy := cy) (tb := tb) C.2.2.2.2.2.2.2.2.1 hc) (fun ht _ => va_cwS 1 ht gX6_read_X6_isSheet rfl rfl rfl (by decide +kernel) ⟨Nat.le_of_ble_eq_true rfl, Nat.le_of_ble_eq_true rfl⟩) rfl rfl (Nat.le_of_ble_eq_true rfl) dX6_read_9 ?_
  refine aw_if_ne (tgt := 18) C dX6_read_12 (by decide) hf (fun hf => ?_) (fun hf => ?_)
  · refine aw_aload_n C dX6_read_18 rfl 0 rfl ?_
    refine aw_get C (kd_lt rfl (by decide)) (ce_6 rfl) rfl hinX6_read_6 13 (by decide) rfl (by decide +kernel) rfl dX6_read_19 ?_
    refine aw_iload_n C dX6_read_22 rfl 2 rfl ?_
    refine aw_iald C rfl rfl hf dX6_read_23 (fun hf => ?_)
    refine aw_iconst (v := (-1)) C dX6_read_24 (by decide) ?_
    refine aw_icmp_ne (tgt := 34) C dX6_read_25 (by decide) hf (fun hf => ?_) (fun hf => ?_)
    · refine aw_iconst (v := 0) C dX6_read_34 (by decide) ?_
      refine aw_istore_n (lv1 := [(3, .int 0), (0, .ref (ad 29)), (1, .int a1), (2, .int a2)]) C dX6_read_35 rfl (by decide) rfl ?_
      refine aw_iconst (v := 0) C dX6_read_36 (by decide) ?_
      refine aw_istore (lv1 := [(4, .int 0), (3, .int 0), (0, .ref (ad 29)), (1, .int a1), (2, .int a2)]) C dX6_read_37 (by decide) rfl ?_
      refine aw_sub [2, 3, 4, 1, 0] rfl ?_
      exact tX6_read_39 C   FU h 0 0 hf
    refine aw_aload_n C dX6_read_28 rfl 0 rfl ?_
    refine aw_iconst (v := 1) C dX6_read_29 (by decide) ?_
    obtain ⟨r4, h3, hc, hf⟩ := bW_some hf
    refine aw_callVi (As := [.int 1]) (rest := []) C rfl (by decide) rfl (kX6_meets (l := l) (D := D) (ad := ad) (cy := cy) (tb := tb) C.2.2.2.2.2.2.2.2.1 hc) (fun ht _ => cwV 1 ht gX6_read_X6_meets rfl rfl rfl (by decide +kernel) ⟨Nat.le_of_ble_eq_true rfl, Nat.le_of_ble_eq_true rfl⟩) rfl rfl (Nat.le_of_ble_eq_true rfl) dX6_read_30 ?_
    exact aw_iretW C dX6_read_33 hf
  refine aw_bipush (v := (-2)) C dX6_read_15 (by decide) ?_
  exact aw_iretW C dX6_read_17 hf
theorem kX6_read {h : AH} {a1 : Int32} {a2 : Int32} {r0 : Int32} {h0 : AH} (hi : Inj ad) (hf : fX6_read h a1 a2 = some (r0, h0)) : Ki l yX6_read wsX6_read rmX6_read D ad cy tb [.ref (ad 29), .int a1, .int a2] h r0 h0 := met_i (lv := [(0, .ref (ad 29)), (1, .int a1), (2, .int a2)]) hi (by decide) rfl (Nat.le_of_ble_eq_true rfl) rfl rfl (fun _ _ _ _ _ _ _ _ C => tX6_read_0 C  hf)
theorem dX5_isRule_0 : decode cX5_isRule 0 = .ok (.iload_n 0, 1) := by decide +kernel
theorem dX5_isRule_1 : decode cX5_isRule 1 = .ok (.ifCond .eq 8, 3) := by decide +kernel
theorem dX5_isRule_4 : decode cX5_isRule 4 = .ok (.iload_n 0, 1) := by decide +kernel
theorem dX5_isRule_5 : decode cX5_isRule 5 = .ok (.iconst 1, 1) := by decide +kernel
theorem dX5_isRule_6 : decode cX5_isRule 6 = .ok (.if_icmp .ne 7, 3) := by decide +kernel
theorem dX5_isRule_9 : decode cX5_isRule 9 = .ok (.iconst 1, 1) := by decide +kernel
theorem dX5_isRule_10 : decode cX5_isRule 10 = .ok (.goto 4, 3) := by decide +kernel
theorem dX5_isRule_13 : decode cX5_isRule 13 = .ok (.iconst 0, 1) := by decide +kernel
theorem dX5_isRule_14 : decode cX5_isRule 14 = .ok (.ireturn, 1) := by decide +kernel
abbrev rmX5_isRule : Room := { frames := 0, cells := 0, slots := 0, locals := 0 }
set_option maxHeartbeats 4000000 in
set_option maxRecDepth 100000 in
theorem tX5_isRule_0 {h : AH} {a0 : Int32} {r0 : Int32} (C : Cx p rmX5_isRule s m args meth c RX5 cX5_isRule 1 (some .boolean) wsX5_isRule D ad cy tb 0 0) (hf : fX5_isRule h a0 = some r0) : AW p l e rmX5_isRule s m args below meth c 1 D ad cy 0 0 (Qi D ad cy below args s r0 h) 0 [(0, .int a0)] [] h := by
  unfold fX5_isRule at hf
  refine aw_iload_n C dX5_isRule_0 rfl 0 rfl ?_
  refine aw_if_eq (tgt := 9) C dX5_isRule_1 (by decide) hf (fun hf => ?_) (fun hf => ?_)
  · refine aw_iconst (v := 1) C dX5_isRule_9 (by decide) ?_
    refine aw_goto (tgt := 14) C dX5_isRule_10 (by decide) ?_
    exact aw_zretR C (by decide) dX5_isRule_14 hf
  refine aw_iload_n C dX5_isRule_4 rfl 0 rfl ?_
  refine aw_iconst (v := 1) C dX5_isRule_5 (by decide) ?_
  refine aw_icmp_ne (tgt := 13) C dX5_isRule_6 (by decide) hf (fun hf => ?_) (fun hf => ?_)
  · refine aw_iconst (v := 0) C dX5_isRule_13 (by decide) ?_
    exact aw_zretR C (by decide) dX5_isRule_14 hf
  refine aw_iconst (v := 1) C dX5_isRule_9 (by decide) ?_
  refine aw_goto (tgt := 14) C dX5_isRule_10 (by decide) ?_
  exact aw_zretR C (by decide) dX5_isRule_14 hf
theorem kX5_isRule {h : AH} {a0 : Int32} {r0 : Int32} (hi : Inj ad) (hf : fX5_isRule h a0 = some r0) : Ki l yX5_isRule wsX5_isRule rmX5_isRule D ad cy tb [.int a0] h r0 h := met_i (lv := [(0, .int a0)]) hi (by decide) rfl (Nat.le_of_ble_eq_true rfl) rfl rfl (fun _ _ _ _ _ _ _ _ C => tX5_isRule_0 C  hf)
set_option maxRecDepth 20000 in
theorem ggX5_rule_X5_isRule : GoodIn wsX5_rule wsX5_isRule := goodIn_r _ [5] (by decide +kernel) (by decide +kernel)
set_option maxRecDepth 20000 in
theorem gX5_rule_X5_isRule : GoodIn wsX5_rule (va_wsS RX5 126 yX5_isRule wsX5_isRule) := goodIn_app (goodIn_of _ (by decide +kernel)) ggX5_rule_X5_isRule
theorem dX5_rule_0 : decode cX5_rule 0 = .ok (.iload_n 1, 1) := by decide +kernel
theorem dX5_rule_1 : decode cX5_rule 1 = .ok (.invokestatic 126, 3) := by decide +kernel
theorem dX5_rule_4 : decode cX5_rule 4 = .ok (.ifCond .ne 6, 3) := by decide +kernel
theorem dX5_rule_7 : decode cX5_rule 7 = .ok (.bipush (-2), 2) := by decide +kernel
theorem dX5_rule_9 : decode cX5_rule 9 = .ok (.ireturn, 1) := by decide +kernel
theorem dX5_rule_10 : decode cX5_rule 10 = .ok (.aload_n 0, 1) := by decide +kernel
theorem dX5_rule_11 : decode cX5_rule 11 = .ok (.getfield 51, 3) := by decide +kernel
theorem dX5_rule_14 : decode cX5_rule 14 = .ok (.istore_n 2, 1) := by decide +kernel
theorem dX5_rule_15 : decode cX5_rule 15 = .ok (.aload_n 0, 1) := by decide +kernel
theorem dX5_rule_16 : decode cX5_rule 16 = .ok (.iload_n 1, 1) := by decide +kernel
theorem dX5_rule_17 : decode cX5_rule 17 = .ok (.putfield 51, 3) := by decide +kernel
theorem dX5_rule_20 : decode cX5_rule 20 = .ok (.iload_n 2, 1) := by decide +kernel
theorem dX5_rule_21 : decode cX5_rule 21 = .ok (.ireturn, 1) := by decide +kernel
abbrev rmX5_rule : Room := { frames := 1, cells := 0, slots := 0, locals := 20 }
set_option maxRecDepth 100000 in
theorem hinX5_rule_5 : ∀ w ∈ wsX50, w ∈ wsX5_rule := by decide +kernel
set_option maxHeartbeats 4000000 in
set_option maxRecDepth 100000 in
theorem tX5_rule_0 {h : AH} {a1 : Int32} {r0 : Int32} {h0 : AH} (C : Cx p rmX5_rule s m args meth c RX5 cX5_rule 3 (some .int) wsX5_rule D ad cy tb 0 0) (hf : fX5_rule h a1 = some (r0, h0)) : AW p l e rmX5_rule s m args below meth c 3 D ad cy 0 0 (Qi D ad cy below args s r0 h0) 0 [(0, .ref (ad 0)), (1, .int a1)] [] h := by
  unfold fX5_rule at hf
  refine aw_iload_n C dX5_rule_0 rfl 1 rfl ?_
  obtain ⟨r1, hc, hf⟩ := bR_some hf
  refine aw_callSi (As := [.int a1]) (rest := []) C (kX5_isRule (l := l) (D := D) (ad := ad) (cy := cy) (tb := tb) C.2.2.2.2.2.2.2.2.1 hc) (fun ht _ => va_cwS 1 ht gX5_rule_X5_isRule rfl rfl rfl (by decide +kernel) ⟨Nat.le_of_ble_eq_true rfl, Nat.le_of_ble_eq_true rfl⟩) rfl rfl (Nat.le_of_ble_eq_true rfl) dX5_rule_1 ?_
  refine aw_if_ne (tgt := 10) C dX5_rule_4 (by decide) hf (fun hf => ?_) (fun hf => ?_)
  · refine aw_aload_n C dX5_rule_10 rfl 0 rfl ?_
    refine aw_get C (kd_lt rfl (by decide)) (ce_5 rfl) rfl hinX5_rule_5 7 (by decide) rfl (by decide +kernel) rfl dX5_rule_11 ?_
    refine aw_nmI hf (fun v2 hf => ?_)
    refine aw_istore_n (lv1 := [(2, .int v2), (0, .ref (ad 0)), (1, .int a1)]) C dX5_rule_14 rfl (by decide) rfl ?_
    refine aw_aload_n C dX5_rule_15 rfl 1 rfl ?_
    refine aw_iload_n C dX5_rule_16 rfl 2 rfl ?_
    refine aw_put (ty := .int) C (kd_lt rfl (by decide)) (ce_5 rfl) rfl hinX5_rule_5 tyX5 tyX5_ok nmX5 7 (by decide) rfl (by decide +kernel) rfl (by decide +kernel) rfl rfl (Nat.le_of_ble_eq_true rfl) (cs_5_7 rfl) dX5_rule_17 ?_
    refine aw_nmH hf (fun h3 hf => ?_)
    refine aw_iload_n C dX5_rule_20 rfl 0 rfl ?_
    exact aw_iretW C dX5_rule_21 hf
  refine aw_bipush (v := (-2)) C dX5_rule_7 (by decide) ?_
  exact aw_iretW C dX5_rule_9 hf
theorem kX5_rule {h : AH} {a1 : Int32} {r0 : Int32} {h0 : AH} (hi : Inj ad) (hf : fX5_rule h a1 = some (r0, h0)) : Ki l yX5_rule wsX5_rule rmX5_rule D ad cy tb [.ref (ad 0), .int a1] h r0 h0 := met_i (lv := [(0, .ref (ad 0)), (1, .int a1)]) hi (by decide) rfl (Nat.le_of_ble_eq_true rfl) rfl rfl (fun _ _ _ _ _ _ _ _ C => tX5_rule_0 C  hf)
set_option maxRecDepth 20000 in
theorem ggX6_rule_X6_in : GoodIn wsX6_rule wsX6_in := goodIn_r _ [5] (by decide +kernel) (by decide +kernel)
set_option maxRecDepth 20000 in
theorem gX6_rule_X6_in : GoodIn wsX6_rule (va_wsS RX6 73 yX6_in wsX6_in) := goodIn_app (goodIn_of _ (by decide +kernel)) ggX6_rule_X6_in
theorem dX6_rule_0 : decode cX6_rule 0 = .ok (.iload_n 1, 1) := by decide +kernel
theorem dX6_rule_1 : decode cX6_rule 1 = .ok (.iconst 0, 1) := by decide +kernel
theorem dX6_rule_2 : decode cX6_rule 2 = .ok (.iconst 1, 1) := by decide +kernel
theorem dX6_rule_3 : decode cX6_rule 3 = .ok (.invokestatic 73, 3) := by decide +kernel
theorem dX6_rule_6 : decode cX6_rule 6 = .ok (.ifCond .ne 6, 3) := by decide +kernel
theorem dX6_rule_9 : decode cX6_rule 9 = .ok (.bipush (-2), 2) := by decide +kernel
theorem dX6_rule_11 : decode cX6_rule 11 = .ok (.ireturn, 1) := by decide +kernel
theorem dX6_rule_12 : decode cX6_rule 12 = .ok (.aload_n 0, 1) := by decide +kernel
theorem dX6_rule_13 : decode cX6_rule 13 = .ok (.getfield 109, 3) := by decide +kernel
theorem dX6_rule_16 : decode cX6_rule 16 = .ok (.istore_n 2, 1) := by decide +kernel
theorem dX6_rule_17 : decode cX6_rule 17 = .ok (.aload_n 0, 1) := by decide +kernel
theorem dX6_rule_18 : decode cX6_rule 18 = .ok (.iload_n 1, 1) := by decide +kernel
theorem dX6_rule_19 : decode cX6_rule 19 = .ok (.putfield 109, 3) := by decide +kernel
theorem dX6_rule_22 : decode cX6_rule 22 = .ok (.iload_n 2, 1) := by decide +kernel
theorem dX6_rule_23 : decode cX6_rule 23 = .ok (.ireturn, 1) := by decide +kernel
abbrev rmX6_rule : Room := { frames := 1, cells := 0, slots := 0, locals := 22 }
set_option maxRecDepth 100000 in
theorem hinX6_rule_6 : ∀ w ∈ wsX60, w ∈ wsX6_rule := by decide +kernel
set_option maxHeartbeats 4000000 in
set_option maxRecDepth 100000 in
theorem tX6_rule_0 {h : AH} {a1 : Int32} {r0 : Int32} {h0 : AH} (C : Cx p rmX6_rule s m args meth c RX6 cX6_rule 3 (some .int) wsX6_rule D ad cy tb 0 0) (hf : fX6_rule h a1 = some (r0, h0)) : AW p l e rmX6_rule s m args below meth c 3 D ad cy 0 0 (Qi D ad cy below args s r0 h0) 0 [(0, .ref (ad 29)), (1, .int a1)] [] h := by
  unfold fX6_rule at hf
  refine aw_iload_n C dX6_rule_0 rfl 1 rfl ?_
  refine aw_iconst (v := 0) C dX6_rule_1 (by decide) ?_
  refine aw_iconst (v := 1) C dX6_rule_2 (by decide) ?_
  obtain ⟨r1, hc, hf⟩ := bR_some hf
  refine aw_callSi (As := [.int a1, .int 0, .int 1]) (rest := []) C (kX6_in (l := l) (D := D) (ad := ad) (cy := cy) (tb := tb) C.2.2.2.2.2.2.2.2.1 hc) (fun ht _ => va_cwS 3 ht gX6_rule_X6_in rfl rfl rfl (by decide +kernel) ⟨Nat.le_of_ble_eq_true rfl, Nat.le_of_ble_eq_true rfl⟩) rfl rfl (Nat.le_of_ble_eq_true rfl) dX6_rule_3 ?_
  refine aw_if_ne (tgt := 12) C dX6_rule_6 (by decide) hf (fun hf => ?_) (fun hf => ?_)
  · refine aw_aload_n C dX6_rule_12 rfl 0 rfl ?_
    refine aw_get C (kd_lt rfl (by decide)) (ce_6 rfl) rfl hinX6_rule_6 1 (by decide) rfl (by decide +kernel) rfl dX6_rule_13 ?_
    refine aw_nmI hf (fun v2 hf => ?_)
    refine aw_istore_n (lv1 := [(2, .int v2), (0, .ref (ad 29)), (1, .int a1)]) C dX6_rule_16 rfl (by decide) rfl ?_
    refine aw_aload_n C dX6_rule_17 rfl 1 rfl ?_
    refine aw_iload_n C dX6_rule_18 rfl 2 rfl ?_
    refine aw_put (ty := .int) C (kd_lt rfl (by decide)) (ce_6 rfl) rfl hinX6_rule_6 tyX6 tyX6_ok nmX6 1 (by decide) rfl (by decide +kernel) rfl (by decide +kernel) rfl rfl (Nat.le_of_ble_eq_true rfl) (cs_6_1 rfl) dX6_rule_19 ?_
    refine aw_nmH hf (fun h3 hf => ?_)
    refine aw_iload_n C dX6_rule_22 rfl 0 rfl ?_
    exact aw_iretW C dX6_rule_23 hf
  refine aw_bipush (v := (-2)) C dX6_rule_9 (by decide) ?_
  exact aw_iretW C dX6_rule_11 hf
theorem kX6_rule {h : AH} {a1 : Int32} {r0 : Int32} {h0 : AH} (hi : Inj ad) (hf : fX6_rule h a1 = some (r0, h0)) : Ki l yX6_rule wsX6_rule rmX6_rule D ad cy tb [.ref (ad 29), .int a1] h r0 h0 := met_i (lv := [(0, .ref (ad 29)), (1, .int a1)]) hi (by decide) rfl (Nat.le_of_ble_eq_true rfl) rfl rfl (fun _ _ _ _ _ _ _ _ C => tX6_rule_0 C  hf)
theorem dX5_now_0 : decode cX5_now 0 = .ok (.aload_n 0, 1) := by decide +kernel
theorem dX5_now_1 : decode cX5_now 1 = .ok (.getfield 22, 3) := by decide +kernel
theorem dX5_now_4 : decode cX5_now 4 = .ok (.getfield 137, 3) := by decide +kernel
theorem dX5_now_7 : decode cX5_now 7 = .ok (.iload_n 1, 1) := by decide +kernel
theorem dX5_now_8 : decode cX5_now 8 = .ok (.laload, 1) := by decide +kernel
theorem dX5_now_9 : decode cX5_now 9 = .ok (.aload_n 0, 1) := by decide +kernel
theorem dX5_now_10 : decode cX5_now 10 = .ok (.getfield 12, 3) := by decide +kernel
theorem dX5_now_13 : decode cX5_now 13 = .ok (.getfield 140, 3) := by decide +kernel
theorem dX5_now_16 : decode cX5_now 16 = .ok (.iload_n 1, 1) := by decide +kernel
theorem dX5_now_17 : decode cX5_now 17 = .ok (.laload, 1) := by decide +kernel
theorem dX5_now_18 : decode cX5_now 18 = .ok (.lxor, 1) := by decide +kernel
theorem dX5_now_19 : decode cX5_now 19 = .ok (.lreturn, 1) := by decide +kernel
abbrev rmX5_now : Room := { frames := 0, cells := 0, slots := 0, locals := 0 }
set_option maxRecDepth 100000 in
theorem hinX5_now_5 : ∀ w ∈ wsX50, w ∈ wsX5_now := by decide +kernel
set_option maxRecDepth 100000 in
theorem hinX5_now_2 : ∀ w ∈ wsX20, w ∈ wsX5_now := by decide +kernel
set_option maxRecDepth 100000 in
theorem hinX5_now_4 : ∀ w ∈ wsX40, w ∈ wsX5_now := by decide +kernel
set_option maxHeartbeats 4000000 in
set_option maxRecDepth 100000 in
theorem tX5_now_0 {h : AH} {a1 : Int32} {r0 : Int64} (C : Cx p rmX5_now s m args meth c RX5 cX5_now 2 (some .long) wsX5_now D ad cy tb 0 0) (hf : fX5_now h a1 = some r0) : AW p l e rmX5_now s m args below meth c 2 D ad cy 0 0 (Ql D ad cy below args s r0 h) 0 [(0, .ref (ad 0)), (1, .int a1)] [] h := by
  unfold fX5_now at hf
  refine aw_aload_n C dX5_now_0 rfl 0 rfl ?_
  refine aw_get C (kd_lt rfl (by decide)) (ce_5 rfl) rfl hinX5_now_5 2 (by decide) rfl (by decide +kernel) rfl dX5_now_1 ?_
  refine aw_getN (host := "StairCodes") C (kd_lt rfl (by decide)) (ce_2 rfl) rfl hinX5_now_2 1 (by decide) rfl (by decide +kernel) rfl dX5_now_4 ?_
  refine aw_iload_n C dX5_now_7 rfl 1 rfl ?_
  refine aw_lald C rfl rfl hf dX5_now_8 (fun hf => ?_)
  refine aw_aload_n C dX5_now_9 rfl 0 rfl ?_
  refine aw_get C (kd_lt rfl (by decide)) (ce_5 rfl) rfl hinX5_now_5 0 (by decide) rfl (by decide +kernel) rfl dX5_now_10 ?_
  refine aw_getN (host := "StairCodes") C (kd_lt rfl (by decide)) (ce_4 rfl) rfl hinX5_now_4 1 (by decide) rfl (by decide +kernel) rfl dX5_now_13 ?_
  refine aw_iload_n C dX5_now_16 rfl 1 rfl ?_
  refine aw_lald C rfl rfl hf dX5_now_17 (fun hf => ?_)
  refine aw_lxor C dX5_now_18 ?_
  exact aw_lretR C dX5_now_19 hf
theorem kX5_now {h : AH} {a1 : Int32} {r0 : Int64} (hi : Inj ad) (hf : fX5_now h a1 = some r0) : Kl l yX5_now wsX5_now rmX5_now D ad cy tb [.ref (ad 0), .int a1] h r0 h := met_l (lv := [(0, .ref (ad 0)), (1, .int a1)]) hi (by decide) rfl (Nat.le_of_ble_eq_true rfl) rfl rfl (fun _ _ _ _ _ _ _ _ C => tX5_now_0 C  hf)
theorem dX0_bitOfMend_0 : decode cX0_bitOfMend 0 = .ok (.aload_n 0, 1) := by decide +kernel
theorem dX0_bitOfMend_1 : decode cX0_bitOfMend 1 = .ok (.getfield 9, 3) := by decide +kernel
theorem dX0_bitOfMend_4 : decode cX0_bitOfMend 4 = .ok (.aload_n 0, 1) := by decide +kernel
theorem dX0_bitOfMend_5 : decode cX0_bitOfMend 5 = .ok (.getfield 15, 3) := by decide +kernel
theorem dX0_bitOfMend_8 : decode cX0_bitOfMend 8 = .ok (.iload_n 1, 1) := by decide +kernel
theorem dX0_bitOfMend_9 : decode cX0_bitOfMend 9 = .ok (.iadd, 1) := by decide +kernel
theorem dX0_bitOfMend_10 : decode cX0_bitOfMend 10 = .ok (.bipush 60, 2) := by decide +kernel
theorem dX0_bitOfMend_12 : decode cX0_bitOfMend 12 = .ok (.irem, 1) := by decide +kernel
theorem dX0_bitOfMend_13 : decode cX0_bitOfMend 13 = .ok (.iaload, 1) := by decide +kernel
theorem dX0_bitOfMend_14 : decode cX0_bitOfMend 14 = .ok (.ireturn, 1) := by decide +kernel
abbrev rmX0_bitOfMend : Room := { frames := 0, cells := 0, slots := 0, locals := 0 }
set_option maxRecDepth 100000 in
theorem hinX0_bitOfMend_0 : ∀ w ∈ wsX00, w ∈ wsX0_bitOfMend := by decide +kernel
set_option maxHeartbeats 4000000 in
set_option maxRecDepth 100000 in
theorem tX0_bitOfMend_0 {h : AH} {a1 : Int32} {r0 : Int32} (C : Cx p rmX0_bitOfMend s m args meth c RX0 cX0_bitOfMend 2 (some .int) wsX0_bitOfMend D ad cy tb 0 0) (hf : fX0_bitOfMend h a1 = some r0) : AW p l e rmX0_bitOfMend s m args below meth c 2 D ad cy 0 0 (Qi D ad cy below args s r0 h) 0 [(0, .ref (ad 11)), (1, .int a1)] [] h := by
  unfold fX0_bitOfMend at hf
  refine aw_aload_n C dX0_bitOfMend_0 rfl 0 rfl ?_
  refine aw_get C (kd_lt rfl (by decide)) (ce_0 rfl) rfl hinX0_bitOfMend_0 0 (by decide) rfl (by decide +kernel) rfl dX0_bitOfMend_1 ?_
  refine aw_aload_n C dX0_bitOfMend_4 rfl 0 rfl ?_
  refine aw_get C (kd_lt rfl (by decide)) (ce_0 rfl) rfl hinX0_bitOfMend_0 1 (by decide) rfl (by decide +kernel) rfl dX0_bitOfMend_5 ?_
  refine aw_iload_n C dX0_bitOfMend_8 rfl 1 rfl ?_
  refine aw_iadd C dX0_bitOfMend_9 ?_
  refine aw_bipush (v := 60) C dX0_bitOfMend_10 (by decide) ?_
  refine aw_nm2 hf (fun v1 hf => ?_)
  refine aw_irem C dX0_bitOfMend_12 (by decide) ?_
  refine aw_nmI hf (fun v2 hf => ?_)
  refine aw_iald C rfl rfl hf dX0_bitOfMend_13 (fun hf => ?_)
  exact aw_iretR C dX0_bitOfMend_14 hf
theorem kX0_bitOfMend {h : AH} {a1 : Int32} {r0 : Int32} (hi : Inj ad) (hf : fX0_bitOfMend h a1 = some r0) : Ki l yX0_bitOfMend wsX0_bitOfMend rmX0_bitOfMend D ad cy tb [.ref (ad 11), .int a1] h r0 h := met_i (lv := [(0, .ref (ad 11)), (1, .int a1)]) hi (by decide) rfl (Nat.le_of_ble_eq_true rfl) rfl rfl (fun _ _ _ _ _ _ _ _ C => tX0_bitOfMend_0 C  hf)
set_option maxRecDepth 20000 in
theorem ggX0_timesOf_X0_bitOfMend : GoodIn wsX0_timesOf wsX0_bitOfMend := goodIn_r _ [6, 7, 8, 9, 10, 11] (by decide +kernel) (by decide +kernel)
set_option maxRecDepth 20000 in
theorem gX0_timesOf_X0_bitOfMend : GoodIn wsX0_timesOf (wsV RX0 22 RX0 yX0_bitOfMend wsX0_bitOfMend) := goodIn_app (goodIn_of _ (by decide +kernel)) ggX0_timesOf_X0_bitOfMend
theorem dX0_timesOf_0 : decode cX0_timesOf 0 = .ok (.iconst 0, 1) := by decide +kernel
theorem dX0_timesOf_1 : decode cX0_timesOf 1 = .ok (.istore_n 2, 1) := by decide +kernel
theorem dX0_timesOf_2 : decode cX0_timesOf 2 = .ok (.iconst 0, 1) := by decide +kernel
theorem dX0_timesOf_3 : decode cX0_timesOf 3 = .ok (.istore_n 3, 1) := by decide +kernel
theorem dX0_timesOf_4 : decode cX0_timesOf 4 = .ok (.iload_n 3, 1) := by decide +kernel
theorem dX0_timesOf_5 : decode cX0_timesOf 5 = .ok (.aload_n 0, 1) := by decide +kernel
theorem dX0_timesOf_6 : decode cX0_timesOf 6 = .ok (.getfield 19, 3) := by decide +kernel
theorem dX0_timesOf_9 : decode cX0_timesOf 9 = .ok (.if_icmp .ge 21, 3) := by decide +kernel
theorem dX0_timesOf_12 : decode cX0_timesOf 12 = .ok (.aload_n 0, 1) := by decide +kernel
theorem dX0_timesOf_13 : decode cX0_timesOf 13 = .ok (.iload_n 3, 1) := by decide +kernel
theorem dX0_timesOf_14 : decode cX0_timesOf 14 = .ok (.invokevirtual 22, 3) := by decide +kernel
theorem dX0_timesOf_17 : decode cX0_timesOf 17 = .ok (.iload_n 1, 1) := by decide +kernel
theorem dX0_timesOf_18 : decode cX0_timesOf 18 = .ok (.if_icmp .ne 6, 3) := by decide +kernel
theorem dX0_timesOf_21 : decode cX0_timesOf 21 = .ok (.iinc 2 1, 3) := by decide +kernel
theorem dX0_timesOf_24 : decode cX0_timesOf 24 = .ok (.iinc 3 1, 3) := by decide +kernel
theorem dX0_timesOf_27 : decode cX0_timesOf 27 = .ok (.goto (-23), 3) := by decide +kernel
theorem dX0_timesOf_30 : decode cX0_timesOf 30 = .ok (.iload_n 2, 1) := by decide +kernel
theorem dX0_timesOf_31 : decode cX0_timesOf 31 = .ok (.ireturn, 1) := by decide +kernel
abbrev rmX0_timesOf : Room := { frames := 1, cells := 0, slots := 0, locals := 21 }
set_option maxRecDepth 100000 in
theorem hinX0_timesOf_0 : ∀ w ∈ wsX00, w ∈ wsX0_timesOf := by decide +kernel
set_option maxHeartbeats 4000000 in
set_option maxRecDepth 100000 in
theorem tX0_timesOf_24 {h : AH} {a1 : Int32} {k4 : Int32 → Int32 → Option Int32} {x2 : Int32} {x3 : Int32} {r0 : Int32} (C : Cx p rmX0_timesOf s m args meth c RX0 cX0_timesOf 4 (some .int) wsX0_timesOf D ad cy tb 0 0) (H4 : ∀ (x2 : Int32) (x3 : Int32), k4 x2 x3 = some r0 → AW p l e rmX0_timesOf s m args below meth c 4 D ad cy 0 0 (Qi D ad cy below args s r0 h) 4 [(0, .ref (ad 11)), (1, .int a1), (2, .int x2), (3, .int x3)] [] h) (hf : fX0_timesOf_24 k4 h a1 x2 x3 = some r0) : AW p l e rmX0_timesOf s m args below meth c 4 D ad cy 0 0 (Qi D ad cy below args s r0 h) 24 [(0, .ref (ad 11)), (1, .int a1), (2, .int x2), (3, .int x3)] [] h := by
  unfold fX0_timesOf_24 at hf
  obtain ⟨v1, hvv1, hf⟩ := nm_ex hf
  refine aw_iinc (j := 3) (v := v1) (lv1 := [(3, .int v1), (0, .ref (ad 11)), (1, .int a1), (2, .int x2)]) C dX0_timesOf_24 rfl hvv1 (by decide) rfl ?_
  refine aw_goto (tgt := 4) C dX0_timesOf_27 (by decide) ?_
  refine aw_sub [1, 2, 3, 0] rfl ?_
  exact H4 x2 v1 hf
set_option maxHeartbeats 4000000 in
set_option maxRecDepth 100000 in
theorem tX0_timesOf_4b {h : AH} {a1 : Int32} {k4 : Int32 → Int32 → Option Int32} {x2 : Int32} {x3 : Int32} {r0 : Int32} (C : Cx p rmX0_timesOf s m args meth c RX0 cX0_timesOf 4 (some .int) wsX0_timesOf D ad cy tb 0 0) (H4 : ∀ (x2 : Int32) (x3 : Int32), k4 x2 x3 = some r0 → AW p l e rmX0_timesOf s m args below meth c 4 D ad cy 0 0 (Qi D ad cy below args s r0 h) 4 [(0, .ref (ad 11)), (1, .int a1), (2, .int x2), (3, .int x3)] [] h) (hf : fX0_timesOf_4b k4 h a1 x2 x3 = some r0) : AW p l e rmX0_timesOf s m args below meth c 4 D ad cy 0 0 (Qi D ad cy below args s r0 h) 4 [(0, .ref (ad 11)), (1, .int a1), (2, .int x2), (3, .int x3)] [] h := by
  unfold fX0_timesOf_4b at hf
  refine aw_iload_n C dX0_timesOf_4 rfl 3 rfl ?_
  refine aw_aload_n C dX0_timesOf_5 rfl 0 rfl ?_
  refine aw_get C (kd_lt rfl (by decide)) (ce_0 rfl) rfl hinX0_timesOf_0 2 (by decide) rfl (by decide +kernel) rfl dX0_timesOf_6 ?_
  refine aw_icmp_ge (tgt := 30) C dX0_timesOf_9 (by decide) hf (fun hf => ?_) (fun hf => ?_)
  · refine aw_iload_n C dX0_timesOf_30 rfl 2 rfl ?_
    exact aw_iretR C dX0_timesOf_31 hf
  refine aw_aload_n C dX0_timesOf_12 rfl 0 rfl ?_
  refine aw_iload_n C dX0_timesOf_13 rfl 3 rfl ?_
  obtain ⟨r1, hc, hf⟩ := bR_some hf
  refine aw_callVi (As := [.int x3]) (rest := []) C rfl (by decide) rfl (kX0_bitOfMend (l := l) (D := D) (ad := ad) (cy := cy) (tb := tb) C.2.2.2.2.2.2.2.2.1 hc) (fun ht _ => cwV 1 ht gX0_timesOf_X0_bitOfMend rfl rfl rfl (by decide +kernel) ⟨Nat.le_of_ble_eq_true rfl, Nat.le_of_ble_eq_true rfl⟩) rfl rfl (Nat.le_of_ble_eq_true rfl) dX0_timesOf_14 ?_
  refine aw_iload_n C dX0_timesOf_17 rfl 1 rfl ?_
  refine aw_icmp_ne (tgt := 24) C dX0_timesOf_18 (by decide) hf (fun hf => ?_) (fun hf => ?_)
  · refine aw_sub [0, 1, 2, 3] rfl ?_
    exact tX0_timesOf_24 C  H4 hf
  obtain ⟨v2, hvv2, hf⟩ := nm_ex hf
  refine aw_iinc (j := 2) (v := v2) (lv1 := [(2, .int v2), (0, .ref (ad 11)), (1, .int a1), (3, .int x3)]) C dX0_timesOf_21 rfl hvv2 (by decide) rfl ?_
  refine aw_sub [1, 2, 0, 3] rfl ?_
  exact tX0_timesOf_24 C  H4 hf
set_option maxHeartbeats 4000000 in
set_option maxRecDepth 100000 in
theorem tX0_timesOf_4 {h : AH} {a1 : Int32} {r0 : Int32} (C : Cx p rmX0_timesOf s m args meth c RX0 cX0_timesOf 4 (some .int) wsX0_timesOf D ad cy tb 0 0) : ∀ (n : Nat) (x2 : Int32) (x3 : Int32), fX0_timesOf_4 h a1 n x2 x3 = some r0 → AW p l e rmX0_timesOf s m args below meth c 4 D ad cy 0 0 (Qi D ad cy below args s r0 h) 4 [(0, .ref (ad 11)), (1, .int a1), (2, .int x2), (3, .int x3)] [] h := by
  intro n
  induction n with
  | zero => intro x2 x3 hf; cases hf
  | succ n ih => intro x2 x3 hf; exact tX0_timesOf_4b C  ih  hf
set_option maxHeartbeats 4000000 in
set_option maxRecDepth 100000 in
theorem tX0_timesOf_0 {h : AH} {a1 : Int32} {r0 : Int32} (C : Cx p rmX0_timesOf s m args meth c RX0 cX0_timesOf 4 (some .int) wsX0_timesOf D ad cy tb 0 0) (hf : fX0_timesOf h a1 = some r0) : AW p l e rmX0_timesOf s m args below meth c 4 D ad cy 0 0 (Qi D ad cy below args s r0 h) 0 [(0, .ref (ad 11)), (1, .int a1)] [] h := by
  unfold fX0_timesOf at hf
  refine aw_iconst (v := 0) C dX0_timesOf_0 (by decide) ?_
  refine aw_istore_n (lv1 := [(2, .int 0), (0, .ref (ad 11)), (1, .int a1)]) C dX0_timesOf_1 rfl (by decide) rfl ?_
  refine aw_iconst (v := 0) C dX0_timesOf_2 (by decide) ?_
  refine aw_istore_n (lv1 := [(3, .int 0), (2, .int 0), (0, .ref (ad 11)), (1, .int a1)]) C dX0_timesOf_3 rfl (by decide) rfl ?_
  refine aw_sub [2, 3, 1, 0] rfl ?_
  exact tX0_timesOf_4 C   FU 0 0 hf
theorem kX0_timesOf {h : AH} {a1 : Int32} {r0 : Int32} (hi : Inj ad) (hf : fX0_timesOf h a1 = some r0) : Ki l yX0_timesOf wsX0_timesOf rmX0_timesOf D ad cy tb [.ref (ad 11), .int a1] h r0 h := met_i (lv := [(0, .ref (ad 11)), (1, .int a1)]) hi (by decide) rfl (Nat.le_of_ble_eq_true rfl) rfl rfl (fun _ _ _ _ _ _ _ _ C => tX0_timesOf_0 C  hf)
set_option maxRecDepth 20000 in
theorem ggX5_bit_X5_isBit : GoodIn wsX5_bit wsX5_isBit := goodIn_r _ [9, 10, 11, 12, 8, 13, 2, 14, 15, 16, 39, 40, 41, 42, 43, 44, 45, 46, 47, 50, 51, 52] (by decide +kernel) (by decide +kernel)
set_option maxRecDepth 20000 in
theorem gX5_bit_X5_isBit : GoodIn wsX5_bit (wsV RX5 90 RX5 yX5_isBit wsX5_isBit) := goodIn_app (goodIn_of _ (by decide +kernel)) ggX5_bit_X5_isBit
set_option maxRecDepth 20000 in
theorem ggX5_bit_X5_now : GoodIn wsX5_bit wsX5_now := goodIn_r _ [20, 1, 2, 39, 40, 41, 42, 43, 44, 45, 46, 47, 48, 49, 50, 51, 52] (by decide +kernel) (by decide +kernel)
set_option maxRecDepth 20000 in
theorem gX5_bit_X5_now : GoodIn wsX5_bit (wsV RX5 129 RX5 yX5_now wsX5_now) := goodIn_app (goodIn_of _ (by decide +kernel)) ggX5_bit_X5_now
set_option maxRecDepth 20000 in
theorem ggX5_bit_X5_bitOf : GoodIn wsX5_bit wsX5_bitOf := goodIn_r _ [23] (by decide +kernel) (by decide +kernel)
set_option maxRecDepth 20000 in
theorem gX5_bit_X5_bitOf : GoodIn wsX5_bit (va_wsS RX5 133 yX5_bitOf wsX5_bitOf) := goodIn_app (goodIn_of _ (by decide +kernel)) ggX5_bit_X5_bitOf
set_option maxRecDepth 20000 in
theorem ggX5_bit_X5_bitNumber : GoodIn wsX5_bit wsX5_bitNumber := goodIn_r _ [26] (by decide +kernel) (by decide +kernel)
set_option maxRecDepth 20000 in
theorem gX5_bit_X5_bitNumber : GoodIn wsX5_bit (va_wsS RX5 94 yX5_bitNumber wsX5_bitNumber) := goodIn_app (goodIn_of _ (by decide +kernel)) ggX5_bit_X5_bitNumber
set_option maxRecDepth 20000 in
theorem ggX5_bit_X0_timesOf : GoodIn wsX5_bit wsX0_timesOf := goodIn_r _ [31, 32, 33, 34, 35, 30, 36, 37, 38, 53, 54, 55] (by decide +kernel) (by decide +kernel)
set_option maxRecDepth 20000 in
theorem gX5_bit_X0_timesOf : GoodIn wsX5_bit (wsV RX5 143 RX0 yX0_timesOf wsX0_timesOf) := goodIn_app (goodIn_of _ (by decide +kernel)) ggX5_bit_X0_timesOf
theorem dX5_bit_0 : decode cX5_bit 0 = .ok (.aload_n 0, 1) := by decide +kernel
theorem dX5_bit_1 : decode cX5_bit 1 = .ok (.iload_n 1, 1) := by decide +kernel
theorem dX5_bit_2 : decode cX5_bit 2 = .ok (.iload_n 2, 1) := by decide +kernel
theorem dX5_bit_3 : decode cX5_bit 3 = .ok (.iload_n 3, 1) := by decide +kernel
theorem dX5_bit_4 : decode cX5_bit 4 = .ok (.invokevirtual 90, 3) := by decide +kernel
theorem dX5_bit_7 : decode cX5_bit 7 = .ok (.ifCond .ne 6, 3) := by decide +kernel
theorem dX5_bit_10 : decode cX5_bit 10 = .ok (.bipush (-2), 2) := by decide +kernel
theorem dX5_bit_12 : decode cX5_bit 12 = .ok (.ireturn, 1) := by decide +kernel
theorem dX5_bit_13 : decode cX5_bit 13 = .ok (.bipush 8, 2) := by decide +kernel
theorem dX5_bit_15 : decode cX5_bit 15 = .ok (.iload_n 2, 1) := by decide +kernel
theorem dX5_bit_16 : decode cX5_bit 16 = .ok (.imul, 1) := by decide +kernel
theorem dX5_bit_17 : decode cX5_bit 17 = .ok (.iload_n 3, 1) := by decide +kernel
theorem dX5_bit_18 : decode cX5_bit 18 = .ok (.iadd, 1) := by decide +kernel
theorem dX5_bit_19 : decode cX5_bit 19 = .ok (.istore 5, 2) := by decide +kernel
theorem dX5_bit_21 : decode cX5_bit 21 = .ok (.iload 4, 2) := by decide +kernel
theorem dX5_bit_23 : decode cX5_bit 23 = .ok (.tableswitch 100 0 4 #[33, 44, 59, 74, 86], 33) := by decide +kernel
theorem dX5_bit_56 : decode cX5_bit 56 = .ok (.aload_n 0, 1) := by decide +kernel
theorem dX5_bit_57 : decode cX5_bit 57 = .ok (.iload_n 1, 1) := by decide +kernel
theorem dX5_bit_58 : decode cX5_bit 58 = .ok (.invokevirtual 129, 3) := by decide +kernel
theorem dX5_bit_61 : decode cX5_bit 61 = .ok (.iload 5, 2) := by decide +kernel
theorem dX5_bit_63 : decode cX5_bit 63 = .ok (.invokestatic 133, 3) := by decide +kernel
theorem dX5_bit_66 : decode cX5_bit 66 = .ok (.ireturn, 1) := by decide +kernel
theorem dX5_bit_67 : decode cX5_bit 67 = .ok (.aload_n 0, 1) := by decide +kernel
theorem dX5_bit_68 : decode cX5_bit 68 = .ok (.getfield 22, 3) := by decide +kernel
theorem dX5_bit_71 : decode cX5_bit 71 = .ok (.getfield 137, 3) := by decide +kernel
theorem dX5_bit_74 : decode cX5_bit 74 = .ok (.iload_n 1, 1) := by decide +kernel
theorem dX5_bit_75 : decode cX5_bit 75 = .ok (.laload, 1) := by decide +kernel
theorem dX5_bit_76 : decode cX5_bit 76 = .ok (.iload 5, 2) := by decide +kernel
theorem dX5_bit_78 : decode cX5_bit 78 = .ok (.invokestatic 133, 3) := by decide +kernel
theorem dX5_bit_81 : decode cX5_bit 81 = .ok (.ireturn, 1) := by decide +kernel
theorem dX5_bit_82 : decode cX5_bit 82 = .ok (.aload_n 0, 1) := by decide +kernel
theorem dX5_bit_83 : decode cX5_bit 83 = .ok (.getfield 12, 3) := by decide +kernel
theorem dX5_bit_86 : decode cX5_bit 86 = .ok (.getfield 140, 3) := by decide +kernel
theorem dX5_bit_89 : decode cX5_bit 89 = .ok (.iload_n 1, 1) := by decide +kernel
theorem dX5_bit_90 : decode cX5_bit 90 = .ok (.laload, 1) := by decide +kernel
theorem dX5_bit_91 : decode cX5_bit 91 = .ok (.iload 5, 2) := by decide +kernel
theorem dX5_bit_93 : decode cX5_bit 93 = .ok (.invokestatic 133, 3) := by decide +kernel
theorem dX5_bit_96 : decode cX5_bit 96 = .ok (.ireturn, 1) := by decide +kernel
theorem dX5_bit_97 : decode cX5_bit 97 = .ok (.aload_n 0, 1) := by decide +kernel
theorem dX5_bit_98 : decode cX5_bit 98 = .ok (.getfield 26, 3) := by decide +kernel
theorem dX5_bit_101 : decode cX5_bit 101 = .ok (.iload_n 1, 1) := by decide +kernel
theorem dX5_bit_102 : decode cX5_bit 102 = .ok (.laload, 1) := by decide +kernel
theorem dX5_bit_103 : decode cX5_bit 103 = .ok (.iload 5, 2) := by decide +kernel
theorem dX5_bit_105 : decode cX5_bit 105 = .ok (.invokestatic 133, 3) := by decide +kernel
theorem dX5_bit_108 : decode cX5_bit 108 = .ok (.ireturn, 1) := by decide +kernel
theorem dX5_bit_109 : decode cX5_bit 109 = .ok (.aload_n 0, 1) := by decide +kernel
theorem dX5_bit_110 : decode cX5_bit 110 = .ok (.getfield 33, 3) := by decide +kernel
theorem dX5_bit_113 : decode cX5_bit 113 = .ok (.iload_n 1, 1) := by decide +kernel
theorem dX5_bit_114 : decode cX5_bit 114 = .ok (.iload_n 2, 1) := by decide +kernel
theorem dX5_bit_115 : decode cX5_bit 115 = .ok (.iload_n 3, 1) := by decide +kernel
theorem dX5_bit_116 : decode cX5_bit 116 = .ok (.invokestatic 94, 3) := by decide +kernel
theorem dX5_bit_119 : decode cX5_bit 119 = .ok (.invokevirtual 143, 3) := by decide +kernel
theorem dX5_bit_122 : decode cX5_bit 122 = .ok (.ireturn, 1) := by decide +kernel
theorem dX5_bit_123 : decode cX5_bit 123 = .ok (.bipush (-2), 2) := by decide +kernel
theorem dX5_bit_125 : decode cX5_bit 125 = .ok (.ireturn, 1) := by decide +kernel
abbrev rmX5_bit : Room := { frames := 2, cells := 0, slots := 0, locals := 44 }
set_option maxRecDepth 100000 in
theorem hinX5_bit_5 : ∀ w ∈ wsX50, w ∈ wsX5_bit := by decide +kernel
set_option maxRecDepth 100000 in
theorem hinX5_bit_2 : ∀ w ∈ wsX20, w ∈ wsX5_bit := by decide +kernel
set_option maxRecDepth 100000 in
theorem hinX5_bit_4 : ∀ w ∈ wsX40, w ∈ wsX5_bit := by decide +kernel
set_option maxHeartbeats 4000000 in
set_option maxRecDepth 100000 in
theorem tX5_bit_0 {h : AH} {a1 : Int32} {a2 : Int32} {a3 : Int32} {a4 : Int32} {r0 : Int32} (C : Cx p rmX5_bit s m args meth c RX5 cX5_bit 6 (some .int) wsX5_bit D ad cy tb 0 0) (hf : fX5_bit h a1 a2 a3 a4 = some r0) : AW p l e rmX5_bit s m args below meth c 6 D ad cy 0 0 (Qi D ad cy below args s r0 h) 0 [(0, .ref (ad 0)), (1, .int a1), (2, .int a2), (3, .int a3), (4, .int a4)] [] h := by
  unfold fX5_bit at hf
  refine aw_aload_n C dX5_bit_0 rfl 0 rfl ?_
  refine aw_iload_n C dX5_bit_1 rfl 1 rfl ?_
  refine aw_iload_n C dX5_bit_2 rfl 2 rfl ?_
  refine aw_iload_n C dX5_bit_3 rfl 3 rfl ?_
  obtain ⟨r1, hc, hf⟩ := bR_some hf
  refine aw_callVi (As := [.int a1, .int a2, .int a3]) (rest := []) C rfl (by decide) rfl (kX5_isBit (l := l) (D := D) (ad := ad) (cy := cy) (tb := tb) C.2.2.2.2.2.2.2.2.1 hc) (fun ht _ => cwV 3 ht gX5_bit_X5_isBit rfl rfl rfl (by decide +kernel) ⟨Nat.le_of_ble_eq_true rfl, Nat.le_of_ble_eq_true rfl⟩) rfl rfl (Nat.le_of_ble_eq_true rfl) dX5_bit_4 ?_
  refine aw_if_ne (tgt := 13) C dX5_bit_7 (by decide) hf (fun hf => ?_) (fun hf => ?_)
  · refine aw_bipush (v := 8) C dX5_bit_13 (by decide) ?_
    refine aw_iload_n C dX5_bit_15 rfl 2 rfl ?_
    refine aw_imul C dX5_bit_16 ?_
    refine aw_iload_n C dX5_bit_17 rfl 3 rfl ?_
    refine aw_iadd C dX5_bit_18 ?_
    refine aw_nmI hf (fun v2 hf => ?_)
    refine aw_istore (lv1 := [(5, .int v2), (0, .ref (ad 0)), (1, .int a1), (2, .int a2), (3, .int a3), (4, .int a4)]) C dX5_bit_19 (by decide) rfl ?_
    refine aw_iload C dX5_bit_21 5 rfl ?_
    rcases Decidable.em (a4 = 0) with hx0 | hx0
    · rw [if_pos hx0] at hf
      refine aw_tabIn (tgt := 56) C dX5_bit_23 (by rw [hx0]; decide) (by rw [hx0]; decide) (by rw [hx0]; rfl) (by decide) ?_
      refine aw_aload_n C dX5_bit_56 rfl 1 rfl ?_
      refine aw_iload_n C dX5_bit_57 rfl 2 rfl ?_
      obtain ⟨r3, hc, hf⟩ := bR_some hf
      refine aw_callVl (As := [.int a1]) (rest := []) C rfl (by decide) rfl (kX5_now (l := l) (D := D) (ad := ad) (cy := cy) (tb := tb) C.2.2.2.2.2.2.2.2.1 hc) (fun ht _ => cwV 1 ht gX5_bit_X5_now rfl rfl rfl (by decide +kernel) ⟨Nat.le_of_ble_eq_true rfl, Nat.le_of_ble_eq_true rfl⟩) rfl rfl (Nat.le_of_ble_eq_true rfl) dX5_bit_58 ?_
      refine aw_iload C dX5_bit_61 0 rfl ?_
      obtain ⟨r4, hc, hf⟩ := bR_some hf
      refine aw_callSi (As := [.long r3, .int v2]) (rest := []) C (kX5_bitOf (l := l) (D := D) (ad := ad) (cy := cy) (tb := tb) C.2.2.2.2.2.2.2.2.1 hc) (fun ht _ => va_cwS 2 ht gX5_bit_X5_bitOf rfl rfl rfl (by decide +kernel) ⟨Nat.le_of_ble_eq_true rfl, Nat.le_of_ble_eq_true rfl⟩) rfl rfl (Nat.le_of_ble_eq_true rfl) dX5_bit_63 ?_
      exact aw_iretR C dX5_bit_66 hf
    rw [if_neg hx0] at hf
    rcases Decidable.em (a4 = 1) with hx1 | hx1
    · rw [if_pos hx1] at hf
      refine aw_tabIn (tgt := 67) C dX5_bit_23 (by rw [hx1]; decide) (by rw [hx1]; decide) (by rw [hx1]; rfl) (by decide) ?_
      refine aw_aload_n C dX5_bit_67 rfl 1 rfl ?_
      refine aw_get C (kd_lt rfl (by decide)) (ce_5 rfl) rfl hinX5_bit_5 2 (by decide) rfl (by decide +kernel) rfl dX5_bit_68 ?_
      refine aw_getN (host := "StairCodes") C (kd_lt rfl (by decide)) (ce_2 rfl) rfl hinX5_bit_2 1 (by decide) rfl (by decide +kernel) rfl dX5_bit_71 ?_
      refine aw_iload_n C dX5_bit_74 rfl 2 rfl ?_
      refine aw_lald C rfl rfl hf dX5_bit_75 (fun hf => ?_)
      refine aw_iload C dX5_bit_76 0 rfl ?_
      obtain ⟨r5, hc, hf⟩ := bR_some hf
      refine aw_callSi (As := [.long (h.2 9 a1.toNatClampNeg), .int v2]) (rest := []) C (kX5_bitOf (l := l) (D := D) (ad := ad) (cy := cy) (tb := tb) C.2.2.2.2.2.2.2.2.1 hc) (fun ht _ => va_cwS 2 ht gX5_bit_X5_bitOf rfl rfl rfl (by decide +kernel) ⟨Nat.le_of_ble_eq_true rfl, Nat.le_of_ble_eq_true rfl⟩) rfl rfl (Nat.le_of_ble_eq_true rfl) dX5_bit_78 ?_
      exact aw_iretR C dX5_bit_81 hf
    rw [if_neg hx1] at hf
    rcases Decidable.em (a4 = 2) with hx2 | hx2
    · rw [if_pos hx2] at hf
      refine aw_tabIn (tgt := 82) C dX5_bit_23 (by rw [hx2]; decide) (by rw [hx2]; decide) (by rw [hx2]; rfl) (by decide) ?_
      refine aw_aload_n C dX5_bit_82 rfl 1 rfl ?_
      refine aw_get C (kd_lt rfl (by decide)) (ce_5 rfl) rfl hinX5_bit_5 0 (by decide) rfl (by decide +kernel) rfl dX5_bit_83 ?_
      refine aw_getN (host := "StairCodes") C (kd_lt rfl (by decide)) (ce_4 rfl) rfl hinX5_bit_4 1 (by decide) rfl (by decide +kernel) rfl dX5_bit_86 ?_
      refine aw_iload_n C dX5_bit_89 rfl 2 rfl ?_
      refine aw_lald C rfl rfl hf dX5_bit_90 (fun hf => ?_)
      refine aw_iload C dX5_bit_91 0 rfl ?_
      obtain ⟨r6, hc, hf⟩ := bR_some hf
      refine aw_callSi (As := [.long (h.2 2 a1.toNatClampNeg), .int v2]) (rest := []) C (kX5_bitOf (l := l) (D := D) (ad := ad) (cy := cy) (tb := tb) C.2.2.2.2.2.2.2.2.1 hc) (fun ht _ => va_cwS 2 ht gX5_bit_X5_bitOf rfl rfl rfl (by decide +kernel) ⟨Nat.le_of_ble_eq_true rfl, Nat.le_of_ble_eq_true rfl⟩) rfl rfl (Nat.le_of_ble_eq_true rfl) dX5_bit_93 ?_
      exact aw_iretR C dX5_bit_96 hf
    rw [if_neg hx2] at hf
    rcases Decidable.em (a4 = 3) with hx3 | hx3
    · rw [if_pos hx3] at hf
      refine aw_tabIn (tgt := 97) C dX5_bit_23 (by rw [hx3]; decide) (by rw [hx3]; decide) (by rw [hx3]; rfl) (by decide) ?_
      refine aw_aload_n C dX5_bit_97 rfl 1 rfl ?_
      refine aw_get C (kd_lt rfl (by decide)) (ce_5 rfl) rfl hinX5_bit_5 3 (by decide) rfl (by decide +kernel) rfl dX5_bit_98 ?_
      refine aw_iload_n C dX5_bit_101 rfl 2 rfl ?_
      refine aw_lald C rfl rfl hf dX5_bit_102 (fun hf => ?_)
      refine aw_iload C dX5_bit_103 0 rfl ?_
      obtain ⟨r7, hc, hf⟩ := bR_some hf
      refine aw_callSi (As := [.long (h.2 10 a1.toNatClampNeg), .int v2]) (rest := []) C (kX5_bitOf (l := l) (D := D) (ad := ad) (cy := cy) (tb := tb) C.2.2.2.2.2.2.2.2.1 hc) (fun ht _ => va_cwS 2 ht gX5_bit_X5_bitOf rfl rfl rfl (by decide +kernel) ⟨Nat.le_of_ble_eq_true rfl, Nat.le_of_ble_eq_true rfl⟩) rfl rfl (Nat.le_of_ble_eq_true rfl) dX5_bit_105 ?_
      exact aw_iretR C dX5_bit_108 hf
    rw [if_neg hx3] at hf
    rcases Decidable.em (a4 = 4) with hx4 | hx4
    · rw [if_pos hx4] at hf
      refine aw_tabIn (tgt := 109) C dX5_bit_23 (by rw [hx4]; decide) (by rw [hx4]; decide) (by rw [hx4]; rfl) (by decide) ?_
      refine aw_aload_n C dX5_bit_109 rfl 1 rfl ?_
      refine aw_get C (kd_lt rfl (by decide)) (ce_5 rfl) rfl hinX5_bit_5 4 (by decide) rfl (by decide +kernel) rfl dX5_bit_110 ?_
      refine aw_iload_n C dX5_bit_113 rfl 2 rfl ?_
      refine aw_iload_n C dX5_bit_114 rfl 3 rfl ?_
      refine aw_iload_n C dX5_bit_115 rfl 4 rfl ?_
      obtain ⟨r8, hc, hf⟩ := bR_some hf
      refine aw_callSi (As := [.int a1, .int a2, .int a3]) (rest := [.ref (ad 11)]) C (kX5_bitNumber (l := l) (D := D) (ad := ad) (cy := cy) (tb := tb) C.2.2.2.2.2.2.2.2.1 hc) (fun ht _ => va_cwS 3 ht gX5_bit_X5_bitNumber rfl rfl rfl (by decide +kernel) ⟨Nat.le_of_ble_eq_true rfl, Nat.le_of_ble_eq_true rfl⟩) rfl rfl (Nat.le_of_ble_eq_true rfl) dX5_bit_116 ?_
      obtain ⟨r9, hc, hf⟩ := bR_some hf
      refine aw_callVi (As := [.int r8]) (rest := []) C rfl (by decide) rfl (kX0_timesOf (l := l) (D := D) (ad := ad) (cy := cy) (tb := tb) C.2.2.2.2.2.2.2.2.1 hc) (fun ht _ => cwV 1 ht gX5_bit_X0_timesOf rfl rfl rfl (by decide +kernel) ⟨Nat.le_of_ble_eq_true rfl, Nat.le_of_ble_eq_true rfl⟩) rfl rfl (Nat.le_of_ble_eq_true rfl) dX5_bit_119 ?_
      exact aw_iretR C dX5_bit_122 hf
    rw [if_neg hx4] at hf
    have hsw := sw_out (x := a4) 5 (by decide) (fun j hj => by
      rcases (show j = 0 ∨ j = 1 ∨ j = 2 ∨ j = 3 ∨ j = 4 by omega) with rfl | rfl | rfl | rfl | rfl
      · exact hx0
      · exact hx1
      · exact hx2
      · exact hx3
      · exact hx4)
    refine aw_tabOut (tgt := 123) C dX5_bit_23 (by omega) (by decide) ?_
    refine aw_bipush (v := (-2)) C dX5_bit_123 (by decide) ?_
    exact aw_iretR C dX5_bit_125 hf
  refine aw_bipush (v := (-2)) C dX5_bit_10 (by decide) ?_
  exact aw_iretR C dX5_bit_12 hf
theorem kX5_bit {h : AH} {a1 : Int32} {a2 : Int32} {a3 : Int32} {a4 : Int32} {r0 : Int32} (hi : Inj ad) (hf : fX5_bit h a1 a2 a3 a4 = some r0) : Ki l yX5_bit wsX5_bit rmX5_bit D ad cy tb [.ref (ad 0), .int a1, .int a2, .int a3, .int a4] h r0 h := met_i (lv := [(0, .ref (ad 0)), (1, .int a1), (2, .int a2), (3, .int a3), (4, .int a4)]) hi (by decide) rfl (Nat.le_of_ble_eq_true rfl) rfl rfl (fun _ _ _ _ _ _ _ _ C => tX5_bit_0 C  hf)
theorem dX6_timesMended_0 : decode cX6_timesMended 0 = .ok (.iconst 0, 1) := by decide +kernel
theorem dX6_timesMended_1 : decode cX6_timesMended 1 = .ok (.istore_n 2, 1) := by decide +kernel
theorem dX6_timesMended_2 : decode cX6_timesMended 2 = .ok (.iconst 0, 1) := by decide +kernel
theorem dX6_timesMended_3 : decode cX6_timesMended 3 = .ok (.istore_n 3, 1) := by decide +kernel
theorem dX6_timesMended_4 : decode cX6_timesMended 4 = .ok (.iload_n 3, 1) := by decide +kernel
theorem dX6_timesMended_5 : decode cX6_timesMended 5 = .ok (.aload_n 0, 1) := by decide +kernel
theorem dX6_timesMended_6 : decode cX6_timesMended 6 = .ok (.getfield 85, 3) := by decide +kernel
theorem dX6_timesMended_9 : decode cX6_timesMended 9 = .ok (.if_icmp .ge 27, 3) := by decide +kernel
theorem dX6_timesMended_12 : decode cX6_timesMended 12 = .ok (.iload_n 2, 1) := by decide +kernel
theorem dX6_timesMended_13 : decode cX6_timesMended 13 = .ok (.aload_n 0, 1) := by decide +kernel
theorem dX6_timesMended_14 : decode cX6_timesMended 14 = .ok (.getfield 27, 3) := by decide +kernel
theorem dX6_timesMended_17 : decode cX6_timesMended 17 = .ok (.iload_n 3, 1) := by decide +kernel
theorem dX6_timesMended_18 : decode cX6_timesMended 18 = .ok (.iaload, 1) := by decide +kernel
theorem dX6_timesMended_19 : decode cX6_timesMended 19 = .ok (.iload_n 1, 1) := by decide +kernel
theorem dX6_timesMended_20 : decode cX6_timesMended 20 = .ok (.if_icmp .ne 7, 3) := by decide +kernel
theorem dX6_timesMended_23 : decode cX6_timesMended 23 = .ok (.iconst 1, 1) := by decide +kernel
theorem dX6_timesMended_24 : decode cX6_timesMended 24 = .ok (.goto 4, 3) := by decide +kernel
theorem dX6_timesMended_27 : decode cX6_timesMended 27 = .ok (.iconst 0, 1) := by decide +kernel
theorem dX6_timesMended_28 : decode cX6_timesMended 28 = .ok (.iadd, 1) := by decide +kernel
theorem dX6_timesMended_29 : decode cX6_timesMended 29 = .ok (.istore_n 2, 1) := by decide +kernel
theorem dX6_timesMended_30 : decode cX6_timesMended 30 = .ok (.iinc 3 1, 3) := by decide +kernel
theorem dX6_timesMended_33 : decode cX6_timesMended 33 = .ok (.goto (-29), 3) := by decide +kernel
theorem dX6_timesMended_36 : decode cX6_timesMended 36 = .ok (.iload_n 2, 1) := by decide +kernel
theorem dX6_timesMended_37 : decode cX6_timesMended 37 = .ok (.ireturn, 1) := by decide +kernel
abbrev rmX6_timesMended : Room := { frames := 0, cells := 0, slots := 0, locals := 0 }
set_option maxRecDepth 100000 in
theorem hinX6_timesMended_6 : ∀ w ∈ wsX60, w ∈ wsX6_timesMended := by decide +kernel
set_option maxHeartbeats 4000000 in
set_option maxRecDepth 100000 in
theorem tX6_timesMended_28 {h : AH} {a1 : Int32} {k4 : Int32 → Int32 → Option Int32} {x3 : Int32} {s0 : Int32} {s1 : Int32} {r0 : Int32} (C : Cx p rmX6_timesMended s m args meth c RX6 cX6_timesMended 4 (some .int) wsX6_timesMended D ad cy tb 0 0) (H4 : ∀ (x2 : Int32) (x3 : Int32), k4 x2 x3 = some r0 → AW p l e rmX6_timesMended s m args below meth c 4 D ad cy 0 0 (Qi D ad cy below args s r0 h) 4 [(0, .ref (ad 29)), (1, .int a1), (2, .int x2), (3, .int x3)] [] h) (hf : fX6_timesMended_28 k4 h a1 x3 s0 s1 = some r0) : AW p l e rmX6_timesMended s m args below meth c 4 D ad cy 0 0 (Qi D ad cy below args s r0 h) 28 [(0, .ref (ad 29)), (1, .int a1), (3, .int x3)] [.int s1, .int s0] h := by
  unfold fX6_timesMended_28 at hf
  refine aw_iadd C dX6_timesMended_28 ?_
  refine aw_nmI hf (fun v1 hf => ?_)
  refine aw_istore_n (lv1 := [(2, .int v1), (0, .ref (ad 29)), (1, .int a1), (3, .int x3)]) C dX6_timesMended_29 rfl (by decide) rfl ?_
  obtain ⟨v2, hvv2, hf⟩ := nm_ex hf
  refine aw_iinc (j := 3) (v := v2) (lv1 := [(3, .int v2), (2, .int v1), (0, .ref (ad 29)), (1, .int a1)]) C dX6_timesMended_30 rfl hvv2 (by decide) rfl ?_
  refine aw_goto (tgt := 4) C dX6_timesMended_33 (by decide) ?_
  refine aw_sub [2, 3, 1, 0] rfl ?_
  exact H4 v1 v2 hf
set_option maxHeartbeats 4000000 in
set_option maxRecDepth 100000 in
theorem tX6_timesMended_4b {h : AH} {a1 : Int32} {k4 : Int32 → Int32 → Option Int32} {x2 : Int32} {x3 : Int32} {r0 : Int32} (C : Cx p rmX6_timesMended s m args meth c RX6 cX6_timesMended 4 (some .int) wsX6_timesMended D ad cy tb 0 0) (H4 : ∀ (x2 : Int32) (x3 : Int32), k4 x2 x3 = some r0 → AW p l e rmX6_timesMended s m args below meth c 4 D ad cy 0 0 (Qi D ad cy below args s r0 h) 4 [(0, .ref (ad 29)), (1, .int a1), (2, .int x2), (3, .int x3)] [] h) (hf : fX6_timesMended_4b k4 h a1 x2 x3 = some r0) : AW p l e rmX6_timesMended s m args below meth c 4 D ad cy 0 0 (Qi D ad cy below args s r0 h) 4 [(0, .ref (ad 29)), (1, .int a1), (2, .int x2), (3, .int x3)] [] h := by
  unfold fX6_timesMended_4b at hf
  refine aw_iload_n C dX6_timesMended_4 rfl 3 rfl ?_
  refine aw_aload_n C dX6_timesMended_5 rfl 0 rfl ?_
  refine aw_get C (kd_lt rfl (by decide)) (ce_6 rfl) rfl hinX6_timesMended_6 7 (by decide) rfl (by decide +kernel) rfl dX6_timesMended_6 ?_
  refine aw_icmp_ge (tgt := 36) C dX6_timesMended_9 (by decide) hf (fun hf => ?_) (fun hf => ?_)
  · refine aw_iload_n C dX6_timesMended_36 rfl 2 rfl ?_
    exact aw_iretR C dX6_timesMended_37 hf
  refine aw_iload_n C dX6_timesMended_12 rfl 2 rfl ?_
  refine aw_aload_n C dX6_timesMended_13 rfl 0 rfl ?_
  refine aw_get C (kd_lt rfl (by decide)) (ce_6 rfl) rfl hinX6_timesMended_6 6 (by decide) rfl (by decide +kernel) rfl dX6_timesMended_14 ?_
  refine aw_iload_n C dX6_timesMended_17 rfl 3 rfl ?_
  refine aw_iald C rfl rfl hf dX6_timesMended_18 (fun hf => ?_)
  refine aw_iload_n C dX6_timesMended_19 rfl 1 rfl ?_
  refine aw_icmp_ne (tgt := 27) C dX6_timesMended_20 (by decide) hf (fun hf => ?_) (fun hf => ?_)
  · refine aw_iconst (v := 0) C dX6_timesMended_27 (by decide) ?_
    refine aw_sub [0, 1, 3] rfl ?_
    exact tX6_timesMended_28 C  H4 hf
  refine aw_iconst (v := 1) C dX6_timesMended_23 (by decide) ?_
  refine aw_goto (tgt := 28) C dX6_timesMended_24 (by decide) ?_
  refine aw_sub [0, 1, 3] rfl ?_
  exact tX6_timesMended_28 C  H4 hf
set_option maxHeartbeats 4000000 in
set_option maxRecDepth 100000 in
theorem tX6_timesMended_4 {h : AH} {a1 : Int32} {r0 : Int32} (C : Cx p rmX6_timesMended s m args meth c RX6 cX6_timesMended 4 (some .int) wsX6_timesMended D ad cy tb 0 0) : ∀ (n : Nat) (x2 : Int32) (x3 : Int32), fX6_timesMended_4 h a1 n x2 x3 = some r0 → AW p l e rmX6_timesMended s m args below meth c 4 D ad cy 0 0 (Qi D ad cy below args s r0 h) 4 [(0, .ref (ad 29)), (1, .int a1), (2, .int x2), (3, .int x3)] [] h := by
  intro n
  induction n with
  | zero => intro x2 x3 hf; cases hf
  | succ n ih => intro x2 x3 hf; exact tX6_timesMended_4b C  ih  hf
set_option maxHeartbeats 4000000 in
set_option maxRecDepth 100000 in
theorem tX6_timesMended_0 {h : AH} {a1 : Int32} {r0 : Int32} (C : Cx p rmX6_timesMended s m args meth c RX6 cX6_timesMended 4 (some .int) wsX6_timesMended D ad cy tb 0 0) (hf : fX6_timesMended h a1 = some r0) : AW p l e rmX6_timesMended s m args below meth c 4 D ad cy 0 0 (Qi D ad cy below args s r0 h) 0 [(0, .ref (ad 29)), (1, .int a1)] [] h := by
  unfold fX6_timesMended at hf
  refine aw_iconst (v := 0) C dX6_timesMended_0 (by decide) ?_
  refine aw_istore_n (lv1 := [(2, .int 0), (0, .ref (ad 29)), (1, .int a1)]) C dX6_timesMended_1 rfl (by decide) rfl ?_
  refine aw_iconst (v := 0) C dX6_timesMended_2 (by decide) ?_
  refine aw_istore_n (lv1 := [(3, .int 0), (2, .int 0), (0, .ref (ad 29)), (1, .int a1)]) C dX6_timesMended_3 rfl (by decide) rfl ?_
  refine aw_sub [2, 3, 1, 0] rfl ?_
  exact tX6_timesMended_4 C   FU 0 0 hf
theorem kX6_timesMended {h : AH} {a1 : Int32} {r0 : Int32} (hi : Inj ad) (hf : fX6_timesMended h a1 = some r0) : Ki l yX6_timesMended wsX6_timesMended rmX6_timesMended D ad cy tb [.ref (ad 29), .int a1] h r0 h := met_i (lv := [(0, .ref (ad 29)), (1, .int a1)]) hi (by decide) rfl (Nat.le_of_ble_eq_true rfl) rfl rfl (fun _ _ _ _ _ _ _ _ C => tX6_timesMended_0 C  hf)
set_option maxRecDepth 20000 in
theorem ggX6_bitOf_X6_timesMended : GoodIn wsX6_bitOf wsX6_timesMended := goodIn_r _ [8, 9, 10, 11, 12, 13, 14, 15, 16, 17, 18, 19, 20, 21, 22, 23, 24, 25, 26, 27, 28] (by decide +kernel) (by decide +kernel)
set_option maxRecDepth 20000 in
theorem gX6_bitOf_X6_timesMended : GoodIn wsX6_bitOf (wsV RX6 112 RX6 yX6_timesMended wsX6_timesMended) := goodIn_app (goodIn_of _ (by decide +kernel)) ggX6_bitOf_X6_timesMended
theorem dX6_bitOf_0 : decode cX6_bitOf 0 = .ok (.iload_n 2, 1) := by decide +kernel
theorem dX6_bitOf_1 : decode cX6_bitOf 1 = .ok (.tableswitch 97 0 3 #[31, 52, 67, 82], 31) := by decide +kernel
theorem dX6_bitOf_32 : decode cX6_bitOf 32 = .ok (.aload_n 0, 1) := by decide +kernel
theorem dX6_bitOf_33 : decode cX6_bitOf 33 = .ok (.getfield 17, 3) := by decide +kernel
theorem dX6_bitOf_36 : decode cX6_bitOf 36 = .ok (.iload_n 1, 1) := by decide +kernel
theorem dX6_bitOf_37 : decode cX6_bitOf 37 = .ok (.baload, 1) := by decide +kernel
theorem dX6_bitOf_38 : decode cX6_bitOf 38 = .ok (.aload_n 0, 1) := by decide +kernel
theorem dX6_bitOf_39 : decode cX6_bitOf 39 = .ok (.getfield 21, 3) := by decide +kernel
theorem dX6_bitOf_42 : decode cX6_bitOf 42 = .ok (.iload_n 1, 1) := by decide +kernel
theorem dX6_bitOf_43 : decode cX6_bitOf 43 = .ok (.baload, 1) := by decide +kernel
theorem dX6_bitOf_44 : decode cX6_bitOf 44 = .ok (.if_icmp .eq 7, 3) := by decide +kernel
theorem dX6_bitOf_47 : decode cX6_bitOf 47 = .ok (.iconst 1, 1) := by decide +kernel
theorem dX6_bitOf_48 : decode cX6_bitOf 48 = .ok (.goto 4, 3) := by decide +kernel
theorem dX6_bitOf_51 : decode cX6_bitOf 51 = .ok (.iconst 0, 1) := by decide +kernel
theorem dX6_bitOf_52 : decode cX6_bitOf 52 = .ok (.ireturn, 1) := by decide +kernel
theorem dX6_bitOf_53 : decode cX6_bitOf 53 = .ok (.aload_n 0, 1) := by decide +kernel
theorem dX6_bitOf_54 : decode cX6_bitOf 54 = .ok (.getfield 17, 3) := by decide +kernel
theorem dX6_bitOf_57 : decode cX6_bitOf 57 = .ok (.iload_n 1, 1) := by decide +kernel
theorem dX6_bitOf_58 : decode cX6_bitOf 58 = .ok (.baload, 1) := by decide +kernel
theorem dX6_bitOf_59 : decode cX6_bitOf 59 = .ok (.ifCond .eq 7, 3) := by decide +kernel
theorem dX6_bitOf_62 : decode cX6_bitOf 62 = .ok (.iconst 1, 1) := by decide +kernel
theorem dX6_bitOf_63 : decode cX6_bitOf 63 = .ok (.goto 4, 3) := by decide +kernel
theorem dX6_bitOf_66 : decode cX6_bitOf 66 = .ok (.iconst 0, 1) := by decide +kernel
theorem dX6_bitOf_67 : decode cX6_bitOf 67 = .ok (.ireturn, 1) := by decide +kernel
theorem dX6_bitOf_68 : decode cX6_bitOf 68 = .ok (.aload_n 0, 1) := by decide +kernel
theorem dX6_bitOf_69 : decode cX6_bitOf 69 = .ok (.getfield 21, 3) := by decide +kernel
theorem dX6_bitOf_72 : decode cX6_bitOf 72 = .ok (.iload_n 1, 1) := by decide +kernel
theorem dX6_bitOf_73 : decode cX6_bitOf 73 = .ok (.baload, 1) := by decide +kernel
theorem dX6_bitOf_74 : decode cX6_bitOf 74 = .ok (.ifCond .eq 7, 3) := by decide +kernel
theorem dX6_bitOf_77 : decode cX6_bitOf 77 = .ok (.iconst 1, 1) := by decide +kernel
theorem dX6_bitOf_78 : decode cX6_bitOf 78 = .ok (.goto 4, 3) := by decide +kernel
theorem dX6_bitOf_81 : decode cX6_bitOf 81 = .ok (.iconst 0, 1) := by decide +kernel
theorem dX6_bitOf_82 : decode cX6_bitOf 82 = .ok (.ireturn, 1) := by decide +kernel
theorem dX6_bitOf_83 : decode cX6_bitOf 83 = .ok (.aload_n 0, 1) := by decide +kernel
theorem dX6_bitOf_84 : decode cX6_bitOf 84 = .ok (.getfield 24, 3) := by decide +kernel
theorem dX6_bitOf_87 : decode cX6_bitOf 87 = .ok (.iload_n 1, 1) := by decide +kernel
theorem dX6_bitOf_88 : decode cX6_bitOf 88 = .ok (.baload, 1) := by decide +kernel
theorem dX6_bitOf_89 : decode cX6_bitOf 89 = .ok (.ifCond .eq 7, 3) := by decide +kernel
theorem dX6_bitOf_92 : decode cX6_bitOf 92 = .ok (.iconst 1, 1) := by decide +kernel
theorem dX6_bitOf_93 : decode cX6_bitOf 93 = .ok (.goto 4, 3) := by decide +kernel
theorem dX6_bitOf_96 : decode cX6_bitOf 96 = .ok (.iconst 0, 1) := by decide +kernel
theorem dX6_bitOf_97 : decode cX6_bitOf 97 = .ok (.ireturn, 1) := by decide +kernel
theorem dX6_bitOf_98 : decode cX6_bitOf 98 = .ok (.aload_n 0, 1) := by decide +kernel
theorem dX6_bitOf_99 : decode cX6_bitOf 99 = .ok (.iload_n 1, 1) := by decide +kernel
theorem dX6_bitOf_100 : decode cX6_bitOf 100 = .ok (.invokevirtual 112, 3) := by decide +kernel
theorem dX6_bitOf_103 : decode cX6_bitOf 103 = .ok (.ireturn, 1) := by decide +kernel
abbrev rmX6_bitOf : Room := { frames := 1, cells := 0, slots := 0, locals := 23 }
set_option maxRecDepth 100000 in
theorem hinX6_bitOf_6 : ∀ w ∈ wsX60, w ∈ wsX6_bitOf := by decide +kernel
set_option maxHeartbeats 4000000 in
set_option maxRecDepth 100000 in
theorem tX6_bitOf_0 {h : AH} {a1 : Int32} {a2 : Int32} {r0 : Int32} (C : Cx p rmX6_bitOf s m args meth c RX6 cX6_bitOf 3 (some .int) wsX6_bitOf D ad cy tb 0 0) (hf : fX6_bitOf h a1 a2 = some r0) : AW p l e rmX6_bitOf s m args below meth c 3 D ad cy 0 0 (Qi D ad cy below args s r0 h) 0 [(0, .ref (ad 29)), (1, .int a1), (2, .int a2)] [] h := by
  unfold fX6_bitOf at hf
  refine aw_iload_n C dX6_bitOf_0 rfl 2 rfl ?_
  rcases Decidable.em (a2 = 0) with hx0 | hx0
  · rw [if_pos hx0] at hf
    refine aw_tabIn (tgt := 32) C dX6_bitOf_1 (by rw [hx0]; decide) (by rw [hx0]; decide) (by rw [hx0]; rfl) (by decide) ?_
    refine aw_aload_n C dX6_bitOf_32 rfl 0 rfl ?_
    refine aw_get C (kd_lt rfl (by decide)) (ce_6 rfl) rfl hinX6_bitOf_6 3 (by decide) rfl (by decide +kernel) rfl dX6_bitOf_33 ?_
    refine aw_iload_n C dX6_bitOf_36 rfl 1 rfl ?_
    refine aw_zald C rfl rfl hf dX6_bitOf_37 (fun hf => ?_)
    refine aw_aload_n C dX6_bitOf_38 rfl 0 rfl ?_
    refine aw_get C (kd_lt rfl (by decide)) (ce_6 rfl) rfl hinX6_bitOf_6 4 (by decide) rfl (by decide +kernel) rfl dX6_bitOf_39 ?_
    refine aw_iload_n C dX6_bitOf_42 rfl 1 rfl ?_
    refine aw_zald C rfl rfl hf dX6_bitOf_43 (fun hf => ?_)
    refine aw_icmp_eq (tgt := 51) C dX6_bitOf_44 (by decide) hf (fun hf => ?_) (fun hf => ?_)
    · refine aw_iconst (v := 0) C dX6_bitOf_51 (by decide) ?_
      exact aw_iretR C dX6_bitOf_52 hf
    refine aw_iconst (v := 1) C dX6_bitOf_47 (by decide) ?_
    refine aw_goto (tgt := 52) C dX6_bitOf_48 (by decide) ?_
    exact aw_iretR C dX6_bitOf_52 hf
  rw [if_neg hx0] at hf
  rcases Decidable.em (a2 = 1) with hx1 | hx1
  · rw [if_pos hx1] at hf
    refine aw_tabIn (tgt := 53) C dX6_bitOf_1 (by rw [hx1]; decide) (by rw [hx1]; decide) (by rw [hx1]; rfl) (by decide) ?_
    refine aw_aload_n C dX6_bitOf_53 rfl 0 rfl ?_
    refine aw_get C (kd_lt rfl (by decide)) (ce_6 rfl) rfl hinX6_bitOf_6 3 (by decide) rfl (by decide +kernel) rfl dX6_bitOf_54 ?_
    refine aw_iload_n C dX6_bitOf_57 rfl 1 rfl ?_
    refine aw_zald C rfl rfl hf dX6_bitOf_58 (fun hf => ?_)
    refine aw_if_eq (tgt := 66) C dX6_bitOf_59 (by decide) hf (fun hf => ?_) (fun hf => ?_)
    · refine aw_iconst (v := 0) C dX6_bitOf_66 (by decide) ?_
      exact aw_iretR C dX6_bitOf_67 hf
    refine aw_iconst (v := 1) C dX6_bitOf_62 (by decide) ?_
    refine aw_goto (tgt := 67) C dX6_bitOf_63 (by decide) ?_
    exact aw_iretR C dX6_bitOf_67 hf
  rw [if_neg hx1] at hf
  rcases Decidable.em (a2 = 2) with hx2 | hx2
  · rw [if_pos hx2] at hf
    refine aw_tabIn (tgt := 68) C dX6_bitOf_1 (by rw [hx2]; decide) (by rw [hx2]; decide) (by rw [hx2]; rfl) (by decide) ?_
    refine aw_aload_n C dX6_bitOf_68 rfl 0 rfl ?_
    refine aw_get C (kd_lt rfl (by decide)) (ce_6 rfl) rfl hinX6_bitOf_6 4 (by decide) rfl (by decide +kernel) rfl dX6_bitOf_69 ?_
    refine aw_iload_n C dX6_bitOf_72 rfl 1 rfl ?_
    refine aw_zald C rfl rfl hf dX6_bitOf_73 (fun hf => ?_)
    refine aw_if_eq (tgt := 81) C dX6_bitOf_74 (by decide) hf (fun hf => ?_) (fun hf => ?_)
    · refine aw_iconst (v := 0) C dX6_bitOf_81 (by decide) ?_
      exact aw_iretR C dX6_bitOf_82 hf
    refine aw_iconst (v := 1) C dX6_bitOf_77 (by decide) ?_
    refine aw_goto (tgt := 82) C dX6_bitOf_78 (by decide) ?_
    exact aw_iretR C dX6_bitOf_82 hf
  rw [if_neg hx2] at hf
  rcases Decidable.em (a2 = 3) with hx3 | hx3
  · rw [if_pos hx3] at hf
    refine aw_tabIn (tgt := 83) C dX6_bitOf_1 (by rw [hx3]; decide) (by rw [hx3]; decide) (by rw [hx3]; rfl) (by decide) ?_
    refine aw_aload_n C dX6_bitOf_83 rfl 0 rfl ?_
    refine aw_get C (kd_lt rfl (by decide)) (ce_6 rfl) rfl hinX6_bitOf_6 5 (by decide) rfl (by decide +kernel) rfl dX6_bitOf_84 ?_
    refine aw_iload_n C dX6_bitOf_87 rfl 1 rfl ?_
    refine aw_zald C rfl rfl hf dX6_bitOf_88 (fun hf => ?_)
    refine aw_if_eq (tgt := 96) C dX6_bitOf_89 (by decide) hf (fun hf => ?_) (fun hf => ?_)
    · refine aw_iconst (v := 0) C dX6_bitOf_96 (by decide) ?_
      exact aw_iretR C dX6_bitOf_97 hf
    refine aw_iconst (v := 1) C dX6_bitOf_92 (by decide) ?_
    refine aw_goto (tgt := 97) C dX6_bitOf_93 (by decide) ?_
    exact aw_iretR C dX6_bitOf_97 hf
  rw [if_neg hx3] at hf
  have hsw := sw_out (x := a2) 4 (by decide) (fun j hj => by
    rcases (show j = 0 ∨ j = 1 ∨ j = 2 ∨ j = 3 by omega) with rfl | rfl | rfl | rfl
    · exact hx0
    · exact hx1
    · exact hx2
    · exact hx3)
  refine aw_tabOut (tgt := 98) C dX6_bitOf_1 (by omega) (by decide) ?_
  refine aw_aload_n C dX6_bitOf_98 rfl 0 rfl ?_
  refine aw_iload_n C dX6_bitOf_99 rfl 1 rfl ?_
  obtain ⟨r1, hc, hf⟩ := bR_some hf
  refine aw_callVi (As := [.int a1]) (rest := []) C rfl (by decide) rfl (kX6_timesMended (l := l) (D := D) (ad := ad) (cy := cy) (tb := tb) C.2.2.2.2.2.2.2.2.1 hc) (fun ht _ => cwV 1 ht gX6_bitOf_X6_timesMended rfl rfl rfl (by decide +kernel) ⟨Nat.le_of_ble_eq_true rfl, Nat.le_of_ble_eq_true rfl⟩) rfl rfl (Nat.le_of_ble_eq_true rfl) dX6_bitOf_100 ?_
  exact aw_iretR C dX6_bitOf_103 hf
theorem kX6_bitOf {h : AH} {a1 : Int32} {a2 : Int32} {r0 : Int32} (hi : Inj ad) (hf : fX6_bitOf h a1 a2 = some r0) : Ki l yX6_bitOf wsX6_bitOf rmX6_bitOf D ad cy tb [.ref (ad 29), .int a1, .int a2] h r0 h := met_i (lv := [(0, .ref (ad 29)), (1, .int a1), (2, .int a2)]) hi (by decide) rfl (Nat.le_of_ble_eq_true rfl) rfl rfl (fun _ _ _ _ _ _ _ _ C => tX6_bitOf_0 C  hf)
