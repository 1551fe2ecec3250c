variable {p : Program} {l : Launch} {e : Env} {s : State} {m : MethodId} {args : Array Value} {below : List Frame} {meth : Method} {c : Code} {D : va_G} {ad : Nat → Nat} {cy : Nat → ClassId} {tb : Nat → Nat}
theorem dJ7_fill_d0a16_0 : decode cJ7_fill_d0a16 0 = .ok (.iconst 0, 1) := by decide +kernel
theorem dJ7_fill_d0a16_1 : decode cJ7_fill_d0a16 1 = .ok (.istore_n 3, 1) := by decide +kernel
theorem dJ7_fill_d0a16_2 : decode cJ7_fill_d0a16 2 = .ok (.aload_n 0, 1) := by decide +kernel
theorem dJ7_fill_d0a16_3 : decode cJ7_fill_d0a16 3 = .ok (.arraylength, 1) := by decide +kernel
theorem dJ7_fill_d0a16_4 : decode cJ7_fill_d0a16 4 = .ok (.istore 4, 2) := by decide +kernel
theorem dJ7_fill_d0a16_6 : decode cJ7_fill_d0a16 6 = .ok (.iload_n 3, 1) := by decide +kernel
theorem dJ7_fill_d0a16_7 : decode cJ7_fill_d0a16 7 = .ok (.iload 4, 2) := by decide +kernel
theorem dJ7_fill_d0a16_9 : decode cJ7_fill_d0a16 9 = .ok (.if_icmp .ge 13, 3) := by decide +kernel
theorem dJ7_fill_d0a16_12 : decode cJ7_fill_d0a16 12 = .ok (.aload_n 0, 1) := by decide +kernel
theorem dJ7_fill_d0a16_13 : decode cJ7_fill_d0a16 13 = .ok (.iload_n 3, 1) := by decide +kernel
theorem dJ7_fill_d0a16_14 : decode cJ7_fill_d0a16 14 = .ok (.lload_n 1, 1) := by decide +kernel
theorem dJ7_fill_d0a16_15 : decode cJ7_fill_d0a16 15 = .ok (.lastore, 1) := by decide +kernel
theorem dJ7_fill_d0a16_16 : decode cJ7_fill_d0a16 16 = .ok (.iinc 3 1, 3) := by decide +kernel
theorem dJ7_fill_d0a16_19 : decode cJ7_fill_d0a16 19 = .ok (.goto (-13), 3) := by decide +kernel
theorem dJ7_fill_d0a16_22 : decode cJ7_fill_d0a16 22 = .ok (.return_, 1) := by decide +kernel
abbrev rmJ7_fill_d0a16 : Room := { frames := 0, cells := 0, slots := 0, locals := 0 }
set_option maxHeartbeats 4000000 in
set_option maxRecDepth 100000 in
theorem tJ7_fill_d0a16_6b {h : AH} {a0 : Nat} {a1 : Int64} {k6 : AH → Int32 → Int32 → Option AH} {x3 : Int32} {x4 : Int32} {h0 : AH} (C : Cx p rmJ7_fill_d0a16 s m args meth c RJ7 cJ7_fill_d0a16 5 none wsJ7_fill_d0a16 D ad cy tb 0 0) (hk0 : kd a0 = 8) (H6 : ∀ (h : AH) (x3 : Int32) (x4 : Int32), k6 h x3 x4 = some h0 → AW p l e rmJ7_fill_d0a16 s m args below meth c 5 D ad cy 0 0 (Qv D ad cy below args s h0) 6 [(0, .ref (ad a0)), (1, .long a1), (3, .int x3), (4, .int x4)] [] h) (hf : fJ7_fill_d0a16_6b k6 a0 a1 h x3 x4 = some h0) : AW p l e rmJ7_fill_d0a16 s m args below meth c 5 D ad cy 0 0 (Qv D ad cy below args s h0) 6 [(0, .ref (ad a0)), (1, .long a1), (3, .int x3), (4, .int x4)] [] h := by
  unfold fJ7_fill_d0a16_6b at hf
  refine aw_iload_n C dJ7_fill_d0a16_6 rfl 2 rfl ?_
  refine aw_iload C dJ7_fill_d0a16_7 3 rfl ?_
  refine aw_icmp_ge (tgt := 22) C dJ7_fill_d0a16_9 (by decide) hf (fun hf => ?_) (fun hf => ?_)
  · exact aw_vret C dJ7_fill_d0a16_22 hf
  refine aw_aload_n C dJ7_fill_d0a16_12 rfl 0 rfl ?_
  refine aw_iload_n C dJ7_fill_d0a16_13 rfl 2 rfl ?_
  refine aw_lload_n C dJ7_fill_d0a16_14 rfl 1 rfl ?_
  refine aw_last C hk0 rfl hf dJ7_fill_d0a16_15 (fun hf => ?_)
  refine aw_nmH hf (fun h1 hf => ?_)
  obtain ⟨v2, hvv2, hf⟩ := nm_ex hf
  refine aw_iinc (j := 2) (v := v2) (lv1 := [(3, .int v2), (0, .ref (ad a0)), (1, .long a1), (4, .int x4)]) C dJ7_fill_d0a16_16 rfl hvv2 (by decide) rfl ?_
  refine aw_goto (tgt := 6) C dJ7_fill_d0a16_19 (by decide) ?_
  refine aw_sub [1, 2, 0, 3] rfl ?_
  exact H6 h1 v2 x4 hf
set_option maxHeartbeats 4000000 in
set_option maxRecDepth 100000 in
theorem tJ7_fill_d0a16_6  {a0 : Nat} {a1 : Int64} {h0 : AH} (C : Cx p rmJ7_fill_d0a16 s m args meth c RJ7 cJ7_fill_d0a16 5 none wsJ7_fill_d0a16 D ad cy tb 0 0) (hk0 : kd a0 = 8) : ∀ (n : Nat) (h : AH) (x3 : Int32) (x4 : Int32), fJ7_fill_d0a16_6 a0 a1 n h x3 x4 = some h0 → AW p l e rmJ7_fill_d0a16 s m args below meth c 5 D ad cy 0 0 (Qv D ad cy below args s h0) 6 [(0, .ref (ad a0)), (1, .long a1), (3, .int x3), (4, .int x4)] [] h := by
  intro n
  induction n with
  | zero => intro h x3 x4 hf; cases hf
  | succ n ih => intro h x3 x4 hf; exact tJ7_fill_d0a16_6b C hk0 ih  hf
set_option maxHeartbeats 4000000 in
set_option maxRecDepth 100000 in
theorem tJ7_fill_d0a16_0 {h : AH} {a0 : Nat} {a1 : Int64} {h0 : AH} (C : Cx p rmJ7_fill_d0a16 s m args meth c RJ7 cJ7_fill_d0a16 5 none wsJ7_fill_d0a16 D ad cy tb 0 0) (hk0 : kd a0 = 8) (hf : fJ7_fill_d0a16 h a0 a1 = some h0) : AW p l e rmJ7_fill_d0a16 s m args below meth c 5 D ad cy 0 0 (Qv D ad cy below args s h0) 0 [(0, .ref (ad a0)), (1, .long a1)] [] h := by
  unfold fJ7_fill_d0a16 at hf
  refine aw_iconst (v := 0) C dJ7_fill_d0a16_0 (by decide) ?_
  refine aw_istore_n (lv1 := [(3, .int 0), (0, .ref (ad a0)), (1, .long a1)]) C dJ7_fill_d0a16_1 rfl (by decide) rfl ?_
  refine aw_aload_n C dJ7_fill_d0a16_2 rfl 1 rfl ?_
  refine aw_alenL C hk0 rfl dJ7_fill_d0a16_3 ?_
  refine aw_nmI hf (fun v1 hf => ?_)
  refine aw_istore (lv1 := [(4, .int v1), (3, .int 0), (0, .ref (ad a0)), (1, .long a1)]) C dJ7_fill_d0a16_4 (by decide) rfl ?_
  refine aw_sub [2, 3, 1, 0] rfl ?_
  exact tJ7_fill_d0a16_6 C hk0  FU h 0 v1 hf
theorem kJ7_fill_d0a16 {h : AH} {a0 : Nat} {a1 : Int64} {h0 : AH} (hi : Inj ad) (hk0 : kd a0 = 8) (hf : fJ7_fill_d0a16 h a0 a1 = some h0) : Kv l yJ7_fill_d0a16 wsJ7_fill_d0a16 rmJ7_fill_d0a16 D ad cy tb [.ref (ad a0), .long a1] h h0 := met_v (lv := [(0, .ref (ad a0)), (1, .long a1)]) hi (by decide) rfl (Nat.le_of_ble_eq_true rfl) rfl rfl (fun _ _ _ _ _ _ _ _ C => tJ7_fill_d0a16_0 C hk0 hf)
theorem dJ7_fill_53178_0 : decode cJ7_fill_53178 0 = .ok (.iconst 0, 1) := by decide +kernel
theorem dJ7_fill_53178_1 : decode cJ7_fill_53178 1 = .ok (.istore_n 2, 1) := by decide +kernel
theorem dJ7_fill_53178_2 : decode cJ7_fill_53178 2 = .ok (.aload_n 0, 1) := by decide +kernel
theorem dJ7_fill_53178_3 : decode cJ7_fill_53178 3 = .ok (.arraylength, 1) := by decide +kernel
theorem dJ7_fill_53178_4 : decode cJ7_fill_53178 4 = .ok (.istore_n 3, 1) := by decide +kernel
theorem dJ7_fill_53178_5 : decode cJ7_fill_53178 5 = .ok (.iload_n 2, 1) := by decide +kernel
theorem dJ7_fill_53178_6 : decode cJ7_fill_53178 6 = .ok (.iload_n 3, 1) := by decide +kernel
theorem dJ7_fill_53178_7 : decode cJ7_fill_53178 7 = .ok (.if_icmp .ge 13, 3) := by decide +kernel
theorem dJ7_fill_53178_10 : decode cJ7_fill_53178 10 = .ok (.aload_n 0, 1) := by decide +kernel
theorem dJ7_fill_53178_11 : decode cJ7_fill_53178 11 = .ok (.iload_n 2, 1) := by decide +kernel
theorem dJ7_fill_53178_12 : decode cJ7_fill_53178 12 = .ok (.iload_n 1, 1) := by decide +kernel
theorem dJ7_fill_53178_13 : decode cJ7_fill_53178 13 = .ok (.iastore, 1) := by decide +kernel
theorem dJ7_fill_53178_14 : decode cJ7_fill_53178 14 = .ok (.iinc 2 1, 3) := by decide +kernel
theorem dJ7_fill_53178_17 : decode cJ7_fill_53178 17 = .ok (.goto (-12), 3) := by decide +kernel
theorem dJ7_fill_53178_20 : decode cJ7_fill_53178 20 = .ok (.return_, 1) := by decide +kernel
abbrev rmJ7_fill_53178 : Room := { frames := 0, cells := 0, slots := 0, locals := 0 }
set_option maxHeartbeats 4000000 in
set_option maxRecDepth 100000 in
theorem tJ7_fill_53178_5b {h : AH} {a0 : Nat} {a1 : Int32} {k5 : AH → Int32 → Int32 → Option AH} {x2 : Int32} {x3 : Int32} {h0 : AH} (C : Cx p rmJ7_fill_53178 s m args meth c RJ7 cJ7_fill_53178 4 none wsJ7_fill_53178 D ad cy tb 0 0) (hk0 : kd a0 = 7) (H5 : ∀ (h : AH) (x2 : Int32) (x3 : Int32), k5 h x2 x3 = some h0 → AW p l e rmJ7_fill_53178 s m args below meth c 4 D ad cy 0 0 (Qv D ad cy below args s h0) 5 [(0, .ref (ad a0)), (1, .int a1), (2, .int x2), (3, .int x3)] [] h) (hf : fJ7_fill_53178_5b k5 a0 a1 h x2 x3 = some h0) : AW p l e rmJ7_fill_53178 s m args below meth c 4 D ad cy 0 0 (Qv D ad cy below args s h0) 5 [(0, .ref (ad a0)), (1, .int a1), (2, .int x2), (3, .int x3)] [] h := by
  unfold fJ7_fill_53178_5b at hf
  refine aw_iload_n C dJ7_fill_53178_5 rfl 2 rfl ?_
  refine aw_iload_n C dJ7_fill_53178_6 rfl 3 rfl ?_
  refine aw_icmp_ge (tgt := 20) C dJ7_fill_53178_7 (by decide) hf (fun hf => ?_) (fun hf => ?_)
  · exact aw_vret C dJ7_fill_53178_20 hf
  refine aw_aload_n C dJ7_fill_53178_10 rfl 0 rfl ?_
  refine aw_iload_n C dJ7_fill_53178_11 rfl 2 rfl ?_
  refine aw_iload_n C dJ7_fill_53178_12 rfl 1 rfl ?_
  refine aw_iast C hk0 rfl hf dJ7_fill_53178_13 (fun hf => ?_)
  refine aw_nmH hf (fun h1 hf => ?_)
  obtain ⟨v2, hvv2, hf⟩ := nm_ex hf
  refine aw_iinc (j := 2) (v := v2) (lv1 := [(2, .int v2), (0, .ref (ad a0)), (1, .int a1), (3, .int x3)]) C dJ7_fill_53178_14 rfl hvv2 (by decide) rfl ?_
  refine aw_goto (tgt := 5) C dJ7_fill_53178_17 (by decide) ?_
  refine aw_sub [1, 2, 0, 3] rfl ?_
  exact H5 h1 v2 x3 hf
set_option maxHeartbeats 4000000 in
set_option maxRecDepth 100000 in
theorem tJ7_fill_53178_5  {a0 : Nat} {a1 : Int32} {h0 : AH} (C : Cx p rmJ7_fill_53178 s m args meth c RJ7 cJ7_fill_53178 4 none wsJ7_fill_53178 D ad cy tb 0 0) (hk0 : kd a0 = 7) : ∀ (n : Nat) (h : AH) (x2 : Int32) (x3 : Int32), fJ7_fill_53178_5 a0 a1 n h x2 x3 = some h0 → AW p l e rmJ7_fill_53178 s m args below meth c 4 D ad cy 0 0 (Qv D ad cy below args s h0) 5 [(0, .ref (ad a0)), (1, .int a1), (2, .int x2), (3, .int x3)] [] h := by
  intro n
  induction n with
  | zero => intro h x2 x3 hf; cases hf
  | succ n ih => intro h x2 x3 hf; exact tJ7_fill_53178_5b C hk0 ih  hf
set_option maxHeartbeats 4000000 in
set_option maxRecDepth 100000 in
theorem tJ7_fill_53178_0 {h : AH} {a0 : Nat} {a1 : Int32} {h0 : AH} (C : Cx p rmJ7_fill_53178 s m args meth c RJ7 cJ7_fill_53178 4 none wsJ7_fill_53178 D ad cy tb 0 0) (hk0 : kd a0 = 7) (hf : fJ7_fill_53178 h a0 a1 = some h0) : AW p l e rmJ7_fill_53178 s m args below meth c 4 D ad cy 0 0 (Qv D ad cy below args s h0) 0 [(0, .ref (ad a0)), (1, .int a1)] [] h := by
  unfold fJ7_fill_53178 at hf
  refine aw_iconst (v := 0) C dJ7_fill_53178_0 (by decide) ?_
  refine aw_istore_n (lv1 := [(2, .int 0), (0, .ref (ad a0)), (1, .int a1)]) C dJ7_fill_53178_1 rfl (by decide) rfl ?_
  refine aw_aload_n C dJ7_fill_53178_2 rfl 1 rfl ?_
  refine aw_alenI C hk0 rfl dJ7_fill_53178_3 ?_
  refine aw_nmI hf (fun v1 hf => ?_)
  refine aw_istore_n (lv1 := [(3, .int v1), (2, .int 0), (0, .ref (ad a0)), (1, .int a1)]) C dJ7_fill_53178_4 rfl (by decide) rfl ?_
  refine aw_sub [2, 3, 1, 0] rfl ?_
  exact tJ7_fill_53178_5 C hk0  FU h 0 v1 hf
theorem kJ7_fill_53178 {h : AH} {a0 : Nat} {a1 : Int32} {h0 : AH} (hi : Inj ad) (hk0 : kd a0 = 7) (hf : fJ7_fill_53178 h a0 a1 = some h0) : Kv l yJ7_fill_53178 wsJ7_fill_53178 rmJ7_fill_53178 D ad cy tb [.ref (ad a0), .int a1] h h0 := met_v (lv := [(0, .ref (ad a0)), (1, .int a1)]) hi (by decide) rfl (Nat.le_of_ble_eq_true rfl) rfl rfl (fun _ _ _ _ _ _ _ _ C => tJ7_fill_53178_0 C hk0 hf)
set_option maxRecDepth 20000 in
theorem ggX4_clear_J7_fill_d0a16 : GoodIn wsX4_clear wsJ7_fill_d0a16 := goodIn_r _ [7] (by decide +kernel) (by decide +kernel)
set_option maxRecDepth 20000 in
theorem gX4_clear_J7_fill_d0a16 : GoodIn wsX4_clear (va_wsS RX4 23 yJ7_fill_d0a16 wsJ7_fill_d0a16) := goodIn_app (goodIn_of _ (by decide +kernel)) ggX4_clear_J7_fill_d0a16
set_option maxRecDepth 20000 in
theorem ggX4_clear_J7_fill_53178 : GoodIn wsX4_clear wsJ7_fill_53178 := goodIn_r _ [10] (by decide +kernel) (by decide +kernel)
set_option maxRecDepth 20000 in
theorem gX4_clear_J7_fill_53178 : GoodIn wsX4_clear (va_wsS RX4 29 yJ7_fill_53178 wsJ7_fill_53178) := goodIn_app (goodIn_of _ (by decide +kernel)) ggX4_clear_J7_fill_53178
theorem dX4_clear_0 : decode cX4_clear 0 = .ok (.aload_n 0, 1) := by decide +kernel
theorem dX4_clear_1 : decode cX4_clear 1 = .ok (.iload_n 1, 1) := by decide +kernel
theorem dX4_clear_2 : decode cX4_clear 2 = .ok (.putfield 9, 3) := by decide +kernel
theorem dX4_clear_5 : decode cX4_clear 5 = .ok (.aload_n 0, 1) := by decide +kernel
theorem dX4_clear_6 : decode cX4_clear 6 = .ok (.getfield 15, 3) := by decide +kernel
theorem dX4_clear_9 : decode cX4_clear 9 = .ok (.lconst 0, 1) := by decide +kernel
theorem dX4_clear_10 : decode cX4_clear 10 = .ok (.invokestatic 23, 3) := by decide +kernel
theorem dX4_clear_13 : decode cX4_clear 13 = .ok (.aload_n 0, 1) := by decide +kernel
theorem dX4_clear_14 : decode cX4_clear 14 = .ok (.getfield 19, 3) := by decide +kernel
theorem dX4_clear_17 : decode cX4_clear 17 = .ok (.iconst 0, 1) := by decide +kernel
theorem dX4_clear_18 : decode cX4_clear 18 = .ok (.invokestatic 29, 3) := by decide +kernel
theorem dX4_clear_21 : decode cX4_clear 21 = .ok (.return_, 1) := by decide +kernel
abbrev rmX4_clear : Room := { frames := 1, cells := 0, slots := 0, locals := 24 }
set_option maxRecDepth 100000 in
theorem hinX4_clear_4 : ∀ w ∈ wsX40, w ∈ wsX4_clear := by decide +kernel
set_option maxHeartbeats 4000000 in
set_option maxRecDepth 100000 in
theorem tX4_clear_0 {h : AH} {a0 : Nat} {a1 : Int32} {h0 : AH} (C : Cx p rmX4_clear s m args meth c RX4 cX4_clear 2 none wsX4_clear D ad cy tb 0 0) (hk0 : kd a0 = 4) (hf : fX4_clear h a0 a1 = some h0) : AW p l e rmX4_clear s m args below meth c 2 D ad cy 0 0 (Qv D ad cy below args s h0) 0 [(0, .ref (ad a0)), (1, .int a1)] [] h := by
  unfold fX4_clear at hf
  refine aw_aload_n C dX4_clear_0 rfl 0 rfl ?_
  refine aw_iload_n C dX4_clear_1 rfl 1 rfl ?_
  refine aw_put (ty := .int) C (kd_lt hk0 (by decide)) (ce_4 hk0) rfl hinX4_clear_4 tyX4 tyX4_ok nmX4 0 (by decide) rfl (by decide +kernel) rfl (by decide +kernel) rfl rfl (Nat.le_of_ble_eq_true rfl) (cs_4_0 hk0) dX4_clear_2 ?_
  refine aw_nmH hf (fun h1 hf => ?_)
  refine aw_aload_n C dX4_clear_5 rfl 0 rfl ?_
  refine aw_get C (kd_lt hk0 (by decide)) (ce_4 hk0) rfl hinX4_clear_4 1 (by decide) rfl (by decide +kernel) rfl dX4_clear_6 ?_
  refine aw_lconst (v := 0) C dX4_clear_9 (by decide) ?_
  obtain ⟨h2, hc, hf⟩ := bR_some hf
  refine aw_callSv (As := [.ref (ad (a0 + 1)), .long 0]) (rest := []) C (kJ7_fill_d0a16 (l := l) (D := D) (ad := ad) (cy := cy) (tb := tb) C.2.2.2.2.2.2.2.2.1 (kd4a hk0) hc) (fun ht _ => va_cwS 2 ht gX4_clear_J7_fill_d0a16 rfl rfl rfl (by decide +kernel) ⟨Nat.le_of_ble_eq_true rfl, Nat.le_of_ble_eq_true rfl⟩) rfl rfl (Nat.le_of_ble_eq_true rfl) dX4_clear_10 ?_
  refine aw_aload_n C dX4_clear_13 rfl 0 rfl ?_
  refine aw_get C (kd_lt hk0 (by decide)) (ce_4 hk0) rfl hinX4_clear_4 2 (by decide) rfl (by decide +kernel) rfl dX4_clear_14 ?_
  refine aw_iconst (v := 0) C dX4_clear_17 (by decide) ?_
  obtain ⟨h3, hc, hf⟩ := bR_some hf
  refine aw_callSv (As := [.ref (ad (a0 + 2)), .int 0]) (rest := []) C (kJ7_fill_53178 (l := l) (D := D) (ad := ad) (cy := cy) (tb := tb) C.2.2.2.2.2.2.2.2.1 (kd4b hk0) hc) (fun ht _ => va_cwS 2 ht gX4_clear_J7_fill_53178 rfl rfl rfl (by decide +kernel) ⟨Nat.le_of_ble_eq_true rfl, Nat.le_of_ble_eq_true rfl⟩) rfl rfl (Nat.le_of_ble_eq_true rfl) dX4_clear_18 ?_
  exact aw_vret C dX4_clear_21 hf
theorem kX4_clear {h : AH} {a0 : Nat} {a1 : Int32} {h0 : AH} (hi : Inj ad) (hk0 : kd a0 = 4) (hf : fX4_clear h a0 a1 = some h0) : Kv l yX4_clear wsX4_clear rmX4_clear D ad cy tb [.ref (ad a0), .int a1] h h0 := met_v (lv := [(0, .ref (ad a0)), (1, .int a1)]) hi (by decide) rfl (Nat.le_of_ble_eq_true rfl) rfl rfl (fun _ _ _ _ _ _ _ _ C => tX4_clear_0 C hk0 hf)
set_option maxRecDepth 20000 in
theorem ggX2_clear_J7_fill_53178 : GoodIn wsX2_clear wsJ7_fill_53178 := goodIn_r _ [6] (by decide +kernel) (by decide +kernel)
set_option maxRecDepth 20000 in
theorem gX2_clear_J7_fill_53178 : GoodIn wsX2_clear (va_wsS RX2 19 yJ7_fill_53178 wsJ7_fill_53178) := goodIn_app (goodIn_of _ (by decide +kernel)) ggX2_clear_J7_fill_53178
set_option maxRecDepth 20000 in
theorem ggX2_clear_J7_fill_d0a16 : GoodIn wsX2_clear wsJ7_fill_d0a16 := goodIn_r _ [9] (by decide +kernel) (by decide +kernel)
set_option maxRecDepth 20000 in
theorem gX2_clear_J7_fill_d0a16 : GoodIn wsX2_clear (va_wsS RX2 25 yJ7_fill_d0a16 wsJ7_fill_d0a16) := goodIn_app (goodIn_of _ (by decide +kernel)) ggX2_clear_J7_fill_d0a16
theorem dX2_clear_0 : decode cX2_clear 0 = .ok (.aload_n 0, 1) := by decide +kernel
theorem dX2_clear_1 : decode cX2_clear 1 = .ok (.getfield 9, 3) := by decide +kernel
theorem dX2_clear_4 : decode cX2_clear 4 = .ok (.iconst 0, 1) := by decide +kernel
theorem dX2_clear_5 : decode cX2_clear 5 = .ok (.invokestatic 19, 3) := by decide +kernel
theorem dX2_clear_8 : decode cX2_clear 8 = .ok (.aload_n 0, 1) := by decide +kernel
theorem dX2_clear_9 : decode cX2_clear 9 = .ok (.getfield 15, 3) := by decide +kernel
theorem dX2_clear_12 : decode cX2_clear 12 = .ok (.lconst 0, 1) := by decide +kernel
theorem dX2_clear_13 : decode cX2_clear 13 = .ok (.invokestatic 25, 3) := by decide +kernel
theorem dX2_clear_16 : decode cX2_clear 16 = .ok (.return_, 1) := by decide +kernel
abbrev rmX2_clear : Room := { frames := 1, cells := 0, slots := 0, locals := 24 }
set_option maxRecDepth 100000 in
theorem hinX2_clear_2 : ∀ w ∈ wsX20, w ∈ wsX2_clear := by decide +kernel
set_option maxHeartbeats 4000000 in
set_option maxRecDepth 100000 in
theorem tX2_clear_0 {h : AH} {h0 : AH} (C : Cx p rmX2_clear s m args meth c RX2 cX2_clear 1 none wsX2_clear D ad cy tb 0 0) (hf : fX2_clear h = some h0) : AW p l e rmX2_clear s m args below meth c 1 D ad cy 0 0 (Qv D ad cy below args s h0) 0 [(0, .ref (ad 7))] [] h := by
  unfold fX2_clear at hf
  refine aw_aload_n C dX2_clear_0 rfl 0 rfl ?_
  refine aw_get C (kd_lt rfl (by decide)) (ce_2 rfl) rfl hinX2_clear_2 0 (by decide) rfl (by decide +kernel) rfl dX2_clear_1 ?_
  refine aw_iconst (v := 0) C dX2_clear_4 (by decide) ?_
  obtain ⟨h1, hc, hf⟩ := bR_some hf
  refine aw_callSv (As := [.ref (ad 8), .int 0]) (rest := []) C (kJ7_fill_53178 (l := l) (D := D) (ad := ad) (cy := cy) (tb := tb) C.2.2.2.2.2.2.2.2.1 rfl hc) (fun ht _ => va_cwS 2 ht gX2_clear_J7_fill_53178 rfl rfl rfl (by decide +kernel) ⟨Nat.le_of_ble_eq_true rfl, Nat.le_of_ble_eq_true rfl⟩) rfl rfl (Nat.le_of_ble_eq_true rfl) dX2_clear_5 ?_
  refine aw_aload_n C dX2_clear_8 rfl 0 rfl ?_
  refine aw_get C (kd_lt rfl (by decide)) (ce_2 rfl) rfl hinX2_clear_2 1 (by decide) rfl (by decide +kernel) rfl dX2_clear_9 ?_
  refine aw_lconst (v := 0) C dX2_clear_12 (by decide) ?_
  obtain ⟨h2, hc, hf⟩ := bR_some hf
  refine aw_callSv (As := [.ref (ad 9), .long 0]) (rest := []) C (kJ7_fill_d0a16 (l := l) (D := D) (ad := ad) (cy := cy) (tb := tb) C.2.2.2.2.2.2.2.2.1 rfl hc) (fun ht _ => va_cwS 2 ht gX2_clear_J7_fill_d0a16 rfl rfl rfl (by decide +kernel) ⟨Nat.le_of_ble_eq_true rfl, Nat.le_of_ble_eq_true rfl⟩) rfl rfl (Nat.le_of_ble_eq_true rfl) dX2_clear_13 ?_
  exact aw_vret C dX2_clear_16 hf
theorem kX2_clear {h : AH} {h0 : AH} (hi : Inj ad) (hf : fX2_clear h = some h0) : Kv l yX2_clear wsX2_clear rmX2_clear D ad cy tb [.ref (ad 7)] h h0 := met_v (lv := [(0, .ref (ad 7))]) hi (by decide) rfl (Nat.le_of_ble_eq_true rfl) rfl rfl (fun _ _ _ _ _ _ _ _ C => tX2_clear_0 C  hf)
theorem dX0_clear_0 : decode cX0_clear 0 = .ok (.aload_n 0, 1) := by decide +kernel
theorem dX0_clear_1 : decode cX0_clear 1 = .ok (.iconst 0, 1) := by decide +kernel
theorem dX0_clear_2 : decode cX0_clear 2 = .ok (.putfield 15, 3) := by decide +kernel
theorem dX0_clear_5 : decode cX0_clear 5 = .ok (.aload_n 0, 1) := by decide +kernel
theorem dX0_clear_6 : decode cX0_clear 6 = .ok (.iconst 0, 1) := by decide +kernel
theorem dX0_clear_7 : decode cX0_clear 7 = .ok (.putfield 19, 3) := by decide +kernel
theorem dX0_clear_10 : decode cX0_clear 10 = .ok (.return_, 1) := by decide +kernel
abbrev rmX0_clear : Room := { frames := 0, cells := 0, slots := 0, locals := 0 }
set_option maxRecDepth 100000 in
theorem hinX0_clear_0 : ∀ w ∈ wsX00, w ∈ wsX0_clear := by decide +kernel
set_option maxHeartbeats 4000000 in
set_option maxRecDepth 100000 in
theorem tX0_clear_0 {h : AH} {h0 : AH} (C : Cx p rmX0_clear s m args meth c RX0 cX0_clear 1 none wsX0_clear D ad cy tb 0 0) (hf : fX0_clear h = some h0) : AW p l e rmX0_clear s m args below meth c 1 D ad cy 0 0 (Qv D ad cy below args s h0) 0 [(0, .ref (ad 11))] [] h := by
  unfold fX0_clear at hf
  refine aw_aload_n C dX0_clear_0 rfl 0 rfl ?_
  refine aw_iconst (v := 0) C dX0_clear_1 (by decide) ?_
  refine aw_put (ty := .int) C (kd_lt rfl (by decide)) (ce_0 rfl) rfl hinX0_clear_0 tyX0 tyX0_ok nmX0 1 (by decide) rfl (by decide +kernel) rfl (by decide +kernel) rfl rfl (Nat.le_of_ble_eq_true rfl) (cs_0_1 rfl) dX0_clear_2 ?_
  refine aw_nmH hf (fun h1 hf => ?_)
  refine aw_aload_n C dX0_clear_5 rfl 0 rfl ?_
  refine aw_iconst (v := 0) C dX0_clear_6 (by decide) ?_
  refine aw_put (ty := .int) C (kd_lt rfl (by decide)) (ce_0 rfl) rfl hinX0_clear_0 tyX0 tyX0_ok nmX0 2 (by decide) rfl (by decide +kernel) rfl (by decide +kernel) rfl rfl (Nat.le_of_ble_eq_true rfl) (cs_0_2 rfl) dX0_clear_7 ?_
  refine aw_nmH hf (fun h2 hf => ?_)
  exact aw_vret C dX0_clear_10 hf
theorem kX0_clear {h : AH} {h0 : AH} (hi : Inj ad) (hf : fX0_clear h = some h0) : Kv l yX0_clear wsX0_clear rmX0_clear D ad cy tb [.ref (ad 11)] h h0 := met_v (lv := [(0, .ref (ad 11))]) hi (by decide) rfl (Nat.le_of_ble_eq_true rfl) rfl rfl (fun _ _ _ _ _ _ _ _ C => tX0_clear_0 C  hf)
set_option maxRecDepth 20000 in
theorem ggX5_blocks_X4_clear : GoodIn wsX5_blocks wsX4_clear := goodIn_r _ [9, 10, 11, 12, 13, 14, 15, 16, 17, 18, 19, 46, 47, 48] (by decide +kernel) (by decide +kernel)
set_option maxRecDepth 20000 in
theorem gX5_blocks_X4_clear : GoodIn wsX5_blocks (wsV RX5 61 RX4 yX4_clear wsX4_clear) := goodIn_app (goodIn_of _ (by decide +kernel)) ggX5_blocks_X4_clear
set_option maxRecDepth 20000 in
theorem ggX5_blocks_X2_clear : GoodIn wsX5_blocks wsX2_clear := goodIn_r _ [24, 25, 26, 27, 18, 15, 19, 28, 14, 16, 49, 50] (by decide +kernel) (by decide +kernel)
set_option maxRecDepth 20000 in
theorem gX5_blocks_X2_clear : GoodIn wsX5_blocks (wsV RX5 65 RX2 yX2_clear wsX2_clear) := goodIn_app (goodIn_of _ (by decide +kernel)) ggX5_blocks_X2_clear
set_option maxRecDepth 20000 in
theorem ggX5_blocks_J7_fill_d0a16 : GoodIn wsX5_blocks wsJ7_fill_d0a16 := goodIn_r _ [16] (by decide +kernel) (by decide +kernel)
set_option maxRecDepth 20000 in
theorem gX5_blocks_J7_fill_d0a16 : GoodIn wsX5_blocks (va_wsS RX5 67 yJ7_fill_d0a16 wsJ7_fill_d0a16) := goodIn_app (goodIn_of _ (by decide +kernel)) ggX5_blocks_J7_fill_d0a16
set_option maxRecDepth 20000 in
theorem ggX5_blocks_X0_clear : GoodIn wsX5_blocks wsX0_clear := goodIn_r _ [34, 35, 36, 51, 52, 53] (by decide +kernel) (by decide +kernel)
set_option maxRecDepth 20000 in
theorem gX5_blocks_X0_clear : GoodIn wsX5_blocks (wsV RX5 73 RX0 yX0_clear wsX0_clear) := goodIn_app (goodIn_of _ (by decide +kernel)) ggX5_blocks_X0_clear
theorem dX5_blocks_0 : decode cX5_blocks 0 = .ok (.iload_n 1, 1) := by decide +kernel
theorem dX5_blocks_1 : decode cX5_blocks 1 = .ok (.iconst 2, 1) := by decide +kernel
theorem dX5_blocks_2 : decode cX5_blocks 2 = .ok (.if_icmp .lt 9, 3) := by decide +kernel
theorem dX5_blocks_5 : decode cX5_blocks 5 = .ok (.iload_n 1, 1) := by decide +kernel
theorem dX5_blocks_6 : decode cX5_blocks 6 = .ok (.bipush 6, 2) := by decide +kernel
theorem dX5_blocks_8 : decode cX5_blocks 8 = .ok (.if_icmp .le 6, 3) := by decide +kernel
theorem dX5_blocks_11 : decode cX5_blocks 11 = .ok (.bipush (-2), 2) := by decide +kernel
theorem dX5_blocks_13 : decode cX5_blocks 13 = .ok (.ireturn, 1) := by decide +kernel
theorem dX5_blocks_14 : decode cX5_blocks 14 = .ok (.aload_n 0, 1) := by decide +kernel
theorem dX5_blocks_15 : decode cX5_blocks 15 = .ok (.getfield 12, 3) := by decide +kernel
theorem dX5_blocks_18 : decode cX5_blocks 18 = .ok (.getfield 58, 3) := by decide +kernel
theorem dX5_blocks_21 : decode cX5_blocks 21 = .ok (.istore_n 2, 1) := by decide +kernel
theorem dX5_blocks_22 : decode cX5_blocks 22 = .ok (.aload_n 0, 1) := by decide +kernel
theorem dX5_blocks_23 : decode cX5_blocks 23 = .ok (.getfield 12, 3) := by decide +kernel
theorem dX5_blocks_26 : decode cX5_blocks 26 = .ok (.iload_n 1, 1) := by decide +kernel
theorem dX5_blocks_27 : decode cX5_blocks 27 = .ok (.invokevirtual 61, 3) := by decide +kernel
theorem dX5_blocks_30 : decode cX5_blocks 30 = .ok (.aload_n 0, 1) := by decide +kernel
theorem dX5_blocks_31 : decode cX5_blocks 31 = .ok (.getfield 22, 3) := by decide +kernel
theorem dX5_blocks_34 : decode cX5_blocks 34 = .ok (.invokevirtual 65, 3) := by decide +kernel
theorem dX5_blocks_37 : decode cX5_blocks 37 = .ok (.aload_n 0, 1) := by decide +kernel
theorem dX5_blocks_38 : decode cX5_blocks 38 = .ok (.getfield 26, 3) := by decide +kernel
theorem dX5_blocks_41 : decode cX5_blocks 41 = .ok (.lconst 0, 1) := by decide +kernel
theorem dX5_blocks_42 : decode cX5_blocks 42 = .ok (.invokestatic 67, 3) := by decide +kernel
theorem dX5_blocks_45 : decode cX5_blocks 45 = .ok (.aload_n 0, 1) := by decide +kernel
theorem dX5_blocks_46 : decode cX5_blocks 46 = .ok (.getfield 33, 3) := by decide +kernel
theorem dX5_blocks_49 : decode cX5_blocks 49 = .ok (.invokevirtual 73, 3) := by decide +kernel
theorem dX5_blocks_52 : decode cX5_blocks 52 = .ok (.iload_n 2, 1) := by decide +kernel
theorem dX5_blocks_53 : decode cX5_blocks 53 = .ok (.ireturn, 1) := by decide +kernel
abbrev rmX5_blocks : Room := { frames := 2, cells := 0, slots := 0, locals := 45 }
set_option maxRecDepth 100000 in
theorem hinX5_blocks_5 : ∀ w ∈ wsX50, w ∈ wsX5_blocks := by decide +kernel
set_option maxRecDepth 100000 in
theorem hinX5_blocks_4 : ∀ w ∈ wsX40, w ∈ wsX5_blocks := by decide +kernel
set_option maxHeartbeats 4000000 in
set_option maxRecDepth 100000 in
theorem tX5_blocks_0 {h : AH} {a1 : Int32} {r0 : Int32} {h0 : AH} (C : Cx p rmX5_blocks s m args meth c RX5 cX5_blocks 3 (some .int) wsX5_blocks D ad cy tb 0 0) (hf : fX5_blocks h a1 = some (r0, h0)) : AW p l e rmX5_blocks s m args below meth c 3 D ad cy 0 0 (Qi D ad cy below args s r0 h0) 0 [(0, .ref (ad 0)), (1, .int a1)] [] h := by
  unfold fX5_blocks at hf
  refine aw_iload_n C dX5_blocks_0 rfl 1 rfl ?_
  refine aw_iconst (v := 2) C dX5_blocks_1 (by decide) ?_
  refine aw_icmp_lt (tgt := 11) C dX5_blocks_2 (by decide) hf (fun hf => ?_) (fun hf => ?_)
  · refine aw_bipush (v := (-2)) C dX5_blocks_11 (by decide) ?_
    exact aw_iretW C dX5_blocks_13 hf
  refine aw_iload_n C dX5_blocks_5 rfl 1 rfl ?_
  refine aw_bipush (v := 6) C dX5_blocks_6 (by decide) ?_
  refine aw_icmp_le (tgt := 14) C dX5_blocks_8 (by decide) hf (fun hf => ?_) (fun hf => ?_)
  · refine aw_aload_n C dX5_blocks_14 rfl 0 rfl ?_
    refine aw_get C (kd_lt rfl (by decide)) (ce_5 rfl) rfl hinX5_blocks_5 0 (by decide) rfl (by decide +kernel) rfl dX5_blocks_15 ?_
    refine aw_getN (host := "StairCodes") C (kd_lt rfl (by decide)) (ce_4 rfl) rfl hinX5_blocks_4 0 (by decide) rfl (by decide +kernel) rfl dX5_blocks_18 ?_
    refine aw_nmI hf (fun v1 hf => ?_)
    refine aw_istore_n (lv1 := [(2, .int v1), (0, .ref (ad 0)), (1, .int a1)]) C dX5_blocks_21 rfl (by decide) rfl ?_
    refine aw_aload_n C dX5_blocks_22 rfl 1 rfl ?_
    refine aw_get C (kd_lt rfl (by decide)) (ce_5 rfl) rfl hinX5_blocks_5 0 (by decide) rfl (by decide +kernel) rfl dX5_blocks_23 ?_
    refine aw_iload_n C dX5_blocks_26 rfl 2 rfl ?_
    obtain ⟨h2, hc, hf⟩ := bR_some hf
    refine aw_callVv (As := [.int a1]) (rest := []) C rfl (by decide) rfl (kX4_clear (l := l) (D := D) (ad := ad) (cy := cy) (tb := tb) C.2.2.2.2.2.2.2.2.1 rfl hc) (fun ht _ => cwV 1 ht gX5_blocks_X4_clear rfl rfl rfl (by decide +kernel) ⟨Nat.le_of_ble_eq_true rfl, Nat.le_of_ble_eq_true rfl⟩) rfl rfl (Nat.le_of_ble_eq_true rfl) dX5_blocks_27 ?_
    refine aw_aload_n C dX5_blocks_30 rfl 1 rfl ?_
    refine aw_get C (kd_lt rfl (by decide)) (ce_5 rfl) rfl hinX5_blocks_5 2 (by decide) rfl (by decide +kernel) rfl dX5_blocks_31 ?_
    obtain ⟨h3, hc, hf⟩ := bR_some hf
    refine aw_callVv (As := []) (rest := []) C rfl (by decide) rfl (kX2_clear (l := l) (D := D) (ad := ad) (cy := cy) (tb := tb) C.2.2.2.2.2.2.2.2.1 hc) (fun ht _ => cwV 0 ht gX5_blocks_X2_clear rfl rfl rfl (by decide +kernel) ⟨Nat.le_of_ble_eq_true rfl, Nat.le_of_ble_eq_true rfl⟩) rfl rfl (Nat.le_of_ble_eq_true rfl) dX5_blocks_34 ?_
    refine aw_aload_n C dX5_blocks_37 rfl 1 rfl ?_
    refine aw_get C (kd_lt rfl (by decide)) (ce_5 rfl) rfl hinX5_blocks_5 3 (by decide) rfl (by decide +kernel) rfl dX5_blocks_38 ?_
    refine aw_lconst (v := 0) C dX5_blocks_41 (by decide) ?_
    obtain ⟨h4, hc, hf⟩ := bR_some hf
    refine aw_callSv (As := [.ref (ad 10), .long 0]) (rest := []) C (kJ7_fill_d0a16 (l := l) (D := D) (ad := ad) (cy := cy) (tb := tb) C.2.2.2.2.2.2.2.2.1 rfl hc) (fun ht _ => va_cwS 2 ht gX5_blocks_J7_fill_d0a16 rfl rfl rfl (by decide +kernel) ⟨Nat.le_of_ble_eq_true rfl, Nat.le_of_ble_eq_true rfl⟩) rfl rfl (Nat.le_of_ble_eq_true rfl) dX5_blocks_42 ?_
    refine aw_aload_n C dX5_blocks_45 rfl 1 rfl ?_
    refine aw_get C (kd_lt rfl (by decide)) (ce_5 rfl) rfl hinX5_blocks_5 4 (by decide) rfl (by decide +kernel) rfl dX5_blocks_46 ?_
    obtain ⟨h5, hc, hf⟩ := bR_some hf
    refine aw_callVv (As := []) (rest := []) C rfl (by decide) rfl (kX0_clear (l := l) (D := D) (ad := ad) (cy := cy) (tb := tb) C.2.2.2.2.2.2.2.2.1 hc) (fun ht _ => cwV 0 ht gX5_blocks_X0_clear rfl rfl rfl (by decide +kernel) ⟨Nat.le_of_ble_eq_true rfl, Nat.le_of_ble_eq_true rfl⟩) rfl rfl (Nat.le_of_ble_eq_true rfl) dX5_blocks_49 ?_
    refine aw_iload_n C dX5_blocks_52 rfl 0 rfl ?_
    exact aw_iretW C dX5_blocks_53 hf
  refine aw_bipush (v := (-2)) C dX5_blocks_11 (by decide) ?_
  exact aw_iretW C dX5_blocks_13 hf
theorem kX5_blocks {h : AH} {a1 : Int32} {r0 : Int32} {h0 : AH} (hi : Inj ad) (hf : fX5_blocks h a1 = some (r0, h0)) : Ki l yX5_blocks wsX5_blocks rmX5_blocks D ad cy tb [.ref (ad 0), .int a1] h r0 h0 := met_i (lv := [(0, .ref (ad 0)), (1, .int a1)]) hi (by decide) rfl (Nat.le_of_ble_eq_true rfl) rfl rfl (fun _ _ _ _ _ _ _ _ C => tX5_blocks_0 C  hf)
theorem dX6_in_0 : decode cX6_in 0 = .ok (.iload_n 0, 1) := by decide +kernel
theorem dX6_in_1 : decode cX6_in 1 = .ok (.iload_n 1, 1) := by decide +kernel
theorem dX6_in_2 : decode cX6_in 2 = .ok (.if_icmp .lt 12, 3) := by decide +kernel
theorem dX6_in_5 : decode cX6_in 5 = .ok (.iload_n 0, 1) := by decide +kernel
theorem dX6_in_6 : decode cX6_in 6 = .ok (.iload_n 2, 1) := by decide +kernel
theorem dX6_in_7 : decode cX6_in 7 = .ok (.if_icmp .gt 7, 3) := by decide +kernel
theorem dX6_in_10 : decode cX6_in 10 = .ok (.iconst 1, 1) := by decide +kernel
theorem dX6_in_11 : decode cX6_in 11 = .ok (.goto 4, 3) := by decide +kernel
theorem dX6_in_14 : decode cX6_in 14 = .ok (.iconst 0, 1) := by decide +kernel
theorem dX6_in_15 : decode cX6_in 15 = .ok (.ireturn, 1) := by decide +kernel
abbrev rmX6_in : Room := { frames := 0, cells := 0, slots := 0, locals := 0 }
set_option maxHeartbeats 4000000 in
set_option maxRecDepth 100000 in
theorem tX6_in_0 {h : AH} {a0 : Int32} {a1 : Int32} {a2 : Int32} {r0 : Int32} (C : Cx p rmX6_in s m args meth c RX6 cX6_in 3 (some .boolean) wsX6_in D ad cy tb 0 0) (hf : fX6_in h a0 a1 a2 = some r0) : AW p l e rmX6_in s m args below meth c 3 D ad cy 0 0 (Qi D ad cy below args s r0 h) 0 [(0, .int a0), (1, .int a1), (2, .int a2)] [] h := by
  unfold fX6_in at hf
  refine aw_iload_n C dX6_in_0 rfl 0 rfl ?_
  refine aw_iload_n C dX6_in_1 rfl 1 rfl ?_
  refine aw_icmp_lt (tgt := 14) C dX6_in_2 (by decide) hf (fun hf => ?_) (fun hf => ?_)
  · refine aw_iconst (v := 0) C dX6_in_14 (by decide) ?_
    exact aw_zretR C (by decide) dX6_in_15 hf
  refine aw_iload_n C dX6_in_5 rfl 0 rfl ?_
  refine aw_iload_n C dX6_in_6 rfl 2 rfl ?_
  refine aw_icmp_gt (tgt := 14) C dX6_in_7 (by decide) hf (fun hf => ?_) (fun hf => ?_)
  · refine aw_iconst (v := 0) C dX6_in_14 (by decide) ?_
    exact aw_zretR C (by decide) dX6_in_15 hf
  refine aw_iconst (v := 1) C dX6_in_10 (by decide) ?_
  refine aw_goto (tgt := 15) C dX6_in_11 (by decide) ?_
  exact aw_zretR C (by decide) dX6_in_15 hf
theorem kX6_in {h : AH} {a0 : Int32} {a1 : Int32} {a2 : Int32} {r0 : Int32} (hi : Inj ad) (hf : fX6_in h a0 a1 a2 = some r0) : Ki l yX6_in wsX6_in rmX6_in D ad cy tb [.int a0, .int a1, .int a2] h r0 h := met_i (lv := [(0, .int a0), (1, .int a1), (2, .int a2)]) hi (by decide) rfl (Nat.le_of_ble_eq_true rfl) rfl rfl (fun _ _ _ _ _ _ _ _ C => tX6_in_0 C  hf)
theorem dX6_bitAt_0 : decode cX6_bitAt 0 = .ok (.iload_n 2, 1) := by decide +kernel
theorem dX6_bitAt_1 : decode cX6_bitAt 1 = .ok (.bipush 8, 2) := by decide +kernel
theorem dX6_bitAt_3 : decode cX6_bitAt 3 = .ok (.if_icmp .ge 19, 3) := by decide +kernel
theorem dX6_bitAt_6 : decode cX6_bitAt 6 = .ok (.bipush 64, 2) := by decide +kernel
theorem dX6_bitAt_8 : decode cX6_bitAt 8 = .ok (.iload_n 0, 1) := by decide +kernel
theorem dX6_bitAt_9 : decode cX6_bitAt 9 = .ok (.iconst 1, 1) := by decide +kernel
theorem dX6_bitAt_10 : decode cX6_bitAt 10 = .ok (.isub, 1) := by decide +kernel
theorem dX6_bitAt_11 : decode cX6_bitAt 11 = .ok (.imul, 1) := by decide +kernel
theorem dX6_bitAt_12 : decode cX6_bitAt 12 = .ok (.bipush 8, 2) := by decide +kernel
theorem dX6_bitAt_14 : decode cX6_bitAt 14 = .ok (.iload_n 2, 1) := by decide +kernel
theorem dX6_bitAt_15 : decode cX6_bitAt 15 = .ok (.imul, 1) := by decide +kernel
theorem dX6_bitAt_16 : decode cX6_bitAt 16 = .ok (.iadd, 1) := by decide +kernel
theorem dX6_bitAt_17 : decode cX6_bitAt 17 = .ok (.iload_n 1, 1) := by decide +kernel
theorem dX6_bitAt_18 : decode cX6_bitAt 18 = .ok (.iadd, 1) := by decide +kernel
theorem dX6_bitAt_19 : decode cX6_bitAt 19 = .ok (.goto 17, 3) := by decide +kernel
theorem dX6_bitAt_22 : decode cX6_bitAt 22 = .ok (.bipush 64, 2) := by decide +kernel
theorem dX6_bitAt_24 : decode cX6_bitAt 24 = .ok (.iload_n 0, 1) := by decide +kernel
theorem dX6_bitAt_25 : decode cX6_bitAt 25 = .ok (.imul, 1) := by decide +kernel
theorem dX6_bitAt_26 : decode cX6_bitAt 26 = .ok (.bipush 8, 2) := by decide +kernel
theorem dX6_bitAt_28 : decode cX6_bitAt 28 = .ok (.iload_n 1, 1) := by decide +kernel
theorem dX6_bitAt_29 : decode cX6_bitAt 29 = .ok (.imul, 1) := by decide +kernel
theorem dX6_bitAt_30 : decode cX6_bitAt 30 = .ok (.iadd, 1) := by decide +kernel
theorem dX6_bitAt_31 : decode cX6_bitAt 31 = .ok (.iload_n 2, 1) := by decide +kernel
theorem dX6_bitAt_32 : decode cX6_bitAt 32 = .ok (.iadd, 1) := by decide +kernel
theorem dX6_bitAt_33 : decode cX6_bitAt 33 = .ok (.bipush 8, 2) := by decide +kernel
theorem dX6_bitAt_35 : decode cX6_bitAt 35 = .ok (.isub, 1) := by decide +kernel
theorem dX6_bitAt_36 : decode cX6_bitAt 36 = .ok (.ireturn, 1) := by decide +kernel
abbrev rmX6_bitAt : Room := { frames := 0, cells := 0, slots := 0, locals := 0 }
set_option maxHeartbeats 4000000 in
set_option maxRecDepth 100000 in
theorem tX6_bitAt_0 {h : AH} {a0 : Int32} {a1 : Int32} {a2 : Int32} {r0 : Int32} (C : Cx p rmX6_bitAt s m args meth c RX6 cX6_bitAt 3 (some .int) wsX6_bitAt D ad cy tb 0 0) (hf : fX6_bitAt h a0 a1 a2 = some r0) : AW p l e rmX6_bitAt s m args below meth c 3 D ad cy 0 0 (Qi D ad cy below args s r0 h) 0 [(0, .int a0), (1, .int a1), (2, .int a2)] [] h := by
  unfold fX6_bitAt at hf
  refine aw_iload_n C dX6_bitAt_0 rfl 2 rfl ?_
  refine aw_bipush (v := 8) C dX6_bitAt_1 (by decide) ?_
  refine aw_icmp_ge (tgt := 22) C dX6_bitAt_3 (by decide) hf (fun hf => ?_) (fun hf => ?_)
  · refine aw_bipush (v := 64) C dX6_bitAt_22 (by decide) ?_
    refine aw_iload_n C dX6_bitAt_24 rfl 0 rfl ?_
    refine aw_imul C dX6_bitAt_25 ?_
    refine aw_bipush (v := 8) C dX6_bitAt_26 (by decide) ?_
    refine aw_iload_n C dX6_bitAt_28 rfl 1 rfl ?_
    refine aw_imul C dX6_bitAt_29 ?_
    refine aw_iadd C dX6_bitAt_30 ?_
    refine aw_iload_n C dX6_bitAt_31 rfl 2 rfl ?_
    refine aw_iadd C dX6_bitAt_32 ?_
    refine aw_bipush (v := 8) C dX6_bitAt_33 (by decide) ?_
    refine aw_isub C dX6_bitAt_35 ?_
    exact aw_iretR C dX6_bitAt_36 hf
  refine aw_bipush (v := 64) C dX6_bitAt_6 (by decide) ?_
  refine aw_iload_n C dX6_bitAt_8 rfl 0 rfl ?_
  refine aw_iconst (v := 1) C dX6_bitAt_9 (by decide) ?_
  refine aw_isub C dX6_bitAt_10 ?_
  refine aw_imul C dX6_bitAt_11 ?_
  refine aw_bipush (v := 8) C dX6_bitAt_12 (by decide) ?_
  refine aw_iload_n C dX6_bitAt_14 rfl 2 rfl ?_
  refine aw_imul C dX6_bitAt_15 ?_
  refine aw_iadd C dX6_bitAt_16 ?_
  refine aw_iload_n C dX6_bitAt_17 rfl 1 rfl ?_
  refine aw_iadd C dX6_bitAt_18 ?_
  refine aw_goto (tgt := 36) C dX6_bitAt_19 (by decide) ?_
  exact aw_iretR C dX6_bitAt_36 hf
theorem kX6_bitAt {h : AH} {a0 : Int32} {a1 : Int32} {a2 : Int32} {r0 : Int32} (hi : Inj ad) (hf : fX6_bitAt h a0 a1 a2 = some r0) : Ki l yX6_bitAt wsX6_bitAt rmX6_bitAt D ad cy tb [.int a0, .int a1, .int a2] h r0 h := met_i (lv := [(0, .int a0), (1, .int a1), (2, .int a2)]) hi (by decide) rfl (Nat.le_of_ble_eq_true rfl) rfl rfl (fun _ _ _ _ _ _ _ _ C => tX6_bitAt_0 C  hf)
theorem dX6_labelOf_0 : decode cX6_labelOf 0 = .ok (.iload_n 0, 1) := by decide +kernel
theorem dX6_labelOf_1 : decode cX6_labelOf 1 = .ok (.tableswitch 100 0 15 #[79, 100, 100, 100, 100, 100, 100, 100, 82, 84, 86, 89, 91, 93, 95, 97], 79) := by decide +kernel
theorem dX6_labelOf_80 : decode cX6_labelOf 80 = .ok (.bipush 7, 2) := by decide +kernel
theorem dX6_labelOf_82 : decode cX6_labelOf 82 = .ok (.ireturn, 1) := by decide +kernel
theorem dX6_labelOf_83 : decode cX6_labelOf 83 = .ok (.iconst 3, 1) := by decide +kernel
theorem dX6_labelOf_84 : decode cX6_labelOf 84 = .ok (.ireturn, 1) := by decide +kernel
theorem dX6_labelOf_85 : decode cX6_labelOf 85 = .ok (.iconst 5, 1) := by decide +kernel
theorem dX6_labelOf_86 : decode cX6_labelOf 86 = .ok (.ireturn, 1) := by decide +kernel
theorem dX6_labelOf_87 : decode cX6_labelOf 87 = .ok (.bipush 6, 2) := by decide +kernel
theorem dX6_labelOf_89 : decode cX6_labelOf 89 = .ok (.ireturn, 1) := by decide +kernel
theorem dX6_labelOf_90 : decode cX6_labelOf 90 = .ok (.iconst 0, 1) := by decide +kernel
theorem dX6_labelOf_91 : decode cX6_labelOf 91 = .ok (.ireturn, 1) := by decide +kernel
theorem dX6_labelOf_92 : decode cX6_labelOf 92 = .ok (.iconst 1, 1) := by decide +kernel
theorem dX6_labelOf_93 : decode cX6_labelOf 93 = .ok (.ireturn, 1) := by decide +kernel
theorem dX6_labelOf_94 : decode cX6_labelOf 94 = .ok (.iconst 2, 1) := by decide +kernel
theorem dX6_labelOf_95 : decode cX6_labelOf 95 = .ok (.ireturn, 1) := by decide +kernel
theorem dX6_labelOf_96 : decode cX6_labelOf 96 = .ok (.iconst 4, 1) := by decide +kernel
theorem dX6_labelOf_97 : decode cX6_labelOf 97 = .ok (.ireturn, 1) := by decide +kernel
theorem dX6_labelOf_98 : decode cX6_labelOf 98 = .ok (.bipush 8, 2) := by decide +kernel
theorem dX6_labelOf_100 : decode cX6_labelOf 100 = .ok (.ireturn, 1) := by decide +kernel
theorem dX6_labelOf_101 : decode cX6_labelOf 101 = .ok (.iload_n 0, 1) := by decide +kernel
theorem dX6_labelOf_102 : decode cX6_labelOf 102 = .ok (.bipush 8, 2) := by decide +kernel
theorem dX6_labelOf_104 : decode cX6_labelOf 104 = .ok (.iadd, 1) := by decide +kernel
theorem dX6_labelOf_105 : decode cX6_labelOf 105 = .ok (.ireturn, 1) := by decide +kernel
abbrev rmX6_labelOf : Room := { frames := 0, cells := 0, slots := 0, locals := 0 }
set_option maxHeartbeats 4000000 in
set_option maxRecDepth 100000 in
theorem tX6_labelOf_0 {h : AH} {a0 : Int32} {r0 : Int32} (C : Cx p rmX6_labelOf s m args meth c RX6 cX6_labelOf 1 (some .int) wsX6_labelOf D ad cy tb 0 0) (hf : fX6_labelOf h a0 = some r0) : AW p l e rmX6_labelOf s m args below meth c 1 D ad cy 0 0 (Qi D ad cy below args s r0 h) 0 [(0, .int a0)] [] h := by
  unfold fX6_labelOf at hf
  refine aw_iload_n C dX6_labelOf_0 rfl 0 rfl ?_
  rcases Decidable.em (a0 = 0) with hx0 | hx0
  · rw [if_pos hx0] at hf
    refine aw_tabIn (tgt := 80) C dX6_labelOf_1 (by rw [hx0]; decide) (by rw [hx0]; decide) (by rw [hx0]; rfl) (by decide) ?_
    refine aw_bipush (v := 7) C dX6_labelOf_80 (by decide) ?_
    exact aw_iretR C dX6_labelOf_82 hf
  rw [if_neg hx0] at hf
  rcases Decidable.em (a0 = 1) with hx1 | hx1
  · rw [if_pos hx1] at hf
    refine aw_tabIn (tgt := 101) C dX6_labelOf_1 (by rw [hx1]; decide) (by rw [hx1]; decide) (by rw [hx1]; rfl) (by decide) ?_
    refine aw_iload_n C dX6_labelOf_101 rfl 0 rfl ?_
    refine aw_bipush (v := 8) C dX6_labelOf_102 (by decide) ?_
    refine aw_iadd C dX6_labelOf_104 ?_
    exact aw_iretR C dX6_labelOf_105 hf
  rw [if_neg hx1] at hf
  rcases Decidable.em (a0 = 2) with hx2 | hx2
  · rw [if_pos hx2] at hf
    refine aw_tabIn (tgt := 101) C dX6_labelOf_1 (by rw [hx2]; decide) (by rw [hx2]; decide) (by rw [hx2]; rfl) (by decide) ?_
    refine aw_iload_n C dX6_labelOf_101 rfl 0 rfl ?_
    refine aw_bipush (v := 8) C dX6_labelOf_102 (by decide) ?_
    refine aw_iadd C dX6_labelOf_104 ?_
    exact aw_iretR C dX6_labelOf_105 hf
  rw [if_neg hx2] at hf
  rcases Decidable.em (a0 = 3) with hx3 | hx3
  · rw [if_pos hx3] at hf
    refine aw_tabIn (tgt := 101) C dX6_labelOf_1 (by rw [hx3]; decide) (by rw [hx3]; decide) (by rw [hx3]; rfl) (by decide) ?_
    refine aw_iload_n C dX6_labelOf_101 rfl 0 rfl ?_
    refine aw_bipush (v := 8) C dX6_labelOf_102 (by decide) ?_
    refine aw_iadd C dX6_labelOf_104 ?_
    exact aw_iretR C dX6_labelOf_105 hf
  rw [if_neg hx3] at hf
  rcases Decidable.em (a0 = 4) with hx4 | hx4
  · rw [if_pos hx4] at hf
    refine aw_tabIn (tgt := 101) C dX6_labelOf_1 (by rw [hx4]; decide) (by rw [hx4]; decide) (by rw [hx4]; rfl) (by decide) ?_
    refine aw_iload_n C dX6_labelOf_101 rfl 0 rfl ?_
    refine aw_bipush (v := 8) C dX6_labelOf_102 (by decide) ?_
    refine aw_iadd C dX6_labelOf_104 ?_
    exact aw_iretR C dX6_labelOf_105 hf
  rw [if_neg hx4] at hf
  rcases Decidable.em (a0 = 5) with hx5 | hx5
  · rw [if_pos hx5] at hf
    refine aw_tabIn (tgt := 101) C dX6_labelOf_1 (by rw [hx5]; decide) (by rw [hx5]; decide) (by rw [hx5]; rfl) (by decide) ?_
    refine aw_iload_n C dX6_labelOf_101 rfl 0 rfl ?_
    refine aw_bipush (v := 8) C dX6_labelOf_102 (by decide) ?_
    refine aw_iadd C dX6_labelOf_104 ?_
    exact aw_iretR C dX6_labelOf_105 hf
  rw [if_neg hx5] at hf
  rcases Decidable.em (a0 = 6) with hx6 | hx6
  · rw [if_pos hx6] at hf
    refine aw_tabIn (tgt := 101) C dX6_labelOf_1 (by rw [hx6]; decide) (by rw [hx6]; decide) (by rw [hx6]; rfl) (by decide) ?_
    refine aw_iload_n C dX6_labelOf_101 rfl 0 rfl ?_
    refine aw_bipush (v := 8) C dX6_labelOf_102 (by decide) ?_
    refine aw_iadd C dX6_labelOf_104 ?_
    exact aw_iretR C dX6_labelOf_105 hf
  rw [if_neg hx6] at hf
  rcases Decidable.em (a0 = 7) with hx7 | hx7
  · rw [if_pos hx7] at hf
    refine aw_tabIn (tgt := 101) C dX6_labelOf_1 (by rw [hx7]; decide) (by rw [hx7]; decide) (by rw [hx7]; rfl) (by decide) ?_
    refine aw_iload_n C dX6_labelOf_101 rfl 0 rfl ?_
    refine aw_bipush (v := 8) C dX6_labelOf_102 (by decide) ?_
    refine aw_iadd C dX6_labelOf_104 ?_
    exact aw_iretR C dX6_labelOf_105 hf
  rw [if_neg hx7] at hf
  rcases Decidable.em (a0 = 8) with hx8 | hx8
  · rw [if_pos hx8] at hf
    refine aw_tabIn (tgt := 83) C dX6_labelOf_1 (by rw [hx8]; decide) (by rw [hx8]; decide) (by rw [hx8]; rfl) (by decide) ?_
    refine aw_iconst (v := 3) C dX6_labelOf_83 (by decide) ?_
    exact aw_iretR C dX6_labelOf_84 hf
  rw [if_neg hx8] at hf
  rcases Decidable.em (a0 = 9) with hx9 | hx9
  · rw [if_pos hx9] at hf
    refine aw_tabIn (tgt := 85) C dX6_labelOf_1 (by rw [hx9]; decide) (by rw [hx9]; decide) (by rw [hx9]; rfl) (by decide) ?_
    refine aw_iconst (v := 5) C dX6_labelOf_85 (by decide) ?_
    exact aw_iretR C dX6_labelOf_86 hf
  rw [if_neg hx9] at hf
  rcases Decidable.em (a0 = 10) with hx10 | hx10
  · rw [if_pos hx10] at hf
    refine aw_tabIn (tgt := 87) C dX6_labelOf_1 (by rw [hx10]; decide) (by rw [hx10]; decide) (by rw [hx10]; rfl) (by decide) ?_
    refine aw_bipush (v := 6) C dX6_labelOf_87 (by decide) ?_
    exact aw_iretR C dX6_labelOf_89 hf
  rw [if_neg hx10] at hf
  rcases Decidable.em (a0 = 11) with hx11 | hx11
  · rw [if_pos hx11] at hf
    refine aw_tabIn (tgt := 90) C dX6_labelOf_1 (by rw [hx11]; decide) (by rw [hx11]; decide) (by rw [hx11]; rfl) (by decide) ?_
    refine aw_iconst (v := 0) C dX6_labelOf_90 (by decide) ?_
    exact aw_iretR C dX6_labelOf_91 hf
  rw [if_neg hx11] at hf
  rcases Decidable.em (a0 = 12) with hx12 | hx12
  · rw [if_pos hx12] at hf
    refine aw_tabIn (tgt := 92) C dX6_labelOf_1 (by rw [hx12]; decide) (by rw [hx12]; decide) (by rw [hx12]; rfl) (by decide) ?_
    refine aw_iconst (v := 1) C dX6_labelOf_92 (by decide) ?_
    exact aw_iretR C dX6_labelOf_93 hf
  rw [if_neg hx12] at hf
  rcases Decidable.em (a0 = 13) with hx13 | hx13
  · rw [if_pos hx13] at hf
    refine aw_tabIn (tgt := 94) C dX6_labelOf_1 (by rw [hx13]; decide) (by rw [hx13]; decide) (by rw [hx13]; rfl) (by decide) ?_
    refine aw_iconst (v := 2) C dX6_labelOf_94 (by decide) ?_
    exact aw_iretR C dX6_labelOf_95 hf
  rw [if_neg hx13] at hf
  rcases Decidable.em (a0 = 14) with hx14 | hx14
  · rw [if_pos hx14] at hf
    refine aw_tabIn (tgt := 96) C dX6_labelOf_1 (by rw [hx14]; decide) (by rw [hx14]; decide) (by rw [hx14]; rfl) (by decide) ?_
    refine aw_iconst (v := 4) C dX6_labelOf_96 (by decide) ?_
    exact aw_iretR C dX6_labelOf_97 hf
  rw [if_neg hx14] at hf
  rcases Decidable.em (a0 = 15) with hx15 | hx15
  · rw [if_pos hx15] at hf
    refine aw_tabIn (tgt := 98) C dX6_labelOf_1 (by rw [hx15]; decide) (by rw [hx15]; decide) (by rw [hx15]; rfl) (by decide) ?_
    refine aw_bipush (v := 8) C dX6_labelOf_98 (by decide) ?_
    exact aw_iretR C dX6_labelOf_100 hf
  rw [if_neg hx15] at hf
  have hsw := sw_out (x := a0) 16 (by decide) (fun j hj => by
    rcases (show j = 0 ∨ j = 1 ∨ j = 2 ∨ j = 3 ∨ j = 4 ∨ j = 5 ∨ j = 6 ∨ j = 7 ∨ j = 8 ∨ j = 9 ∨ j = 10 ∨ j = 11 ∨ j = 12 ∨ j = 13 ∨ j = 14 ∨ j = 15 by omega) with rfl | rfl | rfl | rfl | rfl | rfl | rfl | rfl | rfl | rfl | rfl | rfl | rfl | rfl | rfl | rfl
    · exact hx0
    · exact hx1
    · exact hx2
    · exact hx3
    · exact hx4
    · exact hx5
    · exact hx6
    · exact hx7
    · exact hx8
    · exact hx9
    · exact hx10
    · exact hx11
    · exact hx12
    · exact hx13
    · exact hx14
    · exact hx15)
  refine aw_tabOut (tgt := 101) C dX6_labelOf_1 (by omega) (by decide) ?_
  refine aw_iload_n C dX6_labelOf_101 rfl 0 rfl ?_
  refine aw_bipush (v := 8) C dX6_labelOf_102 (by decide) ?_
  refine aw_iadd C dX6_labelOf_104 ?_
  exact aw_iretR C dX6_labelOf_105 hf
theorem kX6_labelOf {h : AH} {a0 : Int32} {r0 : Int32} (hi : Inj ad) (hf : fX6_labelOf h a0 = some r0) : Ki l yX6_labelOf wsX6_labelOf rmX6_labelOf D ad cy tb [.int a0] h r0 h := met_i (lv := [(0, .int a0)]) hi (by decide) rfl (Nat.le_of_ble_eq_true rfl) rfl rfl (fun _ _ _ _ _ _ _ _ C => tX6_labelOf_0 C  hf)
set_option maxRecDepth 20000 in
theorem ggX6_labelsOf_X6_bitAt : GoodIn wsX6_labelsOf wsX6_bitAt := goodIn_r _ [4] (by decide +kernel) (by decide +kernel)
set_option maxRecDepth 20000 in
theorem gX6_labelsOf_X6_bitAt : GoodIn wsX6_labelsOf (va_wsS RX6 61 yX6_bitAt wsX6_bitAt) := goodIn_app (goodIn_of _ (by decide +kernel)) ggX6_labelsOf_X6_bitAt
set_option maxRecDepth 20000 in
theorem ggX6_labelsOf_X6_labelOf : GoodIn wsX6_labelsOf wsX6_labelOf := goodIn_r _ [7] (by decide +kernel) (by decide +kernel)
set_option maxRecDepth 20000 in
theorem gX6_labelsOf_X6_labelOf : GoodIn wsX6_labelsOf (va_wsS RX6 57 yX6_labelOf wsX6_labelOf) := goodIn_app (goodIn_of _ (by decide +kernel)) ggX6_labelsOf_X6_labelOf
theorem dX6_labelsOf_0 : decode cX6_labelsOf 0 = .ok (.iconst 0, 1) := by decide +kernel
theorem dX6_labelsOf_1 : decode cX6_labelsOf 1 = .ok (.istore 4, 2) := by decide +kernel
theorem dX6_labelsOf_3 : decode cX6_labelsOf 3 = .ok (.iconst 0, 1) := by decide +kernel
theorem dX6_labelsOf_4 : decode cX6_labelsOf 4 = .ok (.istore 5, 2) := by decide +kernel
theorem dX6_labelsOf_6 : decode cX6_labelsOf 6 = .ok (.iload 5, 2) := by decide +kernel
theorem dX6_labelsOf_8 : decode cX6_labelsOf 8 = .ok (.iload_n 3, 1) := by decide +kernel
theorem dX6_labelsOf_9 : decode cX6_labelsOf 9 = .ok (.if_icmp .ge 35, 3) := by decide +kernel
theorem dX6_labelsOf_12 : decode cX6_labelsOf 12 = .ok (.iload 4, 2) := by decide +kernel
theorem dX6_labelsOf_14 : decode cX6_labelsOf 14 = .ok (.aload_n 0, 1) := by decide +kernel
theorem dX6_labelsOf_15 : decode cX6_labelsOf 15 = .ok (.iload_n 1, 1) := by decide +kernel
theorem dX6_labelsOf_16 : decode cX6_labelsOf 16 = .ok (.iload_n 2, 1) := by decide +kernel
theorem dX6_labelsOf_17 : decode cX6_labelsOf 17 = .ok (.iload 5, 2) := by decide +kernel
theorem dX6_labelsOf_19 : decode cX6_labelsOf 19 = .ok (.invokestatic 61, 3) := by decide +kernel
theorem dX6_labelsOf_22 : decode cX6_labelsOf 22 = .ok (.baload, 1) := by decide +kernel
theorem dX6_labelsOf_23 : decode cX6_labelsOf 23 = .ok (.ifCond .eq 11, 3) := by decide +kernel
theorem dX6_labelsOf_26 : decode cX6_labelsOf 26 = .ok (.iload 5, 2) := by decide +kernel
theorem dX6_labelsOf_28 : decode cX6_labelsOf 28 = .ok (.invokestatic 57, 3) := by decide +kernel
theorem dX6_labelsOf_31 : decode cX6_labelsOf 31 = .ok (.goto 4, 3) := by decide +kernel
theorem dX6_labelsOf_34 : decode cX6_labelsOf 34 = .ok (.iconst 0, 1) := by decide +kernel
theorem dX6_labelsOf_35 : decode cX6_labelsOf 35 = .ok (.ixor, 1) := by decide +kernel
theorem dX6_labelsOf_36 : decode cX6_labelsOf 36 = .ok (.istore 4, 2) := by decide +kernel
theorem dX6_labelsOf_38 : decode cX6_labelsOf 38 = .ok (.iinc 5 1, 3) := by decide +kernel
theorem dX6_labelsOf_41 : decode cX6_labelsOf 41 = .ok (.goto (-35), 3) := by decide +kernel
theorem dX6_labelsOf_44 : decode cX6_labelsOf 44 = .ok (.iload 4, 2) := by decide +kernel
theorem dX6_labelsOf_46 : decode cX6_labelsOf 46 = .ok (.ireturn, 1) := by decide +kernel
abbrev rmX6_labelsOf : Room := { frames := 1, cells := 0, slots := 0, locals := 22 }
set_option maxHeartbeats 4000000 in
set_option maxRecDepth 100000 in
theorem tX6_labelsOf_35 {h : AH} {a0 : Nat} {a1 : Int32} {a2 : Int32} {a3 : Int32} {k6 : Int32 → Int32 → Option Int32} {x5 : Int32} {s0 : Int32} {s1 : Int32} {r0 : Int32} (C : Cx p rmX6_labelsOf s m args meth c RX6 cX6_labelsOf 6 (some .int) wsX6_labelsOf D ad cy tb 0 0) (hk0 : kd a0 = 9) (H6 : ∀ (x4 : Int32) (x5 : Int32), k6 x4 x5 = some r0 → AW p l e rmX6_labelsOf s m args below meth c 6 D ad cy 0 0 (Qi D ad cy below args s r0 h) 6 [(0, .ref (ad a0)), (1, .int a1), (2, .int a2), (3, .int a3), (4, .int x4), (5, .int x5)] [] h) (hf : fX6_labelsOf_35 k6 h a0 a1 a2 a3 x5 s0 s1 = some r0) : AW p l e rmX6_labelsOf s m args below meth c 6 D ad cy 0 0 (Qi D ad cy below args s r0 h) 35 [(0, .ref (ad a0)), (1, .int a1), (2, .int a2), (3, .int a3), (5, .int x5)] [.int s1, .int s0] h := by
  unfold fX6_labelsOf_35 at hf
  refine aw_ixor C dX6_labelsOf_35 ?_
  refine aw_nmI hf (fun v1 hf => ?_)
  refine aw_istore (lv1 := [(4, .int v1), (0, .ref (ad a0)), (1, .int a1), (2, .int a2), (3, .int a3), (5, .int x5)]) C dX6_labelsOf_36 (by decide) rfl ?_
  obtain ⟨v2, hvv2, hf⟩ := nm_ex hf
  refine aw_iinc (j := 5) (v := v2) (lv1 := [(5, .int v2), (4, .int v1), (0, .ref (ad a0)), (1, .int a1), (2, .int a2), (3, .int a3)]) C dX6_labelsOf_38 rfl hvv2 (by decide) rfl ?_
  refine aw_goto (tgt := 6) C dX6_labelsOf_41 (by decide) ?_
  refine aw_sub [2, 3, 4, 5, 1, 0] rfl ?_
  exact H6 v1 v2 hf
set_option maxHeartbeats 4000000 in
set_option maxRecDepth 100000 in
theorem tX6_labelsOf_6b {h : AH} {a0 : Nat} {a1 : Int32} {a2 : Int32} {a3 : Int32} {k6 : Int32 → Int32 → Option Int32} {x4 : Int32} {x5 : Int32} {r0 : Int32} (C : Cx p rmX6_labelsOf s m args meth c RX6 cX6_labelsOf 6 (some .int) wsX6_labelsOf D ad cy tb 0 0) (hk0 : kd a0 = 9) (H6 : ∀ (x4 : Int32) (x5 : Int32), k6 x4 x5 = some r0 → AW p l e rmX6_labelsOf s m args below meth c 6 D ad cy 0 0 (Qi D ad cy below args s r0 h) 6 [(0, .ref (ad a0)), (1, .int a1), (2, .int a2), (3, .int a3), (4, .int x4), (5, .int x5)] [] h) (hf : fX6_labelsOf_6b k6 h a0 a1 a2 a3 x4 x5 = some r0) : AW p l e rmX6_labelsOf s m args below meth c 6 D ad cy 0 0 (Qi D ad cy below args s r0 h) 6 [(0, .ref (ad a0)), (1, .int a1), (2, .int a2), (3, .int a3), (4, .int x4), (5, .int x5)] [] h := by
  unfold fX6_labelsOf_6b at hf
  refine aw_iload C dX6_labelsOf_6 5 rfl ?_
  refine aw_iload_n C dX6_labelsOf_8 rfl 3 rfl ?_
  refine aw_icmp_ge (tgt := 44) C dX6_labelsOf_9 (by decide) hf (fun hf => ?_) (fun hf => ?_)
  · refine aw_iload C dX6_labelsOf_44 4 rfl ?_
    exact aw_iretR C dX6_labelsOf_46 hf
  refine aw_iload C dX6_labelsOf_12 4 rfl ?_
  refine aw_aload_n C dX6_labelsOf_14 rfl 0 rfl ?_
  refine aw_iload_n C dX6_labelsOf_15 rfl 1 rfl ?_
  refine aw_iload_n C dX6_labelsOf_16 rfl 2 rfl ?_
  refine aw_iload C dX6_labelsOf_17 5 rfl ?_
  obtain ⟨r1, hc, hf⟩ := bR_some hf
  refine aw_callSi (As := [.int a1, .int a2, .int x5]) (rest := [.ref (ad a0), .int x4]) C (kX6_bitAt (l := l) (D := D) (ad := ad) (cy := cy) (tb := tb) C.2.2.2.2.2.2.2.2.1 hc) (fun ht _ => va_cwS 3 ht gX6_labelsOf_X6_bitAt rfl rfl rfl (by decide +kernel) ⟨Nat.le_of_ble_eq_true rfl, Nat.le_of_ble_eq_true rfl⟩) rfl rfl (Nat.le_of_ble_eq_true rfl) dX6_labelsOf_19 ?_
  refine aw_zald C hk0 rfl hf dX6_labelsOf_22 (fun hf => ?_)
  refine aw_if_eq (tgt := 34) C dX6_labelsOf_23 (by decide) hf (fun hf => ?_) (fun hf => ?_)
  · refine aw_iconst (v := 0) C dX6_labelsOf_34 (by decide) ?_
    refine aw_sub [0, 1, 2, 3, 5] rfl ?_
    exact tX6_labelsOf_35 C hk0 H6 hf
  refine aw_iload C dX6_labelsOf_26 5 rfl ?_
  obtain ⟨r2, hc, hf⟩ := bR_some hf
  refine aw_callSi (As := [.int x5]) (rest := [.int x4]) C (kX6_labelOf (l := l) (D := D) (ad := ad) (cy := cy) (tb := tb) C.2.2.2.2.2.2.2.2.1 hc) (fun ht _ => va_cwS 1 ht gX6_labelsOf_X6_labelOf rfl rfl rfl (by decide +kernel) ⟨Nat.le_of_ble_eq_true rfl, Nat.le_of_ble_eq_true rfl⟩) rfl rfl (Nat.le_of_ble_eq_true rfl) dX6_labelsOf_28 ?_
  refine aw_goto (tgt := 35) C dX6_labelsOf_31 (by decide) ?_
  refine aw_sub [0, 1, 2, 3, 5] rfl ?_
  exact tX6_labelsOf_35 C hk0 H6 hf
set_option maxHeartbeats 4000000 in
set_option maxRecDepth 100000 in
theorem tX6_labelsOf_6 {h : AH} {a0 : Nat} {a1 : Int32} {a2 : Int32} {a3 : Int32} {r0 : Int32} (C : Cx p rmX6_labelsOf s m args meth c RX6 cX6_labelsOf 6 (some .int) wsX6_labelsOf D ad cy tb 0 0) (hk0 : kd a0 = 9) : ∀ (n : Nat) (x4 : Int32) (x5 : Int32), fX6_labelsOf_6 h a0 a1 a2 a3 n x4 x5 = some r0 → AW p l e rmX6_labelsOf s m args below meth c 6 D ad cy 0 0 (Qi D ad cy below args s r0 h) 6 [(0, .ref (ad a0)), (1, .int a1), (2, .int a2), (3, .int a3), (4, .int x4), (5, .int x5)] [] h := by
  intro n
  induction n with
  | zero => intro x4 x5 hf; cases hf
  | succ n ih => intro x4 x5 hf; exact tX6_labelsOf_6b C hk0 ih  hf
set_option maxHeartbeats 4000000 in
set_option maxRecDepth 100000 in
theorem tX6_labelsOf_0 {h : AH} {a0 : Nat} {a1 : Int32} {a2 : Int32} {a3 : Int32} {r0 : Int32} (C : Cx p rmX6_labelsOf s m args meth c RX6 cX6_labelsOf 6 (some .int) wsX6_labelsOf D ad cy tb 0 0) (hk0 : kd a0 = 9) (hf : fX6_labelsOf h a0 a1 a2 a3 = some r0) : AW p l e rmX6_labelsOf s m args below meth c 6 D ad cy 0 0 (Qi D ad cy below args s r0 h) 0 [(0, .ref (ad a0)), (1, .int a1), (2, .int a2), (3, .int a3)] [] h := by
  unfold fX6_labelsOf at hf
  refine aw_iconst (v := 0) C dX6_labelsOf_0 (by decide) ?_
  refine aw_istore (lv1 := [(4, .int 0), (0, .ref (ad a0)), (1, .int a1), (2, .int a2), (3, .int a3)]) C dX6_labelsOf_1 (by decide) rfl ?_
  refine aw_iconst (v := 0) C dX6_labelsOf_3 (by decide) ?_
  refine aw_istore (lv1 := [(5, .int 0), (4, .int 0), (0, .ref (ad a0)), (1, .int a1), (2, .int a2), (3, .int a3)]) C dX6_labelsOf_4 (by decide) rfl ?_
  refine aw_sub [2, 3, 4, 5, 1, 0] rfl ?_
  exact tX6_labelsOf_6 C hk0  FU 0 0 hf
theorem kX6_labelsOf {h : AH} {a0 : Nat} {a1 : Int32} {a2 : Int32} {a3 : Int32} {r0 : Int32} (hi : Inj ad) (hk0 : kd a0 = 9) (hf : fX6_labelsOf h a0 a1 a2 a3 = some r0) : Ki l yX6_labelsOf wsX6_labelsOf rmX6_labelsOf D ad cy tb [.ref (ad a0), .int a1, .int a2, .int a3] h r0 h := met_i (lv := [(0, .ref (ad a0)), (1, .int a1), (2, .int a2), (3, .int a3)]) hi (by decide) rfl (Nat.le_of_ble_eq_true rfl) rfl rfl (fun _ _ _ _ _ _ _ _ C => tX6_labelsOf_0 C hk0 hf)
set_option maxRecDepth 20000 in
theorem ggX6_onesOf_X6_bitAt : GoodIn wsX6_onesOf wsX6_bitAt := goodIn_r _ [4] (by decide +kernel) (by decide +kernel)
set_option maxRecDepth 20000 in
theorem gX6_onesOf_X6_bitAt : GoodIn wsX6_onesOf (va_wsS RX6 61 yX6_bitAt wsX6_bitAt) := goodIn_app (goodIn_of _ (by decide +kernel)) ggX6_onesOf_X6_bitAt
theorem dX6_onesOf_0 : decode cX6_onesOf 0 = .ok (.iconst 0, 1) := by decide +kernel
theorem dX6_onesOf_1 : decode cX6_onesOf 1 = .ok (.istore 5, 2) := by decide +kernel
theorem dX6_onesOf_3 : decode cX6_onesOf 3 = .ok (.iload_n 3, 1) := by decide +kernel
theorem dX6_onesOf_4 : decode cX6_onesOf 4 = .ok (.istore 6, 2) := by decide +kernel
theorem dX6_onesOf_6 : decode cX6_onesOf 6 = .ok (.iload 6, 2) := by decide +kernel
theorem dX6_onesOf_8 : decode cX6_onesOf 8 = .ok (.iload 4, 2) := by decide +kernel
theorem dX6_onesOf_10 : decode cX6_onesOf 10 = .ok (.if_icmp .ge 31, 3) := by decide +kernel
theorem dX6_onesOf_13 : decode cX6_onesOf 13 = .ok (.iload 5, 2) := by decide +kernel
theorem dX6_onesOf_15 : decode cX6_onesOf 15 = .ok (.aload_n 0, 1) := by decide +kernel
theorem dX6_onesOf_16 : decode cX6_onesOf 16 = .ok (.iload_n 1, 1) := by decide +kernel
theorem dX6_onesOf_17 : decode cX6_onesOf 17 = .ok (.iload_n 2, 1) := by decide +kernel
theorem dX6_onesOf_18 : decode cX6_onesOf 18 = .ok (.iload 6, 2) := by decide +kernel
theorem dX6_onesOf_20 : decode cX6_onesOf 20 = .ok (.invokestatic 61, 3) := by decide +kernel
theorem dX6_onesOf_23 : decode cX6_onesOf 23 = .ok (.baload, 1) := by decide +kernel
theorem dX6_onesOf_24 : decode cX6_onesOf 24 = .ok (.ifCond .eq 7, 3) := by decide +kernel
theorem dX6_onesOf_27 : decode cX6_onesOf 27 = .ok (.iconst 1, 1) := by decide +kernel
theorem dX6_onesOf_28 : decode cX6_onesOf 28 = .ok (.goto 4, 3) := by decide +kernel
theorem dX6_onesOf_31 : decode cX6_onesOf 31 = .ok (.iconst 0, 1) := by decide +kernel
theorem dX6_onesOf_32 : decode cX6_onesOf 32 = .ok (.iadd, 1) := by decide +kernel
theorem dX6_onesOf_33 : decode cX6_onesOf 33 = .ok (.istore 5, 2) := by decide +kernel
theorem dX6_onesOf_35 : decode cX6_onesOf 35 = .ok (.iinc 6 1, 3) := by decide +kernel
theorem dX6_onesOf_38 : decode cX6_onesOf 38 = .ok (.goto (-32), 3) := by decide +kernel
theorem dX6_onesOf_41 : decode cX6_onesOf 41 = .ok (.iload 5, 2) := by decide +kernel
theorem dX6_onesOf_43 : decode cX6_onesOf 43 = .ok (.ireturn, 1) := by decide +kernel
abbrev rmX6_onesOf : Room := { frames := 1, cells := 0, slots := 0, locals := 22 }
set_option maxHeartbeats 4000000 in
set_option maxRecDepth 100000 in
theorem tX6_onesOf_32 {h : AH} {a0 : Nat} {a1 : Int32} {a2 : Int32} {a3 : Int32} {a4 : Int32} {k6 : Int32 → Int32 → Option Int32} {x6 : Int32} {s0 : Int32} {s1 : Int32} {r0 : Int32} (C : Cx p rmX6_onesOf s m args meth c RX6 cX6_onesOf 7 (some .int) wsX6_onesOf D ad cy tb 0 0) (hk0 : kd a0 = 9) (H6 : ∀ (x5 : Int32) (x6 : Int32), k6 x5 x6 = some r0 → AW p l e rmX6_onesOf s m args below meth c 7 D ad cy 0 0 (Qi D ad cy below args s r0 h) 6 [(0, .ref (ad a0)), (1, .int a1), (2, .int a2), (3, .int a3), (4, .int a4), (5, .int x5), (6, .int x6)] [] h) (hf : fX6_onesOf_32 k6 h a0 a1 a2 a3 a4 x6 s0 s1 = some r0) : AW p l e rmX6_onesOf s m args below meth c 7 D ad cy 0 0 (Qi D ad cy below args s r0 h) 32 [(0, .ref (ad a0)), (1, .int a1), (2, .int a2), (3, .int a3), (4, .int a4), (6, .int x6)] [.int s1, .int s0] h := by
  unfold fX6_onesOf_32 at hf
  refine aw_iadd C dX6_onesOf_32 ?_
  refine aw_nmI hf (fun v1 hf => ?_)
  refine aw_istore (lv1 := [(5, .int v1), (0, .ref (ad a0)), (1, .int a1), (2, .int a2), (3, .int a3), (4, .int a4), (6, .int x6)]) C dX6_onesOf_33 (by decide) rfl ?_
  obtain ⟨v2, hvv2, hf⟩ := nm_ex hf
  refine aw_iinc (j := 6) (v := v2) (lv1 := [(6, .int v2), (5, .int v1), (0, .ref (ad a0)), (1, .int a1), (2, .int a2), (3, .int a3), (4, .int a4)]) C dX6_onesOf_35 rfl hvv2 (by decide) rfl ?_
  refine aw_goto (tgt := 6) C dX6_onesOf_38 (by decide) ?_
  refine aw_sub [2, 3, 4, 5, 6, 1, 0] rfl ?_
  exact H6 v1 v2 hf
set_option maxHeartbeats 4000000 in
set_option maxRecDepth 100000 in
theorem tX6_onesOf_6b {h : AH} {a0 : Nat} {a1 : Int32} {a2 : Int32} {a3 : Int32} {a4 : Int32} {k6 : Int32 → Int32 → Option Int32} {x5 : Int32} {x6 : Int32} {r0 : Int32} (C : Cx p rmX6_onesOf s m args meth c RX6 cX6_onesOf 7 (some .int) wsX6_onesOf D ad cy tb 0 0) (hk0 : kd a0 = 9) (H6 : ∀ (x5 : Int32) (x6 : Int32), k6 x5 x6 = some r0 → AW p l e rmX6_onesOf s m args below meth c 7 D ad cy 0 0 (Qi D ad cy below args s r0 h) 6 [(0, .ref (ad a0)), (1, .int a1), (2, .int a2), (3, .int a3), (4, .int a4), (5, .int x5), (6, .int x6)] [] h) (hf : fX6_onesOf_6b k6 h a0 a1 a2 a3 a4 x5 x6 = some r0) : AW p l e rmX6_onesOf s m args below meth c 7 D ad cy 0 0 (Qi D ad cy below args s r0 h) 6 [(0, .ref (ad a0)), (1, .int a1), (2, .int a2), (3, .int a3), (4, .int a4), (5, .int x5), (6, .int x6)] [] h := by
  unfold fX6_onesOf_6b at hf
  refine aw_iload C dX6_onesOf_6 6 rfl ?_
  refine aw_iload C dX6_onesOf_8 4 rfl ?_
  refine aw_icmp_ge (tgt := 41) C dX6_onesOf_10 (by decide) hf (fun hf => ?_) (fun hf => ?_)
  · refine aw_iload C dX6_onesOf_41 5 rfl ?_
    exact aw_iretR C dX6_onesOf_43 hf
  refine aw_iload C dX6_onesOf_13 5 rfl ?_
  refine aw_aload_n C dX6_onesOf_15 rfl 0 rfl ?_
  refine aw_iload_n C dX6_onesOf_16 rfl 1 rfl ?_
  refine aw_iload_n C dX6_onesOf_17 rfl 2 rfl ?_
  refine aw_iload C dX6_onesOf_18 6 rfl ?_
  obtain ⟨r1, hc, hf⟩ := bR_some hf
  refine aw_callSi (As := [.int a1, .int a2, .int x6]) (rest := [.ref (ad a0), .int x5]) C (kX6_bitAt (l := l) (D := D) (ad := ad) (cy := cy) (tb := tb) C.2.2.2.2.2.2.2.2.1 hc) (fun ht _ => va_cwS 3 ht gX6_onesOf_X6_bitAt rfl rfl rfl (by decide +kernel) ⟨Nat.le_of_ble_eq_true rfl, Nat.le_of_ble_eq_true rfl⟩) rfl rfl (Nat.le_of_ble_eq_true rfl) dX6_onesOf_20 ?_
  refine aw_zald C hk0 rfl hf dX6_onesOf_23 (fun hf => ?_)
  refine aw_if_eq (tgt := 31) C dX6_onesOf_24 (by decide) hf (fun hf => ?_) (fun hf => ?_)
  · refine aw_iconst (v := 0) C dX6_onesOf_31 (by decide) ?_
    refine aw_sub [0, 1, 2, 3, 4, 6] rfl ?_
    exact tX6_onesOf_32 C hk0 H6 hf
  refine aw_iconst (v := 1) C dX6_onesOf_27 (by decide) ?_
  refine aw_goto (tgt := 32) C dX6_onesOf_28 (by decide) ?_
  refine aw_sub [0, 1, 2, 3, 4, 6] rfl ?_
  exact tX6_onesOf_32 C hk0 H6 hf
set_option maxHeartbeats 4000000 in
set_option maxRecDepth 100000 in
theorem tX6_onesOf_6 {h : AH} {a0 : Nat} {a1 : Int32} {a2 : Int32} {a3 : Int32} {a4 : Int32} {r0 : Int32} (C : Cx p rmX6_onesOf s m args meth c RX6 cX6_onesOf 7 (some .int) wsX6_onesOf D ad cy tb 0 0) (hk0 : kd a0 = 9) : ∀ (n : Nat) (x5 : Int32) (x6 : Int32), fX6_onesOf_6 h a0 a1 a2 a3 a4 n x5 x6 = some r0 → AW p l e rmX6_onesOf s m args below meth c 7 D ad cy 0 0 (Qi D ad cy below args s r0 h) 6 [(0, .ref (ad a0)), (1, .int a1), (2, .int a2), (3, .int a3), (4, .int a4), (5, .int x5), (6, .int x6)] [] h := by
  intro n
  induction n with
  | zero => intro x5 x6 hf; cases hf
  | succ n ih => intro x5 x6 hf; exact tX6_onesOf_6b C hk0 ih  hf
set_option maxHeartbeats 4000000 in
set_option maxRecDepth 100000 in
theorem tX6_onesOf_0 {h : AH} {a0 : Nat} {a1 : Int32} {a2 : Int32} {a3 : Int32} {a4 : Int32} {r0 : Int32} (C : Cx p rmX6_onesOf s m args meth c RX6 cX6_onesOf 7 (some .int) wsX6_onesOf D ad cy tb 0 0) (hk0 : kd a0 = 9) (hf : fX6_onesOf h a0 a1 a2 a3 a4 = some r0) : AW p l e rmX6_onesOf s m args below meth c 7 D ad cy 0 0 (Qi D ad cy below args s r0 h) 0 [(0, .ref (ad a0)), (1, .int a1), (2, .int a2), (3, .int a3), (4, .int a4)] [] h := by
  unfold fX6_onesOf at hf
  refine aw_iconst (v := 0) C dX6_onesOf_0 (by decide) ?_
  refine aw_istore (lv1 := [(5, .int 0), (0, .ref (ad a0)), (1, .int a1), (2, .int a2), (3, .int a3), (4, .int a4)]) C dX6_onesOf_1 (by decide) rfl ?_
  refine aw_iload_n C dX6_onesOf_3 rfl 4 rfl ?_
  refine aw_istore (lv1 := [(6, .int a3), (5, .int 0), (0, .ref (ad a0)), (1, .int a1), (2, .int a2), (3, .int a3), (4, .int a4)]) C dX6_onesOf_4 (by decide) rfl ?_
  refine aw_sub [2, 3, 4, 5, 6, 1, 0] rfl ?_
  exact tX6_onesOf_6 C hk0  FU 0 a3 hf
theorem kX6_onesOf {h : AH} {a0 : Nat} {a1 : Int32} {a2 : Int32} {a3 : Int32} {a4 : Int32} {r0 : Int32} (hi : Inj ad) (hk0 : kd a0 = 9) (hf : fX6_onesOf h a0 a1 a2 a3 a4 = some r0) : Ki l yX6_onesOf wsX6_onesOf rmX6_onesOf D ad cy tb [.ref (ad a0), .int a1, .int a2, .int a3, .int a4] h r0 h := met_i (lv := [(0, .ref (ad a0)), (1, .int a1), (2, .int a2), (3, .int a3), (4, .int a4)]) hi (by decide) rfl (Nat.le_of_ble_eq_true rfl) rfl rfl (fun _ _ _ _ _ _ _ _ C => tX6_onesOf_0 C hk0 hf)
set_option maxRecDepth 20000 in
theorem ggX6_sends_X6_labelsOf : GoodIn wsX6_sends wsX6_labelsOf := goodIn_r _ [7, 8, 9, 6, 10, 11, 12, 13] (by decide +kernel) (by decide +kernel)
set_option maxRecDepth 20000 in
theorem gX6_sends_X6_labelsOf : GoodIn wsX6_sends (va_wsS RX6 65 yX6_labelsOf wsX6_labelsOf) := goodIn_app (goodIn_of _ (by decide +kernel)) ggX6_sends_X6_labelsOf
set_option maxRecDepth 20000 in
theorem ggX6_sends_X6_onesOf : GoodIn wsX6_sends wsX6_onesOf := goodIn_r _ [16, 8, 9, 6, 10] (by decide +kernel) (by decide +kernel)
set_option maxRecDepth 20000 in
theorem gX6_sends_X6_onesOf : GoodIn wsX6_sends (va_wsS RX6 69 yX6_onesOf wsX6_onesOf) := goodIn_app (goodIn_of _ (by decide +kernel)) ggX6_sends_X6_onesOf
theorem dX6_sends_0 : decode cX6_sends 0 = .ok (.iconst 0, 1) := by decide +kernel
theorem dX6_sends_1 : decode cX6_sends 1 = .ok (.istore_n 1, 1) := by decide +kernel
theorem dX6_sends_2 : decode cX6_sends 2 = .ok (.iload_n 1, 1) := by decide +kernel
theorem dX6_sends_3 : decode cX6_sends 3 = .ok (.sipush 448, 3) := by decide +kernel
theorem dX6_sends_6 : decode cX6_sends 6 = .ok (.if_icmp .ge 16, 3) := by decide +kernel
theorem dX6_sends_9 : decode cX6_sends 9 = .ok (.aload_n 0, 1) := by decide +kernel
theorem dX6_sends_10 : decode cX6_sends 10 = .ok (.getfield 17, 3) := by decide +kernel
theorem dX6_sends_13 : decode cX6_sends 13 = .ok (.iload_n 1, 1) := by decide +kernel
theorem dX6_sends_14 : decode cX6_sends 14 = .ok (.iconst 0, 1) := by decide +kernel
theorem dX6_sends_15 : decode cX6_sends 15 = .ok (.bastore, 1) := by decide +kernel
theorem dX6_sends_16 : decode cX6_sends 16 = .ok (.iinc 1 1, 3) := by decide +kernel
theorem dX6_sends_19 : decode cX6_sends 19 = .ok (.goto (-17), 3) := by decide +kernel
theorem dX6_sends_22 : decode cX6_sends 22 = .ok (.iconst 1, 1) := by decide +kernel
theorem dX6_sends_23 : decode cX6_sends 23 = .ok (.istore_n 1, 1) := by decide +kernel
theorem dX6_sends_24 : decode cX6_sends 24 = .ok (.iload_n 1, 1) := by decide +kernel
theorem dX6_sends_25 : decode cX6_sends 25 = .ok (.aload_n 0, 1) := by decide +kernel
theorem dX6_sends_26 : decode cX6_sends 26 = .ok (.getfield 7, 3) := by decide +kernel
theorem dX6_sends_29 : decode cX6_sends 29 = .ok (.if_icmp .gt 177, 3) := by decide +kernel
theorem dX6_sends_32 : decode cX6_sends 32 = .ok (.iconst 0, 1) := by decide +kernel
theorem dX6_sends_33 : decode cX6_sends 33 = .ok (.istore_n 2, 1) := by decide +kernel
theorem dX6_sends_34 : decode cX6_sends 34 = .ok (.iload_n 2, 1) := by decide +kernel
theorem dX6_sends_35 : decode cX6_sends 35 = .ok (.bipush 8, 2) := by decide +kernel
theorem dX6_sends_37 : decode cX6_sends 37 = .ok (.if_icmp .ge 163, 3) := by decide +kernel
theorem dX6_sends_40 : decode cX6_sends 40 = .ok (.iconst 0, 1) := by decide +kernel
theorem dX6_sends_41 : decode cX6_sends 41 = .ok (.istore_n 3, 1) := by decide +kernel
theorem dX6_sends_42 : decode cX6_sends 42 = .ok (.iload_n 3, 1) := by decide +kernel
theorem dX6_sends_43 : decode cX6_sends 43 = .ok (.iconst 3, 1) := by decide +kernel
theorem dX6_sends_44 : decode cX6_sends 44 = .ok (.if_icmp .ge 49, 3) := by decide +kernel
theorem dX6_sends_47 : decode cX6_sends 47 = .ok (.aload_n 0, 1) := by decide +kernel
theorem dX6_sends_48 : decode cX6_sends 48 = .ok (.getfield 17, 3) := by decide +kernel
theorem dX6_sends_51 : decode cX6_sends 51 = .ok (.bipush 64, 2) := by decide +kernel
theorem dX6_sends_53 : decode cX6_sends 53 = .ok (.iload_n 1, 1) := by decide +kernel
theorem dX6_sends_54 : decode cX6_sends 54 = .ok (.imul, 1) := by decide +kernel
theorem dX6_sends_55 : decode cX6_sends 55 = .ok (.bipush 8, 2) := by decide +kernel
theorem dX6_sends_57 : decode cX6_sends 57 = .ok (.iload_n 2, 1) := by decide +kernel
theorem dX6_sends_58 : decode cX6_sends 58 = .ok (.imul, 1) := by decide +kernel
theorem dX6_sends_59 : decode cX6_sends 59 = .ok (.iadd, 1) := by decide +kernel
theorem dX6_sends_60 : decode cX6_sends 60 = .ok (.iload_n 3, 1) := by decide +kernel
theorem dX6_sends_61 : decode cX6_sends 61 = .ok (.iadd, 1) := by decide +kernel
theorem dX6_sends_62 : decode cX6_sends 62 = .ok (.aload_n 0, 1) := by decide +kernel
theorem dX6_sends_63 : decode cX6_sends 63 = .ok (.getfield 13, 3) := by decide +kernel
theorem dX6_sends_66 : decode cX6_sends 66 = .ok (.bipush 8, 2) := by decide +kernel
theorem dX6_sends_68 : decode cX6_sends 68 = .ok (.iload_n 1, 1) := by decide +kernel
theorem dX6_sends_69 : decode cX6_sends 69 = .ok (.imul, 1) := by decide +kernel
theorem dX6_sends_70 : decode cX6_sends 70 = .ok (.iload_n 2, 1) := by decide +kernel
theorem dX6_sends_71 : decode cX6_sends 71 = .ok (.iadd, 1) := by decide +kernel
theorem dX6_sends_72 : decode cX6_sends 72 = .ok (.iaload, 1) := by decide +kernel
theorem dX6_sends_73 : decode cX6_sends 73 = .ok (.iload_n 3, 1) := by decide +kernel
theorem dX6_sends_74 : decode cX6_sends 74 = .ok (.ishr, 1) := by decide +kernel
theorem dX6_sends_75 : decode cX6_sends 75 = .ok (.iconst 1, 1) := by decide +kernel
theorem dX6_sends_76 : decode cX6_sends 76 = .ok (.iand, 1) := by decide +kernel
theorem dX6_sends_77 : decode cX6_sends 77 = .ok (.iconst 1, 1) := by decide +kernel
theorem dX6_sends_78 : decode cX6_sends 78 = .ok (.if_icmp .ne 7, 3) := by decide +kernel
theorem dX6_sends_81 : decode cX6_sends 81 = .ok (.iconst 1, 1) := by decide +kernel
theorem dX6_sends_82 : decode cX6_sends 82 = .ok (.goto 4, 3) := by decide +kernel
theorem dX6_sends_85 : decode cX6_sends 85 = .ok (.iconst 0, 1) := by decide +kernel
theorem dX6_sends_86 : decode cX6_sends 86 = .ok (.bastore, 1) := by decide +kernel
theorem dX6_sends_87 : decode cX6_sends 87 = .ok (.iinc 3 1, 3) := by decide +kernel
theorem dX6_sends_90 : decode cX6_sends 90 = .ok (.goto (-48), 3) := by decide +kernel
theorem dX6_sends_93 : decode cX6_sends 93 = .ok (.aload_n 0, 1) := by decide +kernel
theorem dX6_sends_94 : decode cX6_sends 94 = .ok (.getfield 17, 3) := by decide +kernel
theorem dX6_sends_97 : decode cX6_sends 97 = .ok (.iload_n 1, 1) := by decide +kernel
theorem dX6_sends_98 : decode cX6_sends 98 = .ok (.iload_n 2, 1) := by decide +kernel
theorem dX6_sends_99 : decode cX6_sends 99 = .ok (.bipush 11, 2) := by decide +kernel
theorem dX6_sends_101 : decode cX6_sends 101 = .ok (.invokestatic 65, 3) := by decide +kernel
theorem dX6_sends_104 : decode cX6_sends 104 = .ok (.istore_n 3, 1) := by decide +kernel
theorem dX6_sends_105 : decode cX6_sends 105 = .ok (.iconst 4, 1) := by decide +kernel
theorem dX6_sends_106 : decode cX6_sends 106 = .ok (.istore 4, 2) := by decide +kernel
theorem dX6_sends_108 : decode cX6_sends 108 = .ok (.iload 4, 2) := by decide +kernel
theorem dX6_sends_110 : decode cX6_sends 110 = .ok (.bipush 8, 2) := by decide +kernel
theorem dX6_sends_112 : decode cX6_sends 112 = .ok (.if_icmp .ge 43, 3) := by decide +kernel
theorem dX6_sends_115 : decode cX6_sends 115 = .ok (.aload_n 0, 1) := by decide +kernel
theorem dX6_sends_116 : decode cX6_sends 116 = .ok (.getfield 17, 3) := by decide +kernel
theorem dX6_sends_119 : decode cX6_sends 119 = .ok (.bipush 64, 2) := by decide +kernel
theorem dX6_sends_121 : decode cX6_sends 121 = .ok (.iload_n 1, 1) := by decide +kernel
theorem dX6_sends_122 : decode cX6_sends 122 = .ok (.imul, 1) := by decide +kernel
theorem dX6_sends_123 : decode cX6_sends 123 = .ok (.bipush 8, 2) := by decide +kernel
theorem dX6_sends_125 : decode cX6_sends 125 = .ok (.iload_n 2, 1) := by decide +kernel
theorem dX6_sends_126 : decode cX6_sends 126 = .ok (.imul, 1) := by decide +kernel
theorem dX6_sends_127 : decode cX6_sends 127 = .ok (.iadd, 1) := by decide +kernel
theorem dX6_sends_128 : decode cX6_sends 128 = .ok (.iload 4, 2) := by decide +kernel
theorem dX6_sends_130 : decode cX6_sends 130 = .ok (.iadd, 1) := by decide +kernel
theorem dX6_sends_131 : decode cX6_sends 131 = .ok (.iload_n 3, 1) := by decide +kernel
theorem dX6_sends_132 : decode cX6_sends 132 = .ok (.iload 4, 2) := by decide +kernel
theorem dX6_sends_134 : decode cX6_sends 134 = .ok (.iconst 4, 1) := by decide +kernel
theorem dX6_sends_135 : decode cX6_sends 135 = .ok (.isub, 1) := by decide +kernel
theorem dX6_sends_136 : decode cX6_sends 136 = .ok (.ishr, 1) := by decide +kernel
theorem dX6_sends_137 : decode cX6_sends 137 = .ok (.iconst 1, 1) := by decide +kernel
theorem dX6_sends_138 : decode cX6_sends 138 = .ok (.iand, 1) := by decide +kernel
theorem dX6_sends_139 : decode cX6_sends 139 = .ok (.iconst 1, 1) := by decide +kernel
theorem dX6_sends_140 : decode cX6_sends 140 = .ok (.if_icmp .ne 7, 3) := by decide +kernel
theorem dX6_sends_143 : decode cX6_sends 143 = .ok (.iconst 1, 1) := by decide +kernel
theorem dX6_sends_144 : decode cX6_sends 144 = .ok (.goto 4, 3) := by decide +kernel
theorem dX6_sends_147 : decode cX6_sends 147 = .ok (.iconst 0, 1) := by decide +kernel
theorem dX6_sends_148 : decode cX6_sends 148 = .ok (.bastore, 1) := by decide +kernel
theorem dX6_sends_149 : decode cX6_sends 149 = .ok (.iinc 4 1, 3) := by decide +kernel
theorem dX6_sends_152 : decode cX6_sends 152 = .ok (.goto (-44), 3) := by decide +kernel
theorem dX6_sends_155 : decode cX6_sends 155 = .ok (.aload_n 0, 1) := by decide +kernel
theorem dX6_sends_156 : decode cX6_sends 156 = .ok (.getfield 17, 3) := by decide +kernel
theorem dX6_sends_159 : decode cX6_sends 159 = .ok (.bipush 64, 2) := by decide +kernel
theorem dX6_sends_161 : decode cX6_sends 161 = .ok (.iload_n 1, 1) := by decide +kernel
theorem dX6_sends_162 : decode cX6_sends 162 = .ok (.imul, 1) := by decide +kernel
theorem dX6_sends_163 : decode cX6_sends 163 = .ok (.bipush 8, 2) := by decide +kernel
theorem dX6_sends_165 : decode cX6_sends 165 = .ok (.iload_n 2, 1) := by decide +kernel
theorem dX6_sends_166 : decode cX6_sends 166 = .ok (.imul, 1) := by decide +kernel
theorem dX6_sends_167 : decode cX6_sends 167 = .ok (.iadd, 1) := by decide +kernel
theorem dX6_sends_168 : decode cX6_sends 168 = .ok (.iconst 3, 1) := by decide +kernel
theorem dX6_sends_169 : decode cX6_sends 169 = .ok (.iadd, 1) := by decide +kernel
theorem dX6_sends_170 : decode cX6_sends 170 = .ok (.aload_n 0, 1) := by decide +kernel
theorem dX6_sends_171 : decode cX6_sends 171 = .ok (.getfield 17, 3) := by decide +kernel
theorem dX6_sends_174 : decode cX6_sends 174 = .ok (.iload_n 1, 1) := by decide +kernel
theorem dX6_sends_175 : decode cX6_sends 175 = .ok (.iload_n 2, 1) := by decide +kernel
theorem dX6_sends_176 : decode cX6_sends 176 = .ok (.iconst 0, 1) := by decide +kernel
theorem dX6_sends_177 : decode cX6_sends 177 = .ok (.bipush 16, 2) := by decide +kernel
theorem dX6_sends_179 : decode cX6_sends 179 = .ok (.invokestatic 69, 3) := by decide +kernel
theorem dX6_sends_182 : decode cX6_sends 182 = .ok (.iconst 2, 1) := by decide +kernel
theorem dX6_sends_183 : decode cX6_sends 183 = .ok (.irem, 1) := by decide +kernel
theorem dX6_sends_184 : decode cX6_sends 184 = .ok (.iconst 1, 1) := by decide +kernel
theorem dX6_sends_185 : decode cX6_sends 185 = .ok (.if_icmp .ne 7, 3) := by decide +kernel
theorem dX6_sends_188 : decode cX6_sends 188 = .ok (.iconst 1, 1) := by decide +kernel
theorem dX6_sends_189 : decode cX6_sends 189 = .ok (.goto 4, 3) := by decide +kernel
theorem dX6_sends_192 : decode cX6_sends 192 = .ok (.iconst 0, 1) := by decide +kernel
theorem dX6_sends_193 : decode cX6_sends 193 = .ok (.bastore, 1) := by decide +kernel
theorem dX6_sends_194 : decode cX6_sends 194 = .ok (.iinc 2 1, 3) := by decide +kernel
theorem dX6_sends_197 : decode cX6_sends 197 = .ok (.goto (-163), 3) := by decide +kernel
theorem dX6_sends_200 : decode cX6_sends 200 = .ok (.iinc 1 1, 3) := by decide +kernel
theorem dX6_sends_203 : decode cX6_sends 203 = .ok (.goto (-179), 3) := by decide +kernel
theorem dX6_sends_206 : decode cX6_sends 206 = .ok (.return_, 1) := by decide +kernel
abbrev rmX6_sends : Room := { frames := 2, cells := 0, slots := 0, locals := 48 }
set_option maxRecDepth 100000 in
theorem hinX6_sends_6 : ∀ w ∈ wsX60, w ∈ wsX6_sends := by decide +kernel
set_option maxHeartbeats 4000000 in
set_option maxRecDepth 100000 in
theorem tX6_sends_86 {h : AH} {k24 : AH → Int32 → Option AH} {k34 : AH → Int32 → Int32 → Option AH} {k42 : AH → Int32 → Int32 → Int32 → Option AH} {x1 : Int32} {x2 : Int32} {x3 : Int32} {s1 : Int32} {s2 : Int32} {h0 : AH} (C : Cx p rmX6_sends s m args meth c RX6 cX6_sends 5 none wsX6_sends D ad cy tb 0 0) (H24 : ∀ (h : AH) (x1 : Int32), k24 h x1 = some h0 → AW p l e rmX6_sends s m args below meth c 5 D ad cy 0 0 (Qv D ad cy below args s h0) 24 [(0, .ref (ad 29)), (1, .int x1)] [] h) (H34 : ∀ (h : AH) (x1 : Int32) (x2 : Int32), k34 h x1 x2 = some h0 → AW p l e rmX6_sends s m args below meth c 5 D ad cy 0 0 (Qv D ad cy below args s h0) 34 [(0, .ref (ad 29)), (1, .int x1), (2, .int x2)] [] h) (H42 : ∀ (h : AH) (x1 : Int32) (x2 : Int32) (x3 : Int32), k42 h x1 x2 x3 = some h0 → AW p l e rmX6_sends s m args below meth c 5 D ad cy 0 0 (Qv D ad cy below args s h0) 42 [(0, .ref (ad 29)), (1, .int x1), (2, .int x2), (3, .int x3)] [] h) (hf : fX6_sends_86 k24 k34 k42 h x1 x2 x3 s1 s2 = some h0) : AW p l e rmX6_sends s m args below meth c 5 D ad cy 0 0 (Qv D ad cy below args s h0) 86 [(0, .ref (ad 29)), (1, .int x1), (2, .int x2), (3, .int x3)] [.int s2, .int s1, .ref (ad 31)] h := by
  unfold fX6_sends_86 at hf
  refine aw_zast C rfl rfl hf dX6_sends_86 (fun hf => ?_)
  refine aw_nmH hf (fun h1 hf => ?_)
  obtain ⟨v2, hvv2, hf⟩ := nm_ex hf
  refine aw_iinc (j := 3) (v := v2) (lv1 := [(3, .int v2), (0, .ref (ad 29)), (1, .int x1), (2, .int x2)]) C dX6_sends_87 rfl hvv2 (by decide) rfl ?_
  refine aw_goto (tgt := 42) C dX6_sends_90 (by decide) ?_
  refine aw_sub [1, 2, 3, 0] rfl ?_
  exact H42 h1 x1 x2 v2 hf
set_option maxHeartbeats 4000000 in
set_option maxRecDepth 100000 in
theorem tX6_sends_148 {h : AH} {k24 : AH → Int32 → Option AH} {k34 : AH → Int32 → Int32 → Option AH} {k108 : AH → Int32 → Int32 → Int32 → Int32 → Option AH} {x1 : Int32} {x2 : Int32} {x3 : Int32} {x4 : Int32} {s1 : Int32} {s2 : Int32} {h0 : AH} (C : Cx p rmX6_sends s m args meth c RX6 cX6_sends 5 none wsX6_sends D ad cy tb 0 0) (H24 : ∀ (h : AH) (x1 : Int32), k24 h x1 = some h0 → AW p l e rmX6_sends s m args below meth c 5 D ad cy 0 0 (Qv D ad cy below args s h0) 24 [(0, .ref (ad 29)), (1, .int x1)] [] h) (H34 : ∀ (h : AH) (x1 : Int32) (x2 : Int32), k34 h x1 x2 = some h0 → AW p l e rmX6_sends s m args below meth c 5 D ad cy 0 0 (Qv D ad cy below args s h0) 34 [(0, .ref (ad 29)), (1, .int x1), (2, .int x2)] [] h) (H108 : ∀ (h : AH) (x1 : Int32) (x2 : Int32) (x3 : Int32) (x4 : Int32), k108 h x1 x2 x3 x4 = some h0 → AW p l e rmX6_sends s m args below meth c 5 D ad cy 0 0 (Qv D ad cy below args s h0) 108 [(0, .ref (ad 29)), (1, .int x1), (2, .int x2), (3, .int x3), (4, .int x4)] [] h) (hf : fX6_sends_148 k24 k34 k108 h x1 x2 x3 x4 s1 s2 = some h0) : AW p l e rmX6_sends s m args below meth c 5 D ad cy 0 0 (Qv D ad cy below args s h0) 148 [(0, .ref (ad 29)), (1, .int x1), (2, .int x2), (3, .int x3), (4, .int x4)] [.int s2, .int s1, .ref (ad 31)] h := by
  unfold fX6_sends_148 at hf
  refine aw_zast C rfl rfl hf dX6_sends_148 (fun hf => ?_)
  refine aw_nmH hf (fun h1 hf => ?_)
  obtain ⟨v2, hvv2, hf⟩ := nm_ex hf
  refine aw_iinc (j := 4) (v := v2) (lv1 := [(4, .int v2), (0, .ref (ad 29)), (1, .int x1), (2, .int x2), (3, .int x3)]) C dX6_sends_149 rfl hvv2 (by decide) rfl ?_
  refine aw_goto (tgt := 108) C dX6_sends_152 (by decide) ?_
  refine aw_sub [1, 2, 3, 4, 0] rfl ?_
  exact H108 h1 x1 x2 x3 v2 hf
set_option maxHeartbeats 4000000 in
set_option maxRecDepth 100000 in
theorem tX6_sends_193 {h : AH} {k24 : AH → Int32 → Option AH} {k34 : AH → Int32 → Int32 → Option AH} {x1 : Int32} {x2 : Int32} {s1 : Int32} {s2 : Int32} {h0 : AH} (C : Cx p rmX6_sends s m args meth c RX6 cX6_sends 5 none wsX6_sends D ad cy tb 0 0) (H24 : ∀ (h : AH) (x1 : Int32), k24 h x1 = some h0 → AW p l e rmX6_sends s m args below meth c 5 D ad cy 0 0 (Qv D ad cy below args s h0) 24 [(0, .ref (ad 29)), (1, .int x1)] [] h) (H34 : ∀ (h : AH) (x1 : Int32) (x2 : Int32), k34 h x1 x2 = some h0 → AW p l e rmX6_sends s m args below meth c 5 D ad cy 0 0 (Qv D ad cy below args s h0) 34 [(0, .ref (ad 29)), (1, .int x1), (2, .int x2)] [] h) (hf : fX6_sends_193 k24 k34 h x1 x2 s1 s2 = some h0) : AW p l e rmX6_sends s m args below meth c 5 D ad cy 0 0 (Qv D ad cy below args s h0) 193 [(0, .ref (ad 29)), (1, .int x1), (2, .int x2)] [.int s2, .int s1, .ref (ad 31)] h := by
  unfold fX6_sends_193 at hf
  refine aw_zast C rfl rfl hf dX6_sends_193 (fun hf => ?_)
  refine aw_nmH hf (fun h1 hf => ?_)
  obtain ⟨v2, hvv2, hf⟩ := nm_ex hf
  refine aw_iinc (j := 2) (v := v2) (lv1 := [(2, .int v2), (0, .ref (ad 29)), (1, .int x1)]) C dX6_sends_194 rfl hvv2 (by decide) rfl ?_
  refine aw_goto (tgt := 34) C dX6_sends_197 (by decide) ?_
  refine aw_sub [1, 2, 0] rfl ?_
  exact H34 h1 x1 v2 hf
set_option maxHeartbeats 4000000 in
set_option maxRecDepth 100000 in
theorem tX6_sends_108b {h : AH} {k24 : AH → Int32 → Option AH} {k34 : AH → Int32 → Int32 → Option AH} {k108 : AH → Int32 → Int32 → Int32 → Int32 → Option AH} {x1 : Int32} {x2 : Int32} {x3 : Int32} {x4 : Int32} {h0 : AH} (C : Cx p rmX6_sends s m args meth c RX6 cX6_sends 5 none wsX6_sends D ad cy tb 0 0) (H24 : ∀ (h : AH) (x1 : Int32), k24 h x1 = some h0 → AW p l e rmX6_sends s m args below meth c 5 D ad cy 0 0 (Qv D ad cy below args s h0) 24 [(0, .ref (ad 29)), (1, .int x1)] [] h) (H34 : ∀ (h : AH) (x1 : Int32) (x2 : Int32), k34 h x1 x2 = some h0 → AW p l e rmX6_sends s m args below meth c 5 D ad cy 0 0 (Qv D ad cy below args s h0) 34 [(0, .ref (ad 29)), (1, .int x1), (2, .int x2)] [] h) (H108 : ∀ (h : AH) (x1 : Int32) (x2 : Int32) (x3 : Int32) (x4 : Int32), k108 h x1 x2 x3 x4 = some h0 → AW p l e rmX6_sends s m args below meth c 5 D ad cy 0 0 (Qv D ad cy below args s h0) 108 [(0, .ref (ad 29)), (1, .int x1), (2, .int x2), (3, .int x3), (4, .int x4)] [] h) (hf : fX6_sends_108b k24 k34 k108 h x1 x2 x3 x4 = some h0) : AW p l e rmX6_sends s m args below meth c 5 D ad cy 0 0 (Qv D ad cy below args s h0) 108 [(0, .ref (ad 29)), (1, .int x1), (2, .int x2), (3, .int x3), (4, .int x4)] [] h := by
  unfold fX6_sends_108b at hf
  refine aw_iload C dX6_sends_108 4 rfl ?_
  refine aw_bipush (v := 8) C dX6_sends_110 (by decide) ?_
  refine aw_icmp_ge (tgt := 155) C dX6_sends_112 (by decide) hf (fun hf => ?_) (fun hf => ?_)
  · refine aw_aload_n C dX6_sends_155 rfl 0 rfl ?_
    refine aw_get C (kd_lt rfl (by decide)) (ce_6 rfl) rfl hinX6_sends_6 3 (by decide) rfl (by decide +kernel) rfl dX6_sends_156 ?_
    refine aw_bipush (v := 64) C dX6_sends_159 (by decide) ?_
    refine aw_iload_n C dX6_sends_161 rfl 1 rfl ?_
    refine aw_imul C dX6_sends_162 ?_
    refine aw_bipush (v := 8) C dX6_sends_163 (by decide) ?_
    refine aw_iload_n C dX6_sends_165 rfl 2 rfl ?_
    refine aw_imul C dX6_sends_166 ?_
    refine aw_iadd C dX6_sends_167 ?_
    refine aw_iconst (v := 3) C dX6_sends_168 (by decide) ?_
    refine aw_iadd C dX6_sends_169 ?_
    refine aw_aload_n C dX6_sends_170 rfl 0 rfl ?_
    refine aw_get C (kd_lt rfl (by decide)) (ce_6 rfl) rfl hinX6_sends_6 3 (by decide) rfl (by decide +kernel) rfl dX6_sends_171 ?_
    refine aw_iload_n C dX6_sends_174 rfl 1 rfl ?_
    refine aw_iload_n C dX6_sends_175 rfl 2 rfl ?_
    refine aw_iconst (v := 0) C dX6_sends_176 (by decide) ?_
    refine aw_bipush (v := 16) C dX6_sends_177 (by decide) ?_
    obtain ⟨r1, hc, hf⟩ := bR_some hf
    refine aw_callSi (As := [.ref (ad 31), .int x1, .int x2, .int 0, .int 16]) (rest := [.int (((64 * x1) + (8 * x2)) + 3), .ref (ad 31)]) C (kX6_onesOf (l := l) (D := D) (ad := ad) (cy := cy) (tb := tb) C.2.2.2.2.2.2.2.2.1 rfl hc) (fun ht _ => va_cwS 5 ht gX6_sends_X6_onesOf rfl rfl rfl (by decide +kernel) ⟨Nat.le_of_ble_eq_true rfl, Nat.le_of_ble_eq_true rfl⟩) rfl rfl (Nat.le_of_ble_eq_true rfl) dX6_sends_179 ?_
    refine aw_iconst (v := 2) C dX6_sends_182 (by decide) ?_
    refine aw_irem C dX6_sends_183 (by decide) ?_
    refine aw_iconst (v := 1) C dX6_sends_184 (by decide) ?_
    refine aw_icmp_ne (tgt := 192) C dX6_sends_185 (by decide) hf (fun hf => ?_) (fun hf => ?_)
    · refine aw_iconst (v := 0) C dX6_sends_192 (by decide) ?_
      refine aw_sub [0, 1, 2] rfl ?_
      exact tX6_sends_193 C  H24 H34 hf
    refine aw_iconst (v := 1) C dX6_sends_188 (by decide) ?_
    refine aw_goto (tgt := 193) C dX6_sends_189 (by decide) ?_
    refine aw_sub [0, 1, 2] rfl ?_
    exact tX6_sends_193 C  H24 H34 hf
  refine aw_aload_n C dX6_sends_115 rfl 0 rfl ?_
  refine aw_get C (kd_lt rfl (by decide)) (ce_6 rfl) rfl hinX6_sends_6 3 (by decide) rfl (by decide +kernel) rfl dX6_sends_116 ?_
  refine aw_bipush (v := 64) C dX6_sends_119 (by decide) ?_
  refine aw_iload_n C dX6_sends_121 rfl 1 rfl ?_
  refine aw_imul C dX6_sends_122 ?_
  refine aw_bipush (v := 8) C dX6_sends_123 (by decide) ?_
  refine aw_iload_n C dX6_sends_125 rfl 2 rfl ?_
  refine aw_imul C dX6_sends_126 ?_
  refine aw_iadd C dX6_sends_127 ?_
  refine aw_iload C dX6_sends_128 4 rfl ?_
  refine aw_iadd C dX6_sends_130 ?_
  refine aw_iload_n C dX6_sends_131 rfl 3 rfl ?_
  refine aw_iload C dX6_sends_132 4 rfl ?_
  refine aw_iconst (v := 4) C dX6_sends_134 (by decide) ?_
  refine aw_isub C dX6_sends_135 ?_
  refine aw_ishr C dX6_sends_136 ?_
  refine aw_iconst (v := 1) C dX6_sends_137 (by decide) ?_
  refine aw_iand C dX6_sends_138 ?_
  refine aw_iconst (v := 1) C dX6_sends_139 (by decide) ?_
  refine aw_icmp_ne (tgt := 147) C dX6_sends_140 (by decide) hf (fun hf => ?_) (fun hf => ?_)
  · refine aw_iconst (v := 0) C dX6_sends_147 (by decide) ?_
    refine aw_sub [0, 1, 2, 3, 4] rfl ?_
    exact tX6_sends_148 C  H24 H34 H108 hf
  refine aw_iconst (v := 1) C dX6_sends_143 (by decide) ?_
  refine aw_goto (tgt := 148) C dX6_sends_144 (by decide) ?_
  refine aw_sub [0, 1, 2, 3, 4] rfl ?_
  exact tX6_sends_148 C  H24 H34 H108 hf
set_option maxHeartbeats 4000000 in
set_option maxRecDepth 100000 in
theorem tX6_sends_108  {k24 : AH → Int32 → Option AH} {k34 : AH → Int32 → Int32 → Option AH} {h0 : AH} (C : Cx p rmX6_sends s m args meth c RX6 cX6_sends 5 none wsX6_sends D ad cy tb 0 0) (H24 : ∀ (h : AH) (x1 : Int32), k24 h x1 = some h0 → AW p l e rmX6_sends s m args below meth c 5 D ad cy 0 0 (Qv D ad cy below args s h0) 24 [(0, .ref (ad 29)), (1, .int x1)] [] h) (H34 : ∀ (h : AH) (x1 : Int32) (x2 : Int32), k34 h x1 x2 = some h0 → AW p l e rmX6_sends s m args below meth c 5 D ad cy 0 0 (Qv D ad cy below args s h0) 34 [(0, .ref (ad 29)), (1, .int x1), (2, .int x2)] [] h) : ∀ (n : Nat) (h : AH) (x1 : Int32) (x2 : Int32) (x3 : Int32) (x4 : Int32), fX6_sends_108 k24 k34 n h x1 x2 x3 x4 = some h0 → AW p l e rmX6_sends s m args below meth c 5 D ad cy 0 0 (Qv D ad cy below args s h0) 108 [(0, .ref (ad 29)), (1, .int x1), (2, .int x2), (3, .int x3), (4, .int x4)] [] h := by
  intro n
  induction n with
  | zero => intro h x1 x2 x3 x4 hf; cases hf
  | succ n ih => intro h x1 x2 x3 x4 hf; exact tX6_sends_108b C  H24 H34 ih  hf
set_option maxHeartbeats 4000000 in
set_option maxRecDepth 100000 in
theorem tX6_sends_42b {h : AH} {k24 : AH → Int32 → Option AH} {k34 : AH → Int32 → Int32 → Option AH} {k42 : AH → Int32 → Int32 → Int32 → Option AH} {x1 : Int32} {x2 : Int32} {x3 : Int32} {h0 : AH} (C : Cx p rmX6_sends s m args meth c RX6 cX6_sends 5 none wsX6_sends D ad cy tb 0 0) (H24 : ∀ (h : AH) (x1 : Int32), k24 h x1 = some h0 → AW p l e rmX6_sends s m args below meth c 5 D ad cy 0 0 (Qv D ad cy below args s h0) 24 [(0, .ref (ad 29)), (1, .int x1)] [] h) (H34 : ∀ (h : AH) (x1 : Int32) (x2 : Int32), k34 h x1 x2 = some h0 → AW p l e rmX6_sends s m args below meth c 5 D ad cy 0 0 (Qv D ad cy below args s h0) 34 [(0, .ref (ad 29)), (1, .int x1), (2, .int x2)] [] h) (H42 : ∀ (h : AH) (x1 : Int32) (x2 : Int32) (x3 : Int32), k42 h x1 x2 x3 = some h0 → AW p l e rmX6_sends s m args below meth c 5 D ad cy 0 0 (Qv D ad cy below args s h0) 42 [(0, .ref (ad 29)), (1, .int x1), (2, .int x2), (3, .int x3)] [] h) (hf : fX6_sends_42b k24 k34 k42 h x1 x2 x3 = some h0) : AW p l e rmX6_sends s m args below meth c 5 D ad cy 0 0 (Qv D ad cy below args s h0) 42 [(0, .ref (ad 29)), (1, .int x1), (2, .int x2), (3, .int x3)] [] h := by
  unfold fX6_sends_42b at hf
  refine aw_iload_n C dX6_sends_42 rfl 3 rfl ?_
  refine aw_iconst (v := 3) C dX6_sends_43 (by decide) ?_
  refine aw_icmp_ge (tgt := 93) C dX6_sends_44 (by decide) hf (fun hf => ?_) (fun hf => ?_)
  · refine aw_aload_n C dX6_sends_93 rfl 0 rfl ?_
    refine aw_get C (kd_lt rfl (by decide)) (ce_6 rfl) rfl hinX6_sends_6 3 (by decide) rfl (by decide +kernel) rfl dX6_sends_94 ?_
    refine aw_iload_n C dX6_sends_97 rfl 1 rfl ?_
    refine aw_iload_n C dX6_sends_98 rfl 2 rfl ?_
    refine aw_bipush (v := 11) C dX6_sends_99 (by decide) ?_
    obtain ⟨r1, hc, hf⟩ := bR_some hf
    refine aw_callSi (As := [.ref (ad 31), .int x1, .int x2, .int 11]) (rest := []) C (kX6_labelsOf (l := l) (D := D) (ad := ad) (cy := cy) (tb := tb) C.2.2.2.2.2.2.2.2.1 rfl hc) (fun ht _ => va_cwS 4 ht gX6_sends_X6_labelsOf rfl rfl rfl (by decide +kernel) ⟨Nat.le_of_ble_eq_true rfl, Nat.le_of_ble_eq_true rfl⟩) rfl rfl (Nat.le_of_ble_eq_true rfl) dX6_sends_101 ?_
    refine aw_istore_n (lv1 := [(3, .int r1), (0, .ref (ad 29)), (1, .int x1), (2, .int x2)]) C dX6_sends_104 rfl (by decide) rfl ?_
    refine aw_iconst (v := 4) C dX6_sends_105 (by decide) ?_
    refine aw_istore (lv1 := [(4, .int 4), (3, .int r1), (0, .ref (ad 29)), (1, .int x1), (2, .int x2)]) C dX6_sends_106 (by decide) rfl ?_
    refine aw_sub [2, 3, 4, 1, 0] rfl ?_
    exact tX6_sends_108 C  H24 H34 FU h x1 x2 r1 4 hf
  refine aw_aload_n C dX6_sends_47 rfl 0 rfl ?_
  refine aw_get C (kd_lt rfl (by decide)) (ce_6 rfl) rfl hinX6_sends_6 3 (by decide) rfl (by decide +kernel) rfl dX6_sends_48 ?_
  refine aw_bipush (v := 64) C dX6_sends_51 (by decide) ?_
  refine aw_iload_n C dX6_sends_53 rfl 1 rfl ?_
  refine aw_imul C dX6_sends_54 ?_
  refine aw_bipush (v := 8) C dX6_sends_55 (by decide) ?_
  refine aw_iload_n C dX6_sends_57 rfl 2 rfl ?_
  refine aw_imul C dX6_sends_58 ?_
  refine aw_iadd C dX6_sends_59 ?_
  refine aw_iload_n C dX6_sends_60 rfl 3 rfl ?_
  refine aw_iadd C dX6_sends_61 ?_
  refine aw_aload_n C dX6_sends_62 rfl 0 rfl ?_
  refine aw_get C (kd_lt rfl (by decide)) (ce_6 rfl) rfl hinX6_sends_6 2 (by decide) rfl (by decide +kernel) rfl dX6_sends_63 ?_
  refine aw_bipush (v := 8) C dX6_sends_66 (by decide) ?_
  refine aw_iload_n C dX6_sends_68 rfl 1 rfl ?_
  refine aw_imul C dX6_sends_69 ?_
  refine aw_iload_n C dX6_sends_70 rfl 2 rfl ?_
  refine aw_iadd C dX6_sends_71 ?_
  refine aw_nmI hf (fun v2 hf => ?_)
  refine aw_iald C rfl rfl hf dX6_sends_72 (fun hf => ?_)
  refine aw_iload_n C dX6_sends_73 rfl 3 rfl ?_
  refine aw_ishr C dX6_sends_74 ?_
  refine aw_iconst (v := 1) C dX6_sends_75 (by decide) ?_
  refine aw_iand C dX6_sends_76 ?_
  refine aw_iconst (v := 1) C dX6_sends_77 (by decide) ?_
  refine aw_icmp_ne (tgt := 85) C dX6_sends_78 (by decide) hf (fun hf => ?_) (fun hf => ?_)
  · refine aw_iconst (v := 0) C dX6_sends_85 (by decide) ?_
    refine aw_sub [0, 1, 2, 3] rfl ?_
    exact tX6_sends_86 C  H24 H34 H42 hf
  refine aw_iconst (v := 1) C dX6_sends_81 (by decide) ?_
  refine aw_goto (tgt := 86) C dX6_sends_82 (by decide) ?_
  refine aw_sub [0, 1, 2, 3] rfl ?_
  exact tX6_sends_86 C  H24 H34 H42 hf
set_option maxHeartbeats 4000000 in
set_option maxRecDepth 100000 in
theorem tX6_sends_42  {k24 : AH → Int32 → Option AH} {k34 : AH → Int32 → Int32 → Option AH} {h0 : AH} (C : Cx p rmX6_sends s m args meth c RX6 cX6_sends 5 none wsX6_sends D ad cy tb 0 0) (H24 : ∀ (h : AH) (x1 : Int32), k24 h x1 = some h0 → AW p l e rmX6_sends s m args below meth c 5 D ad cy 0 0 (Qv D ad cy below args s h0) 24 [(0, .ref (ad 29)), (1, .int x1)] [] h) (H34 : ∀ (h : AH) (x1 : Int32) (x2 : Int32), k34 h x1 x2 = some h0 → AW p l e rmX6_sends s m args below meth c 5 D ad cy 0 0 (Qv D ad cy below args s h0) 34 [(0, .ref (ad 29)), (1, .int x1), (2, .int x2)] [] h) : ∀ (n : Nat) (h : AH) (x1 : Int32) (x2 : Int32) (x3 : Int32), fX6_sends_42 k24 k34 n h x1 x2 x3 = some h0 → AW p l e rmX6_sends s m args below meth c 5 D ad cy 0 0 (Qv D ad cy below args s h0) 42 [(0, .ref (ad 29)), (1, .int x1), (2, .int x2), (3, .int x3)] [] h := by
  intro n
  induction n with
  | zero => intro h x1 x2 x3 hf; cases hf
  | succ n ih => intro h x1 x2 x3 hf; exact tX6_sends_42b C  H24 H34 ih  hf
set_option maxHeartbeats 4000000 in
set_option maxRecDepth 100000 in
theorem tX6_sends_34b {h : AH} {k24 : AH → Int32 → Option AH} {k34 : AH → Int32 → Int32 → Option AH} {x1 : Int32} {x2 : Int32} {h0 : AH} (C : Cx p rmX6_sends s m args meth c RX6 cX6_sends 5 none wsX6_sends D ad cy tb 0 0) (H24 : ∀ (h : AH) (x1 : Int32), k24 h x1 = some h0 → AW p l e rmX6_sends s m args below meth c 5 D ad cy 0 0 (Qv D ad cy below args s h0) 24 [(0, .ref (ad 29)), (1, .int x1)] [] h) (H34 : ∀ (h : AH) (x1 : Int32) (x2 : Int32), k34 h x1 x2 = some h0 → AW p l e rmX6_sends s m args below meth c 5 D ad cy 0 0 (Qv D ad cy below args s h0) 34 [(0, .ref (ad 29)), (1, .int x1), (2, .int x2)] [] h) (hf : fX6_sends_34b k24 k34 h x1 x2 = some h0) : AW p l e rmX6_sends s m args below meth c 5 D ad cy 0 0 (Qv D ad cy below args s h0) 34 [(0, .ref (ad 29)), (1, .int x1), (2, .int x2)] [] h := by
  unfold fX6_sends_34b at hf
  refine aw_iload_n C dX6_sends_34 rfl 2 rfl ?_
  refine aw_bipush (v := 8) C dX6_sends_35 (by decide) ?_
  refine aw_icmp_ge (tgt := 200) C dX6_sends_37 (by decide) hf (fun hf => ?_) (fun hf => ?_)
  · obtain ⟨v1, hvv1, hf⟩ := nm_ex hf
    refine aw_iinc (j := 1) (v := v1) (lv1 := [(1, .int v1), (0, .ref (ad 29)), (2, .int x2)]) C dX6_sends_200 rfl hvv1 (by decide) rfl ?_
    refine aw_goto (tgt := 24) C dX6_sends_203 (by decide) ?_
    refine aw_sub [1, 0] rfl ?_
    exact H24 h v1 hf
  refine aw_iconst (v := 0) C dX6_sends_40 (by decide) ?_
  refine aw_istore_n (lv1 := [(3, .int 0), (0, .ref (ad 29)), (1, .int x1), (2, .int x2)]) C dX6_sends_41 rfl (by decide) rfl ?_
  refine aw_sub [1, 2, 3, 0] rfl ?_
  exact tX6_sends_42 C  H24 H34 FU h x1 x2 0 hf
set_option maxHeartbeats 4000000 in
set_option maxRecDepth 100000 in
theorem tX6_sends_34  {k24 : AH → Int32 → Option AH} {h0 : AH} (C : Cx p rmX6_sends s m args meth c RX6 cX6_sends 5 none wsX6_sends D ad cy tb 0 0) (H24 : ∀ (h : AH) (x1 : Int32), k24 h x1 = some h0 → AW p l e rmX6_sends s m args below meth c 5 D ad cy 0 0 (Qv D ad cy below args s h0) 24 [(0, .ref (ad 29)), (1, .int x1)] [] h) : ∀ (n : Nat) (h : AH) (x1 : Int32) (x2 : Int32), fX6_sends_34 k24 n h x1 x2 = some h0 → AW p l e rmX6_sends s m args below meth c 5 D ad cy 0 0 (Qv D ad cy below args s h0) 34 [(0, .ref (ad 29)), (1, .int x1), (2, .int x2)] [] h := by
  intro n
  induction n with
  | zero => intro h x1 x2 hf; cases hf
  | succ n ih => intro h x1 x2 hf; exact tX6_sends_34b C  H24 ih  hf
set_option maxHeartbeats 4000000 in
set_option maxRecDepth 100000 in
theorem tX6_sends_24b {h : AH} {k24 : AH → Int32 → Option AH} {x1 : Int32} {h0 : AH} (C : Cx p rmX6_sends s m args meth c RX6 cX6_sends 5 none wsX6_sends D ad cy tb 0 0) (H24 : ∀ (h : AH) (x1 : Int32), k24 h x1 = some h0 → AW p l e rmX6_sends s m args below meth c 5 D ad cy 0 0 (Qv D ad cy below args s h0) 24 [(0, .ref (ad 29)), (1, .int x1)] [] h) (hf : fX6_sends_24b k24 h x1 = some h0) : AW p l e rmX6_sends s m args below meth c 5 D ad cy 0 0 (Qv D ad cy below args s h0) 24 [(0, .ref (ad 29)), (1, .int x1)] [] h := by
  unfold fX6_sends_24b at hf
  refine aw_iload_n C dX6_sends_24 rfl 1 rfl ?_
  refine aw_aload_n C dX6_sends_25 rfl 0 rfl ?_
  refine aw_get C (kd_lt rfl (by decide)) (ce_6 rfl) rfl hinX6_sends_6 0 (by decide) rfl (by decide +kernel) rfl dX6_sends_26 ?_
  refine aw_icmp_gt (tgt := 206) C dX6_sends_29 (by decide) hf (fun hf => ?_) (fun hf => ?_)
  · exact aw_vret C dX6_sends_206 hf
  refine aw_iconst (v := 0) C dX6_sends_32 (by decide) ?_
  refine aw_istore_n (lv1 := [(2, .int 0), (0, .ref (ad 29)), (1, .int x1)]) C dX6_sends_33 rfl (by decide) rfl ?_
  refine aw_sub [1, 2, 0] rfl ?_
  exact tX6_sends_34 C  H24 FU h x1 0 hf
set_option maxHeartbeats 4000000 in
set_option maxRecDepth 100000 in
theorem tX6_sends_24  {h0 : AH} (C : Cx p rmX6_sends s m args meth c RX6 cX6_sends 5 none wsX6_sends D ad cy tb 0 0) : ∀ (n : Nat) (h : AH) (x1 : Int32), fX6_sends_24 n h x1 = some h0 → AW p l e rmX6_sends s m args below meth c 5 D ad cy 0 0 (Qv D ad cy below args s h0) 24 [(0, .ref (ad 29)), (1, .int x1)] [] h := by
  intro n
  induction n with
  | zero => intro h x1 hf; cases hf
  | succ n ih => intro h x1 hf; exact tX6_sends_24b C  ih  hf
set_option maxHeartbeats 4000000 in
set_option maxRecDepth 100000 in
theorem tX6_sends_2b {h : AH} {k2 : AH → Int32 → Option AH} {x1 : Int32} {h0 : AH} (C : Cx p rmX6_sends s m args meth c RX6 cX6_sends 5 none wsX6_sends D ad cy tb 0 0) (H2 : ∀ (h : AH) (x1 : Int32), k2 h x1 = some h0 → AW p l e rmX6_sends s m args below meth c 5 D ad cy 0 0 (Qv D ad cy below args s h0) 2 [(0, .ref (ad 29)), (1, .int x1)] [] h) (hf : fX6_sends_2b k2 h x1 = some h0) : AW p l e rmX6_sends s m args below meth c 5 D ad cy 0 0 (Qv D ad cy below args s h0) 2 [(0, .ref (ad 29)), (1, .int x1)] [] h := by
  unfold fX6_sends_2b at hf
  refine aw_iload_n C dX6_sends_2 rfl 1 rfl ?_
  refine aw_sipush (v := 448) C dX6_sends_3 (by decide) ?_
  refine aw_icmp_ge (tgt := 22) C dX6_sends_6 (by decide) hf (fun hf => ?_) (fun hf => ?_)
  · refine aw_iconst (v := 1) C dX6_sends_22 (by decide) ?_
    refine aw_istore_n (lv1 := [(1, .int 1), (0, .ref (ad 29))]) C dX6_sends_23 rfl (by decide) rfl ?_
    refine aw_sub [1, 0] rfl ?_
    exact tX6_sends_24 C   FU h 1 hf
  refine aw_aload_n C dX6_sends_9 rfl 0 rfl ?_
  refine aw_get C (kd_lt rfl (by decide)) (ce_6 rfl) rfl hinX6_sends_6 3 (by decide) rfl (by decide +kernel) rfl dX6_sends_10 ?_
  refine aw_iload_n C dX6_sends_13 rfl 1 rfl ?_
  refine aw_iconst (v := 0) C dX6_sends_14 (by decide) ?_
  refine aw_zast C rfl rfl hf dX6_sends_15 (fun hf => ?_)
  refine aw_nmH hf (fun h1 hf => ?_)
  obtain ⟨v2, hvv2, hf⟩ := nm_ex hf
  refine aw_iinc (j := 1) (v := v2) (lv1 := [(1, .int v2), (0, .ref (ad 29))]) C dX6_sends_16 rfl hvv2 (by decide) rfl ?_
  refine aw_goto (tgt := 2) C dX6_sends_19 (by decide) ?_
  refine aw_sub [1, 0] rfl ?_
  exact H2 h1 v2 hf
set_option maxHeartbeats 4000000 in
set_option maxRecDepth 100000 in
theorem tX6_sends_2  {h0 : AH} (C : Cx p rmX6_sends s m args meth c RX6 cX6_sends 5 none wsX6_sends D ad cy tb 0 0) : ∀ (n : Nat) (h : AH) (x1 : Int32), fX6_sends_2 n h x1 = some h0 → AW p l e rmX6_sends s m args below meth c 5 D ad cy 0 0 (Qv D ad cy below args s h0) 2 [(0, .ref (ad 29)), (1, .int x1)] [] h := by
  intro n
  induction n with
  | zero => intro h x1 hf; cases hf
  | succ n ih => intro h x1 hf; exact tX6_sends_2b C  ih  hf
set_option maxHeartbeats 4000000 in
set_option maxRecDepth 100000 in
theorem tX6_sends_0 {h : AH} {h0 : AH} (C : Cx p rmX6_sends s m args meth c RX6 cX6_sends 5 none wsX6_sends D ad cy tb 0 0) (hf : fX6_sends h = some h0) : AW p l e rmX6_sends s m args below meth c 5 D ad cy 0 0 (Qv D ad cy below args s h0) 0 [(0, .ref (ad 29))] [] h := by
  unfold fX6_sends at hf
  refine aw_iconst (v := 0) C dX6_sends_0 (by decide) ?_
  refine aw_istore_n (lv1 := [(1, .int 0), (0, .ref (ad 29))]) C dX6_sends_1 rfl (by decide) rfl ?_
  refine aw_sub [1, 0] rfl ?_
  exact tX6_sends_2 C   FU h 0 hf
theorem kX6_sends {h : AH} {h0 : AH} (hi : Inj ad) (hf : fX6_sends h = some h0) : Kv l yX6_sends wsX6_sends rmX6_sends D ad cy tb [.ref (ad 29)] h h0 := met_v (lv := [(0, .ref (ad 29))]) hi (by decide) rfl (Nat.le_of_ble_eq_true rfl) rfl rfl (fun _ _ _ _ _ _ _ _ C => tX6_sends_0 C  hf)
