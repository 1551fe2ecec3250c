variable {p : Program} {l : Launch} {e : Env} {s : State} {m : MethodId} {args : Array Value} {below : List Frame} {meth : Method} {c : Code} {D : va_G} {ad : Nat → Nat} {cy : Nat → ClassId} {tb : Nat → Nat}
set_option maxRecDepth 20000 in
theorem ggX6_copy_X6_isSheet : GoodIn wsX6_copy wsX6_isSheet := goodIn_r _ [8, 9, 10, 7, 11] (by decide +kernel) (by decide +kernel)
set_option maxRecDepth 20000 in
theorem gX6_copy_X6_isSheet : GoodIn wsX6_copy (va_wsS RX6 103 yX6_isSheet wsX6_isSheet) := goodIn_app (goodIn_of _ (by decide +kernel)) ggX6_copy_X6_isSheet
set_option maxRecDepth 20000 in
theorem ggX6_copy_X6_meets : GoodIn wsX6_copy wsX6_meets := goodIn_r _ [15, 16, 17, 18, 19, 20, 21, 22, 23, 24, 25, 26, 27, 28, 29, 30, 31, 32, 33, 34] (by decide +kernel) (by decide +kernel)
set_option maxRecDepth 20000 in
theorem gX6_copy_X6_meets : GoodIn wsX6_copy (wsV RX6 106 RX6 yX6_meets wsX6_meets) := goodIn_app (goodIn_of _ (by decide +kernel)) ggX6_copy_X6_meets
theorem dX6_copy_0 : decode cX6_copy 0 = .ok (.iload_n 1, 1) := by decide +kernel
theorem dX6_copy_1 : decode cX6_copy 1 = .ok (.invokestatic 103, 3) := by decide +kernel
theorem dX6_copy_4 : decode cX6_copy 4 = .ok (.ifCond .eq 10, 3) := by decide +kernel
theorem dX6_copy_7 : decode cX6_copy 7 = .ok (.iload_n 3, 1) := by decide +kernel
theorem dX6_copy_8 : decode cX6_copy 8 = .ok (.invokestatic 103, 3) := by decide +kernel
theorem dX6_copy_11 : decode cX6_copy 11 = .ok (.ifCond .ne 6, 3) := by decide +kernel
theorem dX6_copy_14 : decode cX6_copy 14 = .ok (.bipush (-2), 2) := by decide +kernel
theorem dX6_copy_16 : decode cX6_copy 16 = .ok (.ireturn, 1) := by decide +kernel
theorem dX6_copy_17 : decode cX6_copy 17 = .ok (.aload_n 0, 1) := by decide +kernel
theorem dX6_copy_18 : decode cX6_copy 18 = .ok (.getfield 42, 3) := by decide +kernel
theorem dX6_copy_21 : decode cX6_copy 21 = .ok (.iload_n 1, 1) := by decide +kernel
theorem dX6_copy_22 : decode cX6_copy 22 = .ok (.iaload, 1) := by decide +kernel
theorem dX6_copy_23 : decode cX6_copy 23 = .ok (.iconst (-1), 1) := by decide +kernel
theorem dX6_copy_24 : decode cX6_copy 24 = .ok (.if_icmp .eq 13, 3) := by decide +kernel
theorem dX6_copy_27 : decode cX6_copy 27 = .ok (.aload_n 0, 1) := by decide +kernel
theorem dX6_copy_28 : decode cX6_copy 28 = .ok (.getfield 42, 3) := by decide +kernel
theorem dX6_copy_31 : decode cX6_copy 31 = .ok (.iload_n 3, 1) := by decide +kernel
theorem dX6_copy_32 : decode cX6_copy 32 = .ok (.iaload, 1) := by decide +kernel
theorem dX6_copy_33 : decode cX6_copy 33 = .ok (.iconst (-1), 1) := by decide +kernel
theorem dX6_copy_34 : decode cX6_copy 34 = .ok (.if_icmp .ne 9, 3) := by decide +kernel
theorem dX6_copy_37 : decode cX6_copy 37 = .ok (.aload_n 0, 1) := by decide +kernel
theorem dX6_copy_38 : decode cX6_copy 38 = .ok (.iconst 1, 1) := by decide +kernel
theorem dX6_copy_39 : decode cX6_copy 39 = .ok (.invokevirtual 106, 3) := by decide +kernel
theorem dX6_copy_42 : decode cX6_copy 42 = .ok (.ireturn, 1) := by decide +kernel
theorem dX6_copy_43 : decode cX6_copy 43 = .ok (.aload_n 0, 1) := by decide +kernel
theorem dX6_copy_44 : decode cX6_copy 44 = .ok (.getfield 42, 3) := by decide +kernel
theorem dX6_copy_47 : decode cX6_copy 47 = .ok (.iload_n 1, 1) := by decide +kernel
theorem dX6_copy_48 : decode cX6_copy 48 = .ok (.iaload, 1) := by decide +kernel
theorem dX6_copy_49 : decode cX6_copy 49 = .ok (.aload_n 0, 1) := by decide +kernel
theorem dX6_copy_50 : decode cX6_copy 50 = .ok (.getfield 42, 3) := by decide +kernel
theorem dX6_copy_53 : decode cX6_copy 53 = .ok (.iload_n 3, 1) := by decide +kernel
theorem dX6_copy_54 : decode cX6_copy 54 = .ok (.iaload, 1) := by decide +kernel
theorem dX6_copy_55 : decode cX6_copy 55 = .ok (.if_icmp .eq 9, 3) := by decide +kernel
theorem dX6_copy_58 : decode cX6_copy 58 = .ok (.aload_n 0, 1) := by decide +kernel
theorem dX6_copy_59 : decode cX6_copy 59 = .ok (.iconst 4, 1) := by decide +kernel
theorem dX6_copy_60 : decode cX6_copy 60 = .ok (.invokevirtual 106, 3) := by decide +kernel
theorem dX6_copy_63 : decode cX6_copy 63 = .ok (.ireturn, 1) := by decide +kernel
theorem dX6_copy_64 : decode cX6_copy 64 = .ok (.iload_n 2, 1) := by decide +kernel
theorem dX6_copy_65 : decode cX6_copy 65 = .ok (.ifCond .lt 48, 3) := by decide +kernel
theorem dX6_copy_68 : decode cX6_copy 68 = .ok (.iload 4, 2) := by decide +kernel
theorem dX6_copy_70 : decode cX6_copy 70 = .ok (.ifCond .lt 43, 3) := by decide +kernel
theorem dX6_copy_73 : decode cX6_copy 73 = .ok (.iload 5, 2) := by decide +kernel
theorem dX6_copy_75 : decode cX6_copy 75 = .ok (.ifCond .lt 38, 3) := by decide +kernel
theorem dX6_copy_78 : decode cX6_copy 78 = .ok (.iload_n 2, 1) := by decide +kernel
theorem dX6_copy_79 : decode cX6_copy 79 = .ok (.i2l, 1) := by decide +kernel
theorem dX6_copy_80 : decode cX6_copy 80 = .ok (.iload 5, 2) := by decide +kernel
theorem dX6_copy_82 : decode cX6_copy 82 = .ok (.i2l, 1) := by decide +kernel
theorem dX6_copy_83 : decode cX6_copy 83 = .ok (.ladd, 1) := by decide +kernel
theorem dX6_copy_84 : decode cX6_copy 84 = .ok (.aload_n 0, 1) := by decide +kernel
theorem dX6_copy_85 : decode cX6_copy 85 = .ok (.getfield 45, 3) := by decide +kernel
theorem dX6_copy_88 : decode cX6_copy 88 = .ok (.iload_n 1, 1) := by decide +kernel
theorem dX6_copy_89 : decode cX6_copy 89 = .ok (.iaload, 1) := by decide +kernel
theorem dX6_copy_90 : decode cX6_copy 90 = .ok (.i2l, 1) := by decide +kernel
theorem dX6_copy_91 : decode cX6_copy 91 = .ok (.lcmp, 1) := by decide +kernel
theorem dX6_copy_92 : decode cX6_copy 92 = .ok (.ifCond .gt 21, 3) := by decide +kernel
theorem dX6_copy_95 : decode cX6_copy 95 = .ok (.iload 4, 2) := by decide +kernel
theorem dX6_copy_97 : decode cX6_copy 97 = .ok (.i2l, 1) := by decide +kernel
theorem dX6_copy_98 : decode cX6_copy 98 = .ok (.iload 5, 2) := by decide +kernel
theorem dX6_copy_100 : decode cX6_copy 100 = .ok (.i2l, 1) := by decide +kernel
theorem dX6_copy_101 : decode cX6_copy 101 = .ok (.ladd, 1) := by decide +kernel
theorem dX6_copy_102 : decode cX6_copy 102 = .ok (.aload_n 0, 1) := by decide +kernel
theorem dX6_copy_103 : decode cX6_copy 103 = .ok (.getfield 45, 3) := by decide +kernel
theorem dX6_copy_106 : decode cX6_copy 106 = .ok (.iload_n 3, 1) := by decide +kernel
theorem dX6_copy_107 : decode cX6_copy 107 = .ok (.iaload, 1) := by decide +kernel
theorem dX6_copy_108 : decode cX6_copy 108 = .ok (.i2l, 1) := by decide +kernel
theorem dX6_copy_109 : decode cX6_copy 109 = .ok (.lcmp, 1) := by decide +kernel
theorem dX6_copy_110 : decode cX6_copy 110 = .ok (.ifCond .le 9, 3) := by decide +kernel
theorem dX6_copy_113 : decode cX6_copy 113 = .ok (.aload_n 0, 1) := by decide +kernel
theorem dX6_copy_114 : decode cX6_copy 114 = .ok (.iconst 2, 1) := by decide +kernel
theorem dX6_copy_115 : decode cX6_copy 115 = .ok (.invokevirtual 106, 3) := by decide +kernel
theorem dX6_copy_118 : decode cX6_copy 118 = .ok (.ireturn, 1) := by decide +kernel
theorem dX6_copy_119 : decode cX6_copy 119 = .ok (.iconst 0, 1) := by decide +kernel
theorem dX6_copy_120 : decode cX6_copy 120 = .ok (.istore 6, 2) := by decide +kernel
theorem dX6_copy_122 : decode cX6_copy 122 = .ok (.iload 6, 2) := by decide +kernel
theorem dX6_copy_124 : decode cX6_copy 124 = .ok (.iload 5, 2) := by decide +kernel
theorem dX6_copy_126 : decode cX6_copy 126 = .ok (.if_icmp .ge 30, 3) := by decide +kernel
theorem dX6_copy_129 : decode cX6_copy 129 = .ok (.aload_n 0, 1) := by decide +kernel
theorem dX6_copy_130 : decode cX6_copy 130 = .ok (.getfield 52, 3) := by decide +kernel
theorem dX6_copy_133 : decode cX6_copy 133 = .ok (.iload 6, 2) := by decide +kernel
theorem dX6_copy_135 : decode cX6_copy 135 = .ok (.aload_n 0, 1) := by decide +kernel
theorem dX6_copy_136 : decode cX6_copy 136 = .ok (.getfield 48, 3) := by decide +kernel
theorem dX6_copy_139 : decode cX6_copy 139 = .ok (.bipush 64, 2) := by decide +kernel
theorem dX6_copy_141 : decode cX6_copy 141 = .ok (.iload_n 1, 1) := by decide +kernel
theorem dX6_copy_142 : decode cX6_copy 142 = .ok (.imul, 1) := by decide +kernel
theorem dX6_copy_143 : decode cX6_copy 143 = .ok (.iload_n 2, 1) := by decide +kernel
theorem dX6_copy_144 : decode cX6_copy 144 = .ok (.iadd, 1) := by decide +kernel
theorem dX6_copy_145 : decode cX6_copy 145 = .ok (.iload 6, 2) := by decide +kernel
theorem dX6_copy_147 : decode cX6_copy 147 = .ok (.iadd, 1) := by decide +kernel
theorem dX6_copy_148 : decode cX6_copy 148 = .ok (.laload, 1) := by decide +kernel
theorem dX6_copy_149 : decode cX6_copy 149 = .ok (.lastore, 1) := by decide +kernel
theorem dX6_copy_150 : decode cX6_copy 150 = .ok (.iinc 6 1, 3) := by decide +kernel
theorem dX6_copy_153 : decode cX6_copy 153 = .ok (.goto (-31), 3) := by decide +kernel
theorem dX6_copy_156 : decode cX6_copy 156 = .ok (.iconst 0, 1) := by decide +kernel
theorem dX6_copy_157 : decode cX6_copy 157 = .ok (.istore 6, 2) := by decide +kernel
theorem dX6_copy_159 : decode cX6_copy 159 = .ok (.iload 6, 2) := by decide +kernel
theorem dX6_copy_161 : decode cX6_copy 161 = .ok (.iload 5, 2) := by decide +kernel
theorem dX6_copy_163 : decode cX6_copy 163 = .ok (.if_icmp .ge 31, 3) := by decide +kernel
theorem dX6_copy_166 : decode cX6_copy 166 = .ok (.aload_n 0, 1) := by decide +kernel
theorem dX6_copy_167 : decode cX6_copy 167 = .ok (.getfield 48, 3) := by decide +kernel
theorem dX6_copy_170 : decode cX6_copy 170 = .ok (.bipush 64, 2) := by decide +kernel
theorem dX6_copy_172 : decode cX6_copy 172 = .ok (.iload_n 3, 1) := by decide +kernel
theorem dX6_copy_173 : decode cX6_copy 173 = .ok (.imul, 1) := by decide +kernel
theorem dX6_copy_174 : decode cX6_copy 174 = .ok (.iload 4, 2) := by decide +kernel
theorem dX6_copy_176 : decode cX6_copy 176 = .ok (.iadd, 1) := by decide +kernel
theorem dX6_copy_177 : decode cX6_copy 177 = .ok (.iload 6, 2) := by decide +kernel
theorem dX6_copy_179 : decode cX6_copy 179 = .ok (.iadd, 1) := by decide +kernel
theorem dX6_copy_180 : decode cX6_copy 180 = .ok (.aload_n 0, 1) := by decide +kernel
theorem dX6_copy_181 : decode cX6_copy 181 = .ok (.getfield 52, 3) := by decide +kernel
theorem dX6_copy_184 : decode cX6_copy 184 = .ok (.iload 6, 2) := by decide +kernel
theorem dX6_copy_186 : decode cX6_copy 186 = .ok (.laload, 1) := by decide +kernel
theorem dX6_copy_187 : decode cX6_copy 187 = .ok (.lastore, 1) := by decide +kernel
theorem dX6_copy_188 : decode cX6_copy 188 = .ok (.iinc 6 1, 3) := by decide +kernel
theorem dX6_copy_191 : decode cX6_copy 191 = .ok (.goto (-32), 3) := by decide +kernel
theorem dX6_copy_194 : decode cX6_copy 194 = .ok (.iconst 1, 1) := by decide +kernel
theorem dX6_copy_195 : decode cX6_copy 195 = .ok (.ireturn, 1) := by decide +kernel
abbrev rmX6_copy : Room := { frames := 2, cells := 0, slots := 0, locals := 42 }
set_option maxRecDepth 100000 in
theorem hinX6_copy_6 : ∀ w ∈ wsX60, w ∈ wsX6_copy := by decide +kernel
def fX6_copy_37 (a1 : Int32) (a2 : Int32) (a3 : Int32) (a4 : Int32) (a5 : Int32) (h : AH) : Option (Int32 × AH) :=
  bW (fX6_meets h 1) fun r2 h1 =>
  some (r2, h1)
set_option maxHeartbeats 4000000 in
set_option maxRecDepth 100000 in
theorem tX6_copy_37 {h : AH} {a1 : Int32} {a2 : Int32} {a3 : Int32} {a4 : Int32} {a5 : Int32} {r0 : Int32} {h0 : AH} (C : Cx p rmX6_copy s m args meth c RX6 cX6_copy 7 (some .int) wsX6_copy D ad cy tb 0 0) (hf : fX6_copy_37 a1 a2 a3 a4 a5 h = some (r0, h0)) : AW p l e rmX6_copy s m args below meth c 7 D ad cy 0 0 (Qi D ad cy below args s r0 h0) 37 [(0, .ref (ad 29)), (1, .int a1), (2, .int a2), (3, .int a3), (4, .int a4), (5, .int a5)] [] h := by
  unfold fX6_copy_37 at hf
  refine aw_aload_n C dX6_copy_37 rfl 0 rfl ?_
  refine aw_iconst (v := 1) C dX6_copy_38 (by decide) ?_
  obtain ⟨r2, h1, hc, hf⟩ := bW_some hf
  refine aw_callVi (As := [.int 1]) (rest := []) C rfl (by decide) rfl (kX6_meets (l := l) (D := D) (ad := ad) (cy := cy) (tb := tb) C.2.2.2.2.2.2.2.2.1 hc) (fun ht _ => cwV 1 ht gX6_copy_X6_meets rfl rfl rfl (by decide +kernel) ⟨Nat.le_of_ble_eq_true rfl, Nat.le_of_ble_eq_true rfl⟩) rfl rfl (Nat.le_of_ble_eq_true rfl) dX6_copy_39 ?_
  exact aw_iretW C dX6_copy_42 hf
def fX6_copy_113 (a1 : Int32) (a2 : Int32) (a3 : Int32) (a4 : Int32) (a5 : Int32) (h : AH) : Option (Int32 × AH) :=
  bW (fX6_meets h 2) fun r2 h1 =>
  some (r2, h1)
set_option maxHeartbeats 4000000 in
set_option maxRecDepth 100000 in
theorem tX6_copy_113 {h : AH} {a1 : Int32} {a2 : Int32} {a3 : Int32} {a4 : Int32} {a5 : Int32} {r0 : Int32} {h0 : AH} (C : Cx p rmX6_copy s m args meth c RX6 cX6_copy 7 (some .int) wsX6_copy D ad cy tb 0 0) (hf : fX6_copy_113 a1 a2 a3 a4 a5 h = some (r0, h0)) : AW p l e rmX6_copy s m args below meth c 7 D ad cy 0 0 (Qi D ad cy below args s r0 h0) 113 [(0, .ref (ad 29)), (1, .int a1), (2, .int a2), (3, .int a3), (4, .int a4), (5, .int a5)] [] h := by
  unfold fX6_copy_113 at hf
  refine aw_aload_n C dX6_copy_113 rfl 0 rfl ?_
  refine aw_iconst (v := 2) C dX6_copy_114 (by decide) ?_
  obtain ⟨r2, h1, hc, hf⟩ := bW_some hf
  refine aw_callVi (As := [.int 2]) (rest := []) C rfl (by decide) rfl (kX6_meets (l := l) (D := D) (ad := ad) (cy := cy) (tb := tb) C.2.2.2.2.2.2.2.2.1 hc) (fun ht _ => cwV 1 ht gX6_copy_X6_meets rfl rfl rfl (by decide +kernel) ⟨Nat.le_of_ble_eq_true rfl, Nat.le_of_ble_eq_true rfl⟩) rfl rfl (Nat.le_of_ble_eq_true rfl) dX6_copy_115 ?_
  exact aw_iretW C dX6_copy_118 hf
def fX6_copy_159b (k159 : AH → Int32 → Option (Int32 × AH)) (a1 : Int32) (a2 : Int32) (a3 : Int32) (a4 : Int32) (a5 : Int32) (h : AH) (x6 : Int32) : Option (Int32 × AH) :=
  if a5 ≤ x6 then (
    some (1, h)) else (
  ck (inb x6 64) <|
  nm (((64 * a3) + a4) + x6) fun v1 =>
  ck (inb v1 256) <|
  nm (sL h 41 v1.toNatClampNeg (h.2 42 x6.toNatClampNeg)) fun h2 =>
  nm (x6 + 1) fun v3 =>
  k159 h2 v3)
set_option maxHeartbeats 4000000 in
set_option maxRecDepth 100000 in
theorem tX6_copy_159b {h : AH} {a1 : Int32} {a2 : Int32} {a3 : Int32} {a4 : Int32} {a5 : Int32} {k159 : AH → Int32 → Option (Int32 × AH)} {x6 : Int32} {r0 : Int32} {h0 : AH} (C : Cx p rmX6_copy s m args meth c RX6 cX6_copy 7 (some .int) wsX6_copy D ad cy tb 0 0) (H159 : ∀ (h : AH) (x6 : Int32), k159 h x6 = some (r0, h0) → AW p l e rmX6_copy s m args below meth c 7 D ad cy 0 0 (Qi D ad cy below args s r0 h0) 159 [(0, .ref (ad 29)), (1, .int a1), (2, .int a2), (3, .int a3), (4, .int a4), (5, .int a5), (6, .int x6)] [] h) (hf : fX6_copy_159b k159 a1 a2 a3 a4 a5 h x6 = some (r0, h0)) : AW p l e rmX6_copy s m args below meth c 7 D ad cy 0 0 (Qi D ad cy below args s r0 h0) 159 [(0, .ref (ad 29)), (1, .int a1), (2, .int a2), (3, .int a3), (4, .int a4), (5, .int a5), (6, .int x6)] [] h := by
  unfold fX6_copy_159b at hf
  refine aw_iload C dX6_copy_159 6 rfl ?_
  refine aw_iload C dX6_copy_161 5 rfl ?_
  refine aw_icmp_ge (tgt := 194) C dX6_copy_163 (by decide) hf (fun hf => ?_) (fun hf => ?_)
  · refine aw_iconst (v := 1) C dX6_copy_194 (by decide) ?_
    exact aw_iretW C dX6_copy_195 hf
  refine aw_aload_n C dX6_copy_166 rfl 0 rfl ?_
  refine aw_get C (kd_lt rfl (by decide)) (ce_6 rfl) rfl hinX6_copy_6 15 (by decide) rfl (by decide +kernel) rfl dX6_copy_167 ?_
  refine aw_bipush (v := 64) C dX6_copy_170 (by decide) ?_
  refine aw_iload_n C dX6_copy_172 rfl 3 rfl ?_
  refine aw_imul C dX6_copy_173 ?_
  refine aw_iload C dX6_copy_174 4 rfl ?_
  refine aw_iadd C dX6_copy_176 ?_
  refine aw_iload C dX6_copy_177 6 rfl ?_
  refine aw_iadd C dX6_copy_179 ?_
  refine aw_aload_n C dX6_copy_180 rfl 0 rfl ?_
  refine aw_get C (kd_lt rfl (by decide)) (ce_6 rfl) rfl hinX6_copy_6 16 (by decide) rfl (by decide +kernel) rfl dX6_copy_181 ?_
  refine aw_iload C dX6_copy_184 6 rfl ?_
  refine aw_lald C rfl rfl hf dX6_copy_186 (fun hf => ?_)
  refine aw_nm2 hf (fun v1 hf => ?_)
  refine aw_last C rfl rfl hf dX6_copy_187 (fun hf => ?_)
  refine aw_nmH hf (fun h2 hf => ?_)
  obtain ⟨v3, hvv3, hf⟩ := nm_ex hf
  refine aw_iinc (j := 6) (v := v3) (lv1 := [(6, .int v3), (0, .ref (ad 29)), (1, .int a1), (2, .int a2), (3, .int a3), (4, .int a4), (5, .int a5)]) C dX6_copy_188 rfl hvv3 (by decide) rfl ?_
  refine aw_goto (tgt := 159) C dX6_copy_191 (by decide) ?_
  refine aw_sub [1, 2, 3, 4, 5, 6, 0] rfl ?_
  exact H159 h2 v3 hf
def fX6_copy_159 (a1 : Int32) (a2 : Int32) (a3 : Int32) (a4 : Int32) (a5 : Int32) : Nat → AH → Int32 → Option (Int32 × AH)
  | 0, _, _ => none
  | n + 1, h, x6 => fX6_copy_159b (fX6_copy_159 a1 a2 a3 a4 a5 n) a1 a2 a3 a4 a5 h x6
set_option maxHeartbeats 4000000 in
set_option maxRecDepth 100000 in
theorem tX6_copy_159  {a1 : Int32} {a2 : Int32} {a3 : Int32} {a4 : Int32} {a5 : Int32} {r0 : Int32} {h0 : AH} (C : Cx p rmX6_copy s m args meth c RX6 cX6_copy 7 (some .int) wsX6_copy D ad cy tb 0 0) : ∀ (n : Nat) (h : AH) (x6 : Int32), fX6_copy_159 a1 a2 a3 a4 a5 n h x6 = some (r0, h0) → AW p l e rmX6_copy s m args below meth c 7 D ad cy 0 0 (Qi D ad cy below args s r0 h0) 159 [(0, .ref (ad 29)), (1, .int a1), (2, .int a2), (3, .int a3), (4, .int a4), (5, .int a5), (6, .int x6)] [] h := by
  intro n
  induction n with
  | zero => intro h x6 hf; cases hf
  | succ n ih => intro h x6 hf; exact tX6_copy_159b C  ih  hf
def fX6_copy_122b (k122 : AH → Int32 → Option (Int32 × AH)) (a1 : Int32) (a2 : Int32) (a3 : Int32) (a4 : Int32) (a5 : Int32) (h : AH) (x6 : Int32) : Option (Int32 × AH) :=
  if a5 ≤ x6 then (
    fX6_copy_159  a1 a2 a3 a4 a5 FU h 0) else (
  nm (((64 * a1) + a2) + x6) fun v1 =>
  ck (inb v1 256) <|
  ck (inb x6 64) <|
  nm (sL h 42 x6.toNatClampNeg (h.2 41 v1.toNatClampNeg)) fun h2 =>
  nm (x6 + 1) fun v3 =>
  k122 h2 v3)
set_option maxHeartbeats 4000000 in
set_option maxRecDepth 100000 in
theorem tX6_copy_122b {h : AH} {a1 : Int32} {a2 : Int32} {a3 : Int32} {a4 : Int32} {a5 : Int32} {k122 : AH → Int32 → Option (Int32 × AH)} {x6 : Int32} {r0 : Int32} {h0 : AH} (C : Cx p rmX6_copy s m args meth c RX6 cX6_copy 7 (some .int) wsX6_copy D ad cy tb 0 0) (H122 : ∀ (h : AH) (x6 : Int32), k122 h x6 = some (r0, h0) → AW p l e rmX6_copy s m args below meth c 7 D ad cy 0 0 (Qi D ad cy below args s r0 h0) 122 [(0, .ref (ad 29)), (1, .int a1), (2, .int a2), (3, .int a3), (4, .int a4), (5, .int a5), (6, .int x6)] [] h) (hf : fX6_copy_122b k122 a1 a2 a3 a4 a5 h x6 = some (r0, h0)) : AW p l e rmX6_copy s m args below meth c 7 D ad cy 0 0 (Qi D ad cy below args s r0 h0) 122 [(0, .ref (ad 29)), (1, .int a1), (2, .int a2), (3, .int a3), (4, .int a4), (5, .int a5), (6, .int x6)] [] h := by
  unfold fX6_copy_122b at hf
  refine aw_iload C dX6_copy_122 6 rfl ?_
  refine aw_iload C dX6_copy_124 5 rfl ?_
  refine aw_icmp_ge (tgt := 156) C dX6_copy_126 (by decide) hf (fun hf => ?_) (fun hf => ?_)
  · refine aw_iconst (v := 0) C dX6_copy_156 (by decide) ?_
    refine aw_istore (lv1 := [(6, .int 0), (0, .ref (ad 29)), (1, .int a1), (2, .int a2), (3, .int a3), (4, .int a4), (5, .int a5)]) C dX6_copy_157 (by decide) rfl ?_
    refine aw_sub [1, 2, 3, 4, 5, 6, 0] rfl ?_
    exact tX6_copy_159 C   FU h 0 hf
  refine aw_aload_n C dX6_copy_129 rfl 0 rfl ?_
  refine aw_get C (kd_lt rfl (by decide)) (ce_6 rfl) rfl hinX6_copy_6 16 (by decide) rfl (by decide +kernel) rfl dX6_copy_130 ?_
  refine aw_iload C dX6_copy_133 6 rfl ?_
  refine aw_aload_n C dX6_copy_135 rfl 0 rfl ?_
  refine aw_get C (kd_lt rfl (by decide)) (ce_6 rfl) rfl hinX6_copy_6 15 (by decide) rfl (by decide +kernel) rfl dX6_copy_136 ?_
  refine aw_bipush (v := 64) C dX6_copy_139 (by decide) ?_
  refine aw_iload_n C dX6_copy_141 rfl 1 rfl ?_
  refine aw_imul C dX6_copy_142 ?_
  refine aw_iload_n C dX6_copy_143 rfl 2 rfl ?_
  refine aw_iadd C dX6_copy_144 ?_
  refine aw_iload C dX6_copy_145 6 rfl ?_
  refine aw_iadd C dX6_copy_147 ?_
  refine aw_nmI hf (fun v1 hf => ?_)
  refine aw_lald C rfl rfl hf dX6_copy_148 (fun hf => ?_)
  refine aw_last C rfl rfl hf dX6_copy_149 (fun hf => ?_)
  refine aw_nmH hf (fun h2 hf => ?_)
  obtain ⟨v3, hvv3, hf⟩ := nm_ex hf
  refine aw_iinc (j := 6) (v := v3) (lv1 := [(6, .int v3), (0, .ref (ad 29)), (1, .int a1), (2, .int a2), (3, .int a3), (4, .int a4), (5, .int a5)]) C dX6_copy_150 rfl hvv3 (by decide) rfl ?_
  refine aw_goto (tgt := 122) C dX6_copy_153 (by decide) ?_
  refine aw_sub [1, 2, 3, 4, 5, 6, 0] rfl ?_
  exact H122 h2 v3 hf
def fX6_copy_122 (a1 : Int32) (a2 : Int32) (a3 : Int32) (a4 : Int32) (a5 : Int32) : Nat → AH → Int32 → Option (Int32 × AH)
  | 0, _, _ => none
  | n + 1, h, x6 => fX6_copy_122b (fX6_copy_122 a1 a2 a3 a4 a5 n) a1 a2 a3 a4 a5 h x6
set_option maxHeartbeats 4000000 in
set_option maxRecDepth 100000 in
theorem tX6_copy_122  {a1 : Int32} {a2 : Int32} {a3 : Int32} {a4 : Int32} {a5 : Int32} {r0 : Int32} {h0 : AH} (C : Cx p rmX6_copy s m args meth c RX6 cX6_copy 7 (some .int) wsX6_copy D ad cy tb 0 0) : ∀ (n : Nat) (h : AH) (x6 : Int32), fX6_copy_122 a1 a2 a3 a4 a5 n h x6 = some (r0, h0) → AW p l e rmX6_copy s m args below meth c 7 D ad cy 0 0 (Qi D ad cy below args s r0 h0) 122 [(0, .ref (ad 29)), (1, .int a1), (2, .int a2), (3, .int a3), (4, .int a4), (5, .int a5), (6, .int x6)] [] h := by
  intro n
  induction n with
  | zero => intro h x6 hf; cases hf
  | succ n ih => intro h x6 hf; exact tX6_copy_122b C  ih  hf
def fX6_copy (h : AH) (a1 : Int32) (a2 : Int32) (a3 : Int32) (a4 : Int32) (a5 : Int32) : Option (Int32 × AH) :=
  bR (fX6_isSheet h a1) fun r1 =>
  if r1 = 0 then (
    some ((-2), h)) else (
  bR (fX6_isSheet h a3) fun r2 =>
  if r2 = 0 then (
    some ((-2), h)) else (
  ck (inb a1 4) <|
  if (h.1 39 a1.toNatClampNeg) = (-1) then (
    fX6_copy_37  a1 a2 a3 a4 a5 h) else (
  ck (inb a3 4) <|
  if (h.1 39 a3.toNatClampNeg) = (-1) then (
    fX6_copy_37  a1 a2 a3 a4 a5 h) else (
  ck (inb a1 4) <|
  ck (inb a3 4) <|
  if (h.1 39 a1.toNatClampNeg) = (h.1 39 a3.toNatClampNeg) then (
    if a2 < 0 then (
      fX6_copy_113  a1 a2 a3 a4 a5 h) else (
    if a4 < 0 then (
      fX6_copy_113  a1 a2 a3 a4 a5 h) else (
    if a5 < 0 then (
      fX6_copy_113  a1 a2 a3 a4 a5 h) else (
    ck (inb a1 4) <|
    if 0 < (lg_cmp ((a2.toInt64) + (a5.toInt64)) ((h.1 40 a1.toNatClampNeg : Int32).toInt64)) then (
      fX6_copy_113  a1 a2 a3 a4 a5 h) else (
    ck (inb a3 4) <|
    if (lg_cmp ((a4.toInt64) + (a5.toInt64)) ((h.1 40 a3.toNatClampNeg : Int32).toInt64)) ≤ 0 then (
      fX6_copy_122  a1 a2 a3 a4 a5 FU h 0) else (
    fX6_copy_113  a1 a2 a3 a4 a5 h)))))) else (
  bW (fX6_meets h 4) fun r4 h3 =>
  some (r4, h3))))))
set_option maxHeartbeats 4000000 in
set_option maxRecDepth 100000 in
theorem tX6_copy_0 {h : AH} {a1 : Int32} {a2 : Int32} {a3 : Int32} {a4 : Int32} {a5 : Int32} {r0 : Int32} {h0 : AH} (C : Cx p rmX6_copy s m args meth c RX6 cX6_copy 7 (some .int) wsX6_copy D ad cy tb 0 0) (hf : fX6_copy h a1 a2 a3 a4 a5 = some (r0, h0)) : AW p l e rmX6_copy s m args below meth c 7 D ad cy 0 0 (Qi D ad cy below args s r0 h0) 0 [(0, .ref (ad 29)), (1, .int a1), (2, .int a2), (3, .int a3), (4, .int a4), (5, .int a5)] [] h := by
  unfold fX6_copy at hf
  refine aw_iload_n C dX6_copy_0 rfl 1 rfl ?_
  obtain ⟨r1, hc, hf⟩ := bR_some hf
  refine aw_callSi (As := [.int a1]) (rest := []) C (kX6_isSheet (l := l) (D := D) (ad := ad) (cy := cy) (tb := tb) C.2.2.2.2.2.2.2.2.1 hc) (fun ht _ => va_cwS 1 ht gX6_copy_X6_isSheet rfl rfl rfl (by decide +kernel) ⟨Nat.le_of_ble_eq_true rfl, Nat.le_of_ble_eq_true rfl⟩) rfl rfl (Nat.le_of_ble_eq_true rfl) dX6_copy_1 ?_
  refine aw_if_eq (tgt := 14) C dX6_copy_4 (by decide) hf (fun hf => ?_) (fun hf => ?_)
  · refine aw_bipush (v := (-2)) C dX6_copy_14 (by decide) ?_
    exact aw_iretW C dX6_copy_16 hf
  refine aw_iload_n C dX6_copy_7 rfl 3 rfl ?_
  obtain ⟨r2, hc, hf⟩ := bR_some hf
  refine aw_callSi (As := [.int a3]) (rest := []) C (kX6_isSheet (l := l) (D := D) (ad := ad) (cy := cy) (tb := tb) C.2.2.2.2.2.2.2.2.1 hc) (fun ht _ => va_cwS 1 ht gX6_copy_X6_isSheet rfl rfl rfl (by decide +kernel) ⟨Nat.le_of_ble_eq_true rfl, Nat.le_of_ble_eq_true rfl⟩) rfl rfl (Nat.le_of_ble_eq_true rfl) dX6_copy_8 ?_
  refine aw_if_ne (tgt := 17) C dX6_copy_11 (by decide) hf (fun hf => ?_) (fun hf => ?_)
  · refine aw_aload_n C dX6_copy_17 rfl 0 rfl ?_
    refine aw_get C (kd_lt rfl (by decide)) (ce_6 rfl) rfl hinX6_copy_6 13 (by decide) rfl (by decide +kernel) rfl dX6_copy_18 ?_
    refine aw_iload_n C dX6_copy_21 rfl 1 rfl ?_
    refine aw_iald C rfl rfl hf dX6_copy_22 (fun hf => ?_)
    refine aw_iconst (v := (-1)) C dX6_copy_23 (by decide) ?_
    refine aw_icmp_eq (tgt := 37) C dX6_copy_24 (by decide) hf (fun hf => ?_) (fun hf => ?_)
    · refine aw_sub [0, 1, 2, 3, 4, 5] rfl ?_
      exact tX6_copy_37 C   hf
    refine aw_aload_n C dX6_copy_27 rfl 0 rfl ?_
    refine aw_get C (kd_lt rfl (by decide)) (ce_6 rfl) rfl hinX6_copy_6 13 (by decide) rfl (by decide +kernel) rfl dX6_copy_28 ?_
    refine aw_iload_n C dX6_copy_31 rfl 3 rfl ?_
    refine aw_iald C rfl rfl hf dX6_copy_32 (fun hf => ?_)
    refine aw_iconst (v := (-1)) C dX6_copy_33 (by decide) ?_
    refine aw_icmp_ne (tgt := 43) C dX6_copy_34 (by decide) hf (fun hf => ?_) (fun hf => ?_)
    · refine aw_aload_n C dX6_copy_43 rfl 0 rfl ?_
      refine aw_get C (kd_lt rfl (by decide)) (ce_6 rfl) rfl hinX6_copy_6 13 (by decide) rfl (by decide +kernel) rfl dX6_copy_44 ?_
      refine aw_iload_n C dX6_copy_47 rfl 1 rfl ?_
      refine aw_iald C rfl rfl hf dX6_copy_48 (fun hf => ?_)
      refine aw_aload_n C dX6_copy_49 rfl 0 rfl ?_
      refine aw_get C (kd_lt rfl (by decide)) (ce_6 rfl) rfl hinX6_copy_6 13 (by decide) rfl (by decide +kernel) rfl dX6_copy_50 ?_
      refine aw_iload_n C dX6_copy_53 rfl 3 rfl ?_
      refine aw_iald C rfl rfl hf dX6_copy_54 (fun hf => ?_)
      refine aw_icmp_eq (tgt := 64) C dX6_copy_55 (by decide) hf (fun hf => ?_) (fun hf => ?_)
      · refine aw_iload_n C dX6_copy_64 rfl 2 rfl ?_
        refine aw_if_lt (tgt := 113) C dX6_copy_65 (by decide) hf (fun hf => ?_) (fun hf => ?_)
        · refine aw_sub [0, 1, 2, 3, 4, 5] rfl ?_
          exact tX6_copy_113 C   hf
        refine aw_iload C dX6_copy_68 4 rfl ?_
        refine aw_if_lt (tgt := 113) C dX6_copy_70 (by decide) hf (fun hf => ?_) (fun hf => ?_)
        · refine aw_sub [0, 1, 2, 3, 4, 5] rfl ?_
          exact tX6_copy_113 C   hf
        refine aw_iload C dX6_copy_73 5 rfl ?_
        refine aw_if_lt (tgt := 113) C dX6_copy_75 (by decide) hf (fun hf => ?_) (fun hf => ?_)
        · refine aw_sub [0, 1, 2, 3, 4, 5] rfl ?_
          exact tX6_copy_113 C   hf
        refine aw_iload_n C dX6_copy_78 rfl 2 rfl ?_
        refine aw_i2l C dX6_copy_79 ?_
        refine aw_iload C dX6_copy_80 5 rfl ?_
        refine aw_i2l C dX6_copy_82 ?_
        refine aw_ladd C dX6_copy_83 ?_
        refine aw_aload_n C dX6_copy_84 rfl 0 rfl ?_
        refine aw_get C (kd_lt rfl (by decide)) (ce_6 rfl) rfl hinX6_copy_6 14 (by decide) rfl (by decide +kernel) rfl dX6_copy_85 ?_
        refine aw_iload_n C dX6_copy_88 rfl 1 rfl ?_
        refine aw_iald C rfl rfl hf dX6_copy_89 (fun hf => ?_)
        refine aw_i2l C dX6_copy_90 ?_
        refine aw_lcmp C dX6_copy_91 ?_
        refine aw_if_gt (tgt := 113) C dX6_copy_92 (by decide) hf (fun hf => ?_) (fun hf => ?_)
        · refine aw_sub [0, 1, 2, 3, 4, 5] rfl ?_
          exact tX6_copy_113 C   hf
        refine aw_iload C dX6_copy_95 4 rfl ?_
        refine aw_i2l C dX6_copy_97 ?_
        refine aw_iload C dX6_copy_98 5 rfl ?_
        refine aw_i2l C dX6_copy_100 ?_
        refine aw_ladd C dX6_copy_101 ?_
        refine aw_aload_n C dX6_copy_102 rfl 0 rfl ?_
        refine aw_get C (kd_lt rfl (by decide)) (ce_6 rfl) rfl hinX6_copy_6 14 (by decide) rfl (by decide +kernel) rfl dX6_copy_103 ?_
        refine aw_iload_n C dX6_copy_106 rfl 3 rfl ?_
        refine aw_iald C rfl rfl hf dX6_copy_107 (fun hf => ?_)
        refine aw_i2l C dX6_copy_108 ?_
        refine aw_lcmp C dX6_copy_109 ?_
        refine aw_if_le (tgt := 119) C dX6_copy_110 (by decide) hf (fun hf => ?_) (fun hf => ?_)
        · refine aw_iconst (v := 0) C dX6_copy_119 (by decide) ?_
          refine aw_istore (lv1 := [(6, .int 0), (0, .ref (ad 29)), (1, .int a1), (2, .int a2), (3, .int a3), (4, .int a4), (5, .int a5)]) C dX6_copy_120 (by decide) rfl ?_
          refine aw_sub [1, 2, 3, 4, 5, 6, 0] rfl ?_
          exact tX6_copy_122 C   FU h 0 hf
        refine aw_sub [0, 1, 2, 3, 4, 5] rfl ?_
        exact tX6_copy_113 C   hf
      refine aw_aload_n C dX6_copy_58 rfl 0 rfl ?_
      refine aw_iconst (v := 4) C dX6_copy_59 (by decide) ?_
      obtain ⟨r4, h3, hc, hf⟩ := bW_some hf
      refine aw_callVi (As := [.int 4]) (rest := []) C rfl (by decide) rfl (kX6_meets (l := l) (D := D) (ad := ad) (cy := cy) (tb := tb) C.2.2.2.2.2.2.2.2.1 hc) (fun ht _ => cwV 1 ht gX6_copy_X6_meets rfl rfl rfl (by decide +kernel) ⟨Nat.le_of_ble_eq_true rfl, Nat.le_of_ble_eq_true rfl⟩) rfl rfl (Nat.le_of_ble_eq_true rfl) dX6_copy_60 ?_
      exact aw_iretW C dX6_copy_63 hf
    refine aw_sub [0, 1, 2, 3, 4, 5] rfl ?_
    exact tX6_copy_37 C   hf
  refine aw_bipush (v := (-2)) C dX6_copy_14 (by decide) ?_
  exact aw_iretW C dX6_copy_16 hf
theorem kX6_copy {h : AH} {a1 : Int32} {a2 : Int32} {a3 : Int32} {a4 : Int32} {a5 : Int32} {r0 : Int32} {h0 : AH} (hi : Inj ad) (hf : fX6_copy h a1 a2 a3 a4 a5 = some (r0, h0)) : Ki l yX6_copy wsX6_copy rmX6_copy D ad cy tb [.ref (ad 29), .int a1, .int a2, .int a3, .int a4, .int a5] h r0 h0 := met_i (lv := [(0, .ref (ad 29)), (1, .int a1), (2, .int a2), (3, .int a3), (4, .int a4), (5, .int a5)]) hi (by decide) rfl (Nat.le_of_ble_eq_true rfl) rfl rfl (fun _ _ _ _ _ _ _ _ C => tX6_copy_0 C  hf)
set_option maxRecDepth 20000 in
theorem ggX5_write_X5_isBlock : GoodIn wsX5_write wsX5_isBlock := goodIn_r _ [6, 7, 24, 25, 26, 27, 28, 29, 30, 31, 32, 37, 38, 39] (by decide +kernel) (by decide +kernel)
set_option maxRecDepth 20000 in
theorem gX5_write_X5_isBlock : GoodIn wsX5_write (wsV RX5 106 RX5 yX5_isBlock wsX5_isBlock) := goodIn_app (goodIn_of _ (by decide +kernel)) ggX5_write_X5_isBlock
set_option maxRecDepth 20000 in
theorem ggX5_write_X5_isSheet : GoodIn wsX5_write wsX5_isSheet := goodIn_r _ [10] (by decide +kernel) (by decide +kernel)
set_option maxRecDepth 20000 in
theorem gX5_write_X5_isSheet : GoodIn wsX5_write (va_wsS RX5 109 yX5_isSheet wsX5_isSheet) := goodIn_app (goodIn_of _ (by decide +kernel)) ggX5_write_X5_isSheet
set_option maxRecDepth 20000 in
theorem ggX5_write_X5_finding : GoodIn wsX5_write wsX5_finding := goodIn_r _ [14, 15, 24, 25, 26, 27, 28, 29, 30, 31, 32] (by decide +kernel) (by decide +kernel)
set_option maxRecDepth 20000 in
theorem gX5_write_X5_finding : GoodIn wsX5_write (wsV RX5 116 RX5 yX5_finding wsX5_finding) := goodIn_app (goodIn_of _ (by decide +kernel)) ggX5_write_X5_finding
set_option maxRecDepth 20000 in
theorem ggX5_write_X5_now : GoodIn wsX5_write wsX5_now := goodIn_r _ [19, 20, 7, 24, 25, 26, 27, 28, 29, 30, 31, 32, 40, 41, 37, 38, 39] (by decide +kernel) (by decide +kernel)
set_option maxRecDepth 20000 in
theorem gX5_write_X5_now : GoodIn wsX5_write (wsV RX5 129 RX5 yX5_now wsX5_now) := goodIn_app (goodIn_of _ (by decide +kernel)) ggX5_write_X5_now
set_option maxRecDepth 20000 in
theorem ggX5_write_X5_bitOf : GoodIn wsX5_write wsX5_bitOf := goodIn_r _ [23] (by decide +kernel) (by decide +kernel)
set_option maxRecDepth 20000 in
theorem gX5_write_X5_bitOf : GoodIn wsX5_write (va_wsS RX5 133 yX5_bitOf wsX5_bitOf) := goodIn_app (goodIn_of _ (by decide +kernel)) ggX5_write_X5_bitOf
theorem dX5_write_0 : decode cX5_write 0 = .ok (.aload_n 0, 1) := by decide +kernel
theorem dX5_write_1 : decode cX5_write 1 = .ok (.iload_n 1, 1) := by decide +kernel
theorem dX5_write_2 : decode cX5_write 2 = .ok (.invokevirtual 106, 3) := by decide +kernel
theorem dX5_write_5 : decode cX5_write 5 = .ok (.ifCond .eq 10, 3) := by decide +kernel
theorem dX5_write_8 : decode cX5_write 8 = .ok (.iload_n 2, 1) := by decide +kernel
theorem dX5_write_9 : decode cX5_write 9 = .ok (.invokestatic 109, 3) := by decide +kernel
theorem dX5_write_12 : decode cX5_write 12 = .ok (.ifCond .ne 6, 3) := by decide +kernel
theorem dX5_write_15 : decode cX5_write 15 = .ok (.bipush (-2), 2) := by decide +kernel
theorem dX5_write_17 : decode cX5_write 17 = .ok (.ireturn, 1) := by decide +kernel
theorem dX5_write_18 : decode cX5_write 18 = .ok (.aload_n 0, 1) := by decide +kernel
theorem dX5_write_19 : decode cX5_write 19 = .ok (.getfield 46, 3) := by decide +kernel
theorem dX5_write_22 : decode cX5_write 22 = .ok (.iload_n 2, 1) := by decide +kernel
theorem dX5_write_23 : decode cX5_write 23 = .ok (.aaload, 1) := by decide +kernel
theorem dX5_write_24 : decode cX5_write 24 = .ok (.astore_n 3, 1) := by decide +kernel
theorem dX5_write_25 : decode cX5_write 25 = .ok (.aload_n 3, 1) := by decide +kernel
theorem dX5_write_26 : decode cX5_write 26 = .ok (.getfield 112, 3) := by decide +kernel
theorem dX5_write_29 : decode cX5_write 29 = .ok (.ifCond .eq 10, 3) := by decide +kernel
theorem dX5_write_32 : decode cX5_write 32 = .ok (.aload_n 0, 1) := by decide +kernel
theorem dX5_write_33 : decode cX5_write 33 = .ok (.bipush (-11), 2) := by decide +kernel
theorem dX5_write_35 : decode cX5_write 35 = .ok (.invokevirtual 116, 3) := by decide +kernel
theorem dX5_write_38 : decode cX5_write 38 = .ok (.ireturn, 1) := by decide +kernel
theorem dX5_write_39 : decode cX5_write 39 = .ok (.aload_n 0, 1) := by decide +kernel
theorem dX5_write_40 : decode cX5_write 40 = .ok (.iload_n 1, 1) := by decide +kernel
theorem dX5_write_41 : decode cX5_write 41 = .ok (.invokevirtual 129, 3) := by decide +kernel
theorem dX5_write_44 : decode cX5_write 44 = .ok (.lstore 4, 2) := by decide +kernel
theorem dX5_write_46 : decode cX5_write 46 = .ok (.aload_n 3, 1) := by decide +kernel
theorem dX5_write_47 : decode cX5_write 47 = .ok (.getfield 236, 3) := by decide +kernel
theorem dX5_write_50 : decode cX5_write 50 = .ok (.iconst 1, 1) := by decide +kernel
theorem dX5_write_51 : decode cX5_write 51 = .ok (.if_icmp .ne 22, 3) := by decide +kernel
theorem dX5_write_54 : decode cX5_write 54 = .ok (.aload_n 3, 1) := by decide +kernel
theorem dX5_write_55 : decode cX5_write 55 = .ok (.getfield 120, 3) := by decide +kernel
theorem dX5_write_58 : decode cX5_write 58 = .ok (.ifCond .ne 5, 3) := by decide +kernel
theorem dX5_write_61 : decode cX5_write 61 = .ok (.iconst 0, 1) := by decide +kernel
theorem dX5_write_62 : decode cX5_write 62 = .ok (.ireturn, 1) := by decide +kernel
theorem dX5_write_63 : decode cX5_write 63 = .ok (.aload_n 3, 1) := by decide +kernel
theorem dX5_write_64 : decode cX5_write 64 = .ok (.getfield 123, 3) := by decide +kernel
theorem dX5_write_67 : decode cX5_write 67 = .ok (.iconst 0, 1) := by decide +kernel
theorem dX5_write_68 : decode cX5_write 68 = .ok (.lload 4, 2) := by decide +kernel
theorem dX5_write_70 : decode cX5_write 70 = .ok (.lastore, 1) := by decide +kernel
theorem dX5_write_71 : decode cX5_write 71 = .ok (.iconst 1, 1) := by decide +kernel
theorem dX5_write_72 : decode cX5_write 72 = .ok (.ireturn, 1) := by decide +kernel
theorem dX5_write_73 : decode cX5_write 73 = .ok (.iconst 0, 1) := by decide +kernel
theorem dX5_write_74 : decode cX5_write 74 = .ok (.istore 6, 2) := by decide +kernel
theorem dX5_write_76 : decode cX5_write 76 = .ok (.iload 6, 2) := by decide +kernel
theorem dX5_write_78 : decode cX5_write 78 = .ok (.aload_n 3, 1) := by decide +kernel
theorem dX5_write_79 : decode cX5_write 79 = .ok (.getfield 120, 3) := by decide +kernel
theorem dX5_write_82 : decode cX5_write 82 = .ok (.if_icmp .ge 24, 3) := by decide +kernel
theorem dX5_write_85 : decode cX5_write 85 = .ok (.aload_n 3, 1) := by decide +kernel
theorem dX5_write_86 : decode cX5_write 86 = .ok (.getfield 123, 3) := by decide +kernel
theorem dX5_write_89 : decode cX5_write 89 = .ok (.iload 6, 2) := by decide +kernel
theorem dX5_write_91 : decode cX5_write 91 = .ok (.lload 4, 2) := by decide +kernel
theorem dX5_write_93 : decode cX5_write 93 = .ok (.iload 6, 2) := by decide +kernel
theorem dX5_write_95 : decode cX5_write 95 = .ok (.invokestatic 133, 3) := by decide +kernel
theorem dX5_write_98 : decode cX5_write 98 = .ok (.i2l, 1) := by decide +kernel
theorem dX5_write_99 : decode cX5_write 99 = .ok (.lastore, 1) := by decide +kernel
theorem dX5_write_100 : decode cX5_write 100 = .ok (.iinc 6 1, 3) := by decide +kernel
theorem dX5_write_103 : decode cX5_write 103 = .ok (.goto (-27), 3) := by decide +kernel
theorem dX5_write_106 : decode cX5_write 106 = .ok (.aload_n 3, 1) := by decide +kernel
theorem dX5_write_107 : decode cX5_write 107 = .ok (.getfield 120, 3) := by decide +kernel
theorem dX5_write_110 : decode cX5_write 110 = .ok (.ireturn, 1) := by decide +kernel
abbrev rmX5_write : Room := { frames := 1, cells := 0, slots := 0, locals := 22 }
set_option maxRecDepth 100000 in
theorem hinX5_write_5 : ∀ w ∈ wsX50, w ∈ wsX5_write := by decide +kernel
set_option maxRecDepth 100000 in
theorem hinX5_write_3 : ∀ w ∈ wsX30, w ∈ wsX5_write := by decide +kernel
def fX5_write_76b (k76 : AH → Nat → Int64 → Int32 → Option (Int32 × AH)) (a1 : Int32) (a2 : Int32) (h : AH) (x3 : Nat) (x4 : Int64) (x6 : Int32) : Option (Int32 × AH) :=
  if (h.1 x3 2) ≤ x6 then (
    some (h.1 x3 2, h)) else (
  bR (fX5_bitOf h x4 x6) fun r1 =>
  ck (inb x6 64) <|
  nm (sL h (x3 + 4) x6.toNatClampNeg (r1.toInt64)) fun h2 =>
  nm (x6 + 1) fun v3 =>
  k76 h2 x3 x4 v3)
set_option maxHeartbeats 4000000 in
set_option maxRecDepth 100000 in
theorem tX5_write_76b {h : AH} {a1 : Int32} {a2 : Int32} {k76 : AH → Nat → Int64 → Int32 → Option (Int32 × AH)} {x3 : Nat} {x4 : Int64} {x6 : Int32} {r0 : Int32} {h0 : AH} (C : Cx p rmX5_write s m args meth c RX5 cX5_write 7 (some .int) wsX5_write D ad cy tb 0 0) (H76 : ∀ (h : AH) (x3 : Nat) (x4 : Int64) (x6 : Int32), kd x3 = 3 → k76 h x3 x4 x6 = some (r0, h0) → AW p l e rmX5_write s m args below meth c 7 D ad cy 0 0 (Qi D ad cy below args s r0 h0) 76 [(0, .ref (ad 0)), (1, .int a1), (2, .int a2), (3, .ref (ad x3)), (4, .long x4), (6, .int x6)] [] h) (hk_x3 : kd x3 = 3) (hf : fX5_write_76b k76 a1 a2 h x3 x4 x6 = some (r0, h0)) : AW p l e rmX5_write s m args below meth c 7 D ad cy 0 0 (Qi D ad cy below args s r0 h0) 76 [(0, .ref (ad 0)), (1, .int a1), (2, .int a2), (3, .ref (ad x3)), (4, .long x4), (6, .int x6)] [] h := by
  unfold fX5_write_76b at hf
  refine aw_iload C dX5_write_76 5 rfl ?_
  refine aw_aload_n C dX5_write_78 rfl 3 rfl ?_
  refine aw_getN (host := "StairCodes") C (kd_lt hk_x3 (by decide)) (ce_3 hk_x3) rfl hinX5_write_3 2 (by decide) rfl (by decide +kernel) rfl dX5_write_79 ?_
  refine aw_icmp_ge (tgt := 106) C dX5_write_82 (by decide) hf (fun hf => ?_) (fun hf => ?_)
  · refine aw_aload_n C dX5_write_106 rfl 3 rfl ?_
    refine aw_getN (host := "StairCodes") C (kd_lt hk_x3 (by decide)) (ce_3 hk_x3) rfl hinX5_write_3 2 (by decide) rfl (by decide +kernel) rfl dX5_write_107 ?_
    exact aw_iretW C dX5_write_110 hf
  refine aw_aload_n C dX5_write_85 rfl 3 rfl ?_
  refine aw_getN (host := "StairCodes") C (kd_lt hk_x3 (by decide)) (ce_3 hk_x3) rfl hinX5_write_3 3 (by decide) rfl (by decide +kernel) rfl dX5_write_86 ?_
  refine aw_iload C dX5_write_89 5 rfl ?_
  refine aw_lload C dX5_write_91 4 rfl ?_
  refine aw_iload C dX5_write_93 5 rfl ?_
  obtain ⟨r1, hc, hf⟩ := bR_some hf
  refine aw_callSi (As := [.long x4, .int x6]) (rest := [.int x6, .ref (ad (x3 + 4))]) C (kX5_bitOf (l := l) (D := D) (ad := ad) (cy := cy) (tb := tb) C.2.2.2.2.2.2.2.2.1 hc) (fun ht _ => va_cwS 2 ht gX5_write_X5_bitOf rfl rfl rfl (by decide +kernel) ⟨Nat.le_of_ble_eq_true rfl, Nat.le_of_ble_eq_true rfl⟩) rfl rfl (Nat.le_of_ble_eq_true rfl) dX5_write_95 ?_
  refine aw_i2l C dX5_write_98 ?_
  refine aw_last C (kd3a hk_x3) (ln3a hk_x3) hf dX5_write_99 (fun hf => ?_)
  refine aw_nmH hf (fun h2 hf => ?_)
  obtain ⟨v3, hvv3, hf⟩ := nm_ex hf
  refine aw_iinc (j := 5) (v := v3) (lv1 := [(6, .int v3), (0, .ref (ad 0)), (1, .int a1), (2, .int a2), (3, .ref (ad x3)), (4, .long x4)]) C dX5_write_100 rfl hvv3 (by decide) rfl ?_
  refine aw_goto (tgt := 76) C dX5_write_103 (by decide) ?_
  refine aw_sub [1, 2, 3, 4, 5, 0] rfl ?_
  exact H76 h2 x3 x4 v3 hk_x3 hf
def fX5_write_76 (a1 : Int32) (a2 : Int32) : Nat → AH → Nat → Int64 → Int32 → Option (Int32 × AH)
  | 0, _, _, _, _ => none
  | n + 1, h, x3, x4, x6 => fX5_write_76b (fX5_write_76 a1 a2 n) a1 a2 h x3 x4 x6
set_option maxHeartbeats 4000000 in
set_option maxRecDepth 100000 in
theorem tX5_write_76  {a1 : Int32} {a2 : Int32} {r0 : Int32} {h0 : AH} (C : Cx p rmX5_write s m args meth c RX5 cX5_write 7 (some .int) wsX5_write D ad cy tb 0 0) : ∀ (n : Nat) (h : AH) (x3 : Nat) (x4 : Int64) (x6 : Int32), kd x3 = 3 → fX5_write_76 a1 a2 n h x3 x4 x6 = some (r0, h0) → AW p l e rmX5_write s m args below meth c 7 D ad cy 0 0 (Qi D ad cy below args s r0 h0) 76 [(0, .ref (ad 0)), (1, .int a1), (2, .int a2), (3, .ref (ad x3)), (4, .long x4), (6, .int x6)] [] h := by
  intro n
  induction n with
  | zero => intro h x3 x4 x6 hk_x3 hf; cases hf
  | succ n ih => intro h x3 x4 x6 hk_x3 hf; exact tX5_write_76b C  ih hk_x3 hf
def fX5_write (h : AH) (a1 : Int32) (a2 : Int32) : Option (Int32 × AH) :=
  bR (fX5_isBlock h a1) fun r1 =>
  if r1 = 0 then (
    some ((-2), h)) else (
  bR (fX5_isSheet h a2) fun r2 =>
  if r2 = 0 then (
    some ((-2), h)) else (
  ck (inb a2 4) <|
  nm (21 + a2.toNatClampNeg) fun r3 =>
  if (h.1 r3 0) = 0 then (
    bR (fX5_now h a1) fun r4 =>
    if (h.1 r3 1) = 1 then (
      if (h.1 r3 2) = 0 then (
        some (0, h)) else (
      ck (inb 0 64) <|
      nm (sL h (r3 + 4) (0 : Int32).toNatClampNeg r4) fun h5 =>
      some (1, h5))) else (
    fX5_write_76  a1 a2 FU h r3 r4 0)) else (
  bW (fX5_finding h (-11)) fun r7 h6 =>
  some (r7, h6))))
set_option maxHeartbeats 4000000 in
set_option maxRecDepth 100000 in
theorem tX5_write_0 {h : AH} {a1 : Int32} {a2 : Int32} {r0 : Int32} {h0 : AH} (C : Cx p rmX5_write s m args meth c RX5 cX5_write 7 (some .int) wsX5_write D ad cy tb 0 0) (hf : fX5_write h a1 a2 = some (r0, h0)) : AW p l e rmX5_write s m args below meth c 7 D ad cy 0 0 (Qi D ad cy below args s r0 h0) 0 [(0, .ref (ad 0)), (1, .int a1), (2, .int a2)] [] h := by
  unfold fX5_write at hf
  refine aw_aload_n C dX5_write_0 rfl 0 rfl ?_
  refine aw_iload_n C dX5_write_1 rfl 1 rfl ?_
  obtain ⟨r1, hc, hf⟩ := bR_some hf
  refine aw_callVi (As := [.int a1]) (rest := []) C rfl (by decide) rfl (kX5_isBlock (l := l) (D := D) (ad := ad) (cy := cy) (tb := tb) C.2.2.2.2.2.2.2.2.1 hc) (fun ht _ => cwV 1 ht gX5_write_X5_isBlock rfl rfl rfl (by decide +kernel) ⟨Nat.le_of_ble_eq_true rfl, Nat.le_of_ble_eq_true rfl⟩) rfl rfl (Nat.le_of_ble_eq_true rfl) dX5_write_2 ?_
  refine aw_if_eq (tgt := 15) C dX5_write_5 (by decide) hf (fun hf => ?_) (fun hf => ?_)
  · refine aw_bipush (v := (-2)) C dX5_write_15 (by decide) ?_
    exact aw_iretW C dX5_write_17 hf
  refine aw_iload_n C dX5_write_8 rfl 2 rfl ?_
  obtain ⟨r2, hc, hf⟩ := bR_some hf
  refine aw_callSi (As := [.int a2]) (rest := []) C (kX5_isSheet (l := l) (D := D) (ad := ad) (cy := cy) (tb := tb) C.2.2.2.2.2.2.2.2.1 hc) (fun ht _ => va_cwS 1 ht gX5_write_X5_isSheet rfl rfl rfl (by decide +kernel) ⟨Nat.le_of_ble_eq_true rfl, Nat.le_of_ble_eq_true rfl⟩) rfl rfl (Nat.le_of_ble_eq_true rfl) dX5_write_9 ?_
  refine aw_if_ne (tgt := 18) C dX5_write_12 (by decide) hf (fun hf => ?_) (fun hf => ?_)
  · refine aw_aload_n C dX5_write_18 rfl 0 rfl ?_
    refine aw_get C (kd_lt rfl (by decide)) (ce_5 rfl) rfl hinX5_write_5 6 (by decide) rfl (by decide +kernel) rfl dX5_write_19 ?_
    refine aw_iload_n C dX5_write_22 rfl 2 rfl ?_
    refine aw_aald C hf dX5_write_23 (fun r3 hkr3 hf => ?_)
    refine aw_astore_n (lv1 := [(3, .ref (ad r3)), (0, .ref (ad 0)), (1, .int a1), (2, .int a2)]) C dX5_write_24 rfl (by decide) rfl ?_
    refine aw_aload_n C dX5_write_25 rfl 0 rfl ?_
    refine aw_getN (host := "StairCodes") C (kd_lt hkr3 (by decide)) (ce_3 hkr3) rfl hinX5_write_3 0 (by decide) rfl (by decide +kernel) rfl dX5_write_26 ?_
    refine aw_if_eq (tgt := 39) C dX5_write_29 (by decide) hf (fun hf => ?_) (fun hf => ?_)
    · refine aw_aload_n C dX5_write_39 rfl 1 rfl ?_
      refine aw_iload_n C dX5_write_40 rfl 2 rfl ?_
      obtain ⟨r4, hc, hf⟩ := bR_some hf
      refine aw_callVl (As := [.int a1]) (rest := []) C rfl (by decide) rfl (kX5_now (l := l) (D := D) (ad := ad) (cy := cy) (tb := tb) C.2.2.2.2.2.2.2.2.1 hc) (fun ht _ => cwV 1 ht gX5_write_X5_now rfl rfl rfl (by decide +kernel) ⟨Nat.le_of_ble_eq_true rfl, Nat.le_of_ble_eq_true rfl⟩) rfl rfl (Nat.le_of_ble_eq_true rfl) dX5_write_41 ?_
      refine aw_lstore (lv1 := [(4, .long r4), (3, .ref (ad r3)), (0, .ref (ad 0)), (1, .int a1), (2, .int a2)]) C dX5_write_44 (by decide) rfl ?_
      refine aw_aload_n C dX5_write_46 rfl 1 rfl ?_
      refine aw_getN (host := "StairCodes") C (kd_lt hkr3 (by decide)) (ce_3 hkr3) rfl hinX5_write_3 1 (by decide) rfl (by decide +kernel) rfl dX5_write_47 ?_
      refine aw_iconst (v := 1) C dX5_write_50 (by decide) ?_
      refine aw_icmp_ne (tgt := 73) C dX5_write_51 (by decide) hf (fun hf => ?_) (fun hf => ?_)
      · refine aw_iconst (v := 0) C dX5_write_73 (by decide) ?_
        refine aw_istore (lv1 := [(6, .int 0), (4, .long r4), (3, .ref (ad r3)), (0, .ref (ad 0)), (1, .int a1), (2, .int a2)]) C dX5_write_74 (by decide) rfl ?_
        refine aw_sub [3, 4, 5, 2, 1, 0] rfl ?_
        exact tX5_write_76 C   FU h r3 r4 0 hkr3 hf
      refine aw_aload_n C dX5_write_54 rfl 1 rfl ?_
      refine aw_getN (host := "StairCodes") C (kd_lt hkr3 (by decide)) (ce_3 hkr3) rfl hinX5_write_3 2 (by decide) rfl (by decide +kernel) rfl dX5_write_55 ?_
      refine aw_if_ne (tgt := 63) C dX5_write_58 (by decide) hf (fun hf => ?_) (fun hf => ?_)
      · refine aw_aload_n C dX5_write_63 rfl 1 rfl ?_
        refine aw_getN (host := "StairCodes") C (kd_lt hkr3 (by decide)) (ce_3 hkr3) rfl hinX5_write_3 3 (by decide) rfl (by decide +kernel) rfl dX5_write_64 ?_
        refine aw_iconst (v := 0) C dX5_write_67 (by decide) ?_
        refine aw_lload C dX5_write_68 0 rfl ?_
        refine aw_last C (kd3a hkr3) (ln3a hkr3) hf dX5_write_70 (fun hf => ?_)
        refine aw_nmH hf (fun h5 hf => ?_)
        refine aw_iconst (v := 1) C dX5_write_71 (by decide) ?_
        exact aw_iretW C dX5_write_72 hf
      refine aw_iconst (v := 0) C dX5_write_61 (by decide) ?_
      exact aw_iretW C dX5_write_62 hf
    refine aw_aload_n C dX5_write_32 rfl 1 rfl ?_
    refine aw_bipush (v := (-11)) C dX5_write_33 (by decide) ?_
    obtain ⟨r7, h6, hc, hf⟩ := bW_some hf
    refine aw_callVi (As := [.int (-11)]) (rest := []) C rfl (by decide) rfl (kX5_finding (l := l) (D := D) (ad := ad) (cy := cy) (tb := tb) C.2.2.2.2.2.2.2.2.1 hc) (fun ht _ => cwV 1 ht gX5_write_X5_finding rfl rfl rfl (by decide +kernel) ⟨Nat.le_of_ble_eq_true rfl, Nat.le_of_ble_eq_true rfl⟩) rfl rfl (Nat.le_of_ble_eq_true rfl) dX5_write_35 ?_
    exact aw_iretW C dX5_write_38 hf
  refine aw_bipush (v := (-2)) C dX5_write_15 (by decide) ?_
  exact aw_iretW C dX5_write_17 hf
theorem kX5_write {h : AH} {a1 : Int32} {a2 : Int32} {r0 : Int32} {h0 : AH} (hi : Inj ad) (hf : fX5_write h a1 a2 = some (r0, h0)) : Ki l yX5_write wsX5_write rmX5_write D ad cy tb [.ref (ad 0), .int a1, .int a2] h r0 h0 := met_i (lv := [(0, .ref (ad 0)), (1, .int a1), (2, .int a2)]) hi (by decide) rfl (Nat.le_of_ble_eq_true rfl) rfl rfl (fun _ _ _ _ _ _ _ _ C => tX5_write_0 C  hf)
set_option maxRecDepth 20000 in
theorem ggX6_write_X6_isBlock : GoodIn wsX6_write wsX6_isBlock := goodIn_r _ [8, 9, 10, 11, 7, 12, 38, 39, 40, 41, 42, 43, 44, 45, 46, 47, 48, 49, 50, 51, 52, 53, 54, 55] (by decide +kernel) (by decide +kernel)
set_option maxRecDepth 20000 in
theorem gX6_write_X6_isBlock : GoodIn wsX6_write (wsV RX6 77 RX6 yX6_isBlock wsX6_isBlock) := goodIn_app (goodIn_of _ (by decide +kernel)) ggX6_write_X6_isBlock
set_option maxRecDepth 20000 in
theorem ggX6_write_X6_isSheet : GoodIn wsX6_write wsX6_isSheet := goodIn_r _ [15, 10, 11, 7, 12] (by decide +kernel) (by decide +kernel)
set_option maxRecDepth 20000 in
theorem gX6_write_X6_isSheet : GoodIn wsX6_write (va_wsS RX6 103 yX6_isSheet wsX6_isSheet) := goodIn_app (goodIn_of _ (by decide +kernel)) ggX6_write_X6_isSheet
set_option maxRecDepth 20000 in
theorem ggX6_write_X6_meets : GoodIn wsX6_write wsX6_meets := goodIn_r _ [19, 20, 38, 39, 40, 41, 42, 43, 44, 45, 46, 47, 48, 49, 50, 51, 52, 53, 54, 55] (by decide +kernel) (by decide +kernel)
set_option maxRecDepth 20000 in
theorem gX6_write_X6_meets : GoodIn wsX6_write (wsV RX6 106 RX6 yX6_meets wsX6_meets) := goodIn_app (goodIn_of _ (by decide +kernel)) ggX6_write_X6_meets
set_option maxRecDepth 20000 in
theorem ggX6_write_X6_blockOf : GoodIn wsX6_write wsX6_blockOf := goodIn_r _ [24, 25, 26, 27, 7, 28, 29, 30, 31, 32, 33, 34, 35, 36, 37, 38, 39, 40, 41, 42, 43, 44, 45, 46, 47, 48, 49, 50, 51, 52, 53, 54, 55] (by decide +kernel) (by decide +kernel)
set_option maxRecDepth 20000 in
theorem gX6_write_X6_blockOf : GoodIn wsX6_write (wsV RX6 122 RX6 yX6_blockOf wsX6_blockOf) := goodIn_app (goodIn_of _ (by decide +kernel)) ggX6_write_X6_blockOf
set_option maxRecDepth 20000 in
theorem ggX6_write_X6_bitOf : GoodIn wsX6_write wsX6_bitOf := goodIn_r _ [28, 29, 30, 31, 32, 33, 34, 7, 35, 36, 37, 38, 39, 40, 41, 42, 43, 44, 45, 46, 47, 48, 49, 50, 51, 52, 53, 54, 55] (by decide +kernel) (by decide +kernel)
set_option maxRecDepth 20000 in
theorem gX6_write_X6_bitOf : GoodIn wsX6_write (wsV RX6 115 RX6 yX6_bitOf wsX6_bitOf) := goodIn_app (goodIn_of _ (by decide +kernel)) ggX6_write_X6_bitOf
theorem dX6_write_0 : decode cX6_write 0 = .ok (.aload_n 0, 1) := by decide +kernel
theorem dX6_write_1 : decode cX6_write 1 = .ok (.iload_n 1, 1) := by decide +kernel
theorem dX6_write_2 : decode cX6_write 2 = .ok (.invokevirtual 77, 3) := by decide +kernel
theorem dX6_write_5 : decode cX6_write 5 = .ok (.ifCond .eq 10, 3) := by decide +kernel
theorem dX6_write_8 : decode cX6_write 8 = .ok (.iload_n 2, 1) := by decide +kernel
theorem dX6_write_9 : decode cX6_write 9 = .ok (.invokestatic 103, 3) := by decide +kernel
theorem dX6_write_12 : decode cX6_write 12 = .ok (.ifCond .ne 6, 3) := by decide +kernel
theorem dX6_write_15 : decode cX6_write 15 = .ok (.bipush (-2), 2) := by decide +kernel
theorem dX6_write_17 : decode cX6_write 17 = .ok (.ireturn, 1) := by decide +kernel
theorem dX6_write_18 : decode cX6_write 18 = .ok (.aload_n 0, 1) := by decide +kernel
theorem dX6_write_19 : decode cX6_write 19 = .ok (.getfield 42, 3) := by decide +kernel
theorem dX6_write_22 : decode cX6_write 22 = .ok (.iload_n 2, 1) := by decide +kernel
theorem dX6_write_23 : decode cX6_write 23 = .ok (.iaload, 1) := by decide +kernel
theorem dX6_write_24 : decode cX6_write 24 = .ok (.iconst (-1), 1) := by decide +kernel
theorem dX6_write_25 : decode cX6_write 25 = .ok (.if_icmp .ne 9, 3) := by decide +kernel
theorem dX6_write_28 : decode cX6_write 28 = .ok (.aload_n 0, 1) := by decide +kernel
theorem dX6_write_29 : decode cX6_write 29 = .ok (.iconst 1, 1) := by decide +kernel
theorem dX6_write_30 : decode cX6_write 30 = .ok (.invokevirtual 106, 3) := by decide +kernel
theorem dX6_write_33 : decode cX6_write 33 = .ok (.ireturn, 1) := by decide +kernel
theorem dX6_write_34 : decode cX6_write 34 = .ok (.aload_n 0, 1) := by decide +kernel
theorem dX6_write_35 : decode cX6_write 35 = .ok (.getfield 42, 3) := by decide +kernel
theorem dX6_write_38 : decode cX6_write 38 = .ok (.iload_n 2, 1) := by decide +kernel
theorem dX6_write_39 : decode cX6_write 39 = .ok (.iaload, 1) := by decide +kernel
theorem dX6_write_40 : decode cX6_write 40 = .ok (.iconst 1, 1) := by decide +kernel
theorem dX6_write_41 : decode cX6_write 41 = .ok (.if_icmp .ne 17, 3) := by decide +kernel
theorem dX6_write_44 : decode cX6_write 44 = .ok (.aload_n 0, 1) := by decide +kernel
theorem dX6_write_45 : decode cX6_write 45 = .ok (.getfield 45, 3) := by decide +kernel
theorem dX6_write_48 : decode cX6_write 48 = .ok (.iload_n 2, 1) := by decide +kernel
theorem dX6_write_49 : decode cX6_write 49 = .ok (.iaload, 1) := by decide +kernel
theorem dX6_write_50 : decode cX6_write 50 = .ok (.iconst 1, 1) := by decide +kernel
theorem dX6_write_51 : decode cX6_write 51 = .ok (.if_icmp .le 7, 3) := by decide +kernel
theorem dX6_write_54 : decode cX6_write 54 = .ok (.iconst 1, 1) := by decide +kernel
theorem dX6_write_55 : decode cX6_write 55 = .ok (.goto 9, 3) := by decide +kernel
theorem dX6_write_58 : decode cX6_write 58 = .ok (.aload_n 0, 1) := by decide +kernel
theorem dX6_write_59 : decode cX6_write 59 = .ok (.getfield 45, 3) := by decide +kernel
theorem dX6_write_62 : decode cX6_write 62 = .ok (.iload_n 2, 1) := by decide +kernel
theorem dX6_write_63 : decode cX6_write 63 = .ok (.iaload, 1) := by decide +kernel
theorem dX6_write_64 : decode cX6_write 64 = .ok (.istore_n 3, 1) := by decide +kernel
theorem dX6_write_65 : decode cX6_write 65 = .ok (.iconst 0, 1) := by decide +kernel
theorem dX6_write_66 : decode cX6_write 66 = .ok (.istore 4, 2) := by decide +kernel
theorem dX6_write_68 : decode cX6_write 68 = .ok (.iload 4, 2) := by decide +kernel
theorem dX6_write_70 : decode cX6_write 70 = .ok (.iload_n 3, 1) := by decide +kernel
theorem dX6_write_71 : decode cX6_write 71 = .ok (.if_icmp .ge 52, 3) := by decide +kernel
theorem dX6_write_74 : decode cX6_write 74 = .ok (.aload_n 0, 1) := by decide +kernel
theorem dX6_write_75 : decode cX6_write 75 = .ok (.getfield 48, 3) := by decide +kernel
theorem dX6_write_78 : decode cX6_write 78 = .ok (.bipush 64, 2) := by decide +kernel
theorem dX6_write_80 : decode cX6_write 80 = .ok (.iload_n 2, 1) := by decide +kernel
theorem dX6_write_81 : decode cX6_write 81 = .ok (.imul, 1) := by decide +kernel
theorem dX6_write_82 : decode cX6_write 82 = .ok (.iload 4, 2) := by decide +kernel
theorem dX6_write_84 : decode cX6_write 84 = .ok (.iadd, 1) := by decide +kernel
theorem dX6_write_85 : decode cX6_write 85 = .ok (.aload_n 0, 1) := by decide +kernel
theorem dX6_write_86 : decode cX6_write 86 = .ok (.getfield 42, 3) := by decide +kernel
theorem dX6_write_89 : decode cX6_write 89 = .ok (.iload_n 2, 1) := by decide +kernel
theorem dX6_write_90 : decode cX6_write 90 = .ok (.iaload, 1) := by decide +kernel
theorem dX6_write_91 : decode cX6_write 91 = .ok (.iconst 1, 1) := by decide +kernel
theorem dX6_write_92 : decode cX6_write 92 = .ok (.if_icmp .ne 11, 3) := by decide +kernel
theorem dX6_write_95 : decode cX6_write 95 = .ok (.aload_n 0, 1) := by decide +kernel
theorem dX6_write_96 : decode cX6_write 96 = .ok (.iload_n 1, 1) := by decide +kernel
theorem dX6_write_97 : decode cX6_write 97 = .ok (.invokevirtual 122, 3) := by decide +kernel
theorem dX6_write_100 : decode cX6_write 100 = .ok (.goto 16, 3) := by decide +kernel
theorem dX6_write_103 : decode cX6_write 103 = .ok (.aload_n 0, 1) := by decide +kernel
theorem dX6_write_104 : decode cX6_write 104 = .ok (.bipush 64, 2) := by decide +kernel
theorem dX6_write_106 : decode cX6_write 106 = .ok (.iload_n 1, 1) := by decide +kernel
theorem dX6_write_107 : decode cX6_write 107 = .ok (.imul, 1) := by decide +kernel
theorem dX6_write_108 : decode cX6_write 108 = .ok (.iload 4, 2) := by decide +kernel
theorem dX6_write_110 : decode cX6_write 110 = .ok (.iadd, 1) := by decide +kernel
theorem dX6_write_111 : decode cX6_write 111 = .ok (.iconst 0, 1) := by decide +kernel
theorem dX6_write_112 : decode cX6_write 112 = .ok (.invokevirtual 115, 3) := by decide +kernel
theorem dX6_write_115 : decode cX6_write 115 = .ok (.i2l, 1) := by decide +kernel
theorem dX6_write_116 : decode cX6_write 116 = .ok (.lastore, 1) := by decide +kernel
theorem dX6_write_117 : decode cX6_write 117 = .ok (.iinc 4 1, 3) := by decide +kernel
theorem dX6_write_120 : decode cX6_write 120 = .ok (.goto (-52), 3) := by decide +kernel
theorem dX6_write_123 : decode cX6_write 123 = .ok (.iload_n 3, 1) := by decide +kernel
theorem dX6_write_124 : decode cX6_write 124 = .ok (.ireturn, 1) := by decide +kernel
abbrev rmX6_write : Room := { frames := 3, cells := 0, slots := 0, locals := 69 }
set_option maxRecDepth 100000 in
theorem hinX6_write_6 : ∀ w ∈ wsX60, w ∈ wsX6_write := by decide +kernel
def fX6_write_116 (k68 : AH → Int32 → Int32 → Option (Int32 × AH)) (a1 : Int32) (a2 : Int32) (h : AH) (x3 : Int32) (x4 : Int32) (s1 : Int32) (s2 : Int64) : Option (Int32 × AH) :=
  ck (inb s1 256) <|
  nm (sL h 41 s1.toNatClampNeg s2) fun h1 =>
  nm (x4 + 1) fun v2 =>
  k68 h1 x3 v2
set_option maxHeartbeats 4000000 in
set_option maxRecDepth 100000 in
theorem tX6_write_116 {h : AH} {a1 : Int32} {a2 : Int32} {k68 : AH → Int32 → Int32 → Option (Int32 × AH)} {x3 : Int32} {x4 : Int32} {s1 : Int32} {s2 : Int64} {r0 : Int32} {h0 : AH} (C : Cx p rmX6_write s m args meth c RX6 cX6_write 5 (some .int) wsX6_write D ad cy tb 0 0) (H68 : ∀ (h : AH) (x3 : Int32) (x4 : Int32), k68 h x3 x4 = some (r0, h0) → AW p l e rmX6_write s m args below meth c 5 D ad cy 0 0 (Qi D ad cy below args s r0 h0) 68 [(0, .ref (ad 29)), (1, .int a1), (2, .int a2), (3, .int x3), (4, .int x4)] [] h) (hf : fX6_write_116 k68 a1 a2 h x3 x4 s1 s2 = some (r0, h0)) : AW p l e rmX6_write s m args below meth c 5 D ad cy 0 0 (Qi D ad cy below args s r0 h0) 116 [(0, .ref (ad 29)), (1, .int a1), (2, .int a2), (3, .int x3), (4, .int x4)] [.long s2, .int s1, .ref (ad 41)] h := by
  unfold fX6_write_116 at hf
  refine aw_last C rfl rfl hf dX6_write_116 (fun hf => ?_)
  refine aw_nmH hf (fun h1 hf => ?_)
  obtain ⟨v2, hvv2, hf⟩ := nm_ex hf
  refine aw_iinc (j := 4) (v := v2) (lv1 := [(4, .int v2), (0, .ref (ad 29)), (1, .int a1), (2, .int a2), (3, .int x3)]) C dX6_write_117 rfl hvv2 (by decide) rfl ?_
  refine aw_goto (tgt := 68) C dX6_write_120 (by decide) ?_
  refine aw_sub [1, 2, 3, 4, 0] rfl ?_
  exact H68 h1 x3 v2 hf
def fX6_write_68b (k68 : AH → Int32 → Int32 → Option (Int32 × AH)) (a1 : Int32) (a2 : Int32) (h : AH) (x3 : Int32) (x4 : Int32) : Option (Int32 × AH) :=
  if x3 ≤ x4 then (
    some (x3, h)) else (
  ck (inb a2 4) <|
  if (h.1 39 a2.toNatClampNeg) = 1 then (
    bR (fX6_blockOf h a1) fun r2 =>
    fX6_write_116 k68 a1 a2 h x3 x4 ((64 * a2) + x4) r2) else (
  bR (fX6_bitOf h ((64 * a1) + x4) 0) fun r1 =>
  fX6_write_116 k68 a1 a2 h x3 x4 ((64 * a2) + x4) (r1.toInt64)))
set_option maxHeartbeats 4000000 in
set_option maxRecDepth 100000 in
theorem tX6_write_68b {h : AH} {a1 : Int32} {a2 : Int32} {k68 : AH → Int32 → Int32 → Option (Int32 × AH)} {x3 : Int32} {x4 : Int32} {r0 : Int32} {h0 : AH} (C : Cx p rmX6_write s m args meth c RX6 cX6_write 5 (some .int) wsX6_write D ad cy tb 0 0) (H68 : ∀ (h : AH) (x3 : Int32) (x4 : Int32), k68 h x3 x4 = some (r0, h0) → AW p l e rmX6_write s m args below meth c 5 D ad cy 0 0 (Qi D ad cy below args s r0 h0) 68 [(0, .ref (ad 29)), (1, .int a1), (2, .int a2), (3, .int x3), (4, .int x4)] [] h) (hf : fX6_write_68b k68 a1 a2 h x3 x4 = some (r0, h0)) : AW p l e rmX6_write s m args below meth c 5 D ad cy 0 0 (Qi D ad cy below args s r0 h0) 68 [(0, .ref (ad 29)), (1, .int a1), (2, .int a2), (3, .int x3), (4, .int x4)] [] h := by
  unfold fX6_write_68b at hf
  refine aw_iload C dX6_write_68 4 rfl ?_
  refine aw_iload_n C dX6_write_70 rfl 3 rfl ?_
  refine aw_icmp_ge (tgt := 123) C dX6_write_71 (by decide) hf (fun hf => ?_) (fun hf => ?_)
  · refine aw_iload_n C dX6_write_123 rfl 3 rfl ?_
    exact aw_iretW C dX6_write_124 hf
  refine aw_aload_n C dX6_write_74 rfl 0 rfl ?_
  refine aw_get C (kd_lt rfl (by decide)) (ce_6 rfl) rfl hinX6_write_6 15 (by decide) rfl (by decide +kernel) rfl dX6_write_75 ?_
  refine aw_bipush (v := 64) C dX6_write_78 (by decide) ?_
  refine aw_iload_n C dX6_write_80 rfl 2 rfl ?_
  refine aw_imul C dX6_write_81 ?_
  refine aw_iload C dX6_write_82 4 rfl ?_
  refine aw_iadd C dX6_write_84 ?_
  refine aw_aload_n C dX6_write_85 rfl 0 rfl ?_
  refine aw_get C (kd_lt rfl (by decide)) (ce_6 rfl) rfl hinX6_write_6 13 (by decide) rfl (by decide +kernel) rfl dX6_write_86 ?_
  refine aw_iload_n C dX6_write_89 rfl 2 rfl ?_
  refine aw_iald C rfl rfl hf dX6_write_90 (fun hf => ?_)
  refine aw_iconst (v := 1) C dX6_write_91 (by decide) ?_
  refine aw_icmp_ne (tgt := 103) C dX6_write_92 (by decide) hf (fun hf => ?_) (fun hf => ?_)
  · refine aw_aload_n C dX6_write_103 rfl 0 rfl ?_
    refine aw_bipush (v := 64) C dX6_write_104 (by decide) ?_
    refine aw_iload_n C dX6_write_106 rfl 1 rfl ?_
    refine aw_imul C dX6_write_107 ?_
    refine aw_iload C dX6_write_108 4 rfl ?_
    refine aw_iadd C dX6_write_110 ?_
    refine aw_iconst (v := 0) C dX6_write_111 (by decide) ?_
    obtain ⟨r1, hc, hf⟩ := bR_some hf
    refine aw_callVi (As := [.int ((64 * a1) + x4), .int 0]) (rest := [.int ((64 * a2) + x4), .ref (ad 41)]) C rfl (by decide) rfl (kX6_bitOf (l := l) (D := D) (ad := ad) (cy := cy) (tb := tb) C.2.2.2.2.2.2.2.2.1 hc) (fun ht _ => cwV 2 ht gX6_write_X6_bitOf rfl rfl rfl (by decide +kernel) ⟨Nat.le_of_ble_eq_true rfl, Nat.le_of_ble_eq_true rfl⟩) rfl rfl (Nat.le_of_ble_eq_true rfl) dX6_write_112 ?_
    refine aw_i2l C dX6_write_115 ?_
    refine aw_sub [0, 1, 2, 3, 4] rfl ?_
    exact tX6_write_116 C  H68 hf
  refine aw_aload_n C dX6_write_95 rfl 0 rfl ?_
  refine aw_iload_n C dX6_write_96 rfl 1 rfl ?_
  obtain ⟨r2, hc, hf⟩ := bR_some hf
  refine aw_callVl (As := [.int a1]) (rest := [.int ((64 * a2) + x4), .ref (ad 41)]) C rfl (by decide) rfl (kX6_blockOf (l := l) (D := D) (ad := ad) (cy := cy) (tb := tb) C.2.2.2.2.2.2.2.2.1 hc) (fun ht _ => cwV 1 ht gX6_write_X6_blockOf rfl rfl rfl (by decide +kernel) ⟨Nat.le_of_ble_eq_true rfl, Nat.le_of_ble_eq_true rfl⟩) rfl rfl (Nat.le_of_ble_eq_true rfl) dX6_write_97 ?_
  refine aw_goto (tgt := 116) C dX6_write_100 (by decide) ?_
  refine aw_sub [0, 1, 2, 3, 4] rfl ?_
  exact tX6_write_116 C  H68 hf
def fX6_write_68 (a1 : Int32) (a2 : Int32) : Nat → AH → Int32 → Int32 → Option (Int32 × AH)
  | 0, _, _, _ => none
  | n + 1, h, x3, x4 => fX6_write_68b (fX6_write_68 a1 a2 n) a1 a2 h x3 x4
set_option maxHeartbeats 4000000 in
set_option maxRecDepth 100000 in
theorem tX6_write_68  {a1 : Int32} {a2 : Int32} {r0 : Int32} {h0 : AH} (C : Cx p rmX6_write s m args meth c RX6 cX6_write 5 (some .int) wsX6_write D ad cy tb 0 0) : ∀ (n : Nat) (h : AH) (x3 : Int32) (x4 : Int32), fX6_write_68 a1 a2 n h x3 x4 = some (r0, h0) → AW p l e rmX6_write s m args below meth c 5 D ad cy 0 0 (Qi D ad cy below args s r0 h0) 68 [(0, .ref (ad 29)), (1, .int a1), (2, .int a2), (3, .int x3), (4, .int x4)] [] h := by
  intro n
  induction n with
  | zero => intro h x3 x4 hf; cases hf
  | succ n ih => intro h x3 x4 hf; exact tX6_write_68b C  ih  hf
def fX6_write_64 (a1 : Int32) (a2 : Int32) (h : AH) (s0 : Int32) : Option (Int32 × AH) :=
  fX6_write_68  a1 a2 FU h s0 0
set_option maxHeartbeats 4000000 in
set_option maxRecDepth 100000 in
theorem tX6_write_64 {h : AH} {a1 : Int32} {a2 : Int32} {s0 : Int32} {r0 : Int32} {h0 : AH} (C : Cx p rmX6_write s m args meth c RX6 cX6_write 5 (some .int) wsX6_write D ad cy tb 0 0) (hf : fX6_write_64 a1 a2 h s0 = some (r0, h0)) : AW p l e rmX6_write s m args below meth c 5 D ad cy 0 0 (Qi D ad cy below args s r0 h0) 64 [(0, .ref (ad 29)), (1, .int a1), (2, .int a2)] [.int s0] h := by
  unfold fX6_write_64 at hf
  refine aw_istore_n (lv1 := [(3, .int s0), (0, .ref (ad 29)), (1, .int a1), (2, .int a2)]) C dX6_write_64 rfl (by decide) rfl ?_
  refine aw_iconst (v := 0) C dX6_write_65 (by decide) ?_
  refine aw_istore (lv1 := [(4, .int 0), (3, .int s0), (0, .ref (ad 29)), (1, .int a1), (2, .int a2)]) C dX6_write_66 (by decide) rfl ?_
  refine aw_sub [2, 3, 4, 1, 0] rfl ?_
  exact tX6_write_68 C   FU h s0 0 hf
def fX6_write_58 (a1 : Int32) (a2 : Int32) (h : AH) : Option (Int32 × AH) :=
  ck (inb a2 4) <|
  fX6_write_64  a1 a2 h (h.1 40 a2.toNatClampNeg)
set_option maxHeartbeats 4000000 in
set_option maxRecDepth 100000 in
theorem tX6_write_58 {h : AH} {a1 : Int32} {a2 : Int32} {r0 : Int32} {h0 : AH} (C : Cx p rmX6_write s m args meth c RX6 cX6_write 5 (some .int) wsX6_write D ad cy tb 0 0) (hf : fX6_write_58 a1 a2 h = some (r0, h0)) : AW p l e rmX6_write s m args below meth c 5 D ad cy 0 0 (Qi D ad cy below args s r0 h0) 58 [(0, .ref (ad 29)), (1, .int a1), (2, .int a2)] [] h := by
  unfold fX6_write_58 at hf
  refine aw_aload_n C dX6_write_58 rfl 0 rfl ?_
  refine aw_get C (kd_lt rfl (by decide)) (ce_6 rfl) rfl hinX6_write_6 14 (by decide) rfl (by decide +kernel) rfl dX6_write_59 ?_
  refine aw_iload_n C dX6_write_62 rfl 2 rfl ?_
  refine aw_iald C rfl rfl hf dX6_write_63 (fun hf => ?_)
  refine aw_sub [0, 1, 2] rfl ?_
  exact tX6_write_64 C   hf
def fX6_write (h : AH) (a1 : Int32) (a2 : Int32) : Option (Int32 × AH) :=
  bR (fX6_isBlock h a1) fun r1 =>
  if r1 = 0 then (
    some ((-2), h)) else (
  bR (fX6_isSheet h a2) fun r2 =>
  if r2 = 0 then (
    some ((-2), h)) else (
  ck (inb a2 4) <|
  if (h.1 39 a2.toNatClampNeg) = (-1) then (
    bW (fX6_meets h 1) fun r4 h3 =>
    some (r4, h3)) else (
  ck (inb a2 4) <|
  if (h.1 39 a2.toNatClampNeg) = 1 then (
    ck (inb a2 4) <|
    if (h.1 40 a2.toNatClampNeg) ≤ 1 then (
      fX6_write_58  a1 a2 h) else (
    fX6_write_64  a1 a2 h 1)) else (
  fX6_write_58  a1 a2 h))))
set_option maxHeartbeats 4000000 in
set_option maxRecDepth 100000 in
theorem tX6_write_0 {h : AH} {a1 : Int32} {a2 : Int32} {r0 : Int32} {h0 : AH} (C : Cx p rmX6_write s m args meth c RX6 cX6_write 5 (some .int) wsX6_write D ad cy tb 0 0) (hf : fX6_write h a1 a2 = some (r0, h0)) : AW p l e rmX6_write s m args below meth c 5 D ad cy 0 0 (Qi D ad cy below args s r0 h0) 0 [(0, .ref (ad 29)), (1, .int a1), (2, .int a2)] [] h := by
  unfold fX6_write at hf
  refine aw_aload_n C dX6_write_0 rfl 0 rfl ?_
  refine aw_iload_n C dX6_write_1 rfl 1 rfl ?_
  obtain ⟨r1, hc, hf⟩ := bR_some hf
  refine aw_callVi (As := [.int a1]) (rest := []) C rfl (by decide) rfl (kX6_isBlock (l := l) (D := D) (ad := ad) (cy := cy) (tb := tb) C.2.2.2.2.2.2.2.2.1 hc) (fun ht _ => cwV 1 ht gX6_write_X6_isBlock rfl rfl rfl (by decide +kernel) ⟨Nat.le_of_ble_eq_true rfl, Nat.le_of_ble_eq_true rfl⟩) rfl rfl (Nat.le_of_ble_eq_true rfl) dX6_write_2 ?_
  refine aw_if_eq (tgt := 15) C dX6_write_5 (by decide) hf (fun hf => ?_) (fun hf => ?_)
  · refine aw_bipush (v := (-2)) C dX6_write_15 (by decide) ?_
    exact aw_iretW C dX6_write_17 hf
  refine aw_iload_n C dX6_write_8 rfl 2 rfl ?_
  obtain ⟨r2, hc, hf⟩ := bR_some hf
  refine aw_callSi (As := [.int a2]) (rest := []) C (kX6_isSheet (l := l) (D := D) (ad := ad) (cy := cy) (tb := tb) C.2.2.2.2.2.2.2.2.1 hc) (fun ht _ => va_cwS 1 ht gX6_write_X6_isSheet rfl rfl rfl (by decide +kernel) ⟨Nat.le_of_ble_eq_true rfl, Nat.le_of_ble_eq_true rfl⟩) rfl rfl (Nat.le_of_ble_eq_true rfl) dX6_write_9 ?_
  refine aw_if_ne (tgt := 18) C dX6_write_12 (by decide) hf (fun hf => ?_) (fun hf => ?_)
  · refine aw_aload_n C dX6_write_18 rfl 0 rfl ?_
    refine aw_get C (kd_lt rfl (by decide)) (ce_6 rfl) rfl hinX6_write_6 13 (by decide) rfl (by decide +kernel) rfl dX6_write_19 ?_
    refine aw_iload_n C dX6_write_22 rfl 2 rfl ?_
    refine aw_iald C rfl rfl hf dX6_write_23 (fun hf => ?_)
    refine aw_iconst (v := (-1)) C dX6_write_24 (by decide) ?_
    refine aw_icmp_ne (tgt := 34) C dX6_write_25 (by decide) hf (fun hf => ?_) (fun hf => ?_)
    · refine aw_aload_n C dX6_write_34 rfl 0 rfl ?_
      refine aw_get C (kd_lt rfl (by decide)) (ce_6 rfl) rfl hinX6_write_6 13 (by decide) rfl (by decide +kernel) rfl dX6_write_35 ?_
      refine aw_iload_n C dX6_write_38 rfl 2 rfl ?_
      refine aw_iald C rfl rfl hf dX6_write_39 (fun hf => ?_)
      refine aw_iconst (v := 1) C dX6_write_40 (by decide) ?_
      refine aw_icmp_ne (tgt := 58) C dX6_write_41 (by decide) hf (fun hf => ?_) (fun hf => ?_)
      · refine aw_sub [0, 1, 2] rfl ?_
        exact tX6_write_58 C   hf
      refine aw_aload_n C dX6_write_44 rfl 0 rfl ?_
      refine aw_get C (kd_lt rfl (by decide)) (ce_6 rfl) rfl hinX6_write_6 14 (by decide) rfl (by decide +kernel) rfl dX6_write_45 ?_
      refine aw_iload_n C dX6_write_48 rfl 2 rfl ?_
      refine aw_iald C rfl rfl hf dX6_write_49 (fun hf => ?_)
      refine aw_iconst (v := 1) C dX6_write_50 (by decide) ?_
      refine aw_icmp_le (tgt := 58) C dX6_write_51 (by decide) hf (fun hf => ?_) (fun hf => ?_)
      · refine aw_sub [0, 1, 2] rfl ?_
        exact tX6_write_58 C   hf
      refine aw_iconst (v := 1) C dX6_write_54 (by decide) ?_
      refine aw_goto (tgt := 64) C dX6_write_55 (by decide) ?_
      refine aw_sub [0, 1, 2] rfl ?_
      exact tX6_write_64 C   hf
    refine aw_aload_n C dX6_write_28 rfl 0 rfl ?_
    refine aw_iconst (v := 1) C dX6_write_29 (by decide) ?_
    obtain ⟨r4, h3, hc, hf⟩ := bW_some hf
    refine aw_callVi (As := [.int 1]) (rest := []) C rfl (by decide) rfl (kX6_meets (l := l) (D := D) (ad := ad) (cy := cy) (tb := tb) C.2.2.2.2.2.2.2.2.1 hc) (fun ht _ => cwV 1 ht gX6_write_X6_meets rfl rfl rfl (by decide +kernel) ⟨Nat.le_of_ble_eq_true rfl, Nat.le_of_ble_eq_true rfl⟩) rfl rfl (Nat.le_of_ble_eq_true rfl) dX6_write_30 ?_
    exact aw_iretW C dX6_write_33 hf
  refine aw_bipush (v := (-2)) C dX6_write_15 (by decide) ?_
  exact aw_iretW C dX6_write_17 hf
theorem kX6_write {h : AH} {a1 : Int32} {a2 : Int32} {r0 : Int32} {h0 : AH} (hi : Inj ad) (hf : fX6_write h a1 a2 = some (r0, h0)) : Ki l yX6_write wsX6_write rmX6_write D ad cy tb [.ref (ad 29), .int a1, .int a2] h r0 h0 := met_i (lv := [(0, .ref (ad 29)), (1, .int a1), (2, .int a2)]) hi (by decide) rfl (Nat.le_of_ble_eq_true rfl) rfl rfl (fun _ _ _ _ _ _ _ _ C => tX6_write_0 C  hf)
set_option maxRecDepth 20000 in
theorem ggX4_stalledWords_X4_endOfWords : GoodIn wsX4_stalledWords wsX4_endOfWords := goodIn_r _ [5, 6, 20, 21, 22] (by decide +kernel) (by decide +kernel)
set_option maxRecDepth 20000 in
theorem gX4_stalledWords_X4_endOfWords : GoodIn wsX4_stalledWords (wsV RX4 72 RX4 yX4_endOfWords wsX4_endOfWords) := goodIn_app (goodIn_of _ (by decide +kernel)) ggX4_stalledWords_X4_endOfWords
set_option maxRecDepth 20000 in
theorem ggX4_stalledWords_X4_isStalled : GoodIn wsX4_stalledWords wsX4_isStalled := goodIn_r _ [10, 11, 12, 13, 4, 14, 15, 16, 17, 18, 19, 20, 21, 22] (by decide +kernel) (by decide +kernel)
set_option maxRecDepth 20000 in
theorem gX4_stalledWords_X4_isStalled : GoodIn wsX4_stalledWords (wsV RX4 76 RX4 yX4_isStalled wsX4_isStalled) := goodIn_app (goodIn_of _ (by decide +kernel)) ggX4_stalledWords_X4_isStalled
theorem dX4_stalledWords_0 : decode cX4_stalledWords 0 = .ok (.iconst 0, 1) := by decide +kernel
theorem dX4_stalledWords_1 : decode cX4_stalledWords 1 = .ok (.istore_n 1, 1) := by decide +kernel
theorem dX4_stalledWords_2 : decode cX4_stalledWords 2 = .ok (.aload_n 0, 1) := by decide +kernel
theorem dX4_stalledWords_3 : decode cX4_stalledWords 3 = .ok (.invokevirtual 72, 3) := by decide +kernel
theorem dX4_stalledWords_6 : decode cX4_stalledWords 6 = .ok (.istore_n 2, 1) := by decide +kernel
theorem dX4_stalledWords_7 : decode cX4_stalledWords 7 = .ok (.bipush 8, 2) := by decide +kernel
theorem dX4_stalledWords_9 : decode cX4_stalledWords 9 = .ok (.istore_n 3, 1) := by decide +kernel
theorem dX4_stalledWords_10 : decode cX4_stalledWords 10 = .ok (.iload_n 3, 1) := by decide +kernel
theorem dX4_stalledWords_11 : decode cX4_stalledWords 11 = .ok (.iload_n 2, 1) := by decide +kernel
theorem dX4_stalledWords_12 : decode cX4_stalledWords 12 = .ok (.if_icmp .ge 20, 3) := by decide +kernel
theorem dX4_stalledWords_15 : decode cX4_stalledWords 15 = .ok (.aload_n 0, 1) := by decide +kernel
theorem dX4_stalledWords_16 : decode cX4_stalledWords 16 = .ok (.iload_n 3, 1) := by decide +kernel
theorem dX4_stalledWords_17 : decode cX4_stalledWords 17 = .ok (.invokevirtual 76, 3) := by decide +kernel
theorem dX4_stalledWords_20 : decode cX4_stalledWords 20 = .ok (.ifCond .eq 6, 3) := by decide +kernel
theorem dX4_stalledWords_23 : decode cX4_stalledWords 23 = .ok (.iinc 1 1, 3) := by decide +kernel
theorem dX4_stalledWords_26 : decode cX4_stalledWords 26 = .ok (.iinc 3 1, 3) := by decide +kernel
theorem dX4_stalledWords_29 : decode cX4_stalledWords 29 = .ok (.goto (-19), 3) := by decide +kernel
theorem dX4_stalledWords_32 : decode cX4_stalledWords 32 = .ok (.iload_n 1, 1) := by decide +kernel
theorem dX4_stalledWords_33 : decode cX4_stalledWords 33 = .ok (.ireturn, 1) := by decide +kernel
abbrev rmX4_stalledWords : Room := { frames := 2, cells := 0, slots := 0, locals := 42 }
def fX4_stalledWords_26 (k10 : Int32 → Int32 → Int32 → Option Int32) (h : AH) (a0 : Nat) (x1 : Int32) (x2 : Int32) (x3 : Int32) : Option Int32 :=
  nm (x3 + 1) fun v1 =>
  k10 x1 x2 v1
set_option maxHeartbeats 4000000 in
set_option maxRecDepth 100000 in
theorem tX4_stalledWords_26 {h : AH} {a0 : Nat} {k10 : Int32 → Int32 → Int32 → Option Int32} {x1 : Int32} {x2 : Int32} {x3 : Int32} {r0 : Int32} (C : Cx p rmX4_stalledWords s m args meth c RX4 cX4_stalledWords 4 (some .int) wsX4_stalledWords D ad cy tb 0 0) (hk0 : kd a0 = 4) (H10 : ∀ (x1 : Int32) (x2 : Int32) (x3 : Int32), k10 x1 x2 x3 = some r0 → AW p l e rmX4_stalledWords s m args below meth c 4 D ad cy 0 0 (Qi D ad cy below args s r0 h) 10 [(0, .ref (ad a0)), (1, .int x1), (2, .int x2), (3, .int x3)] [] h) (hf : fX4_stalledWords_26 k10 h a0 x1 x2 x3 = some r0) : AW p l e rmX4_stalledWords s m args below meth c 4 D ad cy 0 0 (Qi D ad cy below args s r0 h) 26 [(0, .ref (ad a0)), (1, .int x1), (2, .int x2), (3, .int x3)] [] h := by
  unfold fX4_stalledWords_26 at hf
  obtain ⟨v1, hvv1, hf⟩ := nm_ex hf
  refine aw_iinc (j := 3) (v := v1) (lv1 := [(3, .int v1), (0, .ref (ad a0)), (1, .int x1), (2, .int x2)]) C dX4_stalledWords_26 rfl hvv1 (by decide) rfl ?_
  refine aw_goto (tgt := 10) C dX4_stalledWords_29 (by decide) ?_
  refine aw_sub [1, 2, 3, 0] rfl ?_
  exact H10 x1 x2 v1 hf
def fX4_stalledWords_10b (k10 : Int32 → Int32 → Int32 → Option Int32) (h : AH) (a0 : Nat) (x1 : Int32) (x2 : Int32) (x3 : Int32) : Option Int32 :=
  if x2 ≤ x3 then (
    some x1) else (
  bR (fX4_isStalled h a0 x3) fun r1 =>
  if r1 = 0 then (
    fX4_stalledWords_26 k10 h a0 x1 x2 x3) else (
  nm (x1 + 1) fun v2 =>
  fX4_stalledWords_26 k10 h a0 v2 x2 x3))
set_option maxHeartbeats 4000000 in
set_option maxRecDepth 100000 in
theorem tX4_stalledWords_10b {h : AH} {a0 : Nat} {k10 : Int32 → Int32 → Int32 → Option Int32} {x1 : Int32} {x2 : Int32} {x3 : Int32} {r0 : Int32} (C : Cx p rmX4_stalledWords s m args meth c RX4 cX4_stalledWords 4 (some .int) wsX4_stalledWords D ad cy tb 0 0) (hk0 : kd a0 = 4) (H10 : ∀ (x1 : Int32) (x2 : Int32) (x3 : Int32), k10 x1 x2 x3 = some r0 → AW p l e rmX4_stalledWords s m args below meth c 4 D ad cy 0 0 (Qi D ad cy below args s r0 h) 10 [(0, .ref (ad a0)), (1, .int x1), (2, .int x2), (3, .int x3)] [] h) (hf : fX4_stalledWords_10b k10 h a0 x1 x2 x3 = some r0) : AW p l e rmX4_stalledWords s m args below meth c 4 D ad cy 0 0 (Qi D ad cy below args s r0 h) 10 [(0, .ref (ad a0)), (1, .int x1), (2, .int x2), (3, .int x3)] [] h := by
  unfold fX4_stalledWords_10b at hf
  refine aw_iload_n C dX4_stalledWords_10 rfl 3 rfl ?_
  refine aw_iload_n C dX4_stalledWords_11 rfl 2 rfl ?_
  refine aw_icmp_ge (tgt := 32) C dX4_stalledWords_12 (by decide) hf (fun hf => ?_) (fun hf => ?_)
  · refine aw_iload_n C dX4_stalledWords_32 rfl 1 rfl ?_
    exact aw_iretR C dX4_stalledWords_33 hf
  refine aw_aload_n C dX4_stalledWords_15 rfl 0 rfl ?_
  refine aw_iload_n C dX4_stalledWords_16 rfl 3 rfl ?_
  obtain ⟨r1, hc, hf⟩ := bR_some hf
  refine aw_callVi (As := [.int x3]) (rest := []) C hk0 (by decide) rfl (kX4_isStalled (l := l) (D := D) (ad := ad) (cy := cy) (tb := tb) C.2.2.2.2.2.2.2.2.1 hk0 hc) (fun ht _ => cwV 1 ht gX4_stalledWords_X4_isStalled rfl rfl rfl (by decide +kernel) ⟨Nat.le_of_ble_eq_true rfl, Nat.le_of_ble_eq_true rfl⟩) rfl rfl (Nat.le_of_ble_eq_true rfl) dX4_stalledWords_17 ?_
  refine aw_if_eq (tgt := 26) C dX4_stalledWords_20 (by decide) hf (fun hf => ?_) (fun hf => ?_)
  · refine aw_sub [0, 1, 2, 3] rfl ?_
    exact tX4_stalledWords_26 C hk0 H10 hf
  obtain ⟨v2, hvv2, hf⟩ := nm_ex hf
  refine aw_iinc (j := 1) (v := v2) (lv1 := [(1, .int v2), (0, .ref (ad a0)), (2, .int x2), (3, .int x3)]) C dX4_stalledWords_23 rfl hvv2 (by decide) rfl ?_
  refine aw_sub [1, 0, 2, 3] rfl ?_
  exact tX4_stalledWords_26 C hk0 H10 hf
def fX4_stalledWords_10 (h : AH) (a0 : Nat) : Nat → Int32 → Int32 → Int32 → Option Int32
  | 0, _, _, _ => none
  | n + 1, x1, x2, x3 => fX4_stalledWords_10b (fX4_stalledWords_10 h a0 n) h a0 x1 x2 x3
set_option maxHeartbeats 4000000 in
set_option maxRecDepth 100000 in
theorem tX4_stalledWords_10 {h : AH} {a0 : Nat} {r0 : Int32} (C : Cx p rmX4_stalledWords s m args meth c RX4 cX4_stalledWords 4 (some .int) wsX4_stalledWords D ad cy tb 0 0) (hk0 : kd a0 = 4) : ∀ (n : Nat) (x1 : Int32) (x2 : Int32) (x3 : Int32), fX4_stalledWords_10 h a0 n x1 x2 x3 = some r0 → AW p l e rmX4_stalledWords s m args below meth c 4 D ad cy 0 0 (Qi D ad cy below args s r0 h) 10 [(0, .ref (ad a0)), (1, .int x1), (2, .int x2), (3, .int x3)] [] h := by
  intro n
  induction n with
  | zero => intro x1 x2 x3 hf; cases hf
  | succ n ih => intro x1 x2 x3 hf; exact tX4_stalledWords_10b C hk0 ih  hf
def fX4_stalledWords (h : AH) (a0 : Nat) : Option Int32 :=
  bR (fX4_endOfWords h a0) fun r1 =>
  fX4_stalledWords_10  h a0 FU 0 r1 8
set_option maxHeartbeats 4000000 in
set_option maxRecDepth 100000 in
theorem tX4_stalledWords_0 {h : AH} {a0 : Nat} {r0 : Int32} (C : Cx p rmX4_stalledWords s m args meth c RX4 cX4_stalledWords 4 (some .int) wsX4_stalledWords D ad cy tb 0 0) (hk0 : kd a0 = 4) (hf : fX4_stalledWords h a0 = some r0) : AW p l e rmX4_stalledWords s m args below meth c 4 D ad cy 0 0 (Qi D ad cy below args s r0 h) 0 [(0, .ref (ad a0))] [] h := by
  unfold fX4_stalledWords at hf
  refine aw_iconst (v := 0) C dX4_stalledWords_0 (by decide) ?_
  refine aw_istore_n (lv1 := [(1, .int 0), (0, .ref (ad a0))]) C dX4_stalledWords_1 rfl (by decide) rfl ?_
  refine aw_aload_n C dX4_stalledWords_2 rfl 1 rfl ?_
  obtain ⟨r1, hc, hf⟩ := bR_some hf
  refine aw_callVi (As := []) (rest := []) C hk0 (by decide) rfl (kX4_endOfWords (l := l) (D := D) (ad := ad) (cy := cy) (tb := tb) C.2.2.2.2.2.2.2.2.1 hk0 hc) (fun ht _ => cwV 0 ht gX4_stalledWords_X4_endOfWords rfl rfl rfl (by decide +kernel) ⟨Nat.le_of_ble_eq_true rfl, Nat.le_of_ble_eq_true rfl⟩) rfl rfl (Nat.le_of_ble_eq_true rfl) dX4_stalledWords_3 ?_
  refine aw_istore_n (lv1 := [(2, .int r1), (1, .int 0), (0, .ref (ad a0))]) C dX4_stalledWords_6 rfl (by decide) rfl ?_
  refine aw_bipush (v := 8) C dX4_stalledWords_7 (by decide) ?_
  refine aw_istore_n (lv1 := [(3, .int 8), (2, .int r1), (1, .int 0), (0, .ref (ad a0))]) C dX4_stalledWords_9 rfl (by decide) rfl ?_
  refine aw_sub [3, 2, 1, 0] rfl ?_
  exact tX4_stalledWords_10 C hk0  FU 0 r1 8 hf
theorem kX4_stalledWords {h : AH} {a0 : Nat} {r0 : Int32} (hi : Inj ad) (hk0 : kd a0 = 4) (hf : fX4_stalledWords h a0 = some r0) : Ki l yX4_stalledWords wsX4_stalledWords rmX4_stalledWords D ad cy tb [.ref (ad a0)] h r0 h := met_i (lv := [(0, .ref (ad a0))]) hi (by decide) rfl (Nat.le_of_ble_eq_true rfl) rfl rfl (fun _ _ _ _ _ _ _ _ C => tX4_stalledWords_0 C hk0 hf)
set_option maxRecDepth 20000 in
theorem ggX5_falseBits_J13_bitCount_95d88 : GoodIn wsX5_falseBits wsJ13_bitCount_95d88 := goodIn_r _ [7, 8, 9, 10] (by decide +kernel) (by decide +kernel)
set_option maxRecDepth 20000 in
theorem gX5_falseBits_J13_bitCount_95d88 : GoodIn wsX5_falseBits (va_wsS RX5 304 yJ13_bitCount_95d88 wsJ13_bitCount_95d88) := goodIn_app (goodIn_of _ (by decide +kernel)) ggX5_falseBits_J13_bitCount_95d88
theorem dX5_falseBits_0 : decode cX5_falseBits 0 = .ok (.iconst 0, 1) := by decide +kernel
theorem dX5_falseBits_1 : decode cX5_falseBits 1 = .ok (.istore_n 1, 1) := by decide +kernel
theorem dX5_falseBits_2 : decode cX5_falseBits 2 = .ok (.iconst 1, 1) := by decide +kernel
theorem dX5_falseBits_3 : decode cX5_falseBits 3 = .ok (.istore_n 2, 1) := by decide +kernel
theorem dX5_falseBits_4 : decode cX5_falseBits 4 = .ok (.iload_n 2, 1) := by decide +kernel
theorem dX5_falseBits_5 : decode cX5_falseBits 5 = .ok (.aload_n 0, 1) := by decide +kernel
theorem dX5_falseBits_6 : decode cX5_falseBits 6 = .ok (.getfield 12, 3) := by decide +kernel
theorem dX5_falseBits_9 : decode cX5_falseBits 9 = .ok (.getfield 58, 3) := by decide +kernel
theorem dX5_falseBits_12 : decode cX5_falseBits 12 = .ok (.if_icmp .gt 35, 3) := by decide +kernel
theorem dX5_falseBits_15 : decode cX5_falseBits 15 = .ok (.iload_n 1, 1) := by decide +kernel
theorem dX5_falseBits_16 : decode cX5_falseBits 16 = .ok (.aload_n 0, 1) := by decide +kernel
theorem dX5_falseBits_17 : decode cX5_falseBits 17 = .ok (.getfield 12, 3) := by decide +kernel
theorem dX5_falseBits_20 : decode cX5_falseBits 20 = .ok (.getfield 140, 3) := by decide +kernel
theorem dX5_falseBits_23 : decode cX5_falseBits 23 = .ok (.iload_n 2, 1) := by decide +kernel
theorem dX5_falseBits_24 : decode cX5_falseBits 24 = .ok (.laload, 1) := by decide +kernel
theorem dX5_falseBits_25 : decode cX5_falseBits 25 = .ok (.aload_n 0, 1) := by decide +kernel
theorem dX5_falseBits_26 : decode cX5_falseBits 26 = .ok (.getfield 26, 3) := by decide +kernel
theorem dX5_falseBits_29 : decode cX5_falseBits 29 = .ok (.iload_n 2, 1) := by decide +kernel
theorem dX5_falseBits_30 : decode cX5_falseBits 30 = .ok (.laload, 1) := by decide +kernel
theorem dX5_falseBits_31 : decode cX5_falseBits 31 = .ok (.ldc2_w 302, 3) := by decide +kernel
theorem dX5_falseBits_34 : decode cX5_falseBits 34 = .ok (.lxor, 1) := by decide +kernel
theorem dX5_falseBits_35 : decode cX5_falseBits 35 = .ok (.land, 1) := by decide +kernel
theorem dX5_falseBits_36 : decode cX5_falseBits 36 = .ok (.invokestatic 304, 3) := by decide +kernel
theorem dX5_falseBits_39 : decode cX5_falseBits 39 = .ok (.iadd, 1) := by decide +kernel
theorem dX5_falseBits_40 : decode cX5_falseBits 40 = .ok (.istore_n 1, 1) := by decide +kernel
theorem dX5_falseBits_41 : decode cX5_falseBits 41 = .ok (.iinc 2 1, 3) := by decide +kernel
theorem dX5_falseBits_44 : decode cX5_falseBits 44 = .ok (.goto (-40), 3) := by decide +kernel
theorem dX5_falseBits_47 : decode cX5_falseBits 47 = .ok (.iload_n 1, 1) := by decide +kernel
theorem dX5_falseBits_48 : decode cX5_falseBits 48 = .ok (.ireturn, 1) := by decide +kernel
abbrev rmX5_falseBits : Room := { frames := 1, cells := 0, slots := 0, locals := 21 }
set_option maxRecDepth 100000 in
theorem hinX5_falseBits_5 : ∀ w ∈ wsX50, w ∈ wsX5_falseBits := by decide +kernel
set_option maxRecDepth 100000 in
theorem hinX5_falseBits_4 : ∀ w ∈ wsX40, w ∈ wsX5_falseBits := by decide +kernel
def fX5_falseBits_4b (k4 : Int32 → Int32 → Option Int32) (h : AH) (x1 : Int32) (x2 : Int32) : Option Int32 :=
  if (h.1 1 0) < x2 then (
    some x1) else (
  ck (inb x2 7) <|
  ck (inb x2 7) <|
  bR (fJ13_bitCount_95d88 h ((h.2 2 x2.toNatClampNeg) &&& ((h.2 10 x2.toNatClampNeg) ^^^ (-1)))) fun r1 =>
  nm (x1 + r1) fun v2 =>
  nm (x2 + 1) fun v3 =>
  k4 v2 v3)
set_option maxHeartbeats 4000000 in
set_option maxRecDepth 100000 in
theorem tX5_falseBits_4b {h : AH} {k4 : Int32 → Int32 → Option Int32} {x1 : Int32} {x2 : Int32} {r0 : Int32} (C : Cx p rmX5_falseBits s m args meth c RX5 cX5_falseBits 3 (some .int) wsX5_falseBits D ad cy tb 0 0) (H4 : ∀ (x1 : Int32) (x2 : Int32), k4 x1 x2 = some r0 → AW p l e rmX5_falseBits s m args below meth c 3 D ad cy 0 0 (Qi D ad cy below args s r0 h) 4 [(0, .ref (ad 0)), (1, .int x1), (2, .int x2)] [] h) (hf : fX5_falseBits_4b k4 h x1 x2 = some r0) : AW p l e rmX5_falseBits s m args below meth c 3 D ad cy 0 0 (Qi D ad cy below args s r0 h) 4 [(0, .ref (ad 0)), (1, .int x1), (2, .int x2)] [] h := by
  unfold fX5_falseBits_4b at hf
  refine aw_iload_n C dX5_falseBits_4 rfl 2 rfl ?_
  refine aw_aload_n C dX5_falseBits_5 rfl 0 rfl ?_
  refine aw_get C (kd_lt rfl (by decide)) (ce_5 rfl) rfl hinX5_falseBits_5 0 (by decide) rfl (by decide +kernel) rfl dX5_falseBits_6 ?_
  refine aw_getN (host := "StairCodes") C (kd_lt rfl (by decide)) (ce_4 rfl) rfl hinX5_falseBits_4 0 (by decide) rfl (by decide +kernel) rfl dX5_falseBits_9 ?_
  refine aw_icmp_gt (tgt := 47) C dX5_falseBits_12 (by decide) hf (fun hf => ?_) (fun hf => ?_)
  · refine aw_iload_n C dX5_falseBits_47 rfl 1 rfl ?_
    exact aw_iretR C dX5_falseBits_48 hf
  refine aw_iload_n C dX5_falseBits_15 rfl 1 rfl ?_
  refine aw_aload_n C dX5_falseBits_16 rfl 0 rfl ?_
  refine aw_get C (kd_lt rfl (by decide)) (ce_5 rfl) rfl hinX5_falseBits_5 0 (by decide) rfl (by decide +kernel) rfl dX5_falseBits_17 ?_
  refine aw_getN (host := "StairCodes") C (kd_lt rfl (by decide)) (ce_4 rfl) rfl hinX5_falseBits_4 1 (by decide) rfl (by decide +kernel) rfl dX5_falseBits_20 ?_
  refine aw_iload_n C dX5_falseBits_23 rfl 2 rfl ?_
  refine aw_lald C rfl rfl hf dX5_falseBits_24 (fun hf => ?_)
  refine aw_aload_n C dX5_falseBits_25 rfl 0 rfl ?_
  refine aw_get C (kd_lt rfl (by decide)) (ce_5 rfl) rfl hinX5_falseBits_5 3 (by decide) rfl (by decide +kernel) rfl dX5_falseBits_26 ?_
  refine aw_iload_n C dX5_falseBits_29 rfl 2 rfl ?_
  refine aw_lald C rfl rfl hf dX5_falseBits_30 (fun hf => ?_)
  refine aw_ldc2 (v := (-1)) C (by decide +kernel) dX5_falseBits_31 ?_
  refine aw_lxor C dX5_falseBits_34 ?_
  refine aw_land C dX5_falseBits_35 ?_
  obtain ⟨r1, hc, hf⟩ := bR_some hf
  refine aw_callSi (As := [.long ((h.2 2 x2.toNatClampNeg) &&& ((h.2 10 x2.toNatClampNeg) ^^^ (-1)))]) (rest := [.int x1]) C (kJ13_bitCount_95d88 (l := l) (D := D) (ad := ad) (cy := cy) (tb := tb) C.2.2.2.2.2.2.2.2.1 hc) (fun ht _ => va_cwS 1 ht gX5_falseBits_J13_bitCount_95d88 rfl rfl rfl (by decide +kernel) ⟨Nat.le_of_ble_eq_true rfl, Nat.le_of_ble_eq_true rfl⟩) rfl rfl (Nat.le_of_ble_eq_true rfl) dX5_falseBits_36 ?_
  refine aw_iadd C dX5_falseBits_39 ?_
  refine aw_nmI hf (fun v2 hf => ?_)
  refine aw_istore_n (lv1 := [(1, .int v2), (0, .ref (ad 0)), (2, .int x2)]) C dX5_falseBits_40 rfl (by decide) rfl ?_
  obtain ⟨v3, hvv3, hf⟩ := nm_ex hf
  refine aw_iinc (j := 2) (v := v3) (lv1 := [(2, .int v3), (1, .int v2), (0, .ref (ad 0))]) C dX5_falseBits_41 rfl hvv3 (by decide) rfl ?_
  refine aw_goto (tgt := 4) C dX5_falseBits_44 (by decide) ?_
  refine aw_sub [2, 1, 0] rfl ?_
  exact H4 v2 v3 hf
def fX5_falseBits_4 (h : AH) : Nat → Int32 → Int32 → Option Int32
  | 0, _, _ => none
  | n + 1, x1, x2 => fX5_falseBits_4b (fX5_falseBits_4 h n) h x1 x2
set_option maxHeartbeats 4000000 in
set_option maxRecDepth 100000 in
theorem tX5_falseBits_4 {h : AH} {r0 : Int32} (C : Cx p rmX5_falseBits s m args meth c RX5 cX5_falseBits 3 (some .int) wsX5_falseBits D ad cy tb 0 0) : ∀ (n : Nat) (x1 : Int32) (x2 : Int32), fX5_falseBits_4 h n x1 x2 = some r0 → AW p l e rmX5_falseBits s m args below meth c 3 D ad cy 0 0 (Qi D ad cy below args s r0 h) 4 [(0, .ref (ad 0)), (1, .int x1), (2, .int x2)] [] h := by
  intro n
  induction n with
  | zero => intro x1 x2 hf; cases hf
  | succ n ih => intro x1 x2 hf; exact tX5_falseBits_4b C  ih  hf
def fX5_falseBits (h : AH) : Option Int32 :=
  fX5_falseBits_4  h  FU 0 1
set_option maxHeartbeats 4000000 in
set_option maxRecDepth 100000 in
theorem tX5_falseBits_0 {h : AH} {r0 : Int32} (C : Cx p rmX5_falseBits s m args meth c RX5 cX5_falseBits 3 (some .int) wsX5_falseBits D ad cy tb 0 0) (hf : fX5_falseBits h = some r0) : AW p l e rmX5_falseBits s m args below meth c 3 D ad cy 0 0 (Qi D ad cy below args s r0 h) 0 [(0, .ref (ad 0))] [] h := by
  unfold fX5_falseBits at hf
  refine aw_iconst (v := 0) C dX5_falseBits_0 (by decide) ?_
  refine aw_istore_n (lv1 := [(1, .int 0), (0, .ref (ad 0))]) C dX5_falseBits_1 rfl (by decide) rfl ?_
  refine aw_iconst (v := 1) C dX5_falseBits_2 (by decide) ?_
  refine aw_istore_n (lv1 := [(2, .int 1), (1, .int 0), (0, .ref (ad 0))]) C dX5_falseBits_3 rfl (by decide) rfl ?_
  refine aw_sub [2, 1, 0] rfl ?_
  exact tX5_falseBits_4 C   FU 0 1 hf
theorem kX5_falseBits {h : AH} {r0 : Int32} (hi : Inj ad) (hf : fX5_falseBits h = some r0) : Ki l yX5_falseBits wsX5_falseBits rmX5_falseBits D ad cy tb [.ref (ad 0)] h r0 h := met_i (lv := [(0, .ref (ad 0))]) hi (by decide) rfl (Nat.le_of_ble_eq_true rfl) rfl rfl (fun _ _ _ _ _ _ _ _ C => tX5_falseBits_0 C  hf)
theorem dX1_stuckOnes_0 : decode cX1_stuckOnes 0 = .ok (.iconst 0, 1) := by decide +kernel
theorem dX1_stuckOnes_1 : decode cX1_stuckOnes 1 = .ok (.istore_n 1, 1) := by decide +kernel
theorem dX1_stuckOnes_2 : decode cX1_stuckOnes 2 = .ok (.iconst 0, 1) := by decide +kernel
theorem dX1_stuckOnes_3 : decode cX1_stuckOnes 3 = .ok (.istore_n 2, 1) := by decide +kernel
theorem dX1_stuckOnes_4 : decode cX1_stuckOnes 4 = .ok (.iload_n 2, 1) := by decide +kernel
theorem dX1_stuckOnes_5 : decode cX1_stuckOnes 5 = .ok (.aload_n 0, 1) := by decide +kernel
theorem dX1_stuckOnes_6 : decode cX1_stuckOnes 6 = .ok (.getfield 31, 3) := by decide +kernel
theorem dX1_stuckOnes_9 : decode cX1_stuckOnes 9 = .ok (.if_icmp .ge 18, 3) := by decide +kernel
theorem dX1_stuckOnes_12 : decode cX1_stuckOnes 12 = .ok (.iload_n 1, 1) := by decide +kernel
theorem dX1_stuckOnes_13 : decode cX1_stuckOnes 13 = .ok (.aload_n 0, 1) := by decide +kernel
theorem dX1_stuckOnes_14 : decode cX1_stuckOnes 14 = .ok (.getfield 18, 3) := by decide +kernel
theorem dX1_stuckOnes_17 : decode cX1_stuckOnes 17 = .ok (.iload_n 2, 1) := by decide +kernel
theorem dX1_stuckOnes_18 : decode cX1_stuckOnes 18 = .ok (.iaload, 1) := by decide +kernel
theorem dX1_stuckOnes_19 : decode cX1_stuckOnes 19 = .ok (.iadd, 1) := by decide +kernel
theorem dX1_stuckOnes_20 : decode cX1_stuckOnes 20 = .ok (.istore_n 1, 1) := by decide +kernel
theorem dX1_stuckOnes_21 : decode cX1_stuckOnes 21 = .ok (.iinc 2 1, 3) := by decide +kernel
theorem dX1_stuckOnes_24 : decode cX1_stuckOnes 24 = .ok (.goto (-20), 3) := by decide +kernel
theorem dX1_stuckOnes_27 : decode cX1_stuckOnes 27 = .ok (.iload_n 1, 1) := by decide +kernel
theorem dX1_stuckOnes_28 : decode cX1_stuckOnes 28 = .ok (.ireturn, 1) := by decide +kernel
abbrev rmX1_stuckOnes : Room := { frames := 0, cells := 0, slots := 0, locals := 0 }
set_option maxRecDepth 100000 in
theorem hinX1_stuckOnes_1 : ∀ w ∈ wsX10, w ∈ wsX1_stuckOnes := by decide +kernel
def fX1_stuckOnes_4b (k4 : Int32 → Int32 → Option Int32) (h : AH) (x1 : Int32) (x2 : Int32) : Option Int32 :=
  if (h.1 13 0) ≤ x2 then (
    some x1) else (
  ck (inb x2 56) <|
  nm (x1 + (h.1 16 x2.toNatClampNeg)) fun v1 =>
  nm (x2 + 1) fun v2 =>
  k4 v1 v2)
set_option maxHeartbeats 4000000 in
set_option maxRecDepth 100000 in
theorem tX1_stuckOnes_4b {h : AH} {k4 : Int32 → Int32 → Option Int32} {x1 : Int32} {x2 : Int32} {r0 : Int32} (C : Cx p rmX1_stuckOnes s m args meth c RX1 cX1_stuckOnes 3 (some .int) wsX1_stuckOnes D ad cy tb 0 0) (H4 : ∀ (x1 : Int32) (x2 : Int32), k4 x1 x2 = some r0 → AW p l e rmX1_stuckOnes s m args below meth c 3 D ad cy 0 0 (Qi D ad cy below args s r0 h) 4 [(0, .ref (ad 13)), (1, .int x1), (2, .int x2)] [] h) (hf : fX1_stuckOnes_4b k4 h x1 x2 = some r0) : AW p l e rmX1_stuckOnes s m args below meth c 3 D ad cy 0 0 (Qi D ad cy below args s r0 h) 4 [(0, .ref (ad 13)), (1, .int x1), (2, .int x2)] [] h := by
  unfold fX1_stuckOnes_4b at hf
  refine aw_iload_n C dX1_stuckOnes_4 rfl 2 rfl ?_
  refine aw_aload_n C dX1_stuckOnes_5 rfl 0 rfl ?_
  refine aw_get C (kd_lt rfl (by decide)) (ce_1 rfl) rfl hinX1_stuckOnes_1 0 (by decide) rfl (by decide +kernel) rfl dX1_stuckOnes_6 ?_
  refine aw_icmp_ge (tgt := 27) C dX1_stuckOnes_9 (by decide) hf (fun hf => ?_) (fun hf => ?_)
  · refine aw_iload_n C dX1_stuckOnes_27 rfl 1 rfl ?_
    exact aw_iretR C dX1_stuckOnes_28 hf
  refine aw_iload_n C dX1_stuckOnes_12 rfl 1 rfl ?_
  refine aw_aload_n C dX1_stuckOnes_13 rfl 0 rfl ?_
  refine aw_get C (kd_lt rfl (by decide)) (ce_1 rfl) rfl hinX1_stuckOnes_1 3 (by decide) rfl (by decide +kernel) rfl dX1_stuckOnes_14 ?_
  refine aw_iload_n C dX1_stuckOnes_17 rfl 2 rfl ?_
  refine aw_iald C rfl rfl hf dX1_stuckOnes_18 (fun hf => ?_)
  refine aw_iadd C dX1_stuckOnes_19 ?_
  refine aw_nmI hf (fun v1 hf => ?_)
  refine aw_istore_n (lv1 := [(1, .int v1), (0, .ref (ad 13)), (2, .int x2)]) C dX1_stuckOnes_20 rfl (by decide) rfl ?_
  obtain ⟨v2, hvv2, hf⟩ := nm_ex hf
  refine aw_iinc (j := 2) (v := v2) (lv1 := [(2, .int v2), (1, .int v1), (0, .ref (ad 13))]) C dX1_stuckOnes_21 rfl hvv2 (by decide) rfl ?_
  refine aw_goto (tgt := 4) C dX1_stuckOnes_24 (by decide) ?_
  refine aw_sub [2, 1, 0] rfl ?_
  exact H4 v1 v2 hf
def fX1_stuckOnes_4 (h : AH) : Nat → Int32 → Int32 → Option Int32
  | 0, _, _ => none
  | n + 1, x1, x2 => fX1_stuckOnes_4b (fX1_stuckOnes_4 h n) h x1 x2
set_option maxHeartbeats 4000000 in
set_option maxRecDepth 100000 in
theorem tX1_stuckOnes_4 {h : AH} {r0 : Int32} (C : Cx p rmX1_stuckOnes s m args meth c RX1 cX1_stuckOnes 3 (some .int) wsX1_stuckOnes D ad cy tb 0 0) : ∀ (n : Nat) (x1 : Int32) (x2 : Int32), fX1_stuckOnes_4 h n x1 x2 = some r0 → AW p l e rmX1_stuckOnes s m args below meth c 3 D ad cy 0 0 (Qi D ad cy below args s r0 h) 4 [(0, .ref (ad 13)), (1, .int x1), (2, .int x2)] [] h := by
  intro n
  induction n with
  | zero => intro x1 x2 hf; cases hf
  | succ n ih => intro x1 x2 hf; exact tX1_stuckOnes_4b C  ih  hf
def fX1_stuckOnes (h : AH) : Option Int32 :=
  fX1_stuckOnes_4  h  FU 0 0
set_option maxHeartbeats 4000000 in
set_option maxRecDepth 100000 in
theorem tX1_stuckOnes_0 {h : AH} {r0 : Int32} (C : Cx p rmX1_stuckOnes s m args meth c RX1 cX1_stuckOnes 3 (some .int) wsX1_stuckOnes D ad cy tb 0 0) (hf : fX1_stuckOnes h = some r0) : AW p l e rmX1_stuckOnes s m args below meth c 3 D ad cy 0 0 (Qi D ad cy below args s r0 h) 0 [(0, .ref (ad 13))] [] h := by
  unfold fX1_stuckOnes at hf
  refine aw_iconst (v := 0) C dX1_stuckOnes_0 (by decide) ?_
  refine aw_istore_n (lv1 := [(1, .int 0), (0, .ref (ad 13))]) C dX1_stuckOnes_1 rfl (by decide) rfl ?_
  refine aw_iconst (v := 0) C dX1_stuckOnes_2 (by decide) ?_
  refine aw_istore_n (lv1 := [(2, .int 0), (1, .int 0), (0, .ref (ad 13))]) C dX1_stuckOnes_3 rfl (by decide) rfl ?_
  refine aw_sub [2, 1, 0] rfl ?_
  exact tX1_stuckOnes_4 C   FU 0 0 hf
theorem kX1_stuckOnes {h : AH} {r0 : Int32} (hi : Inj ad) (hf : fX1_stuckOnes h = some r0) : Ki l yX1_stuckOnes wsX1_stuckOnes rmX1_stuckOnes D ad cy tb [.ref (ad 13)] h r0 h := met_i (lv := [(0, .ref (ad 13))]) hi (by decide) rfl (Nat.le_of_ble_eq_true rfl) rfl rfl (fun _ _ _ _ _ _ _ _ C => tX1_stuckOnes_0 C  hf)
