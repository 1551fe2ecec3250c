variable {p : Program} {l : Launch} {e : Env} {s : State} {m : MethodId} {below : List Frame} {meth : Method} {c : Code} {D : va_G} {ad : Nat → Nat} {cy : Nat → ClassId} {tb : Nat → Nat} {cells slots : Nat} {b L : Nat} {xs : Nat → Int32} {h : AH} {pc : Nat} {lv : List (Nat × Value)} {st : List Value}
/-- the script stands apart from the world, and the world is new -/
def Sc (s : State) (ad : Nat → Nat) (b L : Nat) (xs : Nat → Int32) : Prop := va_X b L xs s s.heap ∧ b < s.heap.size ∧ ∀ k, k < 43 → s.heap.size ≤ ad k
theorem Sc.na {s : State} {ad : Nat → Nat} {b L : Nat} {xs : Nat → Int32} (X : Sc s ad b L xs) : ¬ Aw ad b := fun ⟨k, hk, e⟩ => by
  have h1 := X.2.2 k hk
  have h2 := X.2.1
  omega
theorem aw_sld (C : Cx p room_1 s m #[Value.ref b] meth c RL cL_law 4 ret wsL_law D ad cy tb cells slots) (X : Sc s ad b L xs) {i : Int32} {α : Type} {B : Option α} {o : α} (hf : ck (inb i L) B = some o) (hd : decode cL_law pc = .ok (.iaload, 1)) (kk : B = some o → AW p l e room_1 s m #[Value.ref b] below meth c 4 D ad cy cells slots (lw_Z below #[Value.ref b] s) (pc + 1) lv (.int (xs i.toNatClampNeg) :: st) h) : AW p l e room_1 s m #[Value.ref b] below meth c 4 D ad cy cells slots (lw_Z below #[Value.ref b] s) pc lv (.int i :: .ref b :: st) h := fun H locs ls hP hS hl => by
  obtain ⟨hin, hB⟩ := ck_some hf (by simp)
  exact va_sld C.1 C.2.1 X.1 X.2.1 X.na hS (inb_in hin) hd (kk hB H locs ls hP hS hl)
theorem aw_slen (C : Cx p room_1 s m #[Value.ref b] meth c RL cL_law 4 ret wsL_law D ad cy tb cells slots) (X : Sc s ad b L xs) (hd : decode cL_law pc = .ok (.arraylength, 1)) (kk : AW p l e room_1 s m #[Value.ref b] below meth c 4 D ad cy cells slots (lw_Z below #[Value.ref b] s) (pc + 1) lv (.int (nI L) :: st) h) : AW p l e room_1 s m #[Value.ref b] below meth c 4 D ad cy cells slots (lw_Z below #[Value.ref b] s) pc lv (.ref b :: st) h := fun H locs ls hP hS hl => va_slen C.1 C.2.1 X.1 X.2.1 X.na hS hd (kk H locs ls hP hS hl)
theorem aw_lend (C : Cx p room_1 s m #[Value.ref b] meth c RL cL_law 4 ret wsL_law D ad cy tb cells slots) (X : Sc s ad b L xs) (hd : decode cL_law pc = .ok (.ireturn, 1)) : AW p l e room_1 s m #[Value.ref b] below meth c 4 D ad cy cells slots (lw_Z below #[Value.ref b] s) pc lv [.int 1] h := fun H locs ls hP hS hl => by
  refine va_forget (fun q hq => ?_) (W.widen (k := 600000) (n := 7302250) C.2.2.2.2.2.2.2.2.2.1 C.2.2.2.2.2.2.2.2.2.2 (lw_ret C.1 C.2.1 C.2.2.1 C.2.2.2.2.2.2.1 hd))
  obtain ⟨k, hk, e⟩ := hS.2.2 q hq
  rw [e]
  exact X.2.2 k hk
set_option maxHeartbeats 4000000 in
set_option maxRecDepth 100000 in
theorem tL_1188 {k18 : AH → Int32 → Option AH} {x3 : Int32} {h1 : AH} (C : Cx p room_1 s m #[Value.ref b] meth c RL cL_law 4 ret wsL_law D ad cy tb cells slots) (X : Sc s ad b L xs) (H18 : ∀ (h : AH) (x3 : Int32), k18 h x3 = some h1 → AW p l e room_1 s m #[Value.ref b] below meth c 4 D ad cy cells slots (lw_Z below #[Value.ref b] s) 18 [(0, .ref b), (1, .ref (ad 0)), (2, .ref (ad 29)), (3, .int x3)] [] h) (hf : fL_1188 L xs k18 h x3 = some h1) : AW p l e room_1 s m #[Value.ref b] below meth c 4 D ad cy cells slots (lw_Z below #[Value.ref b] s) 1188 [(0, .ref b), (1, .ref (ad 0)), (2, .ref (ad 29)), (3, .int x3)] [] h := by
  unfold fL_1188 at hf
  obtain ⟨v1, hvv1, hf⟩ := nm_ex hf
  refine aw_iinc (j := 3) (v := v1) (lv1 := [(3, .int v1), (0, .ref b), (1, .ref (ad 0)), (2, .ref (ad 29))]) C dL_law_1188 rfl hvv1 (by decide) rfl ?_
  refine aw_goto (tgt := 18) C dL_law_1191 (by decide) ?_
  refine aw_sub [1, 2, 3, 0] rfl ?_
  exact H18 h v1 hf
set_option maxHeartbeats 4000000 in
set_option maxRecDepth 100000 in
theorem tL_172 {k18 : AH → Int32 → Option AH} {x3 : Int32} {h1 : AH} (C : Cx p room_1 s m #[Value.ref b] meth c RL cL_law 4 ret wsL_law D ad cy tb cells slots) (X : Sc s ad b L xs) (H18 : ∀ (h : AH) (x3 : Int32), k18 h x3 = some h1 → AW p l e room_1 s m #[Value.ref b] below meth c 4 D ad cy cells slots (lw_Z below #[Value.ref b] s) 18 [(0, .ref b), (1, .ref (ad 0)), (2, .ref (ad 29)), (3, .int x3)] [] h) (hf : fL_172 L xs k18 h x3 = some h1) : AW p l e room_1 s m #[Value.ref b] below meth c 4 D ad cy cells slots (lw_Z below #[Value.ref b] s) 172 [(0, .ref b), (1, .ref (ad 0)), (2, .ref (ad 29)), (3, .int x3)] [] h := by
  unfold fL_172 at hf
  refine aw_aload_n C dL_law_172 rfl 1 rfl ?_
  refine aw_aload_n C dL_law_173 rfl 0 rfl ?_
  refine aw_iload_n C dL_law_174 rfl 3 rfl ?_
  refine aw_iconst (v := 1) C dL_law_175 (by decide) ?_
  refine aw_iadd C dL_law_176 ?_
  refine aw_nmI hf (fun v1 hf => ?_)
  refine aw_sld C X hf dL_law_177 (fun hf => ?_)
  refine aw_nmI hf (fun v2 hf => ?_)
  obtain ⟨r4, h3, hc, hf⟩ := bW_some hf
  refine aw_callVi (As := [.int v2]) (rest := []) C rfl (by decide) rfl (kX5_blocks (l := l) (D := D) (ad := ad) (cy := cy) (tb := tb) C.2.2.2.2.2.2.2.2.1 hc) (fun ht _ => cwV 1 ht gL_law_X5_blocks rfl rfl rfl (by decide +kernel) ⟨Nat.le_of_ble_eq_true rfl, Nat.le_of_ble_eq_true rfl⟩) rfl rfl (Nat.le_of_ble_eq_true rfl) dL_law_178 ?_
  refine aw_aload_n C dL_law_181 rfl 2 rfl ?_
  refine aw_aload_n C dL_law_182 rfl 0 rfl ?_
  refine aw_iload_n C dL_law_183 rfl 3 rfl ?_
  refine aw_iconst (v := 1) C dL_law_184 (by decide) ?_
  refine aw_iadd C dL_law_185 ?_
  refine aw_nmI hf (fun v5 hf => ?_)
  refine aw_sld C X hf dL_law_186 (fun hf => ?_)
  refine aw_nmI hf (fun v6 hf => ?_)
  obtain ⟨r8, h7, hc, hf⟩ := bW_some hf
  refine aw_callVi (As := [.int v6]) (rest := [.int r4]) C rfl (by decide) rfl (kX6_blocks (l := l) (D := D) (ad := ad) (cy := cy) (tb := tb) C.2.2.2.2.2.2.2.2.1 hc) (fun ht _ => cwV 1 ht gL_law_X6_blocks rfl rfl rfl (by decide +kernel) ⟨Nat.le_of_ble_eq_true rfl, Nat.le_of_ble_eq_true rfl⟩) rfl rfl (Nat.le_of_ble_eq_true rfl) dL_law_187 ?_
  refine aw_icmp_eq (tgt := 1188) C dL_law_190 (by decide) hf (fun hf => ?_) (fun hf => ?_)
  · refine aw_sub [0, 1, 2, 3] rfl ?_
    exact tL_1188 C X H18 hf
  refine aw_iconst (v := 0) C dL_law_193 (by decide) ?_
  cases hf
set_option maxHeartbeats 4000000 in
set_option maxRecDepth 100000 in
theorem tL_195 {k18 : AH → Int32 → Option AH} {x3 : Int32} {h1 : AH} (C : Cx p room_1 s m #[Value.ref b] meth c RL cL_law 4 ret wsL_law D ad cy tb cells slots) (X : Sc s ad b L xs) (H18 : ∀ (h : AH) (x3 : Int32), k18 h x3 = some h1 → AW p l e room_1 s m #[Value.ref b] below meth c 4 D ad cy cells slots (lw_Z below #[Value.ref b] s) 18 [(0, .ref b), (1, .ref (ad 0)), (2, .ref (ad 29)), (3, .int x3)] [] h) (hf : fL_195 L xs k18 h x3 = some h1) : AW p l e room_1 s m #[Value.ref b] below meth c 4 D ad cy cells slots (lw_Z below #[Value.ref b] s) 195 [(0, .ref b), (1, .ref (ad 0)), (2, .ref (ad 29)), (3, .int x3)] [] h := by
  unfold fL_195 at hf
  refine aw_aload_n C dL_law_195 rfl 1 rfl ?_
  refine aw_aload_n C dL_law_196 rfl 0 rfl ?_
  refine aw_iload_n C dL_law_197 rfl 3 rfl ?_
  refine aw_iconst (v := 1) C dL_law_198 (by decide) ?_
  refine aw_iadd C dL_law_199 ?_
  refine aw_nmI hf (fun v1 hf => ?_)
  refine aw_sld C X hf dL_law_200 (fun hf => ?_)
  refine aw_nmI hf (fun v2 hf => ?_)
  refine aw_aload_n C dL_law_201 rfl 0 rfl ?_
  refine aw_iload_n C dL_law_202 rfl 3 rfl ?_
  refine aw_iconst (v := 2) C dL_law_203 (by decide) ?_
  refine aw_iadd C dL_law_204 ?_
  refine aw_nmI hf (fun v3 hf => ?_)
  refine aw_sld C X hf dL_law_205 (fun hf => ?_)
  refine aw_nmI hf (fun v4 hf => ?_)
  refine aw_aload_n C dL_law_206 rfl 0 rfl ?_
  refine aw_iload_n C dL_law_207 rfl 3 rfl ?_
  refine aw_iconst (v := 3) C dL_law_208 (by decide) ?_
  refine aw_iadd C dL_law_209 ?_
  refine aw_nmI hf (fun v5 hf => ?_)
  refine aw_sld C X hf dL_law_210 (fun hf => ?_)
  refine aw_nmI hf (fun v6 hf => ?_)
  obtain ⟨r8, h7, hc, hf⟩ := bW_some hf
  refine aw_callVi (As := [.int v2, .int v4, .int v6]) (rest := []) C rfl (by decide) rfl (kX5_data (l := l) (D := D) (ad := ad) (cy := cy) (tb := tb) C.2.2.2.2.2.2.2.2.1 hc) (fun ht _ => cwV 3 ht gL_law_X5_data rfl rfl rfl (by decide +kernel) ⟨Nat.le_of_ble_eq_true rfl, Nat.le_of_ble_eq_true rfl⟩) rfl rfl (Nat.le_of_ble_eq_true rfl) dL_law_211 ?_
  refine aw_aload_n C dL_law_214 rfl 2 rfl ?_
  refine aw_aload_n C dL_law_215 rfl 0 rfl ?_
  refine aw_iload_n C dL_law_216 rfl 3 rfl ?_
  refine aw_iconst (v := 1) C dL_law_217 (by decide) ?_
  refine aw_iadd C dL_law_218 ?_
  refine aw_nmI hf (fun v9 hf => ?_)
  refine aw_sld C X hf dL_law_219 (fun hf => ?_)
  refine aw_nmI hf (fun v10 hf => ?_)
  refine aw_aload_n C dL_law_220 rfl 0 rfl ?_
  refine aw_iload_n C dL_law_221 rfl 3 rfl ?_
  refine aw_iconst (v := 2) C dL_law_222 (by decide) ?_
  refine aw_iadd C dL_law_223 ?_
  refine aw_nmI hf (fun v11 hf => ?_)
  refine aw_sld C X hf dL_law_224 (fun hf => ?_)
  refine aw_nmI hf (fun v12 hf => ?_)
  refine aw_aload_n C dL_law_225 rfl 0 rfl ?_
  refine aw_iload_n C dL_law_226 rfl 3 rfl ?_
  refine aw_iconst (v := 3) C dL_law_227 (by decide) ?_
  refine aw_iadd C dL_law_228 ?_
  refine aw_nmI hf (fun v13 hf => ?_)
  refine aw_sld C X hf dL_law_229 (fun hf => ?_)
  refine aw_nmI hf (fun v14 hf => ?_)
  obtain ⟨r16, h15, hc, hf⟩ := bW_some hf
  refine aw_callVi (As := [.int v10, .int v12, .int v14]) (rest := [.int r8]) C rfl (by decide) rfl (kX6_data (l := l) (D := D) (ad := ad) (cy := cy) (tb := tb) C.2.2.2.2.2.2.2.2.1 hc) (fun ht _ => cwV 3 ht gL_law_X6_data rfl rfl rfl (by decide +kernel) ⟨Nat.le_of_ble_eq_true rfl, Nat.le_of_ble_eq_true rfl⟩) rfl rfl (Nat.le_of_ble_eq_true rfl) dL_law_230 ?_
  refine aw_icmp_eq (tgt := 1188) C dL_law_233 (by decide) hf (fun hf => ?_) (fun hf => ?_)
  · refine aw_sub [0, 1, 2, 3] rfl ?_
    exact tL_1188 C X H18 hf
  refine aw_iconst (v := 0) C dL_law_236 (by decide) ?_
  cases hf
set_option maxHeartbeats 4000000 in
set_option maxRecDepth 100000 in
theorem tL_238 {k18 : AH → Int32 → Option AH} {x3 : Int32} {h1 : AH} (C : Cx p room_1 s m #[Value.ref b] meth c RL cL_law 4 ret wsL_law D ad cy tb cells slots) (X : Sc s ad b L xs) (H18 : ∀ (h : AH) (x3 : Int32), k18 h x3 = some h1 → AW p l e room_1 s m #[Value.ref b] below meth c 4 D ad cy cells slots (lw_Z below #[Value.ref b] s) 18 [(0, .ref b), (1, .ref (ad 0)), (2, .ref (ad 29)), (3, .int x3)] [] h) (hf : fL_238 L xs k18 h x3 = some h1) : AW p l e room_1 s m #[Value.ref b] below meth c 4 D ad cy cells slots (lw_Z below #[Value.ref b] s) 238 [(0, .ref b), (1, .ref (ad 0)), (2, .ref (ad 29)), (3, .int x3)] [] h := by
  unfold fL_238 at hf
  refine aw_aload_n C dL_law_238 rfl 1 rfl ?_
  refine aw_aload_n C dL_law_239 rfl 0 rfl ?_
  refine aw_iload_n C dL_law_240 rfl 3 rfl ?_
  refine aw_iconst (v := 1) C dL_law_241 (by decide) ?_
  refine aw_iadd C dL_law_242 ?_
  refine aw_nmI hf (fun v1 hf => ?_)
  refine aw_sld C X hf dL_law_243 (fun hf => ?_)
  refine aw_nmI hf (fun v2 hf => ?_)
  refine aw_aload_n C dL_law_244 rfl 0 rfl ?_
  refine aw_iload_n C dL_law_245 rfl 3 rfl ?_
  refine aw_iconst (v := 2) C dL_law_246 (by decide) ?_
  refine aw_iadd C dL_law_247 ?_
  refine aw_nmI hf (fun v3 hf => ?_)
  refine aw_sld C X hf dL_law_248 (fun hf => ?_)
  refine aw_nmI hf (fun v4 hf => ?_)
  refine aw_aload_n C dL_law_249 rfl 0 rfl ?_
  refine aw_iload_n C dL_law_250 rfl 3 rfl ?_
  refine aw_iconst (v := 3) C dL_law_251 (by decide) ?_
  refine aw_iadd C dL_law_252 ?_
  refine aw_nmI hf (fun v5 hf => ?_)
  refine aw_sld C X hf dL_law_253 (fun hf => ?_)
  refine aw_nmI hf (fun v6 hf => ?_)
  obtain ⟨r8, h7, hc, hf⟩ := bW_some hf
  refine aw_callVi (As := [.int v2, .int v4, .int v6]) (rest := []) C rfl (by decide) rfl (kX5_flip (l := l) (D := D) (ad := ad) (cy := cy) (tb := tb) C.2.2.2.2.2.2.2.2.1 hc) (fun ht _ => cwV 3 ht gL_law_X5_flip rfl rfl rfl (by decide +kernel) ⟨Nat.le_of_ble_eq_true rfl, Nat.le_of_ble_eq_true rfl⟩) rfl rfl (Nat.le_of_ble_eq_true rfl) dL_law_254 ?_
  refine aw_aload_n C dL_law_257 rfl 2 rfl ?_
  refine aw_aload_n C dL_law_258 rfl 0 rfl ?_
  refine aw_iload_n C dL_law_259 rfl 3 rfl ?_
  refine aw_iconst (v := 1) C dL_law_260 (by decide) ?_
  refine aw_iadd C dL_law_261 ?_
  refine aw_nmI hf (fun v9 hf => ?_)
  refine aw_sld C X hf dL_law_262 (fun hf => ?_)
  refine aw_nmI hf (fun v10 hf => ?_)
  refine aw_aload_n C dL_law_263 rfl 0 rfl ?_
  refine aw_iload_n C dL_law_264 rfl 3 rfl ?_
  refine aw_iconst (v := 2) C dL_law_265 (by decide) ?_
  refine aw_iadd C dL_law_266 ?_
  refine aw_nmI hf (fun v11 hf => ?_)
  refine aw_sld C X hf dL_law_267 (fun hf => ?_)
  refine aw_nmI hf (fun v12 hf => ?_)
  refine aw_aload_n C dL_law_268 rfl 0 rfl ?_
  refine aw_iload_n C dL_law_269 rfl 3 rfl ?_
  refine aw_iconst (v := 3) C dL_law_270 (by decide) ?_
  refine aw_iadd C dL_law_271 ?_
  refine aw_nmI hf (fun v13 hf => ?_)
  refine aw_sld C X hf dL_law_272 (fun hf => ?_)
  refine aw_nmI hf (fun v14 hf => ?_)
  obtain ⟨r16, h15, hc, hf⟩ := bW_some hf
  refine aw_callVi (As := [.int v10, .int v12, .int v14]) (rest := [.int r8]) C rfl (by decide) rfl (kX6_flip (l := l) (D := D) (ad := ad) (cy := cy) (tb := tb) C.2.2.2.2.2.2.2.2.1 hc) (fun ht _ => cwV 3 ht gL_law_X6_flip rfl rfl rfl (by decide +kernel) ⟨Nat.le_of_ble_eq_true rfl, Nat.le_of_ble_eq_true rfl⟩) rfl rfl (Nat.le_of_ble_eq_true rfl) dL_law_273 ?_
  refine aw_icmp_eq (tgt := 1188) C dL_law_276 (by decide) hf (fun hf => ?_) (fun hf => ?_)
  · refine aw_sub [0, 1, 2, 3] rfl ?_
    exact tL_1188 C X H18 hf
  refine aw_iconst (v := 0) C dL_law_279 (by decide) ?_
  cases hf
set_option maxHeartbeats 4000000 in
set_option maxRecDepth 100000 in
theorem tL_281 {k18 : AH → Int32 → Option AH} {x3 : Int32} {h1 : AH} (C : Cx p room_1 s m #[Value.ref b] meth c RL cL_law 4 ret wsL_law D ad cy tb cells slots) (X : Sc s ad b L xs) (H18 : ∀ (h : AH) (x3 : Int32), k18 h x3 = some h1 → AW p l e room_1 s m #[Value.ref b] below meth c 4 D ad cy cells slots (lw_Z below #[Value.ref b] s) 18 [(0, .ref b), (1, .ref (ad 0)), (2, .ref (ad 29)), (3, .int x3)] [] h) (hf : fL_281 L xs k18 h x3 = some h1) : AW p l e room_1 s m #[Value.ref b] below meth c 4 D ad cy cells slots (lw_Z below #[Value.ref b] s) 281 [(0, .ref b), (1, .ref (ad 0)), (2, .ref (ad 29)), (3, .int x3)] [] h := by
  unfold fL_281 at hf
  refine aw_aload_n C dL_law_281 rfl 1 rfl ?_
  refine aw_aload_n C dL_law_282 rfl 0 rfl ?_
  refine aw_iload_n C dL_law_283 rfl 3 rfl ?_
  refine aw_iconst (v := 1) C dL_law_284 (by decide) ?_
  refine aw_iadd C dL_law_285 ?_
  refine aw_nmI hf (fun v1 hf => ?_)
  refine aw_sld C X hf dL_law_286 (fun hf => ?_)
  refine aw_nmI hf (fun v2 hf => ?_)
  refine aw_aload_n C dL_law_287 rfl 0 rfl ?_
  refine aw_iload_n C dL_law_288 rfl 3 rfl ?_
  refine aw_iconst (v := 2) C dL_law_289 (by decide) ?_
  refine aw_iadd C dL_law_290 ?_
  refine aw_nmI hf (fun v3 hf => ?_)
  refine aw_sld C X hf dL_law_291 (fun hf => ?_)
  refine aw_nmI hf (fun v4 hf => ?_)
  obtain ⟨r6, h5, hc, hf⟩ := bW_some hf
  refine aw_callVi (As := [.int v2, .int v4]) (rest := []) C rfl (by decide) rfl (kX5_lots (l := l) (D := D) (ad := ad) (cy := cy) (tb := tb) C.2.2.2.2.2.2.2.2.1 hc) (fun ht _ => cwV 2 ht gL_law_X5_lots rfl rfl rfl (by decide +kernel) ⟨Nat.le_of_ble_eq_true rfl, Nat.le_of_ble_eq_true rfl⟩) rfl rfl (Nat.le_of_ble_eq_true rfl) dL_law_292 ?_
  refine aw_aload_n C dL_law_295 rfl 2 rfl ?_
  refine aw_aload_n C dL_law_296 rfl 0 rfl ?_
  refine aw_iload_n C dL_law_297 rfl 3 rfl ?_
  refine aw_iconst (v := 1) C dL_law_298 (by decide) ?_
  refine aw_iadd C dL_law_299 ?_
  refine aw_nmI hf (fun v7 hf => ?_)
  refine aw_sld C X hf dL_law_300 (fun hf => ?_)
  refine aw_nmI hf (fun v8 hf => ?_)
  refine aw_aload_n C dL_law_301 rfl 0 rfl ?_
  refine aw_iload_n C dL_law_302 rfl 3 rfl ?_
  refine aw_iconst (v := 2) C dL_law_303 (by decide) ?_
  refine aw_iadd C dL_law_304 ?_
  refine aw_nmI hf (fun v9 hf => ?_)
  refine aw_sld C X hf dL_law_305 (fun hf => ?_)
  refine aw_nmI hf (fun v10 hf => ?_)
  obtain ⟨r12, h11, hc, hf⟩ := bW_some hf
  refine aw_callVi (As := [.int v8, .int v10]) (rest := [.int r6]) C rfl (by decide) rfl (kX6_lots (l := l) (D := D) (ad := ad) (cy := cy) (tb := tb) C.2.2.2.2.2.2.2.2.1 hc) (fun ht _ => cwV 2 ht gL_law_X6_lots rfl rfl rfl (by decide +kernel) ⟨Nat.le_of_ble_eq_true rfl, Nat.le_of_ble_eq_true rfl⟩) rfl rfl (Nat.le_of_ble_eq_true rfl) dL_law_306 ?_
  refine aw_icmp_eq (tgt := 1188) C dL_law_309 (by decide) hf (fun hf => ?_) (fun hf => ?_)
  · refine aw_sub [0, 1, 2, 3] rfl ?_
    exact tL_1188 C X H18 hf
  refine aw_iconst (v := 0) C dL_law_312 (by decide) ?_
  cases hf
set_option maxHeartbeats 4000000 in
set_option maxRecDepth 100000 in
theorem tL_314 {k18 : AH → Int32 → Option AH} {x3 : Int32} {h1 : AH} (C : Cx p room_1 s m #[Value.ref b] meth c RL cL_law 4 ret wsL_law D ad cy tb cells slots) (X : Sc s ad b L xs) (H18 : ∀ (h : AH) (x3 : Int32), k18 h x3 = some h1 → AW p l e room_1 s m #[Value.ref b] below meth c 4 D ad cy cells slots (lw_Z below #[Value.ref b] s) 18 [(0, .ref b), (1, .ref (ad 0)), (2, .ref (ad 29)), (3, .int x3)] [] h) (hf : fL_314 L xs k18 h x3 = some h1) : AW p l e room_1 s m #[Value.ref b] below meth c 4 D ad cy cells slots (lw_Z below #[Value.ref b] s) 314 [(0, .ref b), (1, .ref (ad 0)), (2, .ref (ad 29)), (3, .int x3)] [] h := by
  unfold fL_314 at hf
  refine aw_aload_n C dL_law_314 rfl 1 rfl ?_
  refine aw_aload_n C dL_law_315 rfl 0 rfl ?_
  refine aw_iload_n C dL_law_316 rfl 3 rfl ?_
  refine aw_iconst (v := 1) C dL_law_317 (by decide) ?_
  refine aw_iadd C dL_law_318 ?_
  refine aw_nmI hf (fun v1 hf => ?_)
  refine aw_sld C X hf dL_law_319 (fun hf => ?_)
  refine aw_nmI hf (fun v2 hf => ?_)
  refine aw_aload_n C dL_law_320 rfl 0 rfl ?_
  refine aw_iload_n C dL_law_321 rfl 3 rfl ?_
  refine aw_iconst (v := 2) C dL_law_322 (by decide) ?_
  refine aw_iadd C dL_law_323 ?_
  refine aw_nmI hf (fun v3 hf => ?_)
  refine aw_sld C X hf dL_law_324 (fun hf => ?_)
  refine aw_nmI hf (fun v4 hf => ?_)
  obtain ⟨r6, h5, hc, hf⟩ := bW_some hf
  refine aw_callVi (As := [.int v2, .int v4]) (rest := []) C rfl (by decide) rfl (kX5_read (l := l) (D := D) (ad := ad) (cy := cy) (tb := tb) C.2.2.2.2.2.2.2.2.1 hc) (fun ht _ => cwV 2 ht gL_law_X5_read rfl rfl rfl (by decide +kernel) ⟨Nat.le_of_ble_eq_true rfl, Nat.le_of_ble_eq_true rfl⟩) rfl rfl (Nat.le_of_ble_eq_true rfl) dL_law_325 ?_
  refine aw_aload_n C dL_law_328 rfl 2 rfl ?_
  refine aw_aload_n C dL_law_329 rfl 0 rfl ?_
  refine aw_iload_n C dL_law_330 rfl 3 rfl ?_
  refine aw_iconst (v := 1) C dL_law_331 (by decide) ?_
  refine aw_iadd C dL_law_332 ?_
  refine aw_nmI hf (fun v7 hf => ?_)
  refine aw_sld C X hf dL_law_333 (fun hf => ?_)
  refine aw_nmI hf (fun v8 hf => ?_)
  refine aw_aload_n C dL_law_334 rfl 0 rfl ?_
  refine aw_iload_n C dL_law_335 rfl 3 rfl ?_
  refine aw_iconst (v := 2) C dL_law_336 (by decide) ?_
  refine aw_iadd C dL_law_337 ?_
  refine aw_nmI hf (fun v9 hf => ?_)
  refine aw_sld C X hf dL_law_338 (fun hf => ?_)
  refine aw_nmI hf (fun v10 hf => ?_)
  obtain ⟨r12, h11, hc, hf⟩ := bW_some hf
  refine aw_callVi (As := [.int v8, .int v10]) (rest := [.int r6]) C rfl (by decide) rfl (kX6_read (l := l) (D := D) (ad := ad) (cy := cy) (tb := tb) C.2.2.2.2.2.2.2.2.1 hc) (fun ht _ => cwV 2 ht gL_law_X6_read rfl rfl rfl (by decide +kernel) ⟨Nat.le_of_ble_eq_true rfl, Nat.le_of_ble_eq_true rfl⟩) rfl rfl (Nat.le_of_ble_eq_true rfl) dL_law_339 ?_
  refine aw_icmp_eq (tgt := 1188) C dL_law_342 (by decide) hf (fun hf => ?_) (fun hf => ?_)
  · refine aw_sub [0, 1, 2, 3] rfl ?_
    exact tL_1188 C X H18 hf
  refine aw_iconst (v := 0) C dL_law_345 (by decide) ?_
  cases hf
set_option maxHeartbeats 4000000 in
set_option maxRecDepth 100000 in
theorem tL_347 {k18 : AH → Int32 → Option AH} {x3 : Int32} {h1 : AH} (C : Cx p room_1 s m #[Value.ref b] meth c RL cL_law 4 ret wsL_law D ad cy tb cells slots) (X : Sc s ad b L xs) (H18 : ∀ (h : AH) (x3 : Int32), k18 h x3 = some h1 → AW p l e room_1 s m #[Value.ref b] below meth c 4 D ad cy cells slots (lw_Z below #[Value.ref b] s) 18 [(0, .ref b), (1, .ref (ad 0)), (2, .ref (ad 29)), (3, .int x3)] [] h) (hf : fL_347 L xs k18 h x3 = some h1) : AW p l e room_1 s m #[Value.ref b] below meth c 4 D ad cy cells slots (lw_Z below #[Value.ref b] s) 347 [(0, .ref b), (1, .ref (ad 0)), (2, .ref (ad 29)), (3, .int x3)] [] h := by
  unfold fL_347 at hf
  refine aw_aload_n C dL_law_347 rfl 1 rfl ?_
  refine aw_aload_n C dL_law_348 rfl 0 rfl ?_
  refine aw_iload_n C dL_law_349 rfl 3 rfl ?_
  refine aw_iconst (v := 1) C dL_law_350 (by decide) ?_
  refine aw_iadd C dL_law_351 ?_
  refine aw_nmI hf (fun v1 hf => ?_)
  refine aw_sld C X hf dL_law_352 (fun hf => ?_)
  refine aw_nmI hf (fun v2 hf => ?_)
  obtain ⟨r4, h3, hc, hf⟩ := bW_some hf
  refine aw_callVi (As := [.int v2]) (rest := []) C rfl (by decide) rfl (kX5_rule (l := l) (D := D) (ad := ad) (cy := cy) (tb := tb) C.2.2.2.2.2.2.2.2.1 hc) (fun ht _ => cwV 1 ht gL_law_X5_rule rfl rfl rfl (by decide +kernel) ⟨Nat.le_of_ble_eq_true rfl, Nat.le_of_ble_eq_true rfl⟩) rfl rfl (Nat.le_of_ble_eq_true rfl) dL_law_353 ?_
  refine aw_aload_n C dL_law_356 rfl 2 rfl ?_
  refine aw_aload_n C dL_law_357 rfl 0 rfl ?_
  refine aw_iload_n C dL_law_358 rfl 3 rfl ?_
  refine aw_iconst (v := 1) C dL_law_359 (by decide) ?_
  refine aw_iadd C dL_law_360 ?_
  refine aw_nmI hf (fun v5 hf => ?_)
  refine aw_sld C X hf dL_law_361 (fun hf => ?_)
  refine aw_nmI hf (fun v6 hf => ?_)
  obtain ⟨r8, h7, hc, hf⟩ := bW_some hf
  refine aw_callVi (As := [.int v6]) (rest := [.int r4]) C rfl (by decide) rfl (kX6_rule (l := l) (D := D) (ad := ad) (cy := cy) (tb := tb) C.2.2.2.2.2.2.2.2.1 hc) (fun ht _ => cwV 1 ht gL_law_X6_rule rfl rfl rfl (by decide +kernel) ⟨Nat.le_of_ble_eq_true rfl, Nat.le_of_ble_eq_true rfl⟩) rfl rfl (Nat.le_of_ble_eq_true rfl) dL_law_362 ?_
  refine aw_icmp_eq (tgt := 1188) C dL_law_365 (by decide) hf (fun hf => ?_) (fun hf => ?_)
  · refine aw_sub [0, 1, 2, 3] rfl ?_
    exact tL_1188 C X H18 hf
  refine aw_iconst (v := 0) C dL_law_368 (by decide) ?_
  cases hf
set_option maxHeartbeats 4000000 in
set_option maxRecDepth 100000 in
theorem tL_370 {k18 : AH → Int32 → Option AH} {x3 : Int32} {h1 : AH} (C : Cx p room_1 s m #[Value.ref b] meth c RL cL_law 4 ret wsL_law D ad cy tb cells slots) (X : Sc s ad b L xs) (H18 : ∀ (h : AH) (x3 : Int32), k18 h x3 = some h1 → AW p l e room_1 s m #[Value.ref b] below meth c 4 D ad cy cells slots (lw_Z below #[Value.ref b] s) 18 [(0, .ref b), (1, .ref (ad 0)), (2, .ref (ad 29)), (3, .int x3)] [] h) (hf : fL_370 L xs k18 h x3 = some h1) : AW p l e room_1 s m #[Value.ref b] below meth c 4 D ad cy cells slots (lw_Z below #[Value.ref b] s) 370 [(0, .ref b), (1, .ref (ad 0)), (2, .ref (ad 29)), (3, .int x3)] [] h := by
  unfold fL_370 at hf
  refine aw_aload_n C dL_law_370 rfl 1 rfl ?_
  refine aw_aload_n C dL_law_371 rfl 0 rfl ?_
  refine aw_iload_n C dL_law_372 rfl 3 rfl ?_
  refine aw_iconst (v := 1) C dL_law_373 (by decide) ?_
  refine aw_iadd C dL_law_374 ?_
  refine aw_nmI hf (fun v1 hf => ?_)
  refine aw_sld C X hf dL_law_375 (fun hf => ?_)
  refine aw_nmI hf (fun v2 hf => ?_)
  refine aw_aload_n C dL_law_376 rfl 0 rfl ?_
  refine aw_iload_n C dL_law_377 rfl 3 rfl ?_
  refine aw_iconst (v := 2) C dL_law_378 (by decide) ?_
  refine aw_iadd C dL_law_379 ?_
  refine aw_nmI hf (fun v3 hf => ?_)
  refine aw_sld C X hf dL_law_380 (fun hf => ?_)
  refine aw_nmI hf (fun v4 hf => ?_)
  refine aw_aload_n C dL_law_381 rfl 0 rfl ?_
  refine aw_iload_n C dL_law_382 rfl 3 rfl ?_
  refine aw_iconst (v := 3) C dL_law_383 (by decide) ?_
  refine aw_iadd C dL_law_384 ?_
  refine aw_nmI hf (fun v5 hf => ?_)
  refine aw_sld C X hf dL_law_385 (fun hf => ?_)
  refine aw_nmI hf (fun v6 hf => ?_)
  refine aw_aload_n C dL_law_386 rfl 0 rfl ?_
  refine aw_iload_n C dL_law_387 rfl 3 rfl ?_
  refine aw_iconst (v := 4) C dL_law_388 (by decide) ?_
  refine aw_iadd C dL_law_389 ?_
  refine aw_nmI hf (fun v7 hf => ?_)
  refine aw_sld C X hf dL_law_390 (fun hf => ?_)
  refine aw_nmI hf (fun v8 hf => ?_)
  obtain ⟨r9, hc, hf⟩ := bR_some hf
  refine aw_callVi (As := [.int v2, .int v4, .int v6, .int v8]) (rest := []) C rfl (by decide) rfl (kX5_bit (l := l) (D := D) (ad := ad) (cy := cy) (tb := tb) C.2.2.2.2.2.2.2.2.1 hc) (fun ht _ => cwV 4 ht gL_law_X5_bit rfl rfl rfl (by decide +kernel) ⟨Nat.le_of_ble_eq_true rfl, Nat.le_of_ble_eq_true rfl⟩) rfl rfl (Nat.le_of_ble_eq_true rfl) dL_law_391 ?_
  refine aw_aload_n C dL_law_394 rfl 2 rfl ?_
  refine aw_aload_n C dL_law_395 rfl 0 rfl ?_
  refine aw_iload_n C dL_law_396 rfl 3 rfl ?_
  refine aw_iconst (v := 1) C dL_law_397 (by decide) ?_
  refine aw_iadd C dL_law_398 ?_
  refine aw_nmI hf (fun v10 hf => ?_)
  refine aw_sld C X hf dL_law_399 (fun hf => ?_)
  refine aw_nmI hf (fun v11 hf => ?_)
  refine aw_aload_n C dL_law_400 rfl 0 rfl ?_
  refine aw_iload_n C dL_law_401 rfl 3 rfl ?_
  refine aw_iconst (v := 2) C dL_law_402 (by decide) ?_
  refine aw_iadd C dL_law_403 ?_
  refine aw_nmI hf (fun v12 hf => ?_)
  refine aw_sld C X hf dL_law_404 (fun hf => ?_)
  refine aw_nmI hf (fun v13 hf => ?_)
  refine aw_aload_n C dL_law_405 rfl 0 rfl ?_
  refine aw_iload_n C dL_law_406 rfl 3 rfl ?_
  refine aw_iconst (v := 3) C dL_law_407 (by decide) ?_
  refine aw_iadd C dL_law_408 ?_
  refine aw_nmI hf (fun v14 hf => ?_)
  refine aw_sld C X hf dL_law_409 (fun hf => ?_)
  refine aw_nmI hf (fun v15 hf => ?_)
  refine aw_aload_n C dL_law_410 rfl 0 rfl ?_
  refine aw_iload_n C dL_law_411 rfl 3 rfl ?_
  refine aw_iconst (v := 4) C dL_law_412 (by decide) ?_
  refine aw_iadd C dL_law_413 ?_
  refine aw_nmI hf (fun v16 hf => ?_)
  refine aw_sld C X hf dL_law_414 (fun hf => ?_)
  refine aw_nmI hf (fun v17 hf => ?_)
  obtain ⟨r18, hc, hf⟩ := bR_some hf
  refine aw_callVi (As := [.int v11, .int v13, .int v15, .int v17]) (rest := [.int r9]) C rfl (by decide) rfl (kX6_bit (l := l) (D := D) (ad := ad) (cy := cy) (tb := tb) C.2.2.2.2.2.2.2.2.1 hc) (fun ht _ => cwV 4 ht gL_law_X6_bit rfl rfl rfl (by decide +kernel) ⟨Nat.le_of_ble_eq_true rfl, Nat.le_of_ble_eq_true rfl⟩) rfl rfl (Nat.le_of_ble_eq_true rfl) dL_law_415 ?_
  refine aw_icmp_eq (tgt := 1188) C dL_law_418 (by decide) hf (fun hf => ?_) (fun hf => ?_)
  · refine aw_sub [0, 1, 2, 3] rfl ?_
    exact tL_1188 C X H18 hf
  refine aw_iconst (v := 0) C dL_law_421 (by decide) ?_
  cases hf
set_option maxHeartbeats 4000000 in
set_option maxRecDepth 100000 in
theorem tL_423 {k18 : AH → Int32 → Option AH} {x3 : Int32} {h1 : AH} (C : Cx p room_1 s m #[Value.ref b] meth c RL cL_law 4 ret wsL_law D ad cy tb cells slots) (X : Sc s ad b L xs) (H18 : ∀ (h : AH) (x3 : Int32), k18 h x3 = some h1 → AW p l e room_1 s m #[Value.ref b] below meth c 4 D ad cy cells slots (lw_Z below #[Value.ref b] s) 18 [(0, .ref b), (1, .ref (ad 0)), (2, .ref (ad 29)), (3, .int x3)] [] h) (hf : fL_423 L xs k18 h x3 = some h1) : AW p l e room_1 s m #[Value.ref b] below meth c 4 D ad cy cells slots (lw_Z below #[Value.ref b] s) 423 [(0, .ref b), (1, .ref (ad 0)), (2, .ref (ad 29)), (3, .int x3)] [] h := by
  unfold fL_423 at hf
  refine aw_aload_n C dL_law_423 rfl 1 rfl ?_
  refine aw_aload_n C dL_law_424 rfl 0 rfl ?_
  refine aw_iload_n C dL_law_425 rfl 3 rfl ?_
  refine aw_iconst (v := 1) C dL_law_426 (by decide) ?_
  refine aw_iadd C dL_law_427 ?_
  refine aw_nmI hf (fun v1 hf => ?_)
  refine aw_sld C X hf dL_law_428 (fun hf => ?_)
  refine aw_nmI hf (fun v2 hf => ?_)
  refine aw_aload_n C dL_law_429 rfl 0 rfl ?_
  refine aw_iload_n C dL_law_430 rfl 3 rfl ?_
  refine aw_iconst (v := 2) C dL_law_431 (by decide) ?_
  refine aw_iadd C dL_law_432 ?_
  refine aw_nmI hf (fun v3 hf => ?_)
  refine aw_sld C X hf dL_law_433 (fun hf => ?_)
  refine aw_nmI hf (fun v4 hf => ?_)
  refine aw_aload_n C dL_law_434 rfl 0 rfl ?_
  refine aw_iload_n C dL_law_435 rfl 3 rfl ?_
  refine aw_iconst (v := 3) C dL_law_436 (by decide) ?_
  refine aw_iadd C dL_law_437 ?_
  refine aw_nmI hf (fun v5 hf => ?_)
  refine aw_sld C X hf dL_law_438 (fun hf => ?_)
  refine aw_nmI hf (fun v6 hf => ?_)
  obtain ⟨r7, hc, hf⟩ := bR_some hf
  refine aw_callVi (As := [.int v2, .int v4, .int v6]) (rest := []) C rfl (by decide) rfl (kX5_row (l := l) (D := D) (ad := ad) (cy := cy) (tb := tb) C.2.2.2.2.2.2.2.2.1 hc) (fun ht _ => cwV 3 ht gL_law_X5_row rfl rfl rfl (by decide +kernel) ⟨Nat.le_of_ble_eq_true rfl, Nat.le_of_ble_eq_true rfl⟩) rfl rfl (Nat.le_of_ble_eq_true rfl) dL_law_439 ?_
  refine aw_aload_n C dL_law_442 rfl 2 rfl ?_
  refine aw_aload_n C dL_law_443 rfl 0 rfl ?_
  refine aw_iload_n C dL_law_444 rfl 3 rfl ?_
  refine aw_iconst (v := 1) C dL_law_445 (by decide) ?_
  refine aw_iadd C dL_law_446 ?_
  refine aw_nmI hf (fun v8 hf => ?_)
  refine aw_sld C X hf dL_law_447 (fun hf => ?_)
  refine aw_nmI hf (fun v9 hf => ?_)
  refine aw_aload_n C dL_law_448 rfl 0 rfl ?_
  refine aw_iload_n C dL_law_449 rfl 3 rfl ?_
  refine aw_iconst (v := 2) C dL_law_450 (by decide) ?_
  refine aw_iadd C dL_law_451 ?_
  refine aw_nmI hf (fun v10 hf => ?_)
  refine aw_sld C X hf dL_law_452 (fun hf => ?_)
  refine aw_nmI hf (fun v11 hf => ?_)
  refine aw_aload_n C dL_law_453 rfl 0 rfl ?_
  refine aw_iload_n C dL_law_454 rfl 3 rfl ?_
  refine aw_iconst (v := 3) C dL_law_455 (by decide) ?_
  refine aw_iadd C dL_law_456 ?_
  refine aw_nmI hf (fun v12 hf => ?_)
  refine aw_sld C X hf dL_law_457 (fun hf => ?_)
  refine aw_nmI hf (fun v13 hf => ?_)
  obtain ⟨r14, hc, hf⟩ := bR_some hf
  refine aw_callVi (As := [.int v9, .int v11, .int v13]) (rest := [.int r7]) C rfl (by decide) rfl (kX6_row (l := l) (D := D) (ad := ad) (cy := cy) (tb := tb) C.2.2.2.2.2.2.2.2.1 hc) (fun ht _ => cwV 3 ht gL_law_X6_row rfl rfl rfl (by decide +kernel) ⟨Nat.le_of_ble_eq_true rfl, Nat.le_of_ble_eq_true rfl⟩) rfl rfl (Nat.le_of_ble_eq_true rfl) dL_law_458 ?_
  refine aw_icmp_eq (tgt := 1188) C dL_law_461 (by decide) hf (fun hf => ?_) (fun hf => ?_)
  · refine aw_sub [0, 1, 2, 3] rfl ?_
    exact tL_1188 C X H18 hf
  refine aw_iconst (v := 0) C dL_law_464 (by decide) ?_
  cases hf
set_option maxHeartbeats 4000000 in
set_option maxRecDepth 100000 in
theorem tL_466 {k18 : AH → Int32 → Option AH} {x3 : Int32} {h1 : AH} (C : Cx p room_1 s m #[Value.ref b] meth c RL cL_law 4 ret wsL_law D ad cy tb cells slots) (X : Sc s ad b L xs) (H18 : ∀ (h : AH) (x3 : Int32), k18 h x3 = some h1 → AW p l e room_1 s m #[Value.ref b] below meth c 4 D ad cy cells slots (lw_Z below #[Value.ref b] s) 18 [(0, .ref b), (1, .ref (ad 0)), (2, .ref (ad 29)), (3, .int x3)] [] h) (hf : fL_466 L xs k18 h x3 = some h1) : AW p l e room_1 s m #[Value.ref b] below meth c 4 D ad cy cells slots (lw_Z below #[Value.ref b] s) 466 [(0, .ref b), (1, .ref (ad 0)), (2, .ref (ad 29)), (3, .int x3)] [] h := by
  unfold fL_466 at hf
  refine aw_aload_n C dL_law_466 rfl 1 rfl ?_
  refine aw_aload_n C dL_law_467 rfl 0 rfl ?_
  refine aw_iload_n C dL_law_468 rfl 3 rfl ?_
  refine aw_iconst (v := 1) C dL_law_469 (by decide) ?_
  refine aw_iadd C dL_law_470 ?_
  refine aw_nmI hf (fun v1 hf => ?_)
  refine aw_sld C X hf dL_law_471 (fun hf => ?_)
  refine aw_nmI hf (fun v2 hf => ?_)
  obtain ⟨r3, hc, hf⟩ := bR_some hf
  refine aw_callVl (As := [.int v2]) (rest := []) C rfl (by decide) rfl (kX5_block (l := l) (D := D) (ad := ad) (cy := cy) (tb := tb) C.2.2.2.2.2.2.2.2.1 hc) (fun ht _ => cwV 1 ht gL_law_X5_block rfl rfl rfl (by decide +kernel) ⟨Nat.le_of_ble_eq_true rfl, Nat.le_of_ble_eq_true rfl⟩) rfl rfl (Nat.le_of_ble_eq_true rfl) dL_law_472 ?_
  refine aw_aload_n C dL_law_475 rfl 2 rfl ?_
  refine aw_aload_n C dL_law_476 rfl 0 rfl ?_
  refine aw_iload_n C dL_law_477 rfl 3 rfl ?_
  refine aw_iconst (v := 1) C dL_law_478 (by decide) ?_
  refine aw_iadd C dL_law_479 ?_
  refine aw_nmI hf (fun v4 hf => ?_)
  refine aw_sld C X hf dL_law_480 (fun hf => ?_)
  refine aw_nmI hf (fun v5 hf => ?_)
  obtain ⟨r6, hc, hf⟩ := bR_some hf
  refine aw_callVl (As := [.int v5]) (rest := [.long r3]) C rfl (by decide) rfl (kX6_block (l := l) (D := D) (ad := ad) (cy := cy) (tb := tb) C.2.2.2.2.2.2.2.2.1 hc) (fun ht _ => cwV 1 ht gL_law_X6_block rfl rfl rfl (by decide +kernel) ⟨Nat.le_of_ble_eq_true rfl, Nat.le_of_ble_eq_true rfl⟩) rfl rfl (Nat.le_of_ble_eq_true rfl) dL_law_481 ?_
  refine aw_lcmp C dL_law_484 ?_
  refine aw_if_eq (tgt := 1188) C dL_law_485 (by decide) hf (fun hf => ?_) (fun hf => ?_)
  · refine aw_sub [0, 1, 2, 3] rfl ?_
    exact tL_1188 C X H18 hf
  refine aw_iconst (v := 0) C dL_law_488 (by decide) ?_
  cases hf
set_option maxHeartbeats 4000000 in
set_option maxRecDepth 100000 in
theorem tL_490 {k18 : AH → Int32 → Option AH} {x3 : Int32} {h1 : AH} (C : Cx p room_1 s m #[Value.ref b] meth c RL cL_law 4 ret wsL_law D ad cy tb cells slots) (X : Sc s ad b L xs) (H18 : ∀ (h : AH) (x3 : Int32), k18 h x3 = some h1 → AW p l e room_1 s m #[Value.ref b] below meth c 4 D ad cy cells slots (lw_Z below #[Value.ref b] s) 18 [(0, .ref b), (1, .ref (ad 0)), (2, .ref (ad 29)), (3, .int x3)] [] h) (hf : fL_490 L xs k18 h x3 = some h1) : AW p l e room_1 s m #[Value.ref b] below meth c 4 D ad cy cells slots (lw_Z below #[Value.ref b] s) 490 [(0, .ref b), (1, .ref (ad 0)), (2, .ref (ad 29)), (3, .int x3)] [] h := by
  unfold fL_490 at hf
  refine aw_aload_n C dL_law_490 rfl 1 rfl ?_
  refine aw_aload_n C dL_law_491 rfl 0 rfl ?_
  refine aw_iload_n C dL_law_492 rfl 3 rfl ?_
  refine aw_iconst (v := 1) C dL_law_493 (by decide) ?_
  refine aw_iadd C dL_law_494 ?_
  refine aw_nmI hf (fun v1 hf => ?_)
  refine aw_sld C X hf dL_law_495 (fun hf => ?_)
  refine aw_nmI hf (fun v2 hf => ?_)
  refine aw_aload_n C dL_law_496 rfl 0 rfl ?_
  refine aw_iload_n C dL_law_497 rfl 3 rfl ?_
  refine aw_iconst (v := 2) C dL_law_498 (by decide) ?_
  refine aw_iadd C dL_law_499 ?_
  refine aw_nmI hf (fun v3 hf => ?_)
  refine aw_sld C X hf dL_law_500 (fun hf => ?_)
  refine aw_nmI hf (fun v4 hf => ?_)
  refine aw_aload_n C dL_law_501 rfl 0 rfl ?_
  refine aw_iload_n C dL_law_502 rfl 3 rfl ?_
  refine aw_iconst (v := 3) C dL_law_503 (by decide) ?_
  refine aw_iadd C dL_law_504 ?_
  refine aw_nmI hf (fun v5 hf => ?_)
  refine aw_sld C X hf dL_law_505 (fun hf => ?_)
  refine aw_nmI hf (fun v6 hf => ?_)
  obtain ⟨r7, hc, hf⟩ := bR_some hf
  refine aw_callVi (As := [.int v2, .int v4, .int v6]) (rest := []) C rfl (by decide) rfl (kX5_word (l := l) (D := D) (ad := ad) (cy := cy) (tb := tb) C.2.2.2.2.2.2.2.2.1 hc) (fun ht _ => cwV 3 ht gL_law_X5_word rfl rfl rfl (by decide +kernel) ⟨Nat.le_of_ble_eq_true rfl, Nat.le_of_ble_eq_true rfl⟩) rfl rfl (Nat.le_of_ble_eq_true rfl) dL_law_506 ?_
  refine aw_aload_n C dL_law_509 rfl 2 rfl ?_
  refine aw_aload_n C dL_law_510 rfl 0 rfl ?_
  refine aw_iload_n C dL_law_511 rfl 3 rfl ?_
  refine aw_iconst (v := 1) C dL_law_512 (by decide) ?_
  refine aw_iadd C dL_law_513 ?_
  refine aw_nmI hf (fun v8 hf => ?_)
  refine aw_sld C X hf dL_law_514 (fun hf => ?_)
  refine aw_nmI hf (fun v9 hf => ?_)
  refine aw_aload_n C dL_law_515 rfl 0 rfl ?_
  refine aw_iload_n C dL_law_516 rfl 3 rfl ?_
  refine aw_iconst (v := 2) C dL_law_517 (by decide) ?_
  refine aw_iadd C dL_law_518 ?_
  refine aw_nmI hf (fun v10 hf => ?_)
  refine aw_sld C X hf dL_law_519 (fun hf => ?_)
  refine aw_nmI hf (fun v11 hf => ?_)
  refine aw_aload_n C dL_law_520 rfl 0 rfl ?_
  refine aw_iload_n C dL_law_521 rfl 3 rfl ?_
  refine aw_iconst (v := 3) C dL_law_522 (by decide) ?_
  refine aw_iadd C dL_law_523 ?_
  refine aw_nmI hf (fun v12 hf => ?_)
  refine aw_sld C X hf dL_law_524 (fun hf => ?_)
  refine aw_nmI hf (fun v13 hf => ?_)
  obtain ⟨r14, hc, hf⟩ := bR_some hf
  refine aw_callVi (As := [.int v9, .int v11, .int v13]) (rest := [.int r7]) C rfl (by decide) rfl (kX6_word (l := l) (D := D) (ad := ad) (cy := cy) (tb := tb) C.2.2.2.2.2.2.2.2.1 hc) (fun ht _ => cwV 3 ht gL_law_X6_word rfl rfl rfl (by decide +kernel) ⟨Nat.le_of_ble_eq_true rfl, Nat.le_of_ble_eq_true rfl⟩) rfl rfl (Nat.le_of_ble_eq_true rfl) dL_law_525 ?_
  refine aw_icmp_eq (tgt := 1188) C dL_law_528 (by decide) hf (fun hf => ?_) (fun hf => ?_)
  · refine aw_sub [0, 1, 2, 3] rfl ?_
    exact tL_1188 C X H18 hf
  refine aw_iconst (v := 0) C dL_law_531 (by decide) ?_
  cases hf
set_option maxHeartbeats 4000000 in
set_option maxRecDepth 100000 in
theorem tL_533 {k18 : AH → Int32 → Option AH} {x3 : Int32} {h1 : AH} (C : Cx p room_1 s m #[Value.ref b] meth c RL cL_law 4 ret wsL_law D ad cy tb cells slots) (X : Sc s ad b L xs) (H18 : ∀ (h : AH) (x3 : Int32), k18 h x3 = some h1 → AW p l e room_1 s m #[Value.ref b] below meth c 4 D ad cy cells slots (lw_Z below #[Value.ref b] s) 18 [(0, .ref b), (1, .ref (ad 0)), (2, .ref (ad 29)), (3, .int x3)] [] h) (hf : fL_533 L xs k18 h x3 = some h1) : AW p l e room_1 s m #[Value.ref b] below meth c 4 D ad cy cells slots (lw_Z below #[Value.ref b] s) 533 [(0, .ref b), (1, .ref (ad 0)), (2, .ref (ad 29)), (3, .int x3)] [] h := by
  unfold fL_533 at hf
  refine aw_aload_n C dL_law_533 rfl 1 rfl ?_
  refine aw_aload_n C dL_law_534 rfl 0 rfl ?_
  refine aw_iload_n C dL_law_535 rfl 3 rfl ?_
  refine aw_iconst (v := 1) C dL_law_536 (by decide) ?_
  refine aw_iadd C dL_law_537 ?_
  refine aw_nmI hf (fun v1 hf => ?_)
  refine aw_sld C X hf dL_law_538 (fun hf => ?_)
  refine aw_nmI hf (fun v2 hf => ?_)
  refine aw_aload_n C dL_law_539 rfl 0 rfl ?_
  refine aw_iload_n C dL_law_540 rfl 3 rfl ?_
  refine aw_iconst (v := 2) C dL_law_541 (by decide) ?_
  refine aw_iadd C dL_law_542 ?_
  refine aw_nmI hf (fun v3 hf => ?_)
  refine aw_sld C X hf dL_law_543 (fun hf => ?_)
  refine aw_nmI hf (fun v4 hf => ?_)
  obtain ⟨r6, h5, hc, hf⟩ := bW_some hf
  refine aw_callVi (As := [.int v2, .int v4]) (rest := []) C rfl (by decide) rfl (kX5_mend (l := l) (D := D) (ad := ad) (cy := cy) (tb := tb) C.2.2.2.2.2.2.2.2.1 hc) (fun ht _ => cwV 2 ht gL_law_X5_mend rfl rfl rfl (by decide +kernel) ⟨Nat.le_of_ble_eq_true rfl, Nat.le_of_ble_eq_true rfl⟩) rfl rfl (Nat.le_of_ble_eq_true rfl) dL_law_544 ?_
  refine aw_aload_n C dL_law_547 rfl 2 rfl ?_
  refine aw_aload_n C dL_law_548 rfl 0 rfl ?_
  refine aw_iload_n C dL_law_549 rfl 3 rfl ?_
  refine aw_iconst (v := 1) C dL_law_550 (by decide) ?_
  refine aw_iadd C dL_law_551 ?_
  refine aw_nmI hf (fun v7 hf => ?_)
  refine aw_sld C X hf dL_law_552 (fun hf => ?_)
  refine aw_nmI hf (fun v8 hf => ?_)
  refine aw_aload_n C dL_law_553 rfl 0 rfl ?_
  refine aw_iload_n C dL_law_554 rfl 3 rfl ?_
  refine aw_iconst (v := 2) C dL_law_555 (by decide) ?_
  refine aw_iadd C dL_law_556 ?_
  refine aw_nmI hf (fun v9 hf => ?_)
  refine aw_sld C X hf dL_law_557 (fun hf => ?_)
  refine aw_nmI hf (fun v10 hf => ?_)
  obtain ⟨r12, h11, hc, hf⟩ := bW_some hf
  refine aw_callVi (As := [.int v8, .int v10]) (rest := [.int r6]) C rfl (by decide) rfl (kX6_mend (l := l) (D := D) (ad := ad) (cy := cy) (tb := tb) C.2.2.2.2.2.2.2.2.1 hc) (fun ht _ => cwV 2 ht gL_law_X6_mend rfl rfl rfl (by decide +kernel) ⟨Nat.le_of_ble_eq_true rfl, Nat.le_of_ble_eq_true rfl⟩) rfl rfl (Nat.le_of_ble_eq_true rfl) dL_law_558 ?_
  refine aw_icmp_eq (tgt := 1188) C dL_law_561 (by decide) hf (fun hf => ?_) (fun hf => ?_)
  · refine aw_sub [0, 1, 2, 3] rfl ?_
    exact tL_1188 C X H18 hf
  refine aw_iconst (v := 0) C dL_law_564 (by decide) ?_
  cases hf
set_option maxHeartbeats 4000000 in
set_option maxRecDepth 100000 in
theorem tL_566 {k18 : AH → Int32 → Option AH} {x3 : Int32} {h1 : AH} (C : Cx p room_1 s m #[Value.ref b] meth c RL cL_law 4 ret wsL_law D ad cy tb cells slots) (X : Sc s ad b L xs) (H18 : ∀ (h : AH) (x3 : Int32), k18 h x3 = some h1 → AW p l e room_1 s m #[Value.ref b] below meth c 4 D ad cy cells slots (lw_Z below #[Value.ref b] s) 18 [(0, .ref b), (1, .ref (ad 0)), (2, .ref (ad 29)), (3, .int x3)] [] h) (hf : fL_566 L xs k18 h x3 = some h1) : AW p l e room_1 s m #[Value.ref b] below meth c 4 D ad cy cells slots (lw_Z below #[Value.ref b] s) 566 [(0, .ref b), (1, .ref (ad 0)), (2, .ref (ad 29)), (3, .int x3)] [] h := by
  unfold fL_566 at hf
  refine aw_aload_n C dL_law_566 rfl 1 rfl ?_
  refine aw_aload_n C dL_law_567 rfl 0 rfl ?_
  refine aw_iload_n C dL_law_568 rfl 3 rfl ?_
  refine aw_iconst (v := 1) C dL_law_569 (by decide) ?_
  refine aw_iadd C dL_law_570 ?_
  refine aw_nmI hf (fun v1 hf => ?_)
  refine aw_sld C X hf dL_law_571 (fun hf => ?_)
  refine aw_nmI hf (fun v2 hf => ?_)
  refine aw_aload_n C dL_law_572 rfl 0 rfl ?_
  refine aw_iload_n C dL_law_573 rfl 3 rfl ?_
  refine aw_iconst (v := 2) C dL_law_574 (by decide) ?_
  refine aw_iadd C dL_law_575 ?_
  refine aw_nmI hf (fun v3 hf => ?_)
  refine aw_sld C X hf dL_law_576 (fun hf => ?_)
  refine aw_nmI hf (fun v4 hf => ?_)
  obtain ⟨r6, h5, hc, hf⟩ := bW_some hf
  refine aw_callVi (As := [.int v2, .int v4]) (rest := []) C rfl (by decide) rfl (kX5_turn (l := l) (D := D) (ad := ad) (cy := cy) (tb := tb) C.2.2.2.2.2.2.2.2.1 hc) (fun ht _ => cwV 2 ht gL_law_X5_turn rfl rfl rfl (by decide +kernel) ⟨Nat.le_of_ble_eq_true rfl, Nat.le_of_ble_eq_true rfl⟩) rfl rfl (Nat.le_of_ble_eq_true rfl) dL_law_577 ?_
  refine aw_aload_n C dL_law_580 rfl 2 rfl ?_
  refine aw_aload_n C dL_law_581 rfl 0 rfl ?_
  refine aw_iload_n C dL_law_582 rfl 3 rfl ?_
  refine aw_iconst (v := 1) C dL_law_583 (by decide) ?_
  refine aw_iadd C dL_law_584 ?_
  refine aw_nmI hf (fun v7 hf => ?_)
  refine aw_sld C X hf dL_law_585 (fun hf => ?_)
  refine aw_nmI hf (fun v8 hf => ?_)
  refine aw_aload_n C dL_law_586 rfl 0 rfl ?_
  refine aw_iload_n C dL_law_587 rfl 3 rfl ?_
  refine aw_iconst (v := 2) C dL_law_588 (by decide) ?_
  refine aw_iadd C dL_law_589 ?_
  refine aw_nmI hf (fun v9 hf => ?_)
  refine aw_sld C X hf dL_law_590 (fun hf => ?_)
  refine aw_nmI hf (fun v10 hf => ?_)
  obtain ⟨r12, h11, hc, hf⟩ := bW_some hf
  refine aw_callVi (As := [.int v8, .int v10]) (rest := [.int r6]) C rfl (by decide) rfl (kX6_turn (l := l) (D := D) (ad := ad) (cy := cy) (tb := tb) C.2.2.2.2.2.2.2.2.1 hc) (fun ht _ => cwV 2 ht gL_law_X6_turn rfl rfl rfl (by decide +kernel) ⟨Nat.le_of_ble_eq_true rfl, Nat.le_of_ble_eq_true rfl⟩) rfl rfl (Nat.le_of_ble_eq_true rfl) dL_law_591 ?_
  refine aw_icmp_eq (tgt := 1188) C dL_law_594 (by decide) hf (fun hf => ?_) (fun hf => ?_)
  · refine aw_sub [0, 1, 2, 3] rfl ?_
    exact tL_1188 C X H18 hf
  refine aw_iconst (v := 0) C dL_law_597 (by decide) ?_
  cases hf
set_option maxHeartbeats 4000000 in
set_option maxRecDepth 100000 in
theorem tL_599 {k18 : AH → Int32 → Option AH} {x3 : Int32} {h1 : AH} (C : Cx p room_1 s m #[Value.ref b] meth c RL cL_law 4 ret wsL_law D ad cy tb cells slots) (X : Sc s ad b L xs) (H18 : ∀ (h : AH) (x3 : Int32), k18 h x3 = some h1 → AW p l e room_1 s m #[Value.ref b] below meth c 4 D ad cy cells slots (lw_Z below #[Value.ref b] s) 18 [(0, .ref b), (1, .ref (ad 0)), (2, .ref (ad 29)), (3, .int x3)] [] h) (hf : fL_599 L xs k18 h x3 = some h1) : AW p l e room_1 s m #[Value.ref b] below meth c 4 D ad cy cells slots (lw_Z below #[Value.ref b] s) 599 [(0, .ref b), (1, .ref (ad 0)), (2, .ref (ad 29)), (3, .int x3)] [] h := by
  unfold fL_599 at hf
  refine aw_aload_n C dL_law_599 rfl 1 rfl ?_
  refine aw_aload_n C dL_law_600 rfl 0 rfl ?_
  refine aw_iload_n C dL_law_601 rfl 3 rfl ?_
  refine aw_iconst (v := 1) C dL_law_602 (by decide) ?_
  refine aw_iadd C dL_law_603 ?_
  refine aw_nmI hf (fun v1 hf => ?_)
  refine aw_sld C X hf dL_law_604 (fun hf => ?_)
  refine aw_nmI hf (fun v2 hf => ?_)
  refine aw_aload_n C dL_law_605 rfl 0 rfl ?_
  refine aw_iload_n C dL_law_606 rfl 3 rfl ?_
  refine aw_iconst (v := 2) C dL_law_607 (by decide) ?_
  refine aw_iadd C dL_law_608 ?_
  refine aw_nmI hf (fun v3 hf => ?_)
  refine aw_sld C X hf dL_law_609 (fun hf => ?_)
  refine aw_nmI hf (fun v4 hf => ?_)
  refine aw_aload_n C dL_law_610 rfl 0 rfl ?_
  refine aw_iload_n C dL_law_611 rfl 3 rfl ?_
  refine aw_iconst (v := 3) C dL_law_612 (by decide) ?_
  refine aw_iadd C dL_law_613 ?_
  refine aw_nmI hf (fun v5 hf => ?_)
  refine aw_sld C X hf dL_law_614 (fun hf => ?_)
  refine aw_nmI hf (fun v6 hf => ?_)
  obtain ⟨r8, h7, hc, hf⟩ := bW_some hf
  refine aw_callVi (As := [.int v2, .int v4, .int v6]) (rest := []) C rfl (by decide) rfl (kX5_window (l := l) (D := D) (ad := ad) (cy := cy) (tb := tb) C.2.2.2.2.2.2.2.2.1 hc) (fun ht _ => cwV 3 ht gL_law_X5_window rfl rfl rfl (by decide +kernel) ⟨Nat.le_of_ble_eq_true rfl, Nat.le_of_ble_eq_true rfl⟩) rfl rfl (Nat.le_of_ble_eq_true rfl) dL_law_615 ?_
  refine aw_aload_n C dL_law_618 rfl 2 rfl ?_
  refine aw_aload_n C dL_law_619 rfl 0 rfl ?_
  refine aw_iload_n C dL_law_620 rfl 3 rfl ?_
  refine aw_iconst (v := 1) C dL_law_621 (by decide) ?_
  refine aw_iadd C dL_law_622 ?_
  refine aw_nmI hf (fun v9 hf => ?_)
  refine aw_sld C X hf dL_law_623 (fun hf => ?_)
  refine aw_nmI hf (fun v10 hf => ?_)
  refine aw_aload_n C dL_law_624 rfl 0 rfl ?_
  refine aw_iload_n C dL_law_625 rfl 3 rfl ?_
  refine aw_iconst (v := 2) C dL_law_626 (by decide) ?_
  refine aw_iadd C dL_law_627 ?_
  refine aw_nmI hf (fun v11 hf => ?_)
  refine aw_sld C X hf dL_law_628 (fun hf => ?_)
  refine aw_nmI hf (fun v12 hf => ?_)
  refine aw_aload_n C dL_law_629 rfl 0 rfl ?_
  refine aw_iload_n C dL_law_630 rfl 3 rfl ?_
  refine aw_iconst (v := 3) C dL_law_631 (by decide) ?_
  refine aw_iadd C dL_law_632 ?_
  refine aw_nmI hf (fun v13 hf => ?_)
  refine aw_sld C X hf dL_law_633 (fun hf => ?_)
  refine aw_nmI hf (fun v14 hf => ?_)
  obtain ⟨r16, h15, hc, hf⟩ := bW_some hf
  refine aw_callVi (As := [.int v10, .int v12, .int v14]) (rest := [.int r8]) C rfl (by decide) rfl (kX6_window (l := l) (D := D) (ad := ad) (cy := cy) (tb := tb) C.2.2.2.2.2.2.2.2.1 hc) (fun ht _ => cwV 3 ht gL_law_X6_window rfl rfl rfl (by decide +kernel) ⟨Nat.le_of_ble_eq_true rfl, Nat.le_of_ble_eq_true rfl⟩) rfl rfl (Nat.le_of_ble_eq_true rfl) dL_law_634 ?_
  refine aw_icmp_eq (tgt := 1188) C dL_law_637 (by decide) hf (fun hf => ?_) (fun hf => ?_)
  · refine aw_sub [0, 1, 2, 3] rfl ?_
    exact tL_1188 C X H18 hf
  refine aw_iconst (v := 0) C dL_law_640 (by decide) ?_
  cases hf
set_option maxHeartbeats 4000000 in
set_option maxRecDepth 100000 in
theorem tL_642 {k18 : AH → Int32 → Option AH} {x3 : Int32} {h1 : AH} (C : Cx p room_1 s m #[Value.ref b] meth c RL cL_law 4 ret wsL_law D ad cy tb cells slots) (X : Sc s ad b L xs) (H18 : ∀ (h : AH) (x3 : Int32), k18 h x3 = some h1 → AW p l e room_1 s m #[Value.ref b] below meth c 4 D ad cy cells slots (lw_Z below #[Value.ref b] s) 18 [(0, .ref b), (1, .ref (ad 0)), (2, .ref (ad 29)), (3, .int x3)] [] h) (hf : fL_642 L xs k18 h x3 = some h1) : AW p l e room_1 s m #[Value.ref b] below meth c 4 D ad cy cells slots (lw_Z below #[Value.ref b] s) 642 [(0, .ref b), (1, .ref (ad 0)), (2, .ref (ad 29)), (3, .int x3)] [] h := by
  unfold fL_642 at hf
  refine aw_aload_n C dL_law_642 rfl 1 rfl ?_
  refine aw_aload_n C dL_law_643 rfl 0 rfl ?_
  refine aw_iload_n C dL_law_644 rfl 3 rfl ?_
  refine aw_iconst (v := 1) C dL_law_645 (by decide) ?_
  refine aw_iadd C dL_law_646 ?_
  refine aw_nmI hf (fun v1 hf => ?_)
  refine aw_sld C X hf dL_law_647 (fun hf => ?_)
  refine aw_nmI hf (fun v2 hf => ?_)
  refine aw_aload_n C dL_law_648 rfl 0 rfl ?_
  refine aw_iload_n C dL_law_649 rfl 3 rfl ?_
  refine aw_iconst (v := 2) C dL_law_650 (by decide) ?_
  refine aw_iadd C dL_law_651 ?_
  refine aw_nmI hf (fun v3 hf => ?_)
  refine aw_sld C X hf dL_law_652 (fun hf => ?_)
  refine aw_nmI hf (fun v4 hf => ?_)
  obtain ⟨r6, h5, hc, hf⟩ := bW_some hf
  refine aw_callVi (As := [.int v2, .int v4]) (rest := []) C rfl (by decide) rfl (kX5_slide (l := l) (D := D) (ad := ad) (cy := cy) (tb := tb) C.2.2.2.2.2.2.2.2.1 hc) (fun ht _ => cwV 2 ht gL_law_X5_slide rfl rfl rfl (by decide +kernel) ⟨Nat.le_of_ble_eq_true rfl, Nat.le_of_ble_eq_true rfl⟩) rfl rfl (Nat.le_of_ble_eq_true rfl) dL_law_653 ?_
  refine aw_aload_n C dL_law_656 rfl 2 rfl ?_
  refine aw_aload_n C dL_law_657 rfl 0 rfl ?_
  refine aw_iload_n C dL_law_658 rfl 3 rfl ?_
  refine aw_iconst (v := 1) C dL_law_659 (by decide) ?_
  refine aw_iadd C dL_law_660 ?_
  refine aw_nmI hf (fun v7 hf => ?_)
  refine aw_sld C X hf dL_law_661 (fun hf => ?_)
  refine aw_nmI hf (fun v8 hf => ?_)
  refine aw_aload_n C dL_law_662 rfl 0 rfl ?_
  refine aw_iload_n C dL_law_663 rfl 3 rfl ?_
  refine aw_iconst (v := 2) C dL_law_664 (by decide) ?_
  refine aw_iadd C dL_law_665 ?_
  refine aw_nmI hf (fun v9 hf => ?_)
  refine aw_sld C X hf dL_law_666 (fun hf => ?_)
  refine aw_nmI hf (fun v10 hf => ?_)
  obtain ⟨r12, h11, hc, hf⟩ := bW_some hf
  refine aw_callVi (As := [.int v8, .int v10]) (rest := [.int r6]) C rfl (by decide) rfl (kX6_slide (l := l) (D := D) (ad := ad) (cy := cy) (tb := tb) C.2.2.2.2.2.2.2.2.1 hc) (fun ht _ => cwV 2 ht gL_law_X6_slide rfl rfl rfl (by decide +kernel) ⟨Nat.le_of_ble_eq_true rfl, Nat.le_of_ble_eq_true rfl⟩) rfl rfl (Nat.le_of_ble_eq_true rfl) dL_law_667 ?_
  refine aw_icmp_eq (tgt := 1188) C dL_law_670 (by decide) hf (fun hf => ?_) (fun hf => ?_)
  · refine aw_sub [0, 1, 2, 3] rfl ?_
    exact tL_1188 C X H18 hf
  refine aw_iconst (v := 0) C dL_law_673 (by decide) ?_
  cases hf
set_option maxHeartbeats 4000000 in
set_option maxRecDepth 100000 in
theorem tL_675 {k18 : AH → Int32 → Option AH} {x3 : Int32} {h1 : AH} (C : Cx p room_1 s m #[Value.ref b] meth c RL cL_law 4 ret wsL_law D ad cy tb cells slots) (X : Sc s ad b L xs) (H18 : ∀ (h : AH) (x3 : Int32), k18 h x3 = some h1 → AW p l e room_1 s m #[Value.ref b] below meth c 4 D ad cy cells slots (lw_Z below #[Value.ref b] s) 18 [(0, .ref b), (1, .ref (ad 0)), (2, .ref (ad 29)), (3, .int x3)] [] h) (hf : fL_675 L xs k18 h x3 = some h1) : AW p l e room_1 s m #[Value.ref b] below meth c 4 D ad cy cells slots (lw_Z below #[Value.ref b] s) 675 [(0, .ref b), (1, .ref (ad 0)), (2, .ref (ad 29)), (3, .int x3)] [] h := by
  unfold fL_675 at hf
  refine aw_aload_n C dL_law_675 rfl 1 rfl ?_
  obtain ⟨r2, h1, hc, hf⟩ := bW_some hf
  refine aw_callVi (As := []) (rest := []) C rfl (by decide) rfl (kX5_undo (l := l) (D := D) (ad := ad) (cy := cy) (tb := tb) C.2.2.2.2.2.2.2.2.1 hc) (fun ht _ => cwV 0 ht gL_law_X5_undo rfl rfl rfl (by decide +kernel) ⟨Nat.le_of_ble_eq_true rfl, Nat.le_of_ble_eq_true rfl⟩) rfl rfl (Nat.le_of_ble_eq_true rfl) dL_law_676 ?_
  refine aw_aload_n C dL_law_679 rfl 2 rfl ?_
  obtain ⟨r4, h3, hc, hf⟩ := bW_some hf
  refine aw_callVi (As := []) (rest := [.int r2]) C rfl (by decide) rfl (kX6_undo (l := l) (D := D) (ad := ad) (cy := cy) (tb := tb) C.2.2.2.2.2.2.2.2.1 hc) (fun ht _ => cwV 0 ht gL_law_X6_undo rfl rfl rfl (by decide +kernel) ⟨Nat.le_of_ble_eq_true rfl, Nat.le_of_ble_eq_true rfl⟩) rfl rfl (Nat.le_of_ble_eq_true rfl) dL_law_680 ?_
  refine aw_icmp_eq (tgt := 1188) C dL_law_683 (by decide) hf (fun hf => ?_) (fun hf => ?_)
  · refine aw_sub [0, 1, 2, 3] rfl ?_
    exact tL_1188 C X H18 hf
  refine aw_iconst (v := 0) C dL_law_686 (by decide) ?_
  cases hf
set_option maxHeartbeats 4000000 in
set_option maxRecDepth 100000 in
theorem tL_688 {k18 : AH → Int32 → Option AH} {x3 : Int32} {h1 : AH} (C : Cx p room_1 s m #[Value.ref b] meth c RL cL_law 4 ret wsL_law D ad cy tb cells slots) (X : Sc s ad b L xs) (H18 : ∀ (h : AH) (x3 : Int32), k18 h x3 = some h1 → AW p l e room_1 s m #[Value.ref b] below meth c 4 D ad cy cells slots (lw_Z below #[Value.ref b] s) 18 [(0, .ref b), (1, .ref (ad 0)), (2, .ref (ad 29)), (3, .int x3)] [] h) (hf : fL_688 L xs k18 h x3 = some h1) : AW p l e room_1 s m #[Value.ref b] below meth c 4 D ad cy cells slots (lw_Z below #[Value.ref b] s) 688 [(0, .ref b), (1, .ref (ad 0)), (2, .ref (ad 29)), (3, .int x3)] [] h := by
  unfold fL_688 at hf
  refine aw_aload_n C dL_law_688 rfl 1 rfl ?_
  obtain ⟨r2, h1, hc, hf⟩ := bW_some hf
  refine aw_callVi (As := []) (rest := []) C rfl (by decide) rfl (kX5_back (l := l) (D := D) (ad := ad) (cy := cy) (tb := tb) C.2.2.2.2.2.2.2.2.1 hc) (fun ht _ => cwV 0 ht gL_law_X5_back rfl rfl rfl (by decide +kernel) ⟨Nat.le_of_ble_eq_true rfl, Nat.le_of_ble_eq_true rfl⟩) rfl rfl (Nat.le_of_ble_eq_true rfl) dL_law_689 ?_
  refine aw_aload_n C dL_law_692 rfl 2 rfl ?_
  obtain ⟨r4, h3, hc, hf⟩ := bW_some hf
  refine aw_callVi (As := []) (rest := [.int r2]) C rfl (by decide) rfl (kX6_back (l := l) (D := D) (ad := ad) (cy := cy) (tb := tb) C.2.2.2.2.2.2.2.2.1 hc) (fun ht _ => cwV 0 ht gL_law_X6_back rfl rfl rfl (by decide +kernel) ⟨Nat.le_of_ble_eq_true rfl, Nat.le_of_ble_eq_true rfl⟩) rfl rfl (Nat.le_of_ble_eq_true rfl) dL_law_693 ?_
  refine aw_icmp_eq (tgt := 1188) C dL_law_696 (by decide) hf (fun hf => ?_) (fun hf => ?_)
  · refine aw_sub [0, 1, 2, 3] rfl ?_
    exact tL_1188 C X H18 hf
  refine aw_iconst (v := 0) C dL_law_699 (by decide) ?_
  cases hf
set_option maxHeartbeats 4000000 in
set_option maxRecDepth 100000 in
theorem tL_701 {k18 : AH → Int32 → Option AH} {x3 : Int32} {h1 : AH} (C : Cx p room_1 s m #[Value.ref b] meth c RL cL_law 4 ret wsL_law D ad cy tb cells slots) (X : Sc s ad b L xs) (H18 : ∀ (h : AH) (x3 : Int32), k18 h x3 = some h1 → AW p l e room_1 s m #[Value.ref b] below meth c 4 D ad cy cells slots (lw_Z below #[Value.ref b] s) 18 [(0, .ref b), (1, .ref (ad 0)), (2, .ref (ad 29)), (3, .int x3)] [] h) (hf : fL_701 L xs k18 h x3 = some h1) : AW p l e room_1 s m #[Value.ref b] below meth c 4 D ad cy cells slots (lw_Z below #[Value.ref b] s) 701 [(0, .ref b), (1, .ref (ad 0)), (2, .ref (ad 29)), (3, .int x3)] [] h := by
  unfold fL_701 at hf
  refine aw_aload_n C dL_law_701 rfl 1 rfl ?_
  obtain ⟨r2, h1, hc, hf⟩ := bW_some hf
  refine aw_callVi (As := []) (rest := []) C rfl (by decide) rfl (kX5_settle (l := l) (D := D) (ad := ad) (cy := cy) (tb := tb) C.2.2.2.2.2.2.2.2.1 hc) (fun ht _ => cwV 0 ht gL_law_X5_settle rfl rfl rfl (by decide +kernel) ⟨Nat.le_of_ble_eq_true rfl, Nat.le_of_ble_eq_true rfl⟩) rfl rfl (Nat.le_of_ble_eq_true rfl) dL_law_702 ?_
  refine aw_aload_n C dL_law_705 rfl 2 rfl ?_
  obtain ⟨r4, h3, hc, hf⟩ := bW_some hf
  refine aw_callVi (As := []) (rest := [.int r2]) C rfl (by decide) rfl (kX6_settle (l := l) (D := D) (ad := ad) (cy := cy) (tb := tb) C.2.2.2.2.2.2.2.2.1 hc) (fun ht _ => cwV 0 ht gL_law_X6_settle rfl rfl rfl (by decide +kernel) ⟨Nat.le_of_ble_eq_true rfl, Nat.le_of_ble_eq_true rfl⟩) rfl rfl (Nat.le_of_ble_eq_true rfl) dL_law_706 ?_
  refine aw_icmp_eq (tgt := 1188) C dL_law_709 (by decide) hf (fun hf => ?_) (fun hf => ?_)
  · refine aw_sub [0, 1, 2, 3] rfl ?_
    exact tL_1188 C X H18 hf
  refine aw_iconst (v := 0) C dL_law_712 (by decide) ?_
  cases hf
set_option maxHeartbeats 4000000 in
set_option maxRecDepth 100000 in
theorem tL_714 {k18 : AH → Int32 → Option AH} {x3 : Int32} {h1 : AH} (C : Cx p room_1 s m #[Value.ref b] meth c RL cL_law 4 ret wsL_law D ad cy tb cells slots) (X : Sc s ad b L xs) (H18 : ∀ (h : AH) (x3 : Int32), k18 h x3 = some h1 → AW p l e room_1 s m #[Value.ref b] below meth c 4 D ad cy cells slots (lw_Z below #[Value.ref b] s) 18 [(0, .ref b), (1, .ref (ad 0)), (2, .ref (ad 29)), (3, .int x3)] [] h) (hf : fL_714 L xs k18 h x3 = some h1) : AW p l e room_1 s m #[Value.ref b] below meth c 4 D ad cy cells slots (lw_Z below #[Value.ref b] s) 714 [(0, .ref b), (1, .ref (ad 0)), (2, .ref (ad 29)), (3, .int x3)] [] h := by
  unfold fL_714 at hf
  refine aw_aload_n C dL_law_714 rfl 1 rfl ?_
  refine aw_aload_n C dL_law_715 rfl 0 rfl ?_
  refine aw_iload_n C dL_law_716 rfl 3 rfl ?_
  refine aw_iconst (v := 1) C dL_law_717 (by decide) ?_
  refine aw_iadd C dL_law_718 ?_
  refine aw_nmI hf (fun v1 hf => ?_)
  refine aw_sld C X hf dL_law_719 (fun hf => ?_)
  refine aw_nmI hf (fun v2 hf => ?_)
  obtain ⟨r3, hc, hf⟩ := bR_some hf
  refine aw_callVi (As := [.int v2]) (rest := []) C rfl (by decide) rfl (kX5_journal (l := l) (D := D) (ad := ad) (cy := cy) (tb := tb) C.2.2.2.2.2.2.2.2.1 hc) (fun ht _ => cwV 1 ht gL_law_X5_journal rfl rfl rfl (by decide +kernel) ⟨Nat.le_of_ble_eq_true rfl, Nat.le_of_ble_eq_true rfl⟩) rfl rfl (Nat.le_of_ble_eq_true rfl) dL_law_720 ?_
  refine aw_aload_n C dL_law_723 rfl 2 rfl ?_
  refine aw_aload_n C dL_law_724 rfl 0 rfl ?_
  refine aw_iload_n C dL_law_725 rfl 3 rfl ?_
  refine aw_iconst (v := 1) C dL_law_726 (by decide) ?_
  refine aw_iadd C dL_law_727 ?_
  refine aw_nmI hf (fun v4 hf => ?_)
  refine aw_sld C X hf dL_law_728 (fun hf => ?_)
  refine aw_nmI hf (fun v5 hf => ?_)
  obtain ⟨r6, hc, hf⟩ := bR_some hf
  refine aw_callVi (As := [.int v5]) (rest := [.int r3]) C rfl (by decide) rfl (kX6_journal (l := l) (D := D) (ad := ad) (cy := cy) (tb := tb) C.2.2.2.2.2.2.2.2.1 hc) (fun ht _ => cwV 1 ht gL_law_X6_journal rfl rfl rfl (by decide +kernel) ⟨Nat.le_of_ble_eq_true rfl, Nat.le_of_ble_eq_true rfl⟩) rfl rfl (Nat.le_of_ble_eq_true rfl) dL_law_729 ?_
  refine aw_icmp_eq (tgt := 1188) C dL_law_732 (by decide) hf (fun hf => ?_) (fun hf => ?_)
  · refine aw_sub [0, 1, 2, 3] rfl ?_
    exact tL_1188 C X H18 hf
  refine aw_iconst (v := 0) C dL_law_735 (by decide) ?_
  cases hf
set_option maxHeartbeats 4000000 in
set_option maxRecDepth 100000 in
theorem tL_737 {k18 : AH → Int32 → Option AH} {x3 : Int32} {h1 : AH} (C : Cx p room_1 s m #[Value.ref b] meth c RL cL_law 4 ret wsL_law D ad cy tb cells slots) (X : Sc s ad b L xs) (H18 : ∀ (h : AH) (x3 : Int32), k18 h x3 = some h1 → AW p l e room_1 s m #[Value.ref b] below meth c 4 D ad cy cells slots (lw_Z below #[Value.ref b] s) 18 [(0, .ref b), (1, .ref (ad 0)), (2, .ref (ad 29)), (3, .int x3)] [] h) (hf : fL_737 L xs k18 h x3 = some h1) : AW p l e room_1 s m #[Value.ref b] below meth c 4 D ad cy cells slots (lw_Z below #[Value.ref b] s) 737 [(0, .ref b), (1, .ref (ad 0)), (2, .ref (ad 29)), (3, .int x3)] [] h := by
  unfold fL_737 at hf
  refine aw_aload_n C dL_law_737 rfl 1 rfl ?_
  refine aw_aload_n C dL_law_738 rfl 0 rfl ?_
  refine aw_iload_n C dL_law_739 rfl 3 rfl ?_
  refine aw_iconst (v := 1) C dL_law_740 (by decide) ?_
  refine aw_iadd C dL_law_741 ?_
  refine aw_nmI hf (fun v1 hf => ?_)
  refine aw_sld C X hf dL_law_742 (fun hf => ?_)
  refine aw_nmI hf (fun v2 hf => ?_)
  obtain ⟨r3, hc, hf⟩ := bR_some hf
  refine aw_callVi (As := [.int v2]) (rest := []) C rfl (by decide) rfl (kX5_stall (l := l) (D := D) (ad := ad) (cy := cy) (tb := tb) C.2.2.2.2.2.2.2.2.1 hc) (fun ht _ => cwV 1 ht gL_law_X5_stall rfl rfl rfl (by decide +kernel) ⟨Nat.le_of_ble_eq_true rfl, Nat.le_of_ble_eq_true rfl⟩) rfl rfl (Nat.le_of_ble_eq_true rfl) dL_law_743 ?_
  refine aw_aload_n C dL_law_746 rfl 2 rfl ?_
  refine aw_aload_n C dL_law_747 rfl 0 rfl ?_
  refine aw_iload_n C dL_law_748 rfl 3 rfl ?_
  refine aw_iconst (v := 1) C dL_law_749 (by decide) ?_
  refine aw_iadd C dL_law_750 ?_
  refine aw_nmI hf (fun v4 hf => ?_)
  refine aw_sld C X hf dL_law_751 (fun hf => ?_)
  refine aw_nmI hf (fun v5 hf => ?_)
  obtain ⟨r6, hc, hf⟩ := bR_some hf
  refine aw_callVi (As := [.int v5]) (rest := [.int r3]) C rfl (by decide) rfl (kX6_stall (l := l) (D := D) (ad := ad) (cy := cy) (tb := tb) C.2.2.2.2.2.2.2.2.1 hc) (fun ht _ => cwV 1 ht gL_law_X6_stall rfl rfl rfl (by decide +kernel) ⟨Nat.le_of_ble_eq_true rfl, Nat.le_of_ble_eq_true rfl⟩) rfl rfl (Nat.le_of_ble_eq_true rfl) dL_law_752 ?_
  refine aw_icmp_eq (tgt := 1188) C dL_law_755 (by decide) hf (fun hf => ?_) (fun hf => ?_)
  · refine aw_sub [0, 1, 2, 3] rfl ?_
    exact tL_1188 C X H18 hf
  refine aw_iconst (v := 0) C dL_law_758 (by decide) ?_
  cases hf
set_option maxHeartbeats 4000000 in
set_option maxRecDepth 100000 in
theorem tL_760 {k18 : AH → Int32 → Option AH} {x3 : Int32} {h1 : AH} (C : Cx p room_1 s m #[Value.ref b] meth c RL cL_law 4 ret wsL_law D ad cy tb cells slots) (X : Sc s ad b L xs) (H18 : ∀ (h : AH) (x3 : Int32), k18 h x3 = some h1 → AW p l e room_1 s m #[Value.ref b] below meth c 4 D ad cy cells slots (lw_Z below #[Value.ref b] s) 18 [(0, .ref b), (1, .ref (ad 0)), (2, .ref (ad 29)), (3, .int x3)] [] h) (hf : fL_760 L xs k18 h x3 = some h1) : AW p l e room_1 s m #[Value.ref b] below meth c 4 D ad cy cells slots (lw_Z below #[Value.ref b] s) 760 [(0, .ref b), (1, .ref (ad 0)), (2, .ref (ad 29)), (3, .int x3)] [] h := by
  unfold fL_760 at hf
  refine aw_aload_n C dL_law_760 rfl 1 rfl ?_
  refine aw_aload_n C dL_law_761 rfl 0 rfl ?_
  refine aw_iload_n C dL_law_762 rfl 3 rfl ?_
  refine aw_iconst (v := 1) C dL_law_763 (by decide) ?_
  refine aw_iadd C dL_law_764 ?_
  refine aw_nmI hf (fun v1 hf => ?_)
  refine aw_sld C X hf dL_law_765 (fun hf => ?_)
  refine aw_nmI hf (fun v2 hf => ?_)
  refine aw_aload_n C dL_law_766 rfl 0 rfl ?_
  refine aw_iload_n C dL_law_767 rfl 3 rfl ?_
  refine aw_iconst (v := 2) C dL_law_768 (by decide) ?_
  refine aw_iadd C dL_law_769 ?_
  refine aw_nmI hf (fun v3 hf => ?_)
  refine aw_sld C X hf dL_law_770 (fun hf => ?_)
  refine aw_nmI hf (fun v4 hf => ?_)
  obtain ⟨r6, h5, hc, hf⟩ := bW_some hf
  refine aw_callVi (As := [.int v2, .int v4]) (rest := []) C rfl (by decide) rfl (kX5_piece (l := l) (D := D) (ad := ad) (cy := cy) (tb := tb) C.2.2.2.2.2.2.2.2.1 hc) (fun ht _ => cwV 2 ht gL_law_X5_piece rfl rfl rfl (by decide +kernel) ⟨Nat.le_of_ble_eq_true rfl, Nat.le_of_ble_eq_true rfl⟩) rfl rfl (Nat.le_of_ble_eq_true rfl) dL_law_771 ?_
  refine aw_aload_n C dL_law_774 rfl 2 rfl ?_
  refine aw_aload_n C dL_law_775 rfl 0 rfl ?_
  refine aw_iload_n C dL_law_776 rfl 3 rfl ?_
  refine aw_iconst (v := 1) C dL_law_777 (by decide) ?_
  refine aw_iadd C dL_law_778 ?_
  refine aw_nmI hf (fun v7 hf => ?_)
  refine aw_sld C X hf dL_law_779 (fun hf => ?_)
  refine aw_nmI hf (fun v8 hf => ?_)
  refine aw_aload_n C dL_law_780 rfl 0 rfl ?_
  refine aw_iload_n C dL_law_781 rfl 3 rfl ?_
  refine aw_iconst (v := 2) C dL_law_782 (by decide) ?_
  refine aw_iadd C dL_law_783 ?_
  refine aw_nmI hf (fun v9 hf => ?_)
  refine aw_sld C X hf dL_law_784 (fun hf => ?_)
  refine aw_nmI hf (fun v10 hf => ?_)
  obtain ⟨r12, h11, hc, hf⟩ := bW_some hf
  refine aw_callVi (As := [.int v8, .int v10]) (rest := [.int r6]) C rfl (by decide) rfl (kX6_piece (l := l) (D := D) (ad := ad) (cy := cy) (tb := tb) C.2.2.2.2.2.2.2.2.1 hc) (fun ht _ => cwV 2 ht gL_law_X6_piece rfl rfl rfl (by decide +kernel) ⟨Nat.le_of_ble_eq_true rfl, Nat.le_of_ble_eq_true rfl⟩) rfl rfl (Nat.le_of_ble_eq_true rfl) dL_law_785 ?_
  refine aw_icmp_eq (tgt := 1188) C dL_law_788 (by decide) hf (fun hf => ?_) (fun hf => ?_)
  · refine aw_sub [0, 1, 2, 3] rfl ?_
    exact tL_1188 C X H18 hf
  refine aw_iconst (v := 0) C dL_law_791 (by decide) ?_
  cases hf
set_option maxHeartbeats 4000000 in
set_option maxRecDepth 100000 in
theorem tL_793 {k18 : AH → Int32 → Option AH} {x3 : Int32} {h1 : AH} (C : Cx p room_1 s m #[Value.ref b] meth c RL cL_law 4 ret wsL_law D ad cy tb cells slots) (X : Sc s ad b L xs) (H18 : ∀ (h : AH) (x3 : Int32), k18 h x3 = some h1 → AW p l e room_1 s m #[Value.ref b] below meth c 4 D ad cy cells slots (lw_Z below #[Value.ref b] s) 18 [(0, .ref b), (1, .ref (ad 0)), (2, .ref (ad 29)), (3, .int x3)] [] h) (hf : fL_793 L xs k18 h x3 = some h1) : AW p l e room_1 s m #[Value.ref b] below meth c 4 D ad cy cells slots (lw_Z below #[Value.ref b] s) 793 [(0, .ref b), (1, .ref (ad 0)), (2, .ref (ad 29)), (3, .int x3)] [] h := by
  unfold fL_793 at hf
  refine aw_aload_n C dL_law_793 rfl 1 rfl ?_
  refine aw_aload_n C dL_law_794 rfl 0 rfl ?_
  refine aw_iload_n C dL_law_795 rfl 3 rfl ?_
  refine aw_iconst (v := 1) C dL_law_796 (by decide) ?_
  refine aw_iadd C dL_law_797 ?_
  refine aw_nmI hf (fun v1 hf => ?_)
  refine aw_sld C X hf dL_law_798 (fun hf => ?_)
  refine aw_nmI hf (fun v2 hf => ?_)
  refine aw_aload_n C dL_law_799 rfl 0 rfl ?_
  refine aw_iload_n C dL_law_800 rfl 3 rfl ?_
  refine aw_iconst (v := 2) C dL_law_801 (by decide) ?_
  refine aw_iadd C dL_law_802 ?_
  refine aw_nmI hf (fun v3 hf => ?_)
  refine aw_sld C X hf dL_law_803 (fun hf => ?_)
  refine aw_nmI hf (fun v4 hf => ?_)
  refine aw_aload_n C dL_law_804 rfl 0 rfl ?_
  refine aw_iload_n C dL_law_805 rfl 3 rfl ?_
  refine aw_iconst (v := 3) C dL_law_806 (by decide) ?_
  refine aw_iadd C dL_law_807 ?_
  refine aw_nmI hf (fun v5 hf => ?_)
  refine aw_sld C X hf dL_law_808 (fun hf => ?_)
  refine aw_nmI hf (fun v6 hf => ?_)
  obtain ⟨r7, hc, hf⟩ := bR_some hf
  refine aw_callVi (As := [.int v2, .int v4, .int v6]) (rest := []) C rfl (by decide) rfl (kX5_around (l := l) (D := D) (ad := ad) (cy := cy) (tb := tb) C.2.2.2.2.2.2.2.2.1 hc) (fun ht _ => cwV 3 ht gL_law_X5_around rfl rfl rfl (by decide +kernel) ⟨Nat.le_of_ble_eq_true rfl, Nat.le_of_ble_eq_true rfl⟩) rfl rfl (Nat.le_of_ble_eq_true rfl) dL_law_809 ?_
  refine aw_aload_n C dL_law_812 rfl 2 rfl ?_
  refine aw_aload_n C dL_law_813 rfl 0 rfl ?_
  refine aw_iload_n C dL_law_814 rfl 3 rfl ?_
  refine aw_iconst (v := 1) C dL_law_815 (by decide) ?_
  refine aw_iadd C dL_law_816 ?_
  refine aw_nmI hf (fun v8 hf => ?_)
  refine aw_sld C X hf dL_law_817 (fun hf => ?_)
  refine aw_nmI hf (fun v9 hf => ?_)
  refine aw_aload_n C dL_law_818 rfl 0 rfl ?_
  refine aw_iload_n C dL_law_819 rfl 3 rfl ?_
  refine aw_iconst (v := 2) C dL_law_820 (by decide) ?_
  refine aw_iadd C dL_law_821 ?_
  refine aw_nmI hf (fun v10 hf => ?_)
  refine aw_sld C X hf dL_law_822 (fun hf => ?_)
  refine aw_nmI hf (fun v11 hf => ?_)
  refine aw_aload_n C dL_law_823 rfl 0 rfl ?_
  refine aw_iload_n C dL_law_824 rfl 3 rfl ?_
  refine aw_iconst (v := 3) C dL_law_825 (by decide) ?_
  refine aw_iadd C dL_law_826 ?_
  refine aw_nmI hf (fun v12 hf => ?_)
  refine aw_sld C X hf dL_law_827 (fun hf => ?_)
  refine aw_nmI hf (fun v13 hf => ?_)
  obtain ⟨r14, hc, hf⟩ := bR_some hf
  refine aw_callVi (As := [.int v9, .int v11, .int v13]) (rest := [.int r7]) C rfl (by decide) rfl (kX6_around (l := l) (D := D) (ad := ad) (cy := cy) (tb := tb) C.2.2.2.2.2.2.2.2.1 hc) (fun ht _ => cwV 3 ht gL_law_X6_around rfl rfl rfl (by decide +kernel) ⟨Nat.le_of_ble_eq_true rfl, Nat.le_of_ble_eq_true rfl⟩) rfl rfl (Nat.le_of_ble_eq_true rfl) dL_law_828 ?_
  refine aw_icmp_eq (tgt := 1188) C dL_law_831 (by decide) hf (fun hf => ?_) (fun hf => ?_)
  · refine aw_sub [0, 1, 2, 3] rfl ?_
    exact tL_1188 C X H18 hf
  refine aw_iconst (v := 0) C dL_law_834 (by decide) ?_
  cases hf
set_option maxHeartbeats 4000000 in
set_option maxRecDepth 100000 in
theorem tL_836 {k18 : AH → Int32 → Option AH} {x3 : Int32} {h1 : AH} (C : Cx p room_1 s m #[Value.ref b] meth c RL cL_law 4 ret wsL_law D ad cy tb cells slots) (X : Sc s ad b L xs) (H18 : ∀ (h : AH) (x3 : Int32), k18 h x3 = some h1 → AW p l e room_1 s m #[Value.ref b] below meth c 4 D ad cy cells slots (lw_Z below #[Value.ref b] s) 18 [(0, .ref b), (1, .ref (ad 0)), (2, .ref (ad 29)), (3, .int x3)] [] h) (hf : fL_836 L xs k18 h x3 = some h1) : AW p l e room_1 s m #[Value.ref b] below meth c 4 D ad cy cells slots (lw_Z below #[Value.ref b] s) 836 [(0, .ref b), (1, .ref (ad 0)), (2, .ref (ad 29)), (3, .int x3)] [] h := by
  unfold fL_836 at hf
  refine aw_aload_n C dL_law_836 rfl 1 rfl ?_
  refine aw_aload_n C dL_law_837 rfl 0 rfl ?_
  refine aw_iload_n C dL_law_838 rfl 3 rfl ?_
  refine aw_iconst (v := 1) C dL_law_839 (by decide) ?_
  refine aw_iadd C dL_law_840 ?_
  refine aw_nmI hf (fun v1 hf => ?_)
  refine aw_sld C X hf dL_law_841 (fun hf => ?_)
  refine aw_nmI hf (fun v2 hf => ?_)
  refine aw_aload_n C dL_law_842 rfl 0 rfl ?_
  refine aw_iload_n C dL_law_843 rfl 3 rfl ?_
  refine aw_iconst (v := 2) C dL_law_844 (by decide) ?_
  refine aw_iadd C dL_law_845 ?_
  refine aw_nmI hf (fun v3 hf => ?_)
  refine aw_sld C X hf dL_law_846 (fun hf => ?_)
  refine aw_nmI hf (fun v4 hf => ?_)
  refine aw_aload_n C dL_law_847 rfl 0 rfl ?_
  refine aw_iload_n C dL_law_848 rfl 3 rfl ?_
  refine aw_iconst (v := 3) C dL_law_849 (by decide) ?_
  refine aw_iadd C dL_law_850 ?_
  refine aw_nmI hf (fun v5 hf => ?_)
  refine aw_sld C X hf dL_law_851 (fun hf => ?_)
  refine aw_nmI hf (fun v6 hf => ?_)
  obtain ⟨r8, h7, hc, hf⟩ := bW_some hf
  refine aw_callVi (As := [.int v2, .int v4, .int v6]) (rest := []) C rfl (by decide) rfl (kX5_would (l := l) (D := D) (ad := ad) (cy := cy) (tb := tb) C.2.2.2.2.2.2.2.2.1 hc) (fun ht _ => cwV 3 ht gL_law_X5_would rfl rfl rfl (by decide +kernel) ⟨Nat.le_of_ble_eq_true rfl, Nat.le_of_ble_eq_true rfl⟩) rfl rfl (Nat.le_of_ble_eq_true rfl) dL_law_852 ?_
  refine aw_aload_n C dL_law_855 rfl 2 rfl ?_
  refine aw_aload_n C dL_law_856 rfl 0 rfl ?_
  refine aw_iload_n C dL_law_857 rfl 3 rfl ?_
  refine aw_iconst (v := 1) C dL_law_858 (by decide) ?_
  refine aw_iadd C dL_law_859 ?_
  refine aw_nmI hf (fun v9 hf => ?_)
  refine aw_sld C X hf dL_law_860 (fun hf => ?_)
  refine aw_nmI hf (fun v10 hf => ?_)
  refine aw_aload_n C dL_law_861 rfl 0 rfl ?_
  refine aw_iload_n C dL_law_862 rfl 3 rfl ?_
  refine aw_iconst (v := 2) C dL_law_863 (by decide) ?_
  refine aw_iadd C dL_law_864 ?_
  refine aw_nmI hf (fun v11 hf => ?_)
  refine aw_sld C X hf dL_law_865 (fun hf => ?_)
  refine aw_nmI hf (fun v12 hf => ?_)
  refine aw_aload_n C dL_law_866 rfl 0 rfl ?_
  refine aw_iload_n C dL_law_867 rfl 3 rfl ?_
  refine aw_iconst (v := 3) C dL_law_868 (by decide) ?_
  refine aw_iadd C dL_law_869 ?_
  refine aw_nmI hf (fun v13 hf => ?_)
  refine aw_sld C X hf dL_law_870 (fun hf => ?_)
  refine aw_nmI hf (fun v14 hf => ?_)
  obtain ⟨r16, h15, hc, hf⟩ := bW_some hf
  refine aw_callVi (As := [.int v10, .int v12, .int v14]) (rest := [.int r8]) C rfl (by decide) rfl (kX6_would (l := l) (D := D) (ad := ad) (cy := cy) (tb := tb) C.2.2.2.2.2.2.2.2.1 hc) (fun ht _ => cwV 3 ht gL_law_X6_would rfl rfl rfl (by decide +kernel) ⟨Nat.le_of_ble_eq_true rfl, Nat.le_of_ble_eq_true rfl⟩) rfl rfl (Nat.le_of_ble_eq_true rfl) dL_law_871 ?_
  refine aw_icmp_eq (tgt := 1188) C dL_law_874 (by decide) hf (fun hf => ?_) (fun hf => ?_)
  · refine aw_sub [0, 1, 2, 3] rfl ?_
    exact tL_1188 C X H18 hf
  refine aw_iconst (v := 0) C dL_law_877 (by decide) ?_
  cases hf
set_option maxHeartbeats 4000000 in
set_option maxRecDepth 100000 in
theorem tL_879 {k18 : AH → Int32 → Option AH} {x3 : Int32} {h1 : AH} (C : Cx p room_1 s m #[Value.ref b] meth c RL cL_law 4 ret wsL_law D ad cy tb cells slots) (X : Sc s ad b L xs) (H18 : ∀ (h : AH) (x3 : Int32), k18 h x3 = some h1 → AW p l e room_1 s m #[Value.ref b] below meth c 4 D ad cy cells slots (lw_Z below #[Value.ref b] s) 18 [(0, .ref b), (1, .ref (ad 0)), (2, .ref (ad 29)), (3, .int x3)] [] h) (hf : fL_879 L xs k18 h x3 = some h1) : AW p l e room_1 s m #[Value.ref b] below meth c 4 D ad cy cells slots (lw_Z below #[Value.ref b] s) 879 [(0, .ref b), (1, .ref (ad 0)), (2, .ref (ad 29)), (3, .int x3)] [] h := by
  unfold fL_879 at hf
  refine aw_aload_n C dL_law_879 rfl 1 rfl ?_
  refine aw_aload_n C dL_law_880 rfl 0 rfl ?_
  refine aw_iload_n C dL_law_881 rfl 3 rfl ?_
  refine aw_iconst (v := 1) C dL_law_882 (by decide) ?_
  refine aw_iadd C dL_law_883 ?_
  refine aw_nmI hf (fun v1 hf => ?_)
  refine aw_sld C X hf dL_law_884 (fun hf => ?_)
  refine aw_nmI hf (fun v2 hf => ?_)
  obtain ⟨r4, h3, hc, hf⟩ := bW_some hf
  refine aw_callVi (As := [.int v2]) (rest := []) C rfl (by decide) rfl (kX5_best (l := l) (D := D) (ad := ad) (cy := cy) (tb := tb) C.2.2.2.2.2.2.2.2.1 hc) (fun ht _ => cwV 1 ht gL_law_X5_best rfl rfl rfl (by decide +kernel) ⟨Nat.le_of_ble_eq_true rfl, Nat.le_of_ble_eq_true rfl⟩) rfl rfl (Nat.le_of_ble_eq_true rfl) dL_law_885 ?_
  refine aw_aload_n C dL_law_888 rfl 2 rfl ?_
  refine aw_aload_n C dL_law_889 rfl 0 rfl ?_
  refine aw_iload_n C dL_law_890 rfl 3 rfl ?_
  refine aw_iconst (v := 1) C dL_law_891 (by decide) ?_
  refine aw_iadd C dL_law_892 ?_
  refine aw_nmI hf (fun v5 hf => ?_)
  refine aw_sld C X hf dL_law_893 (fun hf => ?_)
  refine aw_nmI hf (fun v6 hf => ?_)
  obtain ⟨r8, h7, hc, hf⟩ := bW_some hf
  refine aw_callVi (As := [.int v6]) (rest := [.int r4]) C rfl (by decide) rfl (kX6_best (l := l) (D := D) (ad := ad) (cy := cy) (tb := tb) C.2.2.2.2.2.2.2.2.1 hc) (fun ht _ => cwV 1 ht gL_law_X6_best rfl rfl rfl (by decide +kernel) ⟨Nat.le_of_ble_eq_true rfl, Nat.le_of_ble_eq_true rfl⟩) rfl rfl (Nat.le_of_ble_eq_true rfl) dL_law_894 ?_
  refine aw_icmp_eq (tgt := 1188) C dL_law_897 (by decide) hf (fun hf => ?_) (fun hf => ?_)
  · refine aw_sub [0, 1, 2, 3] rfl ?_
    exact tL_1188 C X H18 hf
  refine aw_iconst (v := 0) C dL_law_900 (by decide) ?_
  cases hf
set_option maxHeartbeats 4000000 in
set_option maxRecDepth 100000 in
theorem tL_902 {k18 : AH → Int32 → Option AH} {x3 : Int32} {h1 : AH} (C : Cx p room_1 s m #[Value.ref b] meth c RL cL_law 4 ret wsL_law D ad cy tb cells slots) (X : Sc s ad b L xs) (H18 : ∀ (h : AH) (x3 : Int32), k18 h x3 = some h1 → AW p l e room_1 s m #[Value.ref b] below meth c 4 D ad cy cells slots (lw_Z below #[Value.ref b] s) 18 [(0, .ref b), (1, .ref (ad 0)), (2, .ref (ad 29)), (3, .int x3)] [] h) (hf : fL_902 L xs k18 h x3 = some h1) : AW p l e room_1 s m #[Value.ref b] below meth c 4 D ad cy cells slots (lw_Z below #[Value.ref b] s) 902 [(0, .ref b), (1, .ref (ad 0)), (2, .ref (ad 29)), (3, .int x3)] [] h := by
  unfold fL_902 at hf
  refine aw_aload_n C dL_law_902 rfl 1 rfl ?_
  refine aw_aload_n C dL_law_903 rfl 0 rfl ?_
  refine aw_iload_n C dL_law_904 rfl 3 rfl ?_
  refine aw_iconst (v := 1) C dL_law_905 (by decide) ?_
  refine aw_iadd C dL_law_906 ?_
  refine aw_nmI hf (fun v1 hf => ?_)
  refine aw_sld C X hf dL_law_907 (fun hf => ?_)
  refine aw_nmI hf (fun v2 hf => ?_)
  refine aw_aload_n C dL_law_908 rfl 0 rfl ?_
  refine aw_iload_n C dL_law_909 rfl 3 rfl ?_
  refine aw_iconst (v := 2) C dL_law_910 (by decide) ?_
  refine aw_iadd C dL_law_911 ?_
  refine aw_nmI hf (fun v3 hf => ?_)
  refine aw_sld C X hf dL_law_912 (fun hf => ?_)
  refine aw_nmI hf (fun v4 hf => ?_)
  refine aw_aload_n C dL_law_913 rfl 0 rfl ?_
  refine aw_iload_n C dL_law_914 rfl 3 rfl ?_
  refine aw_iconst (v := 3) C dL_law_915 (by decide) ?_
  refine aw_iadd C dL_law_916 ?_
  refine aw_nmI hf (fun v5 hf => ?_)
  refine aw_sld C X hf dL_law_917 (fun hf => ?_)
  refine aw_nmI hf (fun v6 hf => ?_)
  obtain ⟨r8, h7, hc, hf⟩ := bW_some hf
  refine aw_callVi (As := [.int v2, .int v4, .int v6]) (rest := []) C rfl (by decide) rfl (kX5_sheet (l := l) (D := D) (ad := ad) (cy := cy) (tb := tb) C.2.2.2.2.2.2.2.2.1 hc) (fun ht _ => cwV 3 ht gL_law_X5_sheet rfl rfl rfl (by decide +kernel) ⟨Nat.le_of_ble_eq_true rfl, Nat.le_of_ble_eq_true rfl⟩) rfl rfl (Nat.le_of_ble_eq_true rfl) dL_law_918 ?_
  refine aw_aload_n C dL_law_921 rfl 2 rfl ?_
  refine aw_aload_n C dL_law_922 rfl 0 rfl ?_
  refine aw_iload_n C dL_law_923 rfl 3 rfl ?_
  refine aw_iconst (v := 1) C dL_law_924 (by decide) ?_
  refine aw_iadd C dL_law_925 ?_
  refine aw_nmI hf (fun v9 hf => ?_)
  refine aw_sld C X hf dL_law_926 (fun hf => ?_)
  refine aw_nmI hf (fun v10 hf => ?_)
  refine aw_aload_n C dL_law_927 rfl 0 rfl ?_
  refine aw_iload_n C dL_law_928 rfl 3 rfl ?_
  refine aw_iconst (v := 2) C dL_law_929 (by decide) ?_
  refine aw_iadd C dL_law_930 ?_
  refine aw_nmI hf (fun v11 hf => ?_)
  refine aw_sld C X hf dL_law_931 (fun hf => ?_)
  refine aw_nmI hf (fun v12 hf => ?_)
  refine aw_aload_n C dL_law_932 rfl 0 rfl ?_
  refine aw_iload_n C dL_law_933 rfl 3 rfl ?_
  refine aw_iconst (v := 3) C dL_law_934 (by decide) ?_
  refine aw_iadd C dL_law_935 ?_
  refine aw_nmI hf (fun v13 hf => ?_)
  refine aw_sld C X hf dL_law_936 (fun hf => ?_)
  refine aw_nmI hf (fun v14 hf => ?_)
  obtain ⟨r16, h15, hc, hf⟩ := bW_some hf
  refine aw_callVi (As := [.int v10, .int v12, .int v14]) (rest := [.int r8]) C rfl (by decide) rfl (kX6_sheet (l := l) (D := D) (ad := ad) (cy := cy) (tb := tb) C.2.2.2.2.2.2.2.2.1 hc) (fun ht _ => cwV 3 ht gL_law_X6_sheet rfl rfl rfl (by decide +kernel) ⟨Nat.le_of_ble_eq_true rfl, Nat.le_of_ble_eq_true rfl⟩) rfl rfl (Nat.le_of_ble_eq_true rfl) dL_law_937 ?_
  refine aw_icmp_eq (tgt := 1188) C dL_law_940 (by decide) hf (fun hf => ?_) (fun hf => ?_)
  · refine aw_sub [0, 1, 2, 3] rfl ?_
    exact tL_1188 C X H18 hf
  refine aw_iconst (v := 0) C dL_law_943 (by decide) ?_
  cases hf
set_option maxHeartbeats 4000000 in
set_option maxRecDepth 100000 in
theorem tL_945 {k18 : AH → Int32 → Option AH} {x3 : Int32} {h1 : AH} (C : Cx p room_1 s m #[Value.ref b] meth c RL cL_law 4 ret wsL_law D ad cy tb cells slots) (X : Sc s ad b L xs) (H18 : ∀ (h : AH) (x3 : Int32), k18 h x3 = some h1 → AW p l e room_1 s m #[Value.ref b] below meth c 4 D ad cy cells slots (lw_Z below #[Value.ref b] s) 18 [(0, .ref b), (1, .ref (ad 0)), (2, .ref (ad 29)), (3, .int x3)] [] h) (hf : fL_945 L xs k18 h x3 = some h1) : AW p l e room_1 s m #[Value.ref b] below meth c 4 D ad cy cells slots (lw_Z below #[Value.ref b] s) 945 [(0, .ref b), (1, .ref (ad 0)), (2, .ref (ad 29)), (3, .int x3)] [] h := by
  unfold fL_945 at hf
  refine aw_aload_n C dL_law_945 rfl 1 rfl ?_
  refine aw_aload_n C dL_law_946 rfl 0 rfl ?_
  refine aw_iload_n C dL_law_947 rfl 3 rfl ?_
  refine aw_iconst (v := 1) C dL_law_948 (by decide) ?_
  refine aw_iadd C dL_law_949 ?_
  refine aw_nmI hf (fun v1 hf => ?_)
  refine aw_sld C X hf dL_law_950 (fun hf => ?_)
  refine aw_nmI hf (fun v2 hf => ?_)
  obtain ⟨r4, h3, hc, hf⟩ := bW_some hf
  refine aw_callVi (As := [.int v2]) (rest := []) C rfl (by decide) rfl (kX5_lose (l := l) (D := D) (ad := ad) (cy := cy) (tb := tb) C.2.2.2.2.2.2.2.2.1 hc) (fun ht _ => cwV 1 ht gL_law_X5_lose rfl rfl rfl (by decide +kernel) ⟨Nat.le_of_ble_eq_true rfl, Nat.le_of_ble_eq_true rfl⟩) rfl rfl (Nat.le_of_ble_eq_true rfl) dL_law_951 ?_
  refine aw_aload_n C dL_law_954 rfl 2 rfl ?_
  refine aw_aload_n C dL_law_955 rfl 0 rfl ?_
  refine aw_iload_n C dL_law_956 rfl 3 rfl ?_
  refine aw_iconst (v := 1) C dL_law_957 (by decide) ?_
  refine aw_iadd C dL_law_958 ?_
  refine aw_nmI hf (fun v5 hf => ?_)
  refine aw_sld C X hf dL_law_959 (fun hf => ?_)
  refine aw_nmI hf (fun v6 hf => ?_)
  obtain ⟨r8, h7, hc, hf⟩ := bW_some hf
  refine aw_callVi (As := [.int v6]) (rest := [.int r4]) C rfl (by decide) rfl (kX6_lose (l := l) (D := D) (ad := ad) (cy := cy) (tb := tb) C.2.2.2.2.2.2.2.2.1 hc) (fun ht _ => cwV 1 ht gL_law_X6_lose rfl rfl rfl (by decide +kernel) ⟨Nat.le_of_ble_eq_true rfl, Nat.le_of_ble_eq_true rfl⟩) rfl rfl (Nat.le_of_ble_eq_true rfl) dL_law_960 ?_
  refine aw_icmp_eq (tgt := 1188) C dL_law_963 (by decide) hf (fun hf => ?_) (fun hf => ?_)
  · refine aw_sub [0, 1, 2, 3] rfl ?_
    exact tL_1188 C X H18 hf
  refine aw_iconst (v := 0) C dL_law_966 (by decide) ?_
  cases hf
set_option maxHeartbeats 4000000 in
set_option maxRecDepth 100000 in
theorem tL_968 {k18 : AH → Int32 → Option AH} {x3 : Int32} {h1 : AH} (C : Cx p room_1 s m #[Value.ref b] meth c RL cL_law 4 ret wsL_law D ad cy tb cells slots) (X : Sc s ad b L xs) (H18 : ∀ (h : AH) (x3 : Int32), k18 h x3 = some h1 → AW p l e room_1 s m #[Value.ref b] below meth c 4 D ad cy cells slots (lw_Z below #[Value.ref b] s) 18 [(0, .ref b), (1, .ref (ad 0)), (2, .ref (ad 29)), (3, .int x3)] [] h) (hf : fL_968 L xs k18 h x3 = some h1) : AW p l e room_1 s m #[Value.ref b] below meth c 4 D ad cy cells slots (lw_Z below #[Value.ref b] s) 968 [(0, .ref b), (1, .ref (ad 0)), (2, .ref (ad 29)), (3, .int x3)] [] h := by
  unfold fL_968 at hf
  refine aw_aload_n C dL_law_968 rfl 1 rfl ?_
  refine aw_aload_n C dL_law_969 rfl 0 rfl ?_
  refine aw_iload_n C dL_law_970 rfl 3 rfl ?_
  refine aw_iconst (v := 1) C dL_law_971 (by decide) ?_
  refine aw_iadd C dL_law_972 ?_
  refine aw_nmI hf (fun v1 hf => ?_)
  refine aw_sld C X hf dL_law_973 (fun hf => ?_)
  refine aw_nmI hf (fun v2 hf => ?_)
  refine aw_aload_n C dL_law_974 rfl 0 rfl ?_
  refine aw_iload_n C dL_law_975 rfl 3 rfl ?_
  refine aw_iconst (v := 2) C dL_law_976 (by decide) ?_
  refine aw_iadd C dL_law_977 ?_
  refine aw_nmI hf (fun v3 hf => ?_)
  refine aw_sld C X hf dL_law_978 (fun hf => ?_)
  refine aw_nmI hf (fun v4 hf => ?_)
  refine aw_aload_n C dL_law_979 rfl 0 rfl ?_
  refine aw_iload_n C dL_law_980 rfl 3 rfl ?_
  refine aw_iconst (v := 3) C dL_law_981 (by decide) ?_
  refine aw_iadd C dL_law_982 ?_
  refine aw_nmI hf (fun v5 hf => ?_)
  refine aw_sld C X hf dL_law_983 (fun hf => ?_)
  refine aw_nmI hf (fun v6 hf => ?_)
  refine aw_aload_n C dL_law_984 rfl 0 rfl ?_
  refine aw_iload_n C dL_law_985 rfl 3 rfl ?_
  refine aw_iconst (v := 4) C dL_law_986 (by decide) ?_
  refine aw_iadd C dL_law_987 ?_
  refine aw_nmI hf (fun v7 hf => ?_)
  refine aw_sld C X hf dL_law_988 (fun hf => ?_)
  refine aw_nmI hf (fun v8 hf => ?_)
  obtain ⟨r10, h9, hc, hf⟩ := bW_some hf
  refine aw_callVi (As := [.int v2, .int v4, .int v6, .int v8]) (rest := []) C rfl (by decide) rfl (kX5_put (l := l) (D := D) (ad := ad) (cy := cy) (tb := tb) C.2.2.2.2.2.2.2.2.1 hc) (fun ht _ => cwV 4 ht gL_law_X5_put rfl rfl rfl (by decide +kernel) ⟨Nat.le_of_ble_eq_true rfl, Nat.le_of_ble_eq_true rfl⟩) rfl rfl (Nat.le_of_ble_eq_true rfl) dL_law_989 ?_
  refine aw_aload_n C dL_law_992 rfl 2 rfl ?_
  refine aw_aload_n C dL_law_993 rfl 0 rfl ?_
  refine aw_iload_n C dL_law_994 rfl 3 rfl ?_
  refine aw_iconst (v := 1) C dL_law_995 (by decide) ?_
  refine aw_iadd C dL_law_996 ?_
  refine aw_nmI hf (fun v11 hf => ?_)
  refine aw_sld C X hf dL_law_997 (fun hf => ?_)
  refine aw_nmI hf (fun v12 hf => ?_)
  refine aw_aload_n C dL_law_998 rfl 0 rfl ?_
  refine aw_iload_n C dL_law_999 rfl 3 rfl ?_
  refine aw_iconst (v := 2) C dL_law_1000 (by decide) ?_
  refine aw_iadd C dL_law_1001 ?_
  refine aw_nmI hf (fun v13 hf => ?_)
  refine aw_sld C X hf dL_law_1002 (fun hf => ?_)
  refine aw_nmI hf (fun v14 hf => ?_)
  refine aw_aload_n C dL_law_1003 rfl 0 rfl ?_
  refine aw_iload_n C dL_law_1004 rfl 3 rfl ?_
  refine aw_iconst (v := 3) C dL_law_1005 (by decide) ?_
  refine aw_iadd C dL_law_1006 ?_
  refine aw_nmI hf (fun v15 hf => ?_)
  refine aw_sld C X hf dL_law_1007 (fun hf => ?_)
  refine aw_nmI hf (fun v16 hf => ?_)
  refine aw_aload_n C dL_law_1008 rfl 0 rfl ?_
  refine aw_iload_n C dL_law_1009 rfl 3 rfl ?_
  refine aw_iconst (v := 4) C dL_law_1010 (by decide) ?_
  refine aw_iadd C dL_law_1011 ?_
  refine aw_nmI hf (fun v17 hf => ?_)
  refine aw_sld C X hf dL_law_1012 (fun hf => ?_)
  refine aw_nmI hf (fun v18 hf => ?_)
  obtain ⟨r20, h19, hc, hf⟩ := bW_some hf
  refine aw_callVi (As := [.int v12, .int v14, .int v16, .int v18]) (rest := [.int r10]) C rfl (by decide) rfl (kX6_put (l := l) (D := D) (ad := ad) (cy := cy) (tb := tb) C.2.2.2.2.2.2.2.2.1 hc) (fun ht _ => cwV 4 ht gL_law_X6_put rfl rfl rfl (by decide +kernel) ⟨Nat.le_of_ble_eq_true rfl, Nat.le_of_ble_eq_true rfl⟩) rfl rfl (Nat.le_of_ble_eq_true rfl) dL_law_1013 ?_
  refine aw_icmp_eq (tgt := 1188) C dL_law_1016 (by decide) hf (fun hf => ?_) (fun hf => ?_)
  · refine aw_sub [0, 1, 2, 3] rfl ?_
    exact tL_1188 C X H18 hf
  refine aw_iconst (v := 0) C dL_law_1019 (by decide) ?_
  cases hf
set_option maxHeartbeats 4000000 in
set_option maxRecDepth 100000 in
theorem tL_1021 {k18 : AH → Int32 → Option AH} {x3 : Int32} {h1 : AH} (C : Cx p room_1 s m #[Value.ref b] meth c RL cL_law 4 ret wsL_law D ad cy tb cells slots) (X : Sc s ad b L xs) (H18 : ∀ (h : AH) (x3 : Int32), k18 h x3 = some h1 → AW p l e room_1 s m #[Value.ref b] below meth c 4 D ad cy cells slots (lw_Z below #[Value.ref b] s) 18 [(0, .ref b), (1, .ref (ad 0)), (2, .ref (ad 29)), (3, .int x3)] [] h) (hf : fL_1021 L xs k18 h x3 = some h1) : AW p l e room_1 s m #[Value.ref b] below meth c 4 D ad cy cells slots (lw_Z below #[Value.ref b] s) 1021 [(0, .ref b), (1, .ref (ad 0)), (2, .ref (ad 29)), (3, .int x3)] [] h := by
  unfold fL_1021 at hf
  refine aw_aload_n C dL_law_1021 rfl 1 rfl ?_
  refine aw_aload_n C dL_law_1022 rfl 0 rfl ?_
  refine aw_iload_n C dL_law_1023 rfl 3 rfl ?_
  refine aw_iconst (v := 1) C dL_law_1024 (by decide) ?_
  refine aw_iadd C dL_law_1025 ?_
  refine aw_nmI hf (fun v1 hf => ?_)
  refine aw_sld C X hf dL_law_1026 (fun hf => ?_)
  refine aw_nmI hf (fun v2 hf => ?_)
  refine aw_aload_n C dL_law_1027 rfl 0 rfl ?_
  refine aw_iload_n C dL_law_1028 rfl 3 rfl ?_
  refine aw_iconst (v := 2) C dL_law_1029 (by decide) ?_
  refine aw_iadd C dL_law_1030 ?_
  refine aw_nmI hf (fun v3 hf => ?_)
  refine aw_sld C X hf dL_law_1031 (fun hf => ?_)
  refine aw_nmI hf (fun v4 hf => ?_)
  obtain ⟨r6, h5, hc, hf⟩ := bW_some hf
  refine aw_callVl (As := [.int v2, .int v4]) (rest := []) C rfl (by decide) rfl (kX5_get (l := l) (D := D) (ad := ad) (cy := cy) (tb := tb) C.2.2.2.2.2.2.2.2.1 hc) (fun ht _ => cwV 2 ht gL_law_X5_get rfl rfl rfl (by decide +kernel) ⟨Nat.le_of_ble_eq_true rfl, Nat.le_of_ble_eq_true rfl⟩) rfl rfl (Nat.le_of_ble_eq_true rfl) dL_law_1032 ?_
  refine aw_aload_n C dL_law_1035 rfl 2 rfl ?_
  refine aw_aload_n C dL_law_1036 rfl 0 rfl ?_
  refine aw_iload_n C dL_law_1037 rfl 3 rfl ?_
  refine aw_iconst (v := 1) C dL_law_1038 (by decide) ?_
  refine aw_iadd C dL_law_1039 ?_
  refine aw_nmI hf (fun v7 hf => ?_)
  refine aw_sld C X hf dL_law_1040 (fun hf => ?_)
  refine aw_nmI hf (fun v8 hf => ?_)
  refine aw_aload_n C dL_law_1041 rfl 0 rfl ?_
  refine aw_iload_n C dL_law_1042 rfl 3 rfl ?_
  refine aw_iconst (v := 2) C dL_law_1043 (by decide) ?_
  refine aw_iadd C dL_law_1044 ?_
  refine aw_nmI hf (fun v9 hf => ?_)
  refine aw_sld C X hf dL_law_1045 (fun hf => ?_)
  refine aw_nmI hf (fun v10 hf => ?_)
  obtain ⟨r12, h11, hc, hf⟩ := bW_some hf
  refine aw_callVl (As := [.int v8, .int v10]) (rest := [.long r6]) C rfl (by decide) rfl (kX6_get (l := l) (D := D) (ad := ad) (cy := cy) (tb := tb) C.2.2.2.2.2.2.2.2.1 hc) (fun ht _ => cwV 2 ht gL_law_X6_get rfl rfl rfl (by decide +kernel) ⟨Nat.le_of_ble_eq_true rfl, Nat.le_of_ble_eq_true rfl⟩) rfl rfl (Nat.le_of_ble_eq_true rfl) dL_law_1046 ?_
  refine aw_lcmp C dL_law_1049 ?_
  refine aw_if_eq (tgt := 1188) C dL_law_1050 (by decide) hf (fun hf => ?_) (fun hf => ?_)
  · refine aw_sub [0, 1, 2, 3] rfl ?_
    exact tL_1188 C X H18 hf
  refine aw_iconst (v := 0) C dL_law_1053 (by decide) ?_
  cases hf
set_option maxHeartbeats 4000000 in
set_option maxRecDepth 100000 in
theorem tL_1055 {k18 : AH → Int32 → Option AH} {x3 : Int32} {h1 : AH} (C : Cx p room_1 s m #[Value.ref b] meth c RL cL_law 4 ret wsL_law D ad cy tb cells slots) (X : Sc s ad b L xs) (H18 : ∀ (h : AH) (x3 : Int32), k18 h x3 = some h1 → AW p l e room_1 s m #[Value.ref b] below meth c 4 D ad cy cells slots (lw_Z below #[Value.ref b] s) 18 [(0, .ref b), (1, .ref (ad 0)), (2, .ref (ad 29)), (3, .int x3)] [] h) (hf : fL_1055 L xs k18 h x3 = some h1) : AW p l e room_1 s m #[Value.ref b] below meth c 4 D ad cy cells slots (lw_Z below #[Value.ref b] s) 1055 [(0, .ref b), (1, .ref (ad 0)), (2, .ref (ad 29)), (3, .int x3)] [] h := by
  unfold fL_1055 at hf
  refine aw_aload_n C dL_law_1055 rfl 1 rfl ?_
  refine aw_aload_n C dL_law_1056 rfl 0 rfl ?_
  refine aw_iload_n C dL_law_1057 rfl 3 rfl ?_
  refine aw_iconst (v := 1) C dL_law_1058 (by decide) ?_
  refine aw_iadd C dL_law_1059 ?_
  refine aw_nmI hf (fun v1 hf => ?_)
  refine aw_sld C X hf dL_law_1060 (fun hf => ?_)
  refine aw_nmI hf (fun v2 hf => ?_)
  refine aw_aload_n C dL_law_1061 rfl 0 rfl ?_
  refine aw_iload_n C dL_law_1062 rfl 3 rfl ?_
  refine aw_iconst (v := 2) C dL_law_1063 (by decide) ?_
  refine aw_iadd C dL_law_1064 ?_
  refine aw_nmI hf (fun v3 hf => ?_)
  refine aw_sld C X hf dL_law_1065 (fun hf => ?_)
  refine aw_nmI hf (fun v4 hf => ?_)
  refine aw_aload_n C dL_law_1066 rfl 0 rfl ?_
  refine aw_iload_n C dL_law_1067 rfl 3 rfl ?_
  refine aw_iconst (v := 3) C dL_law_1068 (by decide) ?_
  refine aw_iadd C dL_law_1069 ?_
  refine aw_nmI hf (fun v5 hf => ?_)
  refine aw_sld C X hf dL_law_1070 (fun hf => ?_)
  refine aw_nmI hf (fun v6 hf => ?_)
  refine aw_aload_n C dL_law_1071 rfl 0 rfl ?_
  refine aw_iload_n C dL_law_1072 rfl 3 rfl ?_
  refine aw_iconst (v := 4) C dL_law_1073 (by decide) ?_
  refine aw_iadd C dL_law_1074 ?_
  refine aw_nmI hf (fun v7 hf => ?_)
  refine aw_sld C X hf dL_law_1075 (fun hf => ?_)
  refine aw_nmI hf (fun v8 hf => ?_)
  refine aw_aload_n C dL_law_1076 rfl 0 rfl ?_
  refine aw_iload_n C dL_law_1077 rfl 3 rfl ?_
  refine aw_iconst (v := 5) C dL_law_1078 (by decide) ?_
  refine aw_iadd C dL_law_1079 ?_
  refine aw_nmI hf (fun v9 hf => ?_)
  refine aw_sld C X hf dL_law_1080 (fun hf => ?_)
  refine aw_nmI hf (fun v10 hf => ?_)
  obtain ⟨r12, h11, hc, hf⟩ := bW_some hf
  refine aw_callVi (As := [.int v2, .int v4, .int v6, .int v8, .int v10]) (rest := []) C rfl (by decide) rfl (kX5_copy (l := l) (D := D) (ad := ad) (cy := cy) (tb := tb) C.2.2.2.2.2.2.2.2.1 hc) (fun ht _ => cwV 5 ht gL_law_X5_copy rfl rfl rfl (by decide +kernel) ⟨Nat.le_of_ble_eq_true rfl, Nat.le_of_ble_eq_true rfl⟩) rfl rfl (Nat.le_of_ble_eq_true rfl) dL_law_1081 ?_
  refine aw_aload_n C dL_law_1084 rfl 2 rfl ?_
  refine aw_aload_n C dL_law_1085 rfl 0 rfl ?_
  refine aw_iload_n C dL_law_1086 rfl 3 rfl ?_
  refine aw_iconst (v := 1) C dL_law_1087 (by decide) ?_
  refine aw_iadd C dL_law_1088 ?_
  refine aw_nmI hf (fun v13 hf => ?_)
  refine aw_sld C X hf dL_law_1089 (fun hf => ?_)
  refine aw_nmI hf (fun v14 hf => ?_)
  refine aw_aload_n C dL_law_1090 rfl 0 rfl ?_
  refine aw_iload_n C dL_law_1091 rfl 3 rfl ?_
  refine aw_iconst (v := 2) C dL_law_1092 (by decide) ?_
  refine aw_iadd C dL_law_1093 ?_
  refine aw_nmI hf (fun v15 hf => ?_)
  refine aw_sld C X hf dL_law_1094 (fun hf => ?_)
  refine aw_nmI hf (fun v16 hf => ?_)
  refine aw_aload_n C dL_law_1095 rfl 0 rfl ?_
  refine aw_iload_n C dL_law_1096 rfl 3 rfl ?_
  refine aw_iconst (v := 3) C dL_law_1097 (by decide) ?_
  refine aw_iadd C dL_law_1098 ?_
  refine aw_nmI hf (fun v17 hf => ?_)
  refine aw_sld C X hf dL_law_1099 (fun hf => ?_)
  refine aw_nmI hf (fun v18 hf => ?_)
  refine aw_aload_n C dL_law_1100 rfl 0 rfl ?_
  refine aw_iload_n C dL_law_1101 rfl 3 rfl ?_
  refine aw_iconst (v := 4) C dL_law_1102 (by decide) ?_
  refine aw_iadd C dL_law_1103 ?_
  refine aw_nmI hf (fun v19 hf => ?_)
  refine aw_sld C X hf dL_law_1104 (fun hf => ?_)
  refine aw_nmI hf (fun v20 hf => ?_)
  refine aw_aload_n C dL_law_1105 rfl 0 rfl ?_
  refine aw_iload_n C dL_law_1106 rfl 3 rfl ?_
  refine aw_iconst (v := 5) C dL_law_1107 (by decide) ?_
  refine aw_iadd C dL_law_1108 ?_
  refine aw_nmI hf (fun v21 hf => ?_)
  refine aw_sld C X hf dL_law_1109 (fun hf => ?_)
  refine aw_nmI hf (fun v22 hf => ?_)
  obtain ⟨r24, h23, hc, hf⟩ := bW_some hf
  refine aw_callVi (As := [.int v14, .int v16, .int v18, .int v20, .int v22]) (rest := [.int r12]) C rfl (by decide) rfl (kX6_copy (l := l) (D := D) (ad := ad) (cy := cy) (tb := tb) C.2.2.2.2.2.2.2.2.1 hc) (fun ht _ => cwV 5 ht gL_law_X6_copy rfl rfl rfl (by decide +kernel) ⟨Nat.le_of_ble_eq_true rfl, Nat.le_of_ble_eq_true rfl⟩) rfl rfl (Nat.le_of_ble_eq_true rfl) dL_law_1110 ?_
  refine aw_icmp_eq (tgt := 1188) C dL_law_1113 (by decide) hf (fun hf => ?_) (fun hf => ?_)
  · refine aw_sub [0, 1, 2, 3] rfl ?_
    exact tL_1188 C X H18 hf
  refine aw_iconst (v := 0) C dL_law_1116 (by decide) ?_
  cases hf
set_option maxHeartbeats 4000000 in
set_option maxRecDepth 100000 in
theorem tL_1118 {k18 : AH → Int32 → Option AH} {x3 : Int32} {h1 : AH} (C : Cx p room_1 s m #[Value.ref b] meth c RL cL_law 4 ret wsL_law D ad cy tb cells slots) (X : Sc s ad b L xs) (H18 : ∀ (h : AH) (x3 : Int32), k18 h x3 = some h1 → AW p l e room_1 s m #[Value.ref b] below meth c 4 D ad cy cells slots (lw_Z below #[Value.ref b] s) 18 [(0, .ref b), (1, .ref (ad 0)), (2, .ref (ad 29)), (3, .int x3)] [] h) (hf : fL_1118 L xs k18 h x3 = some h1) : AW p l e room_1 s m #[Value.ref b] below meth c 4 D ad cy cells slots (lw_Z below #[Value.ref b] s) 1118 [(0, .ref b), (1, .ref (ad 0)), (2, .ref (ad 29)), (3, .int x3)] [] h := by
  unfold fL_1118 at hf
  refine aw_aload_n C dL_law_1118 rfl 1 rfl ?_
  refine aw_aload_n C dL_law_1119 rfl 0 rfl ?_
  refine aw_iload_n C dL_law_1120 rfl 3 rfl ?_
  refine aw_iconst (v := 1) C dL_law_1121 (by decide) ?_
  refine aw_iadd C dL_law_1122 ?_
  refine aw_nmI hf (fun v1 hf => ?_)
  refine aw_sld C X hf dL_law_1123 (fun hf => ?_)
  refine aw_nmI hf (fun v2 hf => ?_)
  refine aw_aload_n C dL_law_1124 rfl 0 rfl ?_
  refine aw_iload_n C dL_law_1125 rfl 3 rfl ?_
  refine aw_iconst (v := 2) C dL_law_1126 (by decide) ?_
  refine aw_iadd C dL_law_1127 ?_
  refine aw_nmI hf (fun v3 hf => ?_)
  refine aw_sld C X hf dL_law_1128 (fun hf => ?_)
  refine aw_nmI hf (fun v4 hf => ?_)
  obtain ⟨r6, h5, hc, hf⟩ := bW_some hf
  refine aw_callVi (As := [.int v2, .int v4]) (rest := []) C rfl (by decide) rfl (kX5_write (l := l) (D := D) (ad := ad) (cy := cy) (tb := tb) C.2.2.2.2.2.2.2.2.1 hc) (fun ht _ => cwV 2 ht gL_law_X5_write rfl rfl rfl (by decide +kernel) ⟨Nat.le_of_ble_eq_true rfl, Nat.le_of_ble_eq_true rfl⟩) rfl rfl (Nat.le_of_ble_eq_true rfl) dL_law_1129 ?_
  refine aw_aload_n C dL_law_1132 rfl 2 rfl ?_
  refine aw_aload_n C dL_law_1133 rfl 0 rfl ?_
  refine aw_iload_n C dL_law_1134 rfl 3 rfl ?_
  refine aw_iconst (v := 1) C dL_law_1135 (by decide) ?_
  refine aw_iadd C dL_law_1136 ?_
  refine aw_nmI hf (fun v7 hf => ?_)
  refine aw_sld C X hf dL_law_1137 (fun hf => ?_)
  refine aw_nmI hf (fun v8 hf => ?_)
  refine aw_aload_n C dL_law_1138 rfl 0 rfl ?_
  refine aw_iload_n C dL_law_1139 rfl 3 rfl ?_
  refine aw_iconst (v := 2) C dL_law_1140 (by decide) ?_
  refine aw_iadd C dL_law_1141 ?_
  refine aw_nmI hf (fun v9 hf => ?_)
  refine aw_sld C X hf dL_law_1142 (fun hf => ?_)
  refine aw_nmI hf (fun v10 hf => ?_)
  obtain ⟨r12, h11, hc, hf⟩ := bW_some hf
  refine aw_callVi (As := [.int v8, .int v10]) (rest := [.int r6]) C rfl (by decide) rfl (kX6_write (l := l) (D := D) (ad := ad) (cy := cy) (tb := tb) C.2.2.2.2.2.2.2.2.1 hc) (fun ht _ => cwV 2 ht gL_law_X6_write rfl rfl rfl (by decide +kernel) ⟨Nat.le_of_ble_eq_true rfl, Nat.le_of_ble_eq_true rfl⟩) rfl rfl (Nat.le_of_ble_eq_true rfl) dL_law_1143 ?_
  refine aw_icmp_eq (tgt := 1188) C dL_law_1146 (by decide) hf (fun hf => ?_) (fun hf => ?_)
  · refine aw_sub [0, 1, 2, 3] rfl ?_
    exact tL_1188 C X H18 hf
  refine aw_iconst (v := 0) C dL_law_1149 (by decide) ?_
  cases hf
set_option maxHeartbeats 4000000 in
set_option maxRecDepth 100000 in
theorem tL_1151 {k18 : AH → Int32 → Option AH} {x3 : Int32} {h1 : AH} (C : Cx p room_1 s m #[Value.ref b] meth c RL cL_law 4 ret wsL_law D ad cy tb cells slots) (X : Sc s ad b L xs) (H18 : ∀ (h : AH) (x3 : Int32), k18 h x3 = some h1 → AW p l e room_1 s m #[Value.ref b] below meth c 4 D ad cy cells slots (lw_Z below #[Value.ref b] s) 18 [(0, .ref b), (1, .ref (ad 0)), (2, .ref (ad 29)), (3, .int x3)] [] h) (hf : fL_1151 L xs k18 h x3 = some h1) : AW p l e room_1 s m #[Value.ref b] below meth c 4 D ad cy cells slots (lw_Z below #[Value.ref b] s) 1151 [(0, .ref b), (1, .ref (ad 0)), (2, .ref (ad 29)), (3, .int x3)] [] h := by
  unfold fL_1151 at hf
  refine aw_aload_n C dL_law_1151 rfl 1 rfl ?_
  refine aw_aload_n C dL_law_1152 rfl 0 rfl ?_
  refine aw_iload_n C dL_law_1153 rfl 3 rfl ?_
  refine aw_iconst (v := 1) C dL_law_1154 (by decide) ?_
  refine aw_iadd C dL_law_1155 ?_
  refine aw_nmI hf (fun v1 hf => ?_)
  refine aw_sld C X hf dL_law_1156 (fun hf => ?_)
  refine aw_nmI hf (fun v2 hf => ?_)
  obtain ⟨r4, h3, hc, hf⟩ := bW_some hf
  refine aw_callVi (As := [.int v2]) (rest := []) C rfl (by decide) rfl (kX5_count (l := l) (D := D) (ad := ad) (cy := cy) (tb := tb) C.2.2.2.2.2.2.2.2.1 hc) (fun ht _ => cwV 1 ht gL_law_X5_count rfl rfl rfl (by decide +kernel) ⟨Nat.le_of_ble_eq_true rfl, Nat.le_of_ble_eq_true rfl⟩) rfl rfl (Nat.le_of_ble_eq_true rfl) dL_law_1157 ?_
  refine aw_aload_n C dL_law_1160 rfl 2 rfl ?_
  refine aw_aload_n C dL_law_1161 rfl 0 rfl ?_
  refine aw_iload_n C dL_law_1162 rfl 3 rfl ?_
  refine aw_iconst (v := 1) C dL_law_1163 (by decide) ?_
  refine aw_iadd C dL_law_1164 ?_
  refine aw_nmI hf (fun v5 hf => ?_)
  refine aw_sld C X hf dL_law_1165 (fun hf => ?_)
  refine aw_nmI hf (fun v6 hf => ?_)
  obtain ⟨r8, h7, hc, hf⟩ := bW_some hf
  refine aw_callVi (As := [.int v6]) (rest := [.int r4]) C rfl (by decide) rfl (kX6_count (l := l) (D := D) (ad := ad) (cy := cy) (tb := tb) C.2.2.2.2.2.2.2.2.1 hc) (fun ht _ => cwV 1 ht gL_law_X6_count rfl rfl rfl (by decide +kernel) ⟨Nat.le_of_ble_eq_true rfl, Nat.le_of_ble_eq_true rfl⟩) rfl rfl (Nat.le_of_ble_eq_true rfl) dL_law_1166 ?_
  refine aw_icmp_eq (tgt := 1188) C dL_law_1169 (by decide) hf (fun hf => ?_) (fun hf => ?_)
  · refine aw_sub [0, 1, 2, 3] rfl ?_
    exact tL_1188 C X H18 hf
  refine aw_iconst (v := 0) C dL_law_1172 (by decide) ?_
  cases hf
set_option maxHeartbeats 4000000 in
set_option maxRecDepth 100000 in
theorem tL_1174 {k18 : AH → Int32 → Option AH} {x3 : Int32} {h1 : AH} (C : Cx p room_1 s m #[Value.ref b] meth c RL cL_law 4 ret wsL_law D ad cy tb cells slots) (X : Sc s ad b L xs) (H18 : ∀ (h : AH) (x3 : Int32), k18 h x3 = some h1 → AW p l e room_1 s m #[Value.ref b] below meth c 4 D ad cy cells slots (lw_Z below #[Value.ref b] s) 18 [(0, .ref b), (1, .ref (ad 0)), (2, .ref (ad 29)), (3, .int x3)] [] h) (hf : fL_1174 L xs k18 h x3 = some h1) : AW p l e room_1 s m #[Value.ref b] below meth c 4 D ad cy cells slots (lw_Z below #[Value.ref b] s) 1174 [(0, .ref b), (1, .ref (ad 0)), (2, .ref (ad 29)), (3, .int x3)] [] h := by
  unfold fL_1174 at hf
  refine aw_aload_n C dL_law_1174 rfl 1 rfl ?_
  obtain ⟨r2, h1, hc, hf⟩ := bW_some hf
  refine aw_callVl (As := []) (rest := []) C rfl (by decide) rfl (kX5_digest (l := l) (D := D) (ad := ad) (cy := cy) (tb := tb) C.2.2.2.2.2.2.2.2.1 hc) (fun ht _ => cwV 0 ht gL_law_X5_digest rfl rfl rfl (by decide +kernel) ⟨Nat.le_of_ble_eq_true rfl, Nat.le_of_ble_eq_true rfl⟩) rfl rfl (Nat.le_of_ble_eq_true rfl) dL_law_1175 ?_
  refine aw_aload_n C dL_law_1178 rfl 2 rfl ?_
  obtain ⟨r4, h3, hc, hf⟩ := bW_some hf
  refine aw_callVl (As := []) (rest := [.long r2]) C rfl (by decide) rfl (kX6_digest (l := l) (D := D) (ad := ad) (cy := cy) (tb := tb) C.2.2.2.2.2.2.2.2.1 hc) (fun ht _ => cwV 0 ht gL_law_X6_digest rfl rfl rfl (by decide +kernel) ⟨Nat.le_of_ble_eq_true rfl, Nat.le_of_ble_eq_true rfl⟩) rfl rfl (Nat.le_of_ble_eq_true rfl) dL_law_1179 ?_
  refine aw_lcmp C dL_law_1182 ?_
  refine aw_if_eq (tgt := 1188) C dL_law_1183 (by decide) hf (fun hf => ?_) (fun hf => ?_)
  · refine aw_sub [0, 1, 2, 3] rfl ?_
    exact tL_1188 C X H18 hf
  refine aw_iconst (v := 0) C dL_law_1186 (by decide) ?_
  cases hf
set_option maxHeartbeats 4000000 in
set_option maxRecDepth 100000 in
theorem tL_18b {k18 : AH → Int32 → Option AH} {x3 : Int32} {h1 : AH} (C : Cx p room_1 s m #[Value.ref b] meth c RL cL_law 4 ret wsL_law D ad cy tb cells slots) (X : Sc s ad b L xs) (H18 : ∀ (h : AH) (x3 : Int32), k18 h x3 = some h1 → AW p l e room_1 s m #[Value.ref b] below meth c 4 D ad cy cells slots (lw_Z below #[Value.ref b] s) 18 [(0, .ref b), (1, .ref (ad 0)), (2, .ref (ad 29)), (3, .int x3)] [] h) (hf : fL_18b L xs k18 h x3 = some h1) : AW p l e room_1 s m #[Value.ref b] below meth c 4 D ad cy cells slots (lw_Z below #[Value.ref b] s) 18 [(0, .ref b), (1, .ref (ad 0)), (2, .ref (ad 29)), (3, .int x3)] [] h := by
  unfold fL_18b at hf
  refine aw_iload_n C dL_law_18 rfl 3 rfl ?_
  refine aw_aload_n C dL_law_19 rfl 0 rfl ?_
  refine aw_slen C X dL_law_20 ?_
  refine aw_bipush (v := 6) C dL_law_21 (by decide) ?_
  refine aw_isub C dL_law_23 ?_
  refine aw_icmp_gt (tgt := 1194) C dL_law_24 (by decide) hf (fun hf => ?_) (fun hf => ?_)
  · refine aw_iconst (v := 1) C dL_law_1194 (by decide) ?_
    exact aw_lend C X dL_law_1195
  refine aw_aload_n C dL_law_27 rfl 0 rfl ?_
  refine aw_iload_n C dL_law_28 rfl 3 rfl ?_
  refine aw_sld C X hf dL_law_29 (fun hf => ?_)
  refine aw_nmI hf (fun v1 hf => ?_)
  refine aw_bipush (v := 31) C dL_law_30 (by decide) ?_
  refine aw_iand C dL_law_32 ?_
  refine aw_nmI hf (fun v2 hf => ?_)
  rcases Decidable.em (v2 = 0) with hx0 | hx0
  · rw [if_pos hx0] at hf
    refine aw_tabIn (tgt := 172) C dL_law_33 (by rw [hx0]; decide) (by rw [hx0]; decide) (by rw [hx0]; rfl) (by decide) ?_
    refine aw_sub [0, 1, 2, 3] rfl ?_
    exact tL_172 C X H18 hf
  rw [if_neg hx0] at hf
  rcases Decidable.em (v2 = 1) with hx1 | hx1
  · rw [if_pos hx1] at hf
    refine aw_tabIn (tgt := 195) C dL_law_33 (by rw [hx1]; decide) (by rw [hx1]; decide) (by rw [hx1]; rfl) (by decide) ?_
    refine aw_sub [0, 1, 2, 3] rfl ?_
    exact tL_195 C X H18 hf
  rw [if_neg hx1] at hf
  rcases Decidable.em (v2 = 2) with hx2 | hx2
  · rw [if_pos hx2] at hf
    refine aw_tabIn (tgt := 238) C dL_law_33 (by rw [hx2]; decide) (by rw [hx2]; decide) (by rw [hx2]; rfl) (by decide) ?_
    refine aw_sub [0, 1, 2, 3] rfl ?_
    exact tL_238 C X H18 hf
  rw [if_neg hx2] at hf
  rcases Decidable.em (v2 = 3) with hx3 | hx3
  · rw [if_pos hx3] at hf
    refine aw_tabIn (tgt := 281) C dL_law_33 (by rw [hx3]; decide) (by rw [hx3]; decide) (by rw [hx3]; rfl) (by decide) ?_
    refine aw_sub [0, 1, 2, 3] rfl ?_
    exact tL_281 C X H18 hf
  rw [if_neg hx3] at hf
  rcases Decidable.em (v2 = 4) with hx4 | hx4
  · rw [if_pos hx4] at hf
    refine aw_tabIn (tgt := 314) C dL_law_33 (by rw [hx4]; decide) (by rw [hx4]; decide) (by rw [hx4]; rfl) (by decide) ?_
    refine aw_sub [0, 1, 2, 3] rfl ?_
    exact tL_314 C X H18 hf
  rw [if_neg hx4] at hf
  rcases Decidable.em (v2 = 5) with hx5 | hx5
  · rw [if_pos hx5] at hf
    refine aw_tabIn (tgt := 347) C dL_law_33 (by rw [hx5]; decide) (by rw [hx5]; decide) (by rw [hx5]; rfl) (by decide) ?_
    refine aw_sub [0, 1, 2, 3] rfl ?_
    exact tL_347 C X H18 hf
  rw [if_neg hx5] at hf
  rcases Decidable.em (v2 = 6) with hx6 | hx6
  · rw [if_pos hx6] at hf
    refine aw_tabIn (tgt := 370) C dL_law_33 (by rw [hx6]; decide) (by rw [hx6]; decide) (by rw [hx6]; rfl) (by decide) ?_
    refine aw_sub [0, 1, 2, 3] rfl ?_
    exact tL_370 C X H18 hf
  rw [if_neg hx6] at hf
  rcases Decidable.em (v2 = 7) with hx7 | hx7
  · rw [if_pos hx7] at hf
    refine aw_tabIn (tgt := 423) C dL_law_33 (by rw [hx7]; decide) (by rw [hx7]; decide) (by rw [hx7]; rfl) (by decide) ?_
    refine aw_sub [0, 1, 2, 3] rfl ?_
    exact tL_423 C X H18 hf
  rw [if_neg hx7] at hf
  rcases Decidable.em (v2 = 8) with hx8 | hx8
  · rw [if_pos hx8] at hf
    refine aw_tabIn (tgt := 466) C dL_law_33 (by rw [hx8]; decide) (by rw [hx8]; decide) (by rw [hx8]; rfl) (by decide) ?_
    refine aw_sub [0, 1, 2, 3] rfl ?_
    exact tL_466 C X H18 hf
  rw [if_neg hx8] at hf
  rcases Decidable.em (v2 = 9) with hx9 | hx9
  · rw [if_pos hx9] at hf
    refine aw_tabIn (tgt := 490) C dL_law_33 (by rw [hx9]; decide) (by rw [hx9]; decide) (by rw [hx9]; rfl) (by decide) ?_
    refine aw_sub [0, 1, 2, 3] rfl ?_
    exact tL_490 C X H18 hf
  rw [if_neg hx9] at hf
  rcases Decidable.em (v2 = 10) with hx10 | hx10
  · rw [if_pos hx10] at hf
    refine aw_tabIn (tgt := 533) C dL_law_33 (by rw [hx10]; decide) (by rw [hx10]; decide) (by rw [hx10]; rfl) (by decide) ?_
    refine aw_sub [0, 1, 2, 3] rfl ?_
    exact tL_533 C X H18 hf
  rw [if_neg hx10] at hf
  rcases Decidable.em (v2 = 11) with hx11 | hx11
  · rw [if_pos hx11] at hf
    refine aw_tabIn (tgt := 566) C dL_law_33 (by rw [hx11]; decide) (by rw [hx11]; decide) (by rw [hx11]; rfl) (by decide) ?_
    refine aw_sub [0, 1, 2, 3] rfl ?_
    exact tL_566 C X H18 hf
  rw [if_neg hx11] at hf
  rcases Decidable.em (v2 = 12) with hx12 | hx12
  · rw [if_pos hx12] at hf
    refine aw_tabIn (tgt := 599) C dL_law_33 (by rw [hx12]; decide) (by rw [hx12]; decide) (by rw [hx12]; rfl) (by decide) ?_
    refine aw_sub [0, 1, 2, 3] rfl ?_
    exact tL_599 C X H18 hf
  rw [if_neg hx12] at hf
  rcases Decidable.em (v2 = 13) with hx13 | hx13
  · rw [if_pos hx13] at hf
    refine aw_tabIn (tgt := 642) C dL_law_33 (by rw [hx13]; decide) (by rw [hx13]; decide) (by rw [hx13]; rfl) (by decide) ?_
    refine aw_sub [0, 1, 2, 3] rfl ?_
    exact tL_642 C X H18 hf
  rw [if_neg hx13] at hf
  rcases Decidable.em (v2 = 14) with hx14 | hx14
  · rw [if_pos hx14] at hf
    refine aw_tabIn (tgt := 675) C dL_law_33 (by rw [hx14]; decide) (by rw [hx14]; decide) (by rw [hx14]; rfl) (by decide) ?_
    refine aw_sub [0, 1, 2, 3] rfl ?_
    exact tL_675 C X H18 hf
  rw [if_neg hx14] at hf
  rcases Decidable.em (v2 = 15) with hx15 | hx15
  · rw [if_pos hx15] at hf
    refine aw_tabIn (tgt := 688) C dL_law_33 (by rw [hx15]; decide) (by rw [hx15]; decide) (by rw [hx15]; rfl) (by decide) ?_
    refine aw_sub [0, 1, 2, 3] rfl ?_
    exact tL_688 C X H18 hf
  rw [if_neg hx15] at hf
  rcases Decidable.em (v2 = 16) with hx16 | hx16
  · rw [if_pos hx16] at hf
    refine aw_tabIn (tgt := 701) C dL_law_33 (by rw [hx16]; decide) (by rw [hx16]; decide) (by rw [hx16]; rfl) (by decide) ?_
    refine aw_sub [0, 1, 2, 3] rfl ?_
    exact tL_701 C X H18 hf
  rw [if_neg hx16] at hf
  rcases Decidable.em (v2 = 17) with hx17 | hx17
  · rw [if_pos hx17] at hf
    refine aw_tabIn (tgt := 714) C dL_law_33 (by rw [hx17]; decide) (by rw [hx17]; decide) (by rw [hx17]; rfl) (by decide) ?_
    refine aw_sub [0, 1, 2, 3] rfl ?_
    exact tL_714 C X H18 hf
  rw [if_neg hx17] at hf
  rcases Decidable.em (v2 = 18) with hx18 | hx18
  · rw [if_pos hx18] at hf
    refine aw_tabIn (tgt := 737) C dL_law_33 (by rw [hx18]; decide) (by rw [hx18]; decide) (by rw [hx18]; rfl) (by decide) ?_
    refine aw_sub [0, 1, 2, 3] rfl ?_
    exact tL_737 C X H18 hf
  rw [if_neg hx18] at hf
  rcases Decidable.em (v2 = 19) with hx19 | hx19
  · rw [if_pos hx19] at hf
    refine aw_tabIn (tgt := 760) C dL_law_33 (by rw [hx19]; decide) (by rw [hx19]; decide) (by rw [hx19]; rfl) (by decide) ?_
    refine aw_sub [0, 1, 2, 3] rfl ?_
    exact tL_760 C X H18 hf
  rw [if_neg hx19] at hf
  rcases Decidable.em (v2 = 20) with hx20 | hx20
  · rw [if_pos hx20] at hf
    refine aw_tabIn (tgt := 793) C dL_law_33 (by rw [hx20]; decide) (by rw [hx20]; decide) (by rw [hx20]; rfl) (by decide) ?_
    refine aw_sub [0, 1, 2, 3] rfl ?_
    exact tL_793 C X H18 hf
  rw [if_neg hx20] at hf
  rcases Decidable.em (v2 = 21) with hx21 | hx21
  · rw [if_pos hx21] at hf
    refine aw_tabIn (tgt := 836) C dL_law_33 (by rw [hx21]; decide) (by rw [hx21]; decide) (by rw [hx21]; rfl) (by decide) ?_
    refine aw_sub [0, 1, 2, 3] rfl ?_
    exact tL_836 C X H18 hf
  rw [if_neg hx21] at hf
  rcases Decidable.em (v2 = 22) with hx22 | hx22
  · rw [if_pos hx22] at hf
    refine aw_tabIn (tgt := 879) C dL_law_33 (by rw [hx22]; decide) (by rw [hx22]; decide) (by rw [hx22]; rfl) (by decide) ?_
    refine aw_sub [0, 1, 2, 3] rfl ?_
    exact tL_879 C X H18 hf
  rw [if_neg hx22] at hf
  rcases Decidable.em (v2 = 23) with hx23 | hx23
  · rw [if_pos hx23] at hf
    refine aw_tabIn (tgt := 902) C dL_law_33 (by rw [hx23]; decide) (by rw [hx23]; decide) (by rw [hx23]; rfl) (by decide) ?_
    refine aw_sub [0, 1, 2, 3] rfl ?_
    exact tL_902 C X H18 hf
  rw [if_neg hx23] at hf
  rcases Decidable.em (v2 = 24) with hx24 | hx24
  · rw [if_pos hx24] at hf
    refine aw_tabIn (tgt := 945) C dL_law_33 (by rw [hx24]; decide) (by rw [hx24]; decide) (by rw [hx24]; rfl) (by decide) ?_
    refine aw_sub [0, 1, 2, 3] rfl ?_
    exact tL_945 C X H18 hf
  rw [if_neg hx24] at hf
  rcases Decidable.em (v2 = 25) with hx25 | hx25
  · rw [if_pos hx25] at hf
    refine aw_tabIn (tgt := 968) C dL_law_33 (by rw [hx25]; decide) (by rw [hx25]; decide) (by rw [hx25]; rfl) (by decide) ?_
    refine aw_sub [0, 1, 2, 3] rfl ?_
    exact tL_968 C X H18 hf
  rw [if_neg hx25] at hf
  rcases Decidable.em (v2 = 26) with hx26 | hx26
  · rw [if_pos hx26] at hf
    refine aw_tabIn (tgt := 1021) C dL_law_33 (by rw [hx26]; decide) (by rw [hx26]; decide) (by rw [hx26]; rfl) (by decide) ?_
    refine aw_sub [0, 1, 2, 3] rfl ?_
    exact tL_1021 C X H18 hf
  rw [if_neg hx26] at hf
  rcases Decidable.em (v2 = 27) with hx27 | hx27
  · rw [if_pos hx27] at hf
    refine aw_tabIn (tgt := 1055) C dL_law_33 (by rw [hx27]; decide) (by rw [hx27]; decide) (by rw [hx27]; rfl) (by decide) ?_
    refine aw_sub [0, 1, 2, 3] rfl ?_
    exact tL_1055 C X H18 hf
  rw [if_neg hx27] at hf
  rcases Decidable.em (v2 = 28) with hx28 | hx28
  · rw [if_pos hx28] at hf
    refine aw_tabIn (tgt := 1118) C dL_law_33 (by rw [hx28]; decide) (by rw [hx28]; decide) (by rw [hx28]; rfl) (by decide) ?_
    refine aw_sub [0, 1, 2, 3] rfl ?_
    exact tL_1118 C X H18 hf
  rw [if_neg hx28] at hf
  rcases Decidable.em (v2 = 29) with hx29 | hx29
  · rw [if_pos hx29] at hf
    refine aw_tabIn (tgt := 1151) C dL_law_33 (by rw [hx29]; decide) (by rw [hx29]; decide) (by rw [hx29]; rfl) (by decide) ?_
    refine aw_sub [0, 1, 2, 3] rfl ?_
    exact tL_1151 C X H18 hf
  rw [if_neg hx29] at hf
  rcases Decidable.em (v2 = 30) with hx30 | hx30
  · rw [if_pos hx30] at hf
    refine aw_tabIn (tgt := 1174) C dL_law_33 (by rw [hx30]; decide) (by rw [hx30]; decide) (by rw [hx30]; rfl) (by decide) ?_
    refine aw_sub [0, 1, 2, 3] rfl ?_
    exact tL_1174 C X H18 hf
  rw [if_neg hx30] at hf
  have hsw := sw_out (x := v2) 31 (by decide) (fun j hj => by
    rcases (show j = 0 ∨ j = 1 ∨ j = 2 ∨ j = 3 ∨ j = 4 ∨ j = 5 ∨ j = 6 ∨ j = 7 ∨ j = 8 ∨ j = 9 ∨ j = 10 ∨ j = 11 ∨ j = 12 ∨ j = 13 ∨ j = 14 ∨ j = 15 ∨ j = 16 ∨ j = 17 ∨ j = 18 ∨ j = 19 ∨ j = 20 ∨ j = 21 ∨ j = 22 ∨ j = 23 ∨ j = 24 ∨ j = 25 ∨ j = 26 ∨ j = 27 ∨ j = 28 ∨ j = 29 ∨ j = 30 by omega) with rfl | rfl | rfl | rfl | rfl | rfl | rfl | rfl | rfl | rfl | rfl | rfl | rfl | rfl | rfl | rfl | rfl | rfl | rfl | rfl | rfl | rfl | rfl | rfl | rfl | rfl | rfl | rfl | rfl | rfl | rfl
    · exact hx0
    · exact hx1
    · exact hx2
    · exact hx3
    · exact hx4
    · exact hx5
    · exact hx6
    · exact hx7
    · exact hx8
    · exact hx9
    · exact hx10
    · exact hx11
    · exact hx12
    · exact hx13
    · exact hx14
    · exact hx15
    · exact hx16
    · exact hx17
    · exact hx18
    · exact hx19
    · exact hx20
    · exact hx21
    · exact hx22
    · exact hx23
    · exact hx24
    · exact hx25
    · exact hx26
    · exact hx27
    · exact hx28
    · exact hx29
    · exact hx30)
  refine aw_tabOut (tgt := 1188) C dL_law_33 (by omega) (by decide) ?_
  refine aw_sub [0, 1, 2, 3] rfl ?_
  exact tL_1188 C X H18 hf
theorem tL_18 {h1 : AH} (C : Cx p room_1 s m #[Value.ref b] meth c RL cL_law 4 ret wsL_law D ad cy tb cells slots) (X : Sc s ad b L xs) : ∀ (n : Nat) (h : AH) (x3 : Int32), fL_18 L xs n h x3 = some h1 → AW p l e room_1 s m #[Value.ref b] below meth c 4 D ad cy cells slots (lw_Z below #[Value.ref b] s) 18 [(0, .ref b), (1, .ref (ad 0)), (2, .ref (ad 29)), (3, .int x3)] [] h := by
  intro n
  induction n with
  | zero => intro h x3 hf; cases hf
  | succ n ih => intro h x3 hf; exact tL_18b C X ih hf
