def piL : List Nat := [0, 1, 2, 3, 4, 5, 6, 7, 8, 9, 10, 11, 12, 13, 14, 15, 16, 17, 18, 19, 20, 21, 23, 25, 27, 22, 24, 26, 28, 29, 30, 31, 32, 33, 34, 35, 36, 37, 38, 39, 40, 41, 42]
theorem piL_lt : ∀ k, k < 43 → piL.getD k 0 < 43 := by decide
theorem piL_inj : ∀ i, i < 43 → ∀ j, j < 43 → piL.getD i 0 = piL.getD j 0 → i = j := by decide +kernel
theorem AL_of {A : Nat → Prop} {ws : va_W} {AL : List Nat} (hD : va_D A ws) (h : ws.map Prod.fst = AL) : (∀ i j, i < AL.length → j < AL.length → AL.getD i 0 = AL.getD j 0 → i = j) ∧ ∀ i, i < AL.length → A (AL.getD i 0) := by
  subst h
  have key : ∀ i, i < (ws.map Prod.fst).length → ∃ q, ws[i]? = some q ∧ (ws.map Prod.fst).getD i 0 = q.1 := by
    intro i hi
    rw [List.length_map] at hi
    refine ⟨ws[i], List.getElem?_eq_getElem hi, ?_⟩
    rw [List.getD_eq_getElem?_getD, List.getElem?_map, List.getElem?_eq_getElem hi]
    rfl
  refine ⟨fun i j hi hj e => ?_, fun i hi => ?_⟩
  · obtain ⟨p, hp, ep⟩ := key i hi
    obtain ⟨q, hq, eq⟩ := key j hj
    exact hD.1 i j p q hp hq (by rw [← ep, ← eq]; exact e)
  · obtain ⟨p, hp, ep⟩ := key i hi
    rw [ep]
    exact hD.2 i p hp
theorem va_P1 {D : va_G} {cl : List vw_C} {q : Nat × va_E} {H : Heap} (h : va_at D cl q H) : va_P D cl [q] H := fun k x hx => by
  have hk : k < 1 := (List.getElem?_eq_some_iff.mp hx).1
  rw [show k = 0 by omega] at hx
  cases hx
  exact h
theorem va_q4 {D : va_G} {cl : List vw_C} {a : Nat} {cO : ClassId} {f g : Nat → Option Nat} {H : Heap} (h : va_at D cl (a, .inl (cO, 4, .inr (.inr (.inr (.inr f))))) H) (e0 : f 0 = g 0) (e1 : f 1 = g 1) (e2 : f 2 = g 2) (e3 : f 3 = g 3) : va_at D cl (a, .inl (cO, 4, .inr (.inr (.inr (.inr g))))) H := by
  show H[a]? = some (vp_cell _ _)
  have h1 : H[a]? = some (vp_cell cO (4, .inr (.inr (.inr (.inr f))))) := h
  rw [h1, vp_cell_q, vp_cell_q]
  unfold arrV
  congr 3
  funext j
  have hj := j.isLt
  rcases (show j.val = 0 ∨ j.val = 1 ∨ j.val = 2 ∨ j.val = 3 by omega) with q | q | q | q <;> rw [q]
  · show va_rf (f 0) = va_rf (g 0); rw [e0]
  · show va_rf (f 1) = va_rf (g 1); rw [e1]
  · show va_rf (f 2) = va_rf (g 2); rw [e2]
  · show va_rf (f 3) = va_rf (g 3); rw [e3]
theorem K_eqI {D : va_G} {cl : List vw_C} {tys : List (ClassId × FieldType)} {U : State} (h : va_K D cl tys U) {i j : Nat} {a b : ClassId} (hi : tys[i]? = some (a, .int)) (hj : tys[j]? = some (b, .int)) : a = b := by
  have h1 : U.vm.findClass ("[" ++ (.int : FieldType).toString) = some a := (h.2 i _ hi).2
  have h2 : U.vm.findClass ("[" ++ (.int : FieldType).toString) = some b := (h.2 j _ hj).2
  exact Option.some.inj (h1.symm.trans h2)
theorem K_eqJ {D : va_G} {cl : List vw_C} {tys : List (ClassId × FieldType)} {U : State} (h : va_K D cl tys U) {i j : Nat} {a b : ClassId} (hi : tys[i]? = some (a, .long)) (hj : tys[j]? = some (b, .long)) : a = b := by
  have h1 : U.vm.findClass ("[" ++ (.long : FieldType).toString) = some a := (h.2 i _ hi).2
  have h2 : U.vm.findClass ("[" ++ (.long : FieldType).toString) = some b := (h.2 j _ hj).2
  exact Option.some.inj (h1.symm.trans h2)
theorem K_eqZ {D : va_G} {cl : List vw_C} {tys : List (ClassId × FieldType)} {U : State} (h : va_K D cl tys U) {i j : Nat} {a b : ClassId} (hi : tys[i]? = some (a, .boolean)) (hj : tys[j]? = some (b, .boolean)) : a = b := by
  have h1 : U.vm.findClass ("[" ++ (.boolean : FieldType).toString) = some a := (h.2 i _ hi).2
  have h2 : U.vm.findClass ("[" ++ (.boolean : FieldType).toString) = some b := (h.2 j _ hj).2
  exact Option.some.inj (h1.symm.trans h2)
theorem tb_inst0 : Cond.instantiable RX0 3 ∈ lw_tbl := List.mem_of_getElem? (i := 111) (by decide +kernel)
theorem tb_inst1 : Cond.instantiable RX1 8 ∈ lw_tbl := List.mem_of_getElem? (i := 128) (by decide +kernel)
theorem tb_inst2 : Cond.instantiable RX2 2 ∈ lw_tbl := List.mem_of_getElem? (i := 96) (by decide +kernel)
theorem tb_inst3 : Cond.instantiable RX3 4 ∈ lw_tbl := List.mem_of_getElem? (i := 162) (by decide +kernel)
theorem tb_inst4 : Cond.instantiable RX4 3 ∈ lw_tbl := List.mem_of_getElem? (i := 75) (by decide +kernel)
theorem tb_inst5 : Cond.instantiable RX5 9 ∈ lw_tbl := List.mem_of_getElem? (i := 67) (by decide +kernel)
theorem tb_inst6 : Cond.instantiable RX6 18 ∈ lw_tbl := List.mem_of_getElem? (i := 628) (by decide +kernel)
theorem tb_over : Cond.arrayOver (.object RX3) ∈ lw_tbl := List.mem_of_getElem? (i := 161) (by decide +kernel)
theorem tb_ls0 : Cond.laysStatic "StairCodes" "LABELS" "[I" ∈ lw_tbl := List.mem_of_getElem? (i := 264) (by decide +kernel)
theorem tb_ls1 : Cond.laysStatic "StairCodes" "PLACE_OF_LABEL" "[I" ∈ lw_tbl := List.mem_of_getElem? (i := 395) (by decide +kernel)
theorem tb_ini : Cond.initialized "StairCodes" ∈ lw_tbl := List.mem_of_getElem? (i := 54) (by decide +kernel)
theorem in_of {big ws : List Cond} (ps : List Nat) (hp : ws = ps.filterMap (fun i => big[i]?)) : ∀ w ∈ ws, w ∈ big := by
  intro w hw
  rw [hp] at hw
  obtain ⟨i, -, hi⟩ := List.mem_filterMap.mp hw
  exact List.mem_of_getElem? hi
theorem nests_in : ∀ w ∈ nests, w ∈ lw_tbl := in_of [81, 102, 168, 172, 174, 104, 84, 119, 170, 134, 82, 263, 297, 394, 518, 260, 383, 423] (by decide +kernel)
theorem nests_on : ∀ w ∈ nests, w.onTables = true := by decide +kernel
theorem tab_L {b : Nat} {s : State} {A : Nat → Prop} (hgv : (Jvm.Cond.and given_1 narrow_1).before #[Value.ref b] s = true) (hl : (Cond.laysStatic "StairCodes" "LABELS" "[I").before #[Value.ref b] s = true) (hini : (Cond.initialized "StairCodes").before #[Value.ref b] s = true) (hA : ∀ a : Nat, a < s.heap.size → ¬ A a) : ∃ t, va_Z "StairCodes" "LABELS" "[I" (.ref t) A s s.heap ∧ va_T .int t 16 (fun j => .int (tabL j)) A s s.heap := by
  have hs := flat_of_before _ hgv
  obtain ⟨t, h1, h2⟩ := va_Tof (tm := (Term.static "StairCodes" "LABELS" "[I")) (ty := .int) (N := 16) (f := fun j => .int (tabL j)) (A := A) (by decide) (hs _ (by decide +kernel)) (va_eqt (z := 16) (hs _ (by decide +kernel))) (fun j hj => by
    rcases (show j = 0 ∨ j = 1 ∨ j = 2 ∨ j = 3 ∨ j = 4 ∨ j = 5 ∨ j = 6 ∨ j = 7 ∨ j = 8 ∨ j = 9 ∨ j = 10 ∨ j = 11 ∨ j = 12 ∨ j = 13 ∨ j = 14 ∨ j = 15 by omega) with rfl | rfl | rfl | rfl | rfl | rfl | rfl | rfl | rfl | rfl | rfl | rfl | rfl | rfl | rfl | rfl
    · exact va_eqt (t := .elem (Term.static "StairCodes" "LABELS" "[I") (.int 0)) (z := 7) (hs _ (by decide +kernel))
    · exact va_eqt (t := .elem (Term.static "StairCodes" "LABELS" "[I") (.int 1)) (z := 9) (hs _ (by decide +kernel))
    · exact va_eqt (t := .elem (Term.static "StairCodes" "LABELS" "[I") (.int 2)) (z := 10) (hs _ (by decide +kernel))
    · exact va_eqt (t := .elem (Term.static "StairCodes" "LABELS" "[I") (.int 3)) (z := 11) (hs _ (by decide +kernel))
    · exact va_eqt (t := .elem (Term.static "StairCodes" "LABELS" "[I") (.int 4)) (z := 12) (hs _ (by decide +kernel))
    · exact va_eqt (t := .elem (Term.static "StairCodes" "LABELS" "[I") (.int 5)) (z := 13) (hs _ (by decide +kernel))
    · exact va_eqt (t := .elem (Term.static "StairCodes" "LABELS" "[I") (.int 6)) (z := 14) (hs _ (by decide +kernel))
    · exact va_eqt (t := .elem (Term.static "StairCodes" "LABELS" "[I") (.int 7)) (z := 15) (hs _ (by decide +kernel))
    · exact va_eqt (t := .elem (Term.static "StairCodes" "LABELS" "[I") (.int 8)) (z := 3) (hs _ (by decide +kernel))
    · exact va_eqt (t := .elem (Term.static "StairCodes" "LABELS" "[I") (.int 9)) (z := 5) (hs _ (by decide +kernel))
    · exact va_eqt (t := .elem (Term.static "StairCodes" "LABELS" "[I") (.int 10)) (z := 6) (hs _ (by decide +kernel))
    · exact va_eqt (t := .elem (Term.static "StairCodes" "LABELS" "[I") (.int 11)) (z := 0) (hs _ (by decide +kernel))
    · exact va_eqt (t := .elem (Term.static "StairCodes" "LABELS" "[I") (.int 12)) (z := 1) (hs _ (by decide +kernel))
    · exact va_eqt (t := .elem (Term.static "StairCodes" "LABELS" "[I") (.int 13)) (z := 2) (hs _ (by decide +kernel))
    · exact va_eqt (t := .elem (Term.static "StairCodes" "LABELS" "[I") (.int 14)) (z := 4) (hs _ (by decide +kernel))
    · exact va_eqt (t := .elem (Term.static "StairCodes" "LABELS" "[I") (.int 15)) (z := 8) (hs _ (by decide +kernel))) hA
  exact ⟨t, va_Zref hl hini h1 hA, h2⟩
theorem tab_P {b : Nat} {s : State} {A : Nat → Prop} (hgv : (Jvm.Cond.and given_1 narrow_1).before #[Value.ref b] s = true) (hl : (Cond.laysStatic "StairCodes" "PLACE_OF_LABEL" "[I").before #[Value.ref b] s = true) (hini : (Cond.initialized "StairCodes").before #[Value.ref b] s = true) (hA : ∀ a : Nat, a < s.heap.size → ¬ A a) : ∃ t, va_Z "StairCodes" "PLACE_OF_LABEL" "[I" (.ref t) A s s.heap ∧ va_T .int t 16 (fun j => .int (tabP j)) A s s.heap := by
  have hs := flat_of_before _ hgv
  obtain ⟨t, h1, h2⟩ := va_Tof (tm := (Term.static "StairCodes" "PLACE_OF_LABEL" "[I")) (ty := .int) (N := 16) (f := fun j => .int (tabP j)) (A := A) (by decide) (hs _ (by decide +kernel)) (va_eqt (z := 16) (hs _ (by decide +kernel))) (fun j hj => by
    rcases (show j = 0 ∨ j = 1 ∨ j = 2 ∨ j = 3 ∨ j = 4 ∨ j = 5 ∨ j = 6 ∨ j = 7 ∨ j = 8 ∨ j = 9 ∨ j = 10 ∨ j = 11 ∨ j = 12 ∨ j = 13 ∨ j = 14 ∨ j = 15 by omega) with rfl | rfl | rfl | rfl | rfl | rfl | rfl | rfl | rfl | rfl | rfl | rfl | rfl | rfl | rfl | rfl
    · exact va_eqt (t := .elem (Term.static "StairCodes" "PLACE_OF_LABEL" "[I") (.int 0)) (z := 11) (hs _ (by decide +kernel))
    · exact va_eqt (t := .elem (Term.static "StairCodes" "PLACE_OF_LABEL" "[I") (.int 1)) (z := 12) (hs _ (by decide +kernel))
    · exact va_eqt (t := .elem (Term.static "StairCodes" "PLACE_OF_LABEL" "[I") (.int 2)) (z := 13) (hs _ (by decide +kernel))
    · exact va_eqt (t := .elem (Term.static "StairCodes" "PLACE_OF_LABEL" "[I") (.int 3)) (z := 8) (hs _ (by decide +kernel))
    · exact va_eqt (t := .elem (Term.static "StairCodes" "PLACE_OF_LABEL" "[I") (.int 4)) (z := 14) (hs _ (by decide +kernel))
    · exact va_eqt (t := .elem (Term.static "StairCodes" "PLACE_OF_LABEL" "[I") (.int 5)) (z := 9) (hs _ (by decide +kernel))
    · exact va_eqt (t := .elem (Term.static "StairCodes" "PLACE_OF_LABEL" "[I") (.int 6)) (z := 10) (hs _ (by decide +kernel))
    · exact va_eqt (t := .elem (Term.static "StairCodes" "PLACE_OF_LABEL" "[I") (.int 7)) (z := 0) (hs _ (by decide +kernel))
    · exact va_eqt (t := .elem (Term.static "StairCodes" "PLACE_OF_LABEL" "[I") (.int 8)) (z := 15) (hs _ (by decide +kernel))
    · exact va_eqt (t := .elem (Term.static "StairCodes" "PLACE_OF_LABEL" "[I") (.int 9)) (z := 1) (hs _ (by decide +kernel))
    · exact va_eqt (t := .elem (Term.static "StairCodes" "PLACE_OF_LABEL" "[I") (.int 10)) (z := 2) (hs _ (by decide +kernel))
    · exact va_eqt (t := .elem (Term.static "StairCodes" "PLACE_OF_LABEL" "[I") (.int 11)) (z := 3) (hs _ (by decide +kernel))
    · exact va_eqt (t := .elem (Term.static "StairCodes" "PLACE_OF_LABEL" "[I") (.int 12)) (z := 4) (hs _ (by decide +kernel))
    · exact va_eqt (t := .elem (Term.static "StairCodes" "PLACE_OF_LABEL" "[I") (.int 13)) (z := 5) (hs _ (by decide +kernel))
    · exact va_eqt (t := .elem (Term.static "StairCodes" "PLACE_OF_LABEL" "[I") (.int 14)) (z := 6) (hs _ (by decide +kernel))
    · exact va_eqt (t := .elem (Term.static "StairCodes" "PLACE_OF_LABEL" "[I") (.int 15)) (z := 7) (hs _ (by decide +kernel))) hA
  exact ⟨t, va_Zref hl hini h1 hA, h2⟩
set_option maxHeartbeats 8000000 in
set_option maxRecDepth 100000 in
/-- THE LAW, from its entry, over what is pure: its loop function comes to an end -/
theorem start_open {p : Program} {e : Env} {s : State} {m : MethodId} {below : List Frame} {meth : Method} {c : Code} (l : Launch) {b L : Nat} {xs : Nat → Int32} {h1 : AH} (hpure : fL_18 L xs FU hI 0 = some h1) (C0 : lw_At p s m meth c b L xs) : W p l e room_1 s m #[Value.ref b] below meth c s.heap [] 0 0 (lw_Z below #[Value.ref b] s) (entryFrame m ([Value.ref b] : List Value).toArray 4) := by
  obtain ⟨hx, hb, hr, hml, hown, hts, hX, hbl, hlocks, hgv⟩ := id C0
  have htl : ∀ w ∈ wsL_law, w.before #[Value.ref b] s = true := fun w h => hts w (wsL_law_in w h)
  have hA : ∀ q : Nat, s.heap.size ≤ q → (fun q : Nat => s.heap.size ≤ q) q := fun _ h => h
  obtain ⟨k0, iS0, hKn0⟩ := u_known (C := RX0) (T := TX0) (N := 3) (n := 3) hts inX0 (hts (.instantiable RX0 3) (tb_inst0))
  obtain ⟨k1, iS1, hKn1⟩ := u_known (C := RX1) (T := TX1) (N := 8) (n := 8) hts inX1 (hts (.instantiable RX1 8) (tb_inst1))
  obtain ⟨k2, iS2, hKn2⟩ := u_known (C := RX2) (T := TX2) (N := 2) (n := 2) hts inX2 (hts (.instantiable RX2 2) (tb_inst2))
  obtain ⟨k3, iS3, hKn3⟩ := u_known (C := RX3) (T := TX3) (N := 4) (n := 4) hts inX3 (hts (.instantiable RX3 4) (tb_inst3))
  obtain ⟨k4, iS4, hKn4⟩ := u_known (C := RX4) (T := TX4) (N := 3) (n := 3) hts inX4 (hts (.instantiable RX4 3) (tb_inst4))
  obtain ⟨k5, iS5, hKn5⟩ := u_known (C := RX5) (T := TX5) (N := 9) (n := 9) hts inX5 (hts (.instantiable RX5 9) (tb_inst5))
  obtain ⟨k6, iS6, hKn6⟩ := u_known (C := RX6) (T := TX6) (N := 18) (n := 18) hts inX6 (hts (.instantiable RX6 18) (tb_inst6))
  obtain ⟨dC, dI, hKc0⟩ : ∃ (dC : Nat → ClassId) (dI : Nat → Nat → Nat), ∀ (k : Nat) (q : vw_C), vwCl[k]? = some q → u_Kn s q.1 q.2.1 q.2.2 (dC k) (dI k) := by
    refine ⟨fun k => match k with | 0 => k0 | 1 => k1 | 2 => k2 | 3 => k3 | 4 => k4 | 5 => k5 | _ => k6, fun k => match k with | 0 => iS0 | 1 => iS1 | 2 => iS2 | 3 => iS3 | 4 => iS4 | 5 => iS5 | _ => iS6, ?_⟩
    intro k q hq
    match k, hq with
    | 0, hq => cases hq; exact hKn0
    | 1, hq => cases hq; exact hKn1
    | 2, hq => cases hq; exact hKn2
    | 3, hq => cases hq; exact hKn3
    | 4, hq => cases hq; exact hKn4
    | 5, hq => cases hq; exact hKn5
    | 6, hq => cases hq; exact hKn6
    | k + 7, hq => simp [vwCl] at hq
  have hS : va_S (fun q : Nat => s.heap.size ≤ q) s.heap s.heap [] := va_S.rf
  have hK : va_K (dC, dI) vwCl [] s := ⟨hKc0, fun k q h => by simp at h⟩
  have hP : va_P (dC, dI) vwCl [] s.heap := fun k q h => by simp at h
  have hD : va_D (fun q : Nat => s.heap.size ≤ q) [] := ⟨fun i j p q h => by simp at h, fun k q h => by simp at h⟩
  have hAO : va_AO RX3 s := va_AO.of (hts (.arrayOver (.object RX3)) tb_over)
  have hl := lv_entry ([.ref b]) (n := 4) (Nat.le_of_ble_eq_true rfl)
  rw [lg_entry_eq]
  generalize (lg_sl ([.ref b]) ++ List.replicate (4 - (lg_sl ([.ref b])).length) Slot.unset).toArray = ls at hl ⊢
  have hl : lv_has ls 4 [(0, .ref b)] := hl
  refine va_new (ci := 5) (fs := [.null, .null, .null, .null, .null, .null, .null, .int 0, .int 0]) (C := RX5) (T := TX5) (N := 9) hx hb hts (inX5) tyX5 tyX5_ok hown (hts (.classLink RL 7 RX5) (wsL_law_in _ (by decide +kernel))) (hts (.instantiable RX5 9) (wsL_law_in _ (by decide +kernel))) (hts (.initialized RX5) (wsL_law_in _ (by decide +kernel))) hK hP hD hS hA rfl (fun j hj => by rcases (show j = 0 ∨ j = 1 ∨ j = 2 ∨ j = 3 ∨ j = 4 ∨ j = 5 ∨ j = 6 ∨ j = 7 ∨ j = 8 by omega) with rfl | rfl | rfl | rfl | rfl | rfl | rfl | rfl | rfl <;> rfl) (Nat.le_of_ble_eq_true rfl) (Nat.le_of_ble_eq_true rfl) dL_law_0 (fun x0 H hP hD hS => ?_)
  have hP : va_P (dC, dI) vwCl [(x0, .inr (5, [.null, .null, .null, .null, .null, .null, .null, .int 0, .int 0]))] H := hP
  have hD : va_D (fun q : Nat => s.heap.size ≤ q) [(x0, .inr (5, [.null, .null, .null, .null, .null, .null, .null, .int 0, .int 0]))] := hD
  refine W.widen (k := 1) (n := 9) (Nat.le_of_ble_eq_true rfl) (Nat.le_of_ble_eq_true rfl) ?_
  refine lv_dup hx hb dL_law_3 rfl ?_
  have hPc := hP.sub (ws' := [(x0, .inr (5, [.null, .null, .null, .null, .null, .null, .null, .int 0, .int 0]))]) [0] rfl
  have hDc := hD.sub (ws' := [(x0, .inr (5, [.null, .null, .null, .null, .null, .null, .null, .int 0, .int 0]))]) [0] (by decide) rfl
  have hKc := hK.sub (tys' := []) [] rfl
  have hFc := va_free (wc := [(x0, .inr (5, [.null, .null, .null, .null, .null, .null, .null, .int 0, .int 0]))]) hD hS hA [0] rfl
  refine va_callv (va_runI (As := []) (rest := [.ref x0]) ⟨hx, hb, hml, hown, htl⟩ (c_X5_init l dC dI x0 H.size) (cwI 0 htl gL_law_X5_init rfl rfl rfl (hts (.initialized RX5) (wsL_law_in _ (by decide +kernel))) (hts (.methodLink RL 9 yX5_init) (wsL_law_in _ (by decide +kernel))) (hts (.instanceMethod yX5_init) (wsL_law_in _ (by decide +kernel))) rfl (by decide +kernel) ⟨Nat.le_of_ble_eq_true rfl, Nat.le_of_ble_eq_true rfl⟩) ⟨fun a U g mk q => by obtain ⟨q0, q1, qP, qK, qD, qO⟩ := q; exact ⟨q0, q1, qP, va_K.moved (u := U) (U := U.calling g mk a) (Vm.Alike.refl U.vm) qK, qD, qO⟩, fun U hU hW => ⟨rfl, by rw [hU], by rw [hU]; exact hPc, va_K.moved hW.alike hKc, hDc.weaken (fun _ _ _ _ => trivial), va_AO.moved hW.alike hAO⟩⟩ rfl rfl hl.1 rfl (lv_room (Nat.le_of_ble_eq_true rfl)) dL_law_4 ⟨Nat.le_of_ble_eq_true rfl, Nat.le_of_ble_eq_true rfl⟩) hS (fun q _ h => hFc q h) hFc (fun u t H1 locs ht hvm hw hB hz1 hk1 hS => ?_)
  obtain ⟨q1, q2, q3, q4, q5, q6, q7, q8, q9, q10, q11, q12, q13, q14, q15, q16, q17, q18, q19, q20, q21, q22, q23, q24, q25, q26, q27, q28, c29, c30, c31, c32, c33, c34, c35, c36, c37, c38, c39, c40, c41, c42, c43, c44, c45, c46, c47, hP1, hK1, hD1⟩ := hB
  rw [ht] at hP1
  have hK1 := va_K.moved hvm.symm hK1
  obtain ⟨hP, hD⟩ := va_join (wr := []) (w1 := [(x0, .inr (5, [.ref q1, .ref q4, .ref q7, .ref q10, .ref q11, .ref q13, .ref q20, .int 0, .int 0])), (q1, .inr (4, [.int 4, .ref q2, .ref q3])), (q2, zJ c29 7), (q3, zI c30 56), (q4, .inr (4, [.int 4, .ref q5, .ref q6])), (q5, zJ c31 7), (q6, zI c32 56), (q7, .inr (2, [.ref q8, .ref q9])), (q8, zI c33 56), (q9, zJ c34 7), (q10, zJ c35 7), (q11, .inr (0, [.ref q12, .int 0, .int 0])), (q12, zI c36 60), (q13, .inr (1, [.int 0, .ref q14, .ref q15, .ref q16, .ref q17, .ref q18, .ref q19, .int 0])), (q14, zI c37 56), (q15, zI c38 56), (q16, zI c39 56), (q17, zI c40 56), (q18, zI c41 56), (q19, zI c42 56), (q20, .inl (c43, 4, .inr (.inr (.inr (.inr (va_up (va_up (va_up (va_up (fun _ => none) 0 (some q21)) 1 (some q23)) 2 (some q25)) 3 (some q27))))))), (q21, .inr (3, [.int 1, .int 0, .int 0, .ref q22])), (q22, zJ c44 64), (q23, .inr (3, [.int 1, .int 0, .int 0, .ref q24])), (q24, zJ c45 64), (q25, .inr (3, [.int 1, .int 0, .int 0, .ref q26])), (q26, zJ c46 64), (q27, .inr (3, [.int 1, .int 0, .int 0, .ref q28])), (q28, zJ c47 64)]) hP hD [0] [] rfl rfl (by decide) (by decide) hk1 hFc hP1 hD1
  have hK := (hK.sub (tys' := []) [] rfl).app hK1
  generalize H1 = H at hP hS ⊢
  have hP : va_P (dC, dI) vwCl [(x0, .inr (5, [.ref q1, .ref q4, .ref q7, .ref q10, .ref q11, .ref q13, .ref q20, .int 0, .int 0])), (q1, .inr (4, [.int 4, .ref q2, .ref q3])), (q2, zJ c29 7), (q3, zI c30 56), (q4, .inr (4, [.int 4, .ref q5, .ref q6])), (q5, zJ c31 7), (q6, zI c32 56), (q7, .inr (2, [.ref q8, .ref q9])), (q8, zI c33 56), (q9, zJ c34 7), (q10, zJ c35 7), (q11, .inr (0, [.ref q12, .int 0, .int 0])), (q12, zI c36 60), (q13, .inr (1, [.int 0, .ref q14, .ref q15, .ref q16, .ref q17, .ref q18, .ref q19, .int 0])), (q14, zI c37 56), (q15, zI c38 56), (q16, zI c39 56), (q17, zI c40 56), (q18, zI c41 56), (q19, zI c42 56), (q20, .inl (c43, 4, .inr (.inr (.inr (.inr (va_up (va_up (va_up (va_up (fun _ => none) 0 (some q21)) 1 (some q23)) 2 (some q25)) 3 (some q27))))))), (q21, .inr (3, [.int 1, .int 0, .int 0, .ref q22])), (q22, zJ c44 64), (q23, .inr (3, [.int 1, .int 0, .int 0, .ref q24])), (q24, zJ c45 64), (q25, .inr (3, [.int 1, .int 0, .int 0, .ref q26])), (q26, zJ c46 64), (q27, .inr (3, [.int 1, .int 0, .int 0, .ref q28])), (q28, zJ c47 64)] H := hP
  have hD : va_D (fun q : Nat => s.heap.size ≤ q) [(x0, .inr (5, [.ref q1, .ref q4, .ref q7, .ref q10, .ref q11, .ref q13, .ref q20, .int 0, .int 0])), (q1, .inr (4, [.int 4, .ref q2, .ref q3])), (q2, zJ c29 7), (q3, zI c30 56), (q4, .inr (4, [.int 4, .ref q5, .ref q6])), (q5, zJ c31 7), (q6, zI c32 56), (q7, .inr (2, [.ref q8, .ref q9])), (q8, zI c33 56), (q9, zJ c34 7), (q10, zJ c35 7), (q11, .inr (0, [.ref q12, .int 0, .int 0])), (q12, zI c36 60), (q13, .inr (1, [.int 0, .ref q14, .ref q15, .ref q16, .ref q17, .ref q18, .ref q19, .int 0])), (q14, zI c37 56), (q15, zI c38 56), (q16, zI c39 56), (q17, zI c40 56), (q18, zI c41 56), (q19, zI c42 56), (q20, .inl (c43, 4, .inr (.inr (.inr (.inr (va_up (va_up (va_up (va_up (fun _ => none) 0 (some q21)) 1 (some q23)) 2 (some q25)) 3 (some q27))))))), (q21, .inr (3, [.int 1, .int 0, .int 0, .ref q22])), (q22, zJ c44 64), (q23, .inr (3, [.int 1, .int 0, .int 0, .ref q24])), (q24, zJ c45 64), (q25, .inr (3, [.int 1, .int 0, .int 0, .ref q26])), (q26, zJ c46 64), (q27, .inr (3, [.int 1, .int 0, .int 0, .ref q28])), (q28, zJ c47 64)] := hD
  have hK : va_K (dC, dI) vwCl [(c29, .long), (c30, .int), (c31, .long), (c32, .int), (c33, .int), (c34, .long), (c35, .long), (c36, .int), (c37, .int), (c38, .int), (c39, .int), (c40, .int), (c41, .boolean), (c42, .int), (c43, .object "StairCodes$Sheet"), (c44, .long), (c45, .long), (c46, .long), (c47, .long)] s := hK
  refine W.widen (k := 29) (n := 896) (Nat.le_of_ble_eq_true rfl) (Nat.le_of_ble_eq_true rfl) ?_
  refine lv_astore_n (lv' := [(1, .ref x0), (0, .ref b)]) hx hb dL_law_7 rfl hl (by decide) rfl (fun ls hl => ?_)
  refine va_new (ci := 6) (fs := [.int 0, .int 0, .null, .null, .null, .null, .null, .int 0, .null, .null, .int 0, .null, .null, .null, .null, .null, .null, .int 0]) (C := RX6) (T := TX6) (N := 18) hx hb hts (inX6) tyX6 tyX6_ok hown (hts (.classLink RL 10 RX6) (wsL_law_in _ (by decide +kernel))) (hts (.instantiable RX6 18) (wsL_law_in _ (by decide +kernel))) (hts (.initialized RX6) (wsL_law_in _ (by decide +kernel))) hK hP hD hS hA rfl (fun j hj => by rcases (show j = 0 ∨ j = 1 ∨ j = 2 ∨ j = 3 ∨ j = 4 ∨ j = 5 ∨ j = 6 ∨ j = 7 ∨ j = 8 ∨ j = 9 ∨ j = 10 ∨ j = 11 ∨ j = 12 ∨ j = 13 ∨ j = 14 ∨ j = 15 ∨ j = 16 ∨ j = 17 by omega) with rfl | rfl | rfl | rfl | rfl | rfl | rfl | rfl | rfl | rfl | rfl | rfl | rfl | rfl | rfl | rfl | rfl | rfl <;> rfl) (Nat.le_of_ble_eq_true rfl) (Nat.le_of_ble_eq_true rfl) dL_law_8 (fun x1 H hP hD hS => ?_)
  have hP : va_P (dC, dI) vwCl [(x0, .inr (5, [.ref q1, .ref q4, .ref q7, .ref q10, .ref q11, .ref q13, .ref q20, .int 0, .int 0])), (q1, .inr (4, [.int 4, .ref q2, .ref q3])), (q2, zJ c29 7), (q3, zI c30 56), (q4, .inr (4, [.int 4, .ref q5, .ref q6])), (q5, zJ c31 7), (q6, zI c32 56), (q7, .inr (2, [.ref q8, .ref q9])), (q8, zI c33 56), (q9, zJ c34 7), (q10, zJ c35 7), (q11, .inr (0, [.ref q12, .int 0, .int 0])), (q12, zI c36 60), (q13, .inr (1, [.int 0, .ref q14, .ref q15, .ref q16, .ref q17, .ref q18, .ref q19, .int 0])), (q14, zI c37 56), (q15, zI c38 56), (q16, zI c39 56), (q17, zI c40 56), (q18, zI c41 56), (q19, zI c42 56), (q20, .inl (c43, 4, .inr (.inr (.inr (.inr (va_up (va_up (va_up (va_up (fun _ => none) 0 (some q21)) 1 (some q23)) 2 (some q25)) 3 (some q27))))))), (q21, .inr (3, [.int 1, .int 0, .int 0, .ref q22])), (q22, zJ c44 64), (q23, .inr (3, [.int 1, .int 0, .int 0, .ref q24])), (q24, zJ c45 64), (q25, .inr (3, [.int 1, .int 0, .int 0, .ref q26])), (q26, zJ c46 64), (q27, .inr (3, [.int 1, .int 0, .int 0, .ref q28])), (q28, zJ c47 64), (x1, .inr (6, [.int 0, .int 0, .null, .null, .null, .null, .null, .int 0, .null, .null, .int 0, .null, .null, .null, .null, .null, .null, .int 0]))] H := hP
  have hD : va_D (fun q : Nat => s.heap.size ≤ q) [(x0, .inr (5, [.ref q1, .ref q4, .ref q7, .ref q10, .ref q11, .ref q13, .ref q20, .int 0, .int 0])), (q1, .inr (4, [.int 4, .ref q2, .ref q3])), (q2, zJ c29 7), (q3, zI c30 56), (q4, .inr (4, [.int 4, .ref q5, .ref q6])), (q5, zJ c31 7), (q6, zI c32 56), (q7, .inr (2, [.ref q8, .ref q9])), (q8, zI c33 56), (q9, zJ c34 7), (q10, zJ c35 7), (q11, .inr (0, [.ref q12, .int 0, .int 0])), (q12, zI c36 60), (q13, .inr (1, [.int 0, .ref q14, .ref q15, .ref q16, .ref q17, .ref q18, .ref q19, .int 0])), (q14, zI c37 56), (q15, zI c38 56), (q16, zI c39 56), (q17, zI c40 56), (q18, zI c41 56), (q19, zI c42 56), (q20, .inl (c43, 4, .inr (.inr (.inr (.inr (va_up (va_up (va_up (va_up (fun _ => none) 0 (some q21)) 1 (some q23)) 2 (some q25)) 3 (some q27))))))), (q21, .inr (3, [.int 1, .int 0, .int 0, .ref q22])), (q22, zJ c44 64), (q23, .inr (3, [.int 1, .int 0, .int 0, .ref q24])), (q24, zJ c45 64), (q25, .inr (3, [.int 1, .int 0, .int 0, .ref q26])), (q26, zJ c46 64), (q27, .inr (3, [.int 1, .int 0, .int 0, .ref q28])), (q28, zJ c47 64), (x1, .inr (6, [.int 0, .int 0, .null, .null, .null, .null, .null, .int 0, .null, .null, .int 0, .null, .null, .null, .null, .null, .null, .int 0]))] := hD
  refine W.widen (k := 30) (n := 914) (Nat.le_of_ble_eq_true rfl) (Nat.le_of_ble_eq_true rfl) ?_
  refine lv_dup hx hb dL_law_11 rfl ?_
  have hPc := hP.sub (ws' := [(x1, .inr (6, [.int 0, .int 0, .null, .null, .null, .null, .null, .int 0, .null, .null, .int 0, .null, .null, .null, .null, .null, .null, .int 0]))]) [29] rfl
  have hDc := hD.sub (ws' := [(x1, .inr (6, [.int 0, .int 0, .null, .null, .null, .null, .null, .int 0, .null, .null, .int 0, .null, .null, .null, .null, .null, .null, .int 0]))]) [29] (by decide) rfl
  have hKc := hK.sub (tys' := []) [] rfl
  have hFc := va_free (wc := [(x1, .inr (6, [.int 0, .int 0, .null, .null, .null, .null, .null, .int 0, .null, .null, .int 0, .null, .null, .null, .null, .null, .null, .int 0]))]) hD hS hA [29] rfl
  refine va_callv (va_runI (As := []) (rest := [.ref x1]) ⟨hx, hb, hml, hown, htl⟩ (c_X6_init l dC dI x1 H.size) (cwI 0 htl gL_law_X6_init rfl rfl rfl (hts (.initialized RX6) (wsL_law_in _ (by decide +kernel))) (hts (.methodLink RL 12 yX6_init) (wsL_law_in _ (by decide +kernel))) (hts (.instanceMethod yX6_init) (wsL_law_in _ (by decide +kernel))) rfl (by decide +kernel) ⟨Nat.le_of_ble_eq_true rfl, Nat.le_of_ble_eq_true rfl⟩) ⟨fun a U g mk q => by obtain ⟨q0, q1, qP, qK, qD⟩ := q; exact ⟨q0, q1, qP, va_K.moved (u := U) (U := U.calling g mk a) (Vm.Alike.refl U.vm) qK, qD⟩, fun U hU hW => ⟨rfl, by rw [hU], by rw [hU]; exact hPc, va_K.moved hW.alike hKc, hDc.weaken (fun _ _ _ _ => trivial)⟩⟩ rfl rfl hl.1 rfl (lv_room (Nat.le_of_ble_eq_true rfl)) dL_law_12 ⟨Nat.le_of_ble_eq_true rfl, Nat.le_of_ble_eq_true rfl⟩) hS (fun q _ h => hFc q h) hFc (fun u t H1 locs ht hvm hw hB hz1 hk1 hS => ?_)
  obtain ⟨q48, q49, q50, q51, q52, q53, q54, q55, q56, q57, q58, q59, q60, c61, c62, c63, c64, c65, c66, c67, c68, c69, c70, c71, c72, c73, hP1, hK1, hD1⟩ := hB
  rw [ht] at hP1
  have hK1 := va_K.moved hvm.symm hK1
  obtain ⟨hP, hD⟩ := va_join (wr := [(x0, .inr (5, [.ref q1, .ref q4, .ref q7, .ref q10, .ref q11, .ref q13, .ref q20, .int 0, .int 0])), (q1, .inr (4, [.int 4, .ref q2, .ref q3])), (q2, zJ c29 7), (q3, zI c30 56), (q4, .inr (4, [.int 4, .ref q5, .ref q6])), (q5, zJ c31 7), (q6, zI c32 56), (q7, .inr (2, [.ref q8, .ref q9])), (q8, zI c33 56), (q9, zJ c34 7), (q10, zJ c35 7), (q11, .inr (0, [.ref q12, .int 0, .int 0])), (q12, zI c36 60), (q13, .inr (1, [.int 0, .ref q14, .ref q15, .ref q16, .ref q17, .ref q18, .ref q19, .int 0])), (q14, zI c37 56), (q15, zI c38 56), (q16, zI c39 56), (q17, zI c40 56), (q18, zI c41 56), (q19, zI c42 56), (q20, .inl (c43, 4, .inr (.inr (.inr (.inr (va_up (va_up (va_up (va_up (fun _ => none) 0 (some q21)) 1 (some q23)) 2 (some q25)) 3 (some q27))))))), (q21, .inr (3, [.int 1, .int 0, .int 0, .ref q22])), (q22, zJ c44 64), (q23, .inr (3, [.int 1, .int 0, .int 0, .ref q24])), (q24, zJ c45 64), (q25, .inr (3, [.int 1, .int 0, .int 0, .ref q26])), (q26, zJ c46 64), (q27, .inr (3, [.int 1, .int 0, .int 0, .ref q28])), (q28, zJ c47 64)]) (w1 := [(x1, .inr (6, [.int 4, .int 0, .ref q48, .ref q49, .ref q50, .ref q51, .ref q52, .int 0, .ref q53, .ref q54, .int 0, .ref q55, .ref q56, .ref q57, .ref q58, .ref q59, .ref q60, .int 0])), (q48, zI c61 56), (q49, zI c62 448), (q50, zI c63 448), (q51, zI c64 448), (q52, zI c65 60), (q53, zI c66 448), (q54, zI c67 448), (q55, zI c68 448), (q56, zI c69 60), (q57, .inl (c70, 4, .inl (upd (upd (upd (upd (fun _ => (0 : Int32)) 0 (-1)) 1 (-1)) 2 (-1)) 3 (-1)))), (q58, zI c71 4), (q59, zJ c72 256), (q60, zJ c73 64)]) hP hD [29] [0, 1, 2, 3, 4, 5, 6, 7, 8, 9, 10, 11, 12, 13, 14, 15, 16, 17, 18, 19, 20, 21, 22, 23, 24, 25, 26, 27, 28] rfl rfl (by decide) (by decide) hk1 hFc hP1 hD1
  have hK := (hK.sub (tys' := [(c29, .long), (c30, .int), (c31, .long), (c32, .int), (c33, .int), (c34, .long), (c35, .long), (c36, .int), (c37, .int), (c38, .int), (c39, .int), (c40, .int), (c41, .boolean), (c42, .int), (c43, .object "StairCodes$Sheet"), (c44, .long), (c45, .long), (c46, .long), (c47, .long)]) [0, 1, 2, 3, 4, 5, 6, 7, 8, 9, 10, 11, 12, 13, 14, 15, 16, 17, 18] rfl).app hK1
  generalize H1 = H at hP hS ⊢
  have hP : va_P (dC, dI) vwCl [(x0, .inr (5, [.ref q1, .ref q4, .ref q7, .ref q10, .ref q11, .ref q13, .ref q20, .int 0, .int 0])), (q1, .inr (4, [.int 4, .ref q2, .ref q3])), (q2, zJ c29 7), (q3, zI c30 56), (q4, .inr (4, [.int 4, .ref q5, .ref q6])), (q5, zJ c31 7), (q6, zI c32 56), (q7, .inr (2, [.ref q8, .ref q9])), (q8, zI c33 56), (q9, zJ c34 7), (q10, zJ c35 7), (q11, .inr (0, [.ref q12, .int 0, .int 0])), (q12, zI c36 60), (q13, .inr (1, [.int 0, .ref q14, .ref q15, .ref q16, .ref q17, .ref q18, .ref q19, .int 0])), (q14, zI c37 56), (q15, zI c38 56), (q16, zI c39 56), (q17, zI c40 56), (q18, zI c41 56), (q19, zI c42 56), (q20, .inl (c43, 4, .inr (.inr (.inr (.inr (va_up (va_up (va_up (va_up (fun _ => none) 0 (some q21)) 1 (some q23)) 2 (some q25)) 3 (some q27))))))), (q21, .inr (3, [.int 1, .int 0, .int 0, .ref q22])), (q22, zJ c44 64), (q23, .inr (3, [.int 1, .int 0, .int 0, .ref q24])), (q24, zJ c45 64), (q25, .inr (3, [.int 1, .int 0, .int 0, .ref q26])), (q26, zJ c46 64), (q27, .inr (3, [.int 1, .int 0, .int 0, .ref q28])), (q28, zJ c47 64), (x1, .inr (6, [.int 4, .int 0, .ref q48, .ref q49, .ref q50, .ref q51, .ref q52, .int 0, .ref q53, .ref q54, .int 0, .ref q55, .ref q56, .ref q57, .ref q58, .ref q59, .ref q60, .int 0])), (q48, zI c61 56), (q49, zI c62 448), (q50, zI c63 448), (q51, zI c64 448), (q52, zI c65 60), (q53, zI c66 448), (q54, zI c67 448), (q55, zI c68 448), (q56, zI c69 60), (q57, .inl (c70, 4, .inl (upd (upd (upd (upd (fun _ => (0 : Int32)) 0 (-1)) 1 (-1)) 2 (-1)) 3 (-1)))), (q58, zI c71 4), (q59, zJ c72 256), (q60, zJ c73 64)] H := hP
  have hD : va_D (fun q : Nat => s.heap.size ≤ q) [(x0, .inr (5, [.ref q1, .ref q4, .ref q7, .ref q10, .ref q11, .ref q13, .ref q20, .int 0, .int 0])), (q1, .inr (4, [.int 4, .ref q2, .ref q3])), (q2, zJ c29 7), (q3, zI c30 56), (q4, .inr (4, [.int 4, .ref q5, .ref q6])), (q5, zJ c31 7), (q6, zI c32 56), (q7, .inr (2, [.ref q8, .ref q9])), (q8, zI c33 56), (q9, zJ c34 7), (q10, zJ c35 7), (q11, .inr (0, [.ref q12, .int 0, .int 0])), (q12, zI c36 60), (q13, .inr (1, [.int 0, .ref q14, .ref q15, .ref q16, .ref q17, .ref q18, .ref q19, .int 0])), (q14, zI c37 56), (q15, zI c38 56), (q16, zI c39 56), (q17, zI c40 56), (q18, zI c41 56), (q19, zI c42 56), (q20, .inl (c43, 4, .inr (.inr (.inr (.inr (va_up (va_up (va_up (va_up (fun _ => none) 0 (some q21)) 1 (some q23)) 2 (some q25)) 3 (some q27))))))), (q21, .inr (3, [.int 1, .int 0, .int 0, .ref q22])), (q22, zJ c44 64), (q23, .inr (3, [.int 1, .int 0, .int 0, .ref q24])), (q24, zJ c45 64), (q25, .inr (3, [.int 1, .int 0, .int 0, .ref q26])), (q26, zJ c46 64), (q27, .inr (3, [.int 1, .int 0, .int 0, .ref q28])), (q28, zJ c47 64), (x1, .inr (6, [.int 4, .int 0, .ref q48, .ref q49, .ref q50, .ref q51, .ref q52, .int 0, .ref q53, .ref q54, .int 0, .ref q55, .ref q56, .ref q57, .ref q58, .ref q59, .ref q60, .int 0])), (q48, zI c61 56), (q49, zI c62 448), (q50, zI c63 448), (q51, zI c64 448), (q52, zI c65 60), (q53, zI c66 448), (q54, zI c67 448), (q55, zI c68 448), (q56, zI c69 60), (q57, .inl (c70, 4, .inl (upd (upd (upd (upd (fun _ => (0 : Int32)) 0 (-1)) 1 (-1)) 2 (-1)) 3 (-1)))), (q58, zI c71 4), (q59, zJ c72 256), (q60, zJ c73 64)] := hD
  have hK : va_K (dC, dI) vwCl [(c29, .long), (c30, .int), (c31, .long), (c32, .int), (c33, .int), (c34, .long), (c35, .long), (c36, .int), (c37, .int), (c38, .int), (c39, .int), (c40, .int), (c41, .boolean), (c42, .int), (c43, .object "StairCodes$Sheet"), (c44, .long), (c45, .long), (c46, .long), (c47, .long), (c61, .int), (c62, .boolean), (c63, .boolean), (c64, .boolean), (c65, .int), (c66, .int), (c67, .int), (c68, .boolean), (c69, .int), (c70, .int), (c71, .int), (c72, .long), (c73, .long)] s := hK
  refine W.widen (k := 43) (n := 4106) (Nat.le_of_ble_eq_true rfl) (Nat.le_of_ble_eq_true rfl) ?_
  refine lv_astore_n (lv' := [(2, .ref x1), (1, .ref x0), (0, .ref b)]) hx hb dL_law_15 rfl hl (by decide) rfl (fun ls hl => ?_)
  refine lv_iconst (v := 0) hx hb dL_law_16 (by decide) ?_
  refine lv_istore_n (lv' := [(3, .int 0), (2, .ref x1), (1, .ref x0), (0, .ref b)]) hx hb dL_law_17 rfl hl (by decide) rfl (fun ls hl => ?_)
  obtain rfl : c30 = c32 := K_eqI hK (i := 1) (j := 3) rfl rfl
  obtain rfl : c30 = c33 := K_eqI hK (i := 1) (j := 4) rfl rfl
  obtain rfl : c30 = c36 := K_eqI hK (i := 1) (j := 7) rfl rfl
  obtain rfl : c30 = c37 := K_eqI hK (i := 1) (j := 8) rfl rfl
  obtain rfl : c30 = c38 := K_eqI hK (i := 1) (j := 9) rfl rfl
  obtain rfl : c30 = c39 := K_eqI hK (i := 1) (j := 10) rfl rfl
  obtain rfl : c30 = c40 := K_eqI hK (i := 1) (j := 11) rfl rfl
  obtain rfl : c30 = c42 := K_eqI hK (i := 1) (j := 13) rfl rfl
  obtain rfl : c30 = c61 := K_eqI hK (i := 1) (j := 19) rfl rfl
  obtain rfl : c30 = c65 := K_eqI hK (i := 1) (j := 23) rfl rfl
  obtain rfl : c30 = c66 := K_eqI hK (i := 1) (j := 24) rfl rfl
  obtain rfl : c30 = c67 := K_eqI hK (i := 1) (j := 25) rfl rfl
  obtain rfl : c30 = c69 := K_eqI hK (i := 1) (j := 27) rfl rfl
  obtain rfl : c30 = c70 := K_eqI hK (i := 1) (j := 28) rfl rfl
  obtain rfl : c30 = c71 := K_eqI hK (i := 1) (j := 29) rfl rfl
  obtain rfl : c29 = c31 := K_eqJ hK (i := 0) (j := 2) rfl rfl
  obtain rfl : c29 = c34 := K_eqJ hK (i := 0) (j := 5) rfl rfl
  obtain rfl : c29 = c35 := K_eqJ hK (i := 0) (j := 6) rfl rfl
  obtain rfl : c29 = c44 := K_eqJ hK (i := 0) (j := 15) rfl rfl
  obtain rfl : c29 = c45 := K_eqJ hK (i := 0) (j := 16) rfl rfl
  obtain rfl : c29 = c46 := K_eqJ hK (i := 0) (j := 17) rfl rfl
  obtain rfl : c29 = c47 := K_eqJ hK (i := 0) (j := 18) rfl rfl
  obtain rfl : c29 = c72 := K_eqJ hK (i := 0) (j := 30) rfl rfl
  obtain rfl : c29 = c73 := K_eqJ hK (i := 0) (j := 31) rfl rfl
  obtain rfl : c41 = c62 := K_eqZ hK (i := 12) (j := 20) rfl rfl
  obtain rfl : c41 = c63 := K_eqZ hK (i := 12) (j := 21) rfl rfl
  obtain rfl : c41 = c64 := K_eqZ hK (i := 12) (j := 22) rfl rfl
  obtain rfl : c41 = c68 := K_eqZ hK (i := 12) (j := 26) rfl rfl
  have hP : va_P (dC, dI) vwCl [(x0, .inr (5, [.ref q1, .ref q4, .ref q7, .ref q10, .ref q11, .ref q13, .ref q20, .int 0, .int 0])), (q1, .inr (4, [.int 4, .ref q2, .ref q3])), (q2, zJ c29 7), (q3, zI c30 56), (q4, .inr (4, [.int 4, .ref q5, .ref q6])), (q5, zJ c29 7), (q6, zI c30 56), (q7, .inr (2, [.ref q8, .ref q9])), (q8, zI c30 56), (q9, zJ c29 7), (q10, zJ c29 7), (q11, .inr (0, [.ref q12, .int 0, .int 0])), (q12, zI c30 60), (q13, .inr (1, [.int 0, .ref q14, .ref q15, .ref q16, .ref q17, .ref q18, .ref q19, .int 0])), (q14, zI c30 56), (q15, zI c30 56), (q16, zI c30 56), (q17, zI c30 56), (q18, zI c41 56), (q19, zI c30 56), (q20, .inl (c43, 4, .inr (.inr (.inr (.inr (va_up (va_up (va_up (va_up (fun _ => none) 0 (some q21)) 1 (some q23)) 2 (some q25)) 3 (some q27))))))), (q21, .inr (3, [.int 1, .int 0, .int 0, .ref q22])), (q22, zJ c29 64), (q23, .inr (3, [.int 1, .int 0, .int 0, .ref q24])), (q24, zJ c29 64), (q25, .inr (3, [.int 1, .int 0, .int 0, .ref q26])), (q26, zJ c29 64), (q27, .inr (3, [.int 1, .int 0, .int 0, .ref q28])), (q28, zJ c29 64), (x1, .inr (6, [.int 4, .int 0, .ref q48, .ref q49, .ref q50, .ref q51, .ref q52, .int 0, .ref q53, .ref q54, .int 0, .ref q55, .ref q56, .ref q57, .ref q58, .ref q59, .ref q60, .int 0])), (q48, zI c30 56), (q49, zI c41 448), (q50, zI c41 448), (q51, zI c41 448), (q52, zI c30 60), (q53, zI c30 448), (q54, zI c30 448), (q55, zI c41 448), (q56, zI c30 60), (q57, .inl (c30, 4, .inl (upd (upd (upd (upd (fun _ => (0 : Int32)) 0 (-1)) 1 (-1)) 2 (-1)) 3 (-1)))), (q58, zI c30 4), (q59, zJ c29 256), (q60, zJ c29 64)] H := hP
  have hD : va_D (fun q : Nat => s.heap.size ≤ q) [(x0, .inr (5, [.ref q1, .ref q4, .ref q7, .ref q10, .ref q11, .ref q13, .ref q20, .int 0, .int 0])), (q1, .inr (4, [.int 4, .ref q2, .ref q3])), (q2, zJ c29 7), (q3, zI c30 56), (q4, .inr (4, [.int 4, .ref q5, .ref q6])), (q5, zJ c29 7), (q6, zI c30 56), (q7, .inr (2, [.ref q8, .ref q9])), (q8, zI c30 56), (q9, zJ c29 7), (q10, zJ c29 7), (q11, .inr (0, [.ref q12, .int 0, .int 0])), (q12, zI c30 60), (q13, .inr (1, [.int 0, .ref q14, .ref q15, .ref q16, .ref q17, .ref q18, .ref q19, .int 0])), (q14, zI c30 56), (q15, zI c30 56), (q16, zI c30 56), (q17, zI c30 56), (q18, zI c41 56), (q19, zI c30 56), (q20, .inl (c43, 4, .inr (.inr (.inr (.inr (va_up (va_up (va_up (va_up (fun _ => none) 0 (some q21)) 1 (some q23)) 2 (some q25)) 3 (some q27))))))), (q21, .inr (3, [.int 1, .int 0, .int 0, .ref q22])), (q22, zJ c29 64), (q23, .inr (3, [.int 1, .int 0, .int 0, .ref q24])), (q24, zJ c29 64), (q25, .inr (3, [.int 1, .int 0, .int 0, .ref q26])), (q26, zJ c29 64), (q27, .inr (3, [.int 1, .int 0, .int 0, .ref q28])), (q28, zJ c29 64), (x1, .inr (6, [.int 4, .int 0, .ref q48, .ref q49, .ref q50, .ref q51, .ref q52, .int 0, .ref q53, .ref q54, .int 0, .ref q55, .ref q56, .ref q57, .ref q58, .ref q59, .ref q60, .int 0])), (q48, zI c30 56), (q49, zI c41 448), (q50, zI c41 448), (q51, zI c41 448), (q52, zI c30 60), (q53, zI c30 448), (q54, zI c30 448), (q55, zI c41 448), (q56, zI c30 60), (q57, .inl (c30, 4, .inl (upd (upd (upd (upd (fun _ => (0 : Int32)) 0 (-1)) 1 (-1)) 2 (-1)) 3 (-1)))), (q58, zI c30 4), (q59, zJ c29 256), (q60, zJ c29 64)] := hD
  have hK : va_K (dC, dI) vwCl [(c29, .long), (c30, .int), (c29, .long), (c30, .int), (c30, .int), (c29, .long), (c29, .long), (c30, .int), (c30, .int), (c30, .int), (c30, .int), (c30, .int), (c41, .boolean), (c30, .int), (c43, .object "StairCodes$Sheet"), (c29, .long), (c29, .long), (c29, .long), (c29, .long), (c30, .int), (c41, .boolean), (c41, .boolean), (c41, .boolean), (c30, .int), (c30, .int), (c30, .int), (c41, .boolean), (c30, .int), (c30, .int), (c30, .int), (c29, .long), (c29, .long)] s := hK
  have hAL := AL_of (AL := [x0, q1, q2, q3, q4, q5, q6, q7, q8, q9, q10, q11, q12, q13, q14, q15, q16, q17, q18, q19, q20, q21, q22, q23, q24, q25, q26, q27, q28, x1, q48, q49, q50, q51, q52, q53, q54, q55, q56, q57, q58, q59, q60]) hD rfl
  obtain ⟨ad, had⟩ : ∃ ad : Nat → Nat, ad = (fun k => ([x0, q1, q2, q3, q4, q5, q6, q7, q8, q9, q10, q11, q12, q13, q14, q15, q16, q17, q18, q19, q20, q21, q22, q23, q24, q25, q26, q27, q28, x1, q48, q49, q50, q51, q52, q53, q54, q55, q56, q57, q58, q59, q60] : List Nat).getD (piL.getD k 0) 0) := ⟨_, rfl⟩
  obtain ⟨cy, hcy⟩ : ∃ cy : Nat → ClassId, cy = (fun k => match k with | 0 => c30 | 1 => c29 | 2 => c41 | _ => c43) := ⟨_, rfl⟩
  have hPa := hP.sub (ws' := [(x0, .inr (5, [.ref q1, .ref q4, .ref q7, .ref q10, .ref q11, .ref q13, .ref q20, .int 0, .int 0])), (q1, .inr (4, [.int 4, .ref q2, .ref q3])), (q2, zJ c29 7), (q3, zI c30 56), (q4, .inr (4, [.int 4, .ref q5, .ref q6])), (q5, zJ c29 7), (q6, zI c30 56), (q7, .inr (2, [.ref q8, .ref q9])), (q8, zI c30 56), (q9, zJ c29 7), (q10, zJ c29 7), (q11, .inr (0, [.ref q12, .int 0, .int 0])), (q12, zI c30 60), (q13, .inr (1, [.int 0, .ref q14, .ref q15, .ref q16, .ref q17, .ref q18, .ref q19, .int 0])), (q14, zI c30 56), (q15, zI c30 56), (q16, zI c30 56), (q17, zI c30 56), (q18, zI c41 56), (q19, zI c30 56), (q21, .inr (3, [.int 1, .int 0, .int 0, .ref q22])), (q22, zJ c29 64), (q23, .inr (3, [.int 1, .int 0, .int 0, .ref q24])), (q24, zJ c29 64), (q25, .inr (3, [.int 1, .int 0, .int 0, .ref q26])), (q26, zJ c29 64), (q27, .inr (3, [.int 1, .int 0, .int 0, .ref q28])), (q28, zJ c29 64), (x1, .inr (6, [.int 4, .int 0, .ref q48, .ref q49, .ref q50, .ref q51, .ref q52, .int 0, .ref q53, .ref q54, .int 0, .ref q55, .ref q56, .ref q57, .ref q58, .ref q59, .ref q60, .int 0])), (q48, zI c30 56), (q49, zI c41 448), (q50, zI c41 448), (q51, zI c41 448), (q52, zI c30 60), (q53, zI c30 448), (q54, zI c30 448), (q55, zI c41 448), (q56, zI c30 60), (q57, .inl (c30, 4, .inl (upd (upd (upd (upd (fun _ => (0 : Int32)) 0 (-1)) 1 (-1)) 2 (-1)) 3 (-1)))), (q58, zI c30 4), (q59, zJ c29 256), (q60, zJ c29 64)]) [0, 1, 2, 3, 4, 5, 6, 7, 8, 9, 10, 11, 12, 13, 14, 15, 16, 17, 18, 19, 21, 22, 23, 24, 25, 26, 27, 28, 29, 30, 31, 32, 33, 34, 35, 36, 37, 38, 39, 40, 41, 42] rfl
  have hPb : va_P (dC, dI) vwCl [(q20, .inl (c43, 4, .inr (.inr (.inr (.inr (fun j => some (ad (21 + j))))))))] H := va_P1 (va_q4 (hP 20 _ rfl) (by subst had; rfl) (by subst had; rfl) (by subst had; rfl) (by subst had; rfl))
  have hPw : va_P (dC, dI) vwCl (wl ad cy hI) H := (hPa.app hPb).sub (ws' := wl ad cy hI) [0, 1, 2, 3, 4, 5, 6, 7, 8, 9, 10, 11, 12, 13, 14, 15, 16, 17, 18, 19, 42, 20, 22, 24, 26, 21, 23, 25, 27, 28, 29, 30, 31, 32, 33, 34, 35, 36, 37, 38, 39, 40, 41] (by subst had; subst hcy; rfl)
  have hsc : Sc s ad b L xs := ⟨hX, hbl, fun k hk => by rw [had]; exact hAL.2 _ (piL_lt k hk)⟩
  have hij : Inj ad := fun i j hi hj e => by rw [had] at e; exact piL_inj i hi j hj (hAL.1 _ _ (piL_lt i hi) (piL_lt j hj) e)
  have hK4 : va_K (dC, dI) vwCl (tyl cy) s := hK.sub (tys' := tyl cy) [1, 0, 12, 14] (by subst hcy; rfl)
  have hnA : ∀ a : Nat, a < s.heap.size → ¬ Aw ad a := fun a ha ⟨k, hk, e⟩ => by have h1 := hsc.2.2 k hk; omega
  obtain ⟨t0, hZ0, hT0⟩ := tab_L hgv (hts _ tb_ls0) (hts _ tb_ini) hnA
  obtain ⟨t1, hZ1, hT1⟩ := tab_P hgv (hts _ tb_ls1) (hts _ tb_ini) hnA
  have hEv : Ev (dC, dI) ad cy (fun k => match k with | 0 => t0 | _ => t1) s := ⟨hK4, hZ0, hT0, hZ1, hT1, fun w hw => va_Nw.of (nests_on w hw) (hts w (nests_in w hw))⟩
  have C : Cx p room_1 s m #[Value.ref b] meth c RL cL_law 4 ret wsL_law (dC, dI) ad cy (fun k => match k with | 0 => t0 | _ => t1) 43 4106 := ⟨hx, hb, hr, hml, hown, htl, hlocks, hEv, hij, Nat.le_of_ble_eq_true rfl, Nat.le_of_ble_eq_true rfl⟩
  have e0 : x0 = ad 0 := by subst had; rfl
  have e1 : x1 = ad 29 := by subst had; rfl
  refine va_forget (fun q hq => hS.2.2 q hq) ?_
  refine tL_18 C hsc FU hI 0 hpure H [] ls hPw ⟨hS.1, fun q h1 h2 => hS.2.1 q h1 (Nat.not_le.mpr h1), fun _ h => absurd h List.not_mem_nil⟩ ?_
  rw [← e0, ← e1]
  exact lv_sub hl [3, 2, 1, 0] rfl
