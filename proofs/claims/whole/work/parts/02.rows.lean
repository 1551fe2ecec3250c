/-! THE ABSTRACT HEAP: 43 cells by number; ints (and truths) of a cell by slot, longs of a cell by slot -/
abbrev AH : Type := (Nat → Nat → Int32) × (Nat → Nat → Int64)
def sI (h : AH) (k j : Nat) (v : Int32) : AH := (fun a b => if a = k ∧ b = j then v else h.1 a b, h.2)
def sL (h : AH) (k j : Nat) (v : Int64) : AH := (h.1, fun a b => if a = k ∧ b = j then v else h.2 a b)
def cpI (h : AH) (k1 sp k2 dp n : Nat) : AH := (fun a b => if a = k2 then va_cpy (h.1 k1) (h.1 k2) sp dp n b else h.1 a b, h.2)
def cpL (h : AH) (k1 sp k2 dp n : Nat) : AH := (h.1, fun a b => if a = k2 then va_cpy (h.2 k1) (h.2 k2) sp dp n b else h.2 a b)
def nm {α β : Type} (e : α) (f : α → β) : β := f e
def ck {α : Type} (c : Bool) (e : Option α) : Option α := if c then e else none
def inb (i : Int32) (n : Nat) : Bool := decide (0 ≤ i.toInt ∧ i.toInt < n)
theorem inb_in {i : Int32} {n : Nat} (h : inb i n = true) : vp_in i n := vp_in_iff.mpr (by simpa [inb] using h)
theorem ck_some {α : Type} {c : Bool} {e o : Option α} (h : ck c e = o) (ho : o ≠ none) : c = true ∧ e = o := by
  unfold ck at h
  by_cases hc : c = true
  · rw [if_pos hc] at h; exact ⟨hc, h⟩
  · rw [if_neg hc] at h; exact absurd h.symm ho
theorem bind_some {α β : Type} {x : Option β} {f : β → Option α} {o : α} (h : x.bind f = some o) : ∃ y, x = some y ∧ f y = some o := by
  cases x with
  | none => cases h
  | some y => exact ⟨y, rfl, h⟩
def FU : Nat := 1000
theorem nm_ex {α β : Type} {e : α} {f : α → β} {o : β} (hf : nm e f = o) : ∃ y, e = y ∧ f y = o := ⟨e, rfl, hf⟩
def bR {α β : Type} (x : Option β) (f : β → Option α) : Option α := x.bind f
def bW {α β : Type} (x : Option (β × AH)) (f : β → AH → Option α) : Option α := x.bind (fun z => f z.1 z.2)
theorem bR_some {α β : Type} {x : Option β} {f : β → Option α} {o : α} (h : bR x f = some o) : ∃ y, x = some y ∧ f y = some o := bind_some h
theorem bW_some {α β : Type} {x : Option (β × AH)} {f : β → AH → Option α} {o : α} (h : bW x f = some o) : ∃ y h1, x = some (y, h1) ∧ f y h1 = some o := by
  obtain ⟨⟨y, h1⟩, hx, hf⟩ := bind_some h
  exact ⟨y, h1, hx, hf⟩
def kds : List Nat := [5, 4, 8, 7, 4, 8, 7, 2, 7, 8, 8, 0, 7, 1, 7, 7, 7, 7, 9, 7, 10, 3, 3, 3, 3, 8, 8, 8, 8, 6, 7, 9, 9, 9, 7, 7, 7, 9, 7, 7, 7, 8, 8]
def lns : List Nat := [0, 0, 7, 56, 0, 7, 56, 0, 56, 7, 7, 0, 60, 0, 56, 56, 56, 56, 56, 56, 4, 0, 0, 0, 0, 64, 64, 64, 64, 0, 56, 448, 448, 448, 60, 448, 448, 448, 60, 4, 4, 256, 64]
def kd (k : Nat) : Nat := kds.getD k 99
def ln (k : Nat) : Nat := lns.getD k 0
theorem kd_lt {k n : Nat} (h : kd k = n) (hn : n < 99) : k < 43 := by
  rcases Nat.lt_or_ge k 43 with q | q
  · exact q
  · have : kd k = 99 := by
      unfold kd
      rw [List.getD_eq_getElem?_getD, List.getElem?_eq_none (by show kds.length ≤ k; exact q)]
      rfl
    omega
theorem kd_4 {k : Nat} (h : kd k = 4) : k = 1 ∨ k = 4 := by
  have key : ∀ k, k < 43 → kd k = 4 → k = 1 ∨ k = 4 := by decide
  exact key k (kd_lt h (by decide)) h
theorem kd_3 {k : Nat} (h : kd k = 3) : k = 21 ∨ k = 22 ∨ k = 23 ∨ k = 24 := by
  have key : ∀ k, k < 43 → kd k = 3 → k = 21 ∨ k = 22 ∨ k = 23 ∨ k = 24 := by decide
  exact key k (kd_lt h (by decide)) h
theorem kd4a {k : Nat} (h : kd k = 4) : kd (k + 1) = 8 := by rcases kd_4 h with rfl | rfl <;> rfl
theorem kd4b {k : Nat} (h : kd k = 4) : kd (k + 2) = 7 := by rcases kd_4 h with rfl | rfl <;> rfl
theorem ln4a {k : Nat} (h : kd k = 4) : ln (k + 1) = 7 := by rcases kd_4 h with rfl | rfl <;> rfl
theorem ln4b {k : Nat} (h : kd k = 4) : ln (k + 2) = 56 := by rcases kd_4 h with rfl | rfl <;> rfl
theorem kd3a {k : Nat} (h : kd k = 3) : kd (k + 4) = 8 := by rcases kd_3 h with rfl | rfl | rfl | rfl <;> rfl
theorem ln3a {k : Nat} (h : kd k = 3) : ln (k + 4) = 64 := by rcases kd_3 h with rfl | rfl | rfl | rfl <;> rfl
theorem kd_sh {i : Int32} (h : inb i 4 = true) : kd (21 + i.toNatClampNeg) = 3 := by
  obtain ⟨j, hj, rfl⟩ := vp_in_of (inb_in h) (by decide)
  rw [nI_clamp (by omega)]
  rcases (show j = 0 ∨ j = 1 ∨ j = 2 ∨ j = 3 by omega) with rfl | rfl | rfl | rfl <;> rfl

def ce (ad : Nat → Nat) (cy : Nat → ClassId) (h : AH) (k : Nat) : va_E :=
  if kd k = 0 then .inr (0, [.ref (ad (k + 1)), .int (h.1 k 1), .int (h.1 k 2)]) else
  if kd k = 1 then .inr (1, [.int (h.1 k 0), .ref (ad (k + 1)), .ref (ad (k + 2)), .ref (ad (k + 3)), .ref (ad (k + 4)), .ref (ad (k + 5)), .ref (ad (k + 6)), .int (h.1 k 7)]) else
  if kd k = 2 then .inr (2, [.ref (ad (k + 1)), .ref (ad (k + 2))]) else
  if kd k = 3 then .inr (3, [.int (h.1 k 0), .int (h.1 k 1), .int (h.1 k 2), .ref (ad (k + 4))]) else
  if kd k = 4 then .inr (4, [.int (h.1 k 0), .ref (ad (k + 1)), .ref (ad (k + 2))]) else
  if kd k = 5 then .inr (5, [.ref (ad 1), .ref (ad 4), .ref (ad 7), .ref (ad 10), .ref (ad 11), .ref (ad 13), .ref (ad 20), .int (h.1 k 7), .int (h.1 k 8)]) else
  if kd k = 6 then .inr (6, [.int (h.1 k 0), .int (h.1 k 1), .ref (ad 30), .ref (ad 31), .ref (ad 32), .ref (ad 33), .ref (ad 34), .int (h.1 k 7), .ref (ad 35), .ref (ad 36), .int (h.1 k 10), .ref (ad 37), .ref (ad 38), .ref (ad 39), .ref (ad 40), .ref (ad 41), .ref (ad 42), .int (h.1 k 17)]) else
  if kd k = 7 then .inl (cy 0, ln k, .inl (h.1 k)) else
  if kd k = 8 then .inl (cy 1, ln k, .inr (.inl (h.2 k))) else
  if kd k = 9 then .inl (cy 2, ln k, .inl (h.1 k)) else
  .inl (cy 3, 4, .inr (.inr (.inr (.inr (fun j => some (ad (21 + j)))))))
def wl (ad : Nat → Nat) (cy : Nat → ClassId) (h : AH) : va_W := (List.range 43).map (fun k => (ad k, ce ad cy h k))
def Aw (ad : Nat → Nat) : Nat → Prop := fun q => ∃ k, k < 43 ∧ q = ad k
def Inj (ad : Nat → Nat) : Prop := ∀ i j, i < 43 → j < 43 → ad i = ad j → i = j
theorem wl_get {ad : Nat → Nat} {cy : Nat → ClassId} {h : AH} {k : Nat} (hk : k < 43) : (wl ad cy h)[k]? = some (ad k, ce ad cy h k) := by
  unfold wl
  rw [List.getElem?_map, List.getElem?_range hk]
  rfl
theorem wl_len {ad : Nat → Nat} {cy : Nat → ClassId} {h : AH} : (wl ad cy h).length = 43 := by simp [wl]
theorem wl_lt {ad : Nat → Nat} {cy : Nat → ClassId} {h : AH} {k : Nat} {q : Nat × va_E} (hq : (wl ad cy h)[k]? = some q) : k < 43 ∧ q = (ad k, ce ad cy h k) := by
  have hk : k < 43 := by rw [← wl_len (ad := ad) (cy := cy) (h := h)]; exact (List.getElem?_eq_some_iff.mp hq).1
  exact ⟨hk, Option.some.inj (hq.symm.trans (wl_get hk))⟩
theorem wl_D {ad : Nat → Nat} {cy : Nat → ClassId} {h : AH} (hi : Inj ad) : va_D (Aw ad) (wl ad cy h) := by
  refine ⟨fun i j p q hp hq e => ?_, fun k q hq => ?_⟩
  · obtain ⟨h1, rfl⟩ := wl_lt hp
    obtain ⟨h2, rfl⟩ := wl_lt hq
    exact hi i j h1 h2 e
  · obtain ⟨h1, rfl⟩ := wl_lt hq
    exact ⟨k, h1, rfl⟩
theorem ce_cong {ad : Nat → Nat} {cy : Nat → ClassId} {h h' : AH} {k : Nat} (h1 : h'.1 k = h.1 k) (h2 : h'.2 k = h.2 k) : ce ad cy h' k = ce ad cy h k := by
  unfold ce
  rw [h1, h2]
theorem wl_set {ad : Nat → Nat} {cy : Nat → ClassId} {h h' : AH} {k : Nat} (hk : k < 43) (h1 : ∀ j, j ≠ k → h'.1 j = h.1 j) (h2 : ∀ j, j ≠ k → h'.2 j = h.2 j) {v : va_E} (hv : ce ad cy h' k = v) : (wl ad cy h).set k (ad k, v) = wl ad cy h' := by
  apply List.ext_getElem?
  intro i
  rw [List.getElem?_set]
  by_cases hi : k = i
  · subst hi
    rw [if_pos rfl, if_pos (by rw [wl_len]; exact hk), wl_get hk, hv]
  · rw [if_neg hi]
    rcases Nat.lt_or_ge i 43 with q | q
    · rw [wl_get q, wl_get q, ce_cong (h1 i (Ne.symm hi)) (h2 i (Ne.symm hi))]
    · rw [List.getElem?_eq_none (by rw [wl_len]; exact q), List.getElem?_eq_none (by rw [wl_len]; exact q)]
theorem sI_r {h : AH} {k j i : Nat} {v : Int32} (hi : i ≠ k) : (sI h k j v).1 i = h.1 i := by
  funext b
  simp [sI, hi]
theorem sI_u {h : AH} {k j : Nat} {v : Int32} : (sI h k j v).1 k = upd (h.1 k) j v := by
  funext b
  simp [sI, upd]
theorem sL_r {h : AH} {k j i : Nat} {v : Int64} (hi : i ≠ k) : (sL h k j v).2 i = h.2 i := by
  funext b
  simp [sL, hi]
theorem sL_u {h : AH} {k j : Nat} {v : Int64} : (sL h k j v).2 k = vp_updL (h.2 k) j v := by
  funext b
  simp [sL, vp_updL]
theorem cpI_r {h : AH} {k1 sp k2 dp n i : Nat} (hi : i ≠ k2) : (cpI h k1 sp k2 dp n).1 i = h.1 i := by
  funext b
  simp [cpI, hi]
theorem cpI_u {h : AH} {k1 sp k2 dp n : Nat} : (cpI h k1 sp k2 dp n).1 k2 = va_cpy (h.1 k1) (h.1 k2) sp dp n := by
  funext b
  simp [cpI]
theorem cpL_r {h : AH} {k1 sp k2 dp n i : Nat} (hi : i ≠ k2) : (cpL h k1 sp k2 dp n).2 i = h.2 i := by
  funext b
  simp [cpL, hi]
theorem cpL_u {h : AH} {k1 sp k2 dp n : Nat} : (cpL h k1 sp k2 dp n).2 k2 = va_cpy (h.2 k1) (h.2 k2) sp dp n := by
  funext b
  simp [cpL]
theorem ce_0 {ad : Nat → Nat} {cy : Nat → ClassId} {h : AH} {k : Nat} (hk : kd k = 0) : ce ad cy h k = .inr (0, [.ref (ad (k + 1)), .int (h.1 k 1), .int (h.1 k 2)]) := by simp [ce, hk]
theorem ce_1 {ad : Nat → Nat} {cy : Nat → ClassId} {h : AH} {k : Nat} (hk : kd k = 1) : ce ad cy h k = .inr (1, [.int (h.1 k 0), .ref (ad (k + 1)), .ref (ad (k + 2)), .ref (ad (k + 3)), .ref (ad (k + 4)), .ref (ad (k + 5)), .ref (ad (k + 6)), .int (h.1 k 7)]) := by simp [ce, hk]
theorem ce_2 {ad : Nat → Nat} {cy : Nat → ClassId} {h : AH} {k : Nat} (hk : kd k = 2) : ce ad cy h k = .inr (2, [.ref (ad (k + 1)), .ref (ad (k + 2))]) := by simp [ce, hk]
theorem ce_3 {ad : Nat → Nat} {cy : Nat → ClassId} {h : AH} {k : Nat} (hk : kd k = 3) : ce ad cy h k = .inr (3, [.int (h.1 k 0), .int (h.1 k 1), .int (h.1 k 2), .ref (ad (k + 4))]) := by simp [ce, hk]
theorem ce_4 {ad : Nat → Nat} {cy : Nat → ClassId} {h : AH} {k : Nat} (hk : kd k = 4) : ce ad cy h k = .inr (4, [.int (h.1 k 0), .ref (ad (k + 1)), .ref (ad (k + 2))]) := by simp [ce, hk]
theorem ce_5 {ad : Nat → Nat} {cy : Nat → ClassId} {h : AH} {k : Nat} (hk : kd k = 5) : ce ad cy h k = .inr (5, [.ref (ad 1), .ref (ad 4), .ref (ad 7), .ref (ad 10), .ref (ad 11), .ref (ad 13), .ref (ad 20), .int (h.1 k 7), .int (h.1 k 8)]) := by simp [ce, hk]
theorem ce_6 {ad : Nat → Nat} {cy : Nat → ClassId} {h : AH} {k : Nat} (hk : kd k = 6) : ce ad cy h k = .inr (6, [.int (h.1 k 0), .int (h.1 k 1), .ref (ad 30), .ref (ad 31), .ref (ad 32), .ref (ad 33), .ref (ad 34), .int (h.1 k 7), .ref (ad 35), .ref (ad 36), .int (h.1 k 10), .ref (ad 37), .ref (ad 38), .ref (ad 39), .ref (ad 40), .ref (ad 41), .ref (ad 42), .int (h.1 k 17)]) := by simp [ce, hk]
theorem ce_7 {ad : Nat → Nat} {cy : Nat → ClassId} {h : AH} {k : Nat} (hk : kd k = 7) : ce ad cy h k = .inl (cy 0, ln k, .inl (h.1 k)) := by simp [ce, hk]
theorem ce_8 {ad : Nat → Nat} {cy : Nat → ClassId} {h : AH} {k : Nat} (hk : kd k = 8) : ce ad cy h k = .inl (cy 1, ln k, .inr (.inl (h.2 k))) := by simp [ce, hk]
theorem ce_9 {ad : Nat → Nat} {cy : Nat → ClassId} {h : AH} {k : Nat} (hk : kd k = 9) : ce ad cy h k = .inl (cy 2, ln k, .inl (h.1 k)) := by simp [ce, hk]
theorem ce_10 {ad : Nat → Nat} {cy : Nat → ClassId} {h : AH} {k : Nat} (hk : kd k = 10) : ce ad cy h k = .inl (cy 3, 4, .inr (.inr (.inr (.inr (fun j => some (ad (21 + j))))))) := by simp [ce, hk]
theorem ce_ob {ad : Nat → Nat} {cy : Nat → ClassId} {h : AH} {k ci : Nat} (hk : kd k = ci) (hc : ci < 7) : ∃ fs, ce ad cy h k = .inr (ci, fs) := by
  rcases (show ci = 0 ∨ ci = 1 ∨ ci = 2 ∨ ci = 3 ∨ ci = 4 ∨ ci = 5 ∨ ci = 6 by omega) with rfl | rfl | rfl | rfl | rfl | rfl | rfl
  · exact ⟨_, ce_0 hk⟩
  · exact ⟨_, ce_1 hk⟩
  · exact ⟨_, ce_2 hk⟩
  · exact ⟨_, ce_3 hk⟩
  · exact ⟨_, ce_4 hk⟩
  · exact ⟨_, ce_5 hk⟩
  · exact ⟨_, ce_6 hk⟩
theorem cs_0_1 {ad : Nat → Nat} {cy : Nat → ClassId} {h : AH} {k : Nat} {v : Int32} (hk : kd k = 0) : ce ad cy (sI h k 1 v) k = .inr (0, [.ref (ad (k + 1)), .int v, .int (h.1 k 2)]) := by rw [ce_0 hk]; simp [sI]
theorem cs_0_2 {ad : Nat → Nat} {cy : Nat → ClassId} {h : AH} {k : Nat} {v : Int32} (hk : kd k = 0) : ce ad cy (sI h k 2 v) k = .inr (0, [.ref (ad (k + 1)), .int (h.1 k 1), .int v]) := by rw [ce_0 hk]; simp [sI]
theorem cs_1_0 {ad : Nat → Nat} {cy : Nat → ClassId} {h : AH} {k : Nat} {v : Int32} (hk : kd k = 1) : ce ad cy (sI h k 0 v) k = .inr (1, [.int v, .ref (ad (k + 1)), .ref (ad (k + 2)), .ref (ad (k + 3)), .ref (ad (k + 4)), .ref (ad (k + 5)), .ref (ad (k + 6)), .int (h.1 k 7)]) := by rw [ce_1 hk]; simp [sI]
theorem cs_1_7 {ad : Nat → Nat} {cy : Nat → ClassId} {h : AH} {k : Nat} {v : Int32} (hk : kd k = 1) : ce ad cy (sI h k 7 v) k = .inr (1, [.int (h.1 k 0), .ref (ad (k + 1)), .ref (ad (k + 2)), .ref (ad (k + 3)), .ref (ad (k + 4)), .ref (ad (k + 5)), .ref (ad (k + 6)), .int v]) := by rw [ce_1 hk]; simp [sI]
theorem cs_3_0 {ad : Nat → Nat} {cy : Nat → ClassId} {h : AH} {k : Nat} {v : Int32} (hk : kd k = 3) : ce ad cy (sI h k 0 v) k = .inr (3, [.int v, .int (h.1 k 1), .int (h.1 k 2), .ref (ad (k + 4))]) := by rw [ce_3 hk]; simp [sI]
theorem cs_3_1 {ad : Nat → Nat} {cy : Nat → ClassId} {h : AH} {k : Nat} {v : Int32} (hk : kd k = 3) : ce ad cy (sI h k 1 v) k = .inr (3, [.int (h.1 k 0), .int v, .int (h.1 k 2), .ref (ad (k + 4))]) := by rw [ce_3 hk]; simp [sI]
theorem cs_3_2 {ad : Nat → Nat} {cy : Nat → ClassId} {h : AH} {k : Nat} {v : Int32} (hk : kd k = 3) : ce ad cy (sI h k 2 v) k = .inr (3, [.int (h.1 k 0), .int (h.1 k 1), .int v, .ref (ad (k + 4))]) := by rw [ce_3 hk]; simp [sI]
theorem cs_4_0 {ad : Nat → Nat} {cy : Nat → ClassId} {h : AH} {k : Nat} {v : Int32} (hk : kd k = 4) : ce ad cy (sI h k 0 v) k = .inr (4, [.int v, .ref (ad (k + 1)), .ref (ad (k + 2))]) := by rw [ce_4 hk]; simp [sI]
theorem cs_5_7 {ad : Nat → Nat} {cy : Nat → ClassId} {h : AH} {k : Nat} {v : Int32} (hk : kd k = 5) : ce ad cy (sI h k 7 v) k = .inr (5, [.ref (ad 1), .ref (ad 4), .ref (ad 7), .ref (ad 10), .ref (ad 11), .ref (ad 13), .ref (ad 20), .int v, .int (h.1 k 8)]) := by rw [ce_5 hk]; simp [sI]
theorem cs_5_8 {ad : Nat → Nat} {cy : Nat → ClassId} {h : AH} {k : Nat} {v : Int32} (hk : kd k = 5) : ce ad cy (sI h k 8 v) k = .inr (5, [.ref (ad 1), .ref (ad 4), .ref (ad 7), .ref (ad 10), .ref (ad 11), .ref (ad 13), .ref (ad 20), .int (h.1 k 7), .int v]) := by rw [ce_5 hk]; simp [sI]
theorem cs_6_0 {ad : Nat → Nat} {cy : Nat → ClassId} {h : AH} {k : Nat} {v : Int32} (hk : kd k = 6) : ce ad cy (sI h k 0 v) k = .inr (6, [.int v, .int (h.1 k 1), .ref (ad 30), .ref (ad 31), .ref (ad 32), .ref (ad 33), .ref (ad 34), .int (h.1 k 7), .ref (ad 35), .ref (ad 36), .int (h.1 k 10), .ref (ad 37), .ref (ad 38), .ref (ad 39), .ref (ad 40), .ref (ad 41), .ref (ad 42), .int (h.1 k 17)]) := by rw [ce_6 hk]; simp [sI]
theorem cs_6_1 {ad : Nat → Nat} {cy : Nat → ClassId} {h : AH} {k : Nat} {v : Int32} (hk : kd k = 6) : ce ad cy (sI h k 1 v) k = .inr (6, [.int (h.1 k 0), .int v, .ref (ad 30), .ref (ad 31), .ref (ad 32), .ref (ad 33), .ref (ad 34), .int (h.1 k 7), .ref (ad 35), .ref (ad 36), .int (h.1 k 10), .ref (ad 37), .ref (ad 38), .ref (ad 39), .ref (ad 40), .ref (ad 41), .ref (ad 42), .int (h.1 k 17)]) := by rw [ce_6 hk]; simp [sI]
theorem cs_6_7 {ad : Nat → Nat} {cy : Nat → ClassId} {h : AH} {k : Nat} {v : Int32} (hk : kd k = 6) : ce ad cy (sI h k 7 v) k = .inr (6, [.int (h.1 k 0), .int (h.1 k 1), .ref (ad 30), .ref (ad 31), .ref (ad 32), .ref (ad 33), .ref (ad 34), .int v, .ref (ad 35), .ref (ad 36), .int (h.1 k 10), .ref (ad 37), .ref (ad 38), .ref (ad 39), .ref (ad 40), .ref (ad 41), .ref (ad 42), .int (h.1 k 17)]) := by rw [ce_6 hk]; simp [sI]
theorem cs_6_10 {ad : Nat → Nat} {cy : Nat → ClassId} {h : AH} {k : Nat} {v : Int32} (hk : kd k = 6) : ce ad cy (sI h k 10 v) k = .inr (6, [.int (h.1 k 0), .int (h.1 k 1), .ref (ad 30), .ref (ad 31), .ref (ad 32), .ref (ad 33), .ref (ad 34), .int (h.1 k 7), .ref (ad 35), .ref (ad 36), .int v, .ref (ad 37), .ref (ad 38), .ref (ad 39), .ref (ad 40), .ref (ad 41), .ref (ad 42), .int (h.1 k 17)]) := by rw [ce_6 hk]; simp [sI]
theorem cs_6_17 {ad : Nat → Nat} {cy : Nat → ClassId} {h : AH} {k : Nat} {v : Int32} (hk : kd k = 6) : ce ad cy (sI h k 17 v) k = .inr (6, [.int (h.1 k 0), .int (h.1 k 1), .ref (ad 30), .ref (ad 31), .ref (ad 32), .ref (ad 33), .ref (ad 34), .int (h.1 k 7), .ref (ad 35), .ref (ad 36), .int (h.1 k 10), .ref (ad 37), .ref (ad 38), .ref (ad 39), .ref (ad 40), .ref (ad 41), .ref (ad 42), .int v]) := by rw [ce_6 hk]; simp [sI]
def tabL (j : Nat) : Int32 := ([7, 9, 10, 11, 12, 13, 14, 15, 3, 5, 6, 0, 1, 2, 4, 8] : List Int32).getD j 0
def tabP (j : Nat) : Int32 := ([11, 12, 13, 8, 14, 9, 10, 0, 15, 1, 2, 3, 4, 5, 6, 7] : List Int32).getD j 0
def nests : List Cond := [.fieldLinkNest "StairCodes" 58 "StairCodes$Stairs" "blocks" "I" "StairCodes",
  .fieldLinkNest "StairCodes" 82 "StairCodes$Sent" "data" "[I" "StairCodes",
  .fieldLinkNest "StairCodes" 112 "StairCodes$Sheet" "lost" "Z" "StairCodes",
  .fieldLinkNest "StairCodes" 120 "StairCodes$Sheet" "size" "I" "StairCodes",
  .fieldLinkNest "StairCodes" 123 "StairCodes$Sheet" "items" "[J" "StairCodes",
  .fieldLinkNest "StairCodes" 137 "StairCodes$Sent" "bits" "[J" "StairCodes",
  .fieldLinkNest "StairCodes" 140 "StairCodes$Stairs" "wrong" "[J" "StairCodes",
  .fieldLinkNest "StairCodes" 203 "StairCodes$Journal" "size" "I" "StairCodes",
  .fieldLinkNest "StairCodes" 236 "StairCodes$Sheet" "form" "I" "StairCodes",
  .fieldLinkNest "StairCodes" 260 "StairCodes$Pieces" "count" "I" "StairCodes",
  .fieldLinkNest "StairCodes$Pieces" 67 "StairCodes$Stairs" "blocks" "I" "StairCodes",
  .fieldLinkNest "StairCodes$Sent" 36 "StairCodes" "LABELS" "[I" "StairCodes",
  .fieldLinkNest "StairCodes$Stairs" 38 "StairCodes" "LABELS" "[I" "StairCodes",
  .fieldLinkNest "StairCodes$Stairs" 79 "StairCodes" "PLACE_OF_LABEL" "[I" "StairCodes",
  .methodLinkNest "StairCodes$Pieces" 74 ⟨"StairCodes", "bitOf", "(JI)I"⟩ "StairCodes",
  .methodLinkNest "StairCodes$Sent" 32 ⟨"StairCodes", "bitOf", "(JI)I"⟩ "StairCodes",
  .methodLinkNest "StairCodes$Stairs" 48 ⟨"StairCodes", "rowOf", "(JI)I"⟩ "StairCodes",
  .methodLinkNest "StairCodes$Stairs" 86 ⟨"StairCodes", "bitAt", "(II)I"⟩ "StairCodes"]
theorem nests_warm {s U : State} (hW : s.WarmedH U.vm) (hN : ∀ w ∈ nests, va_Nw w s) : ∀ w ∈ nests, va_Nw w U := by
  unfold nests at hN ⊢
  simp only [List.forall_mem_cons] at hN ⊢
  obtain ⟨h0, h1, h2, h3, h4, h5, h6, h7, h8, h9, h10, h11, h12, h13, h14, h15, h16, h17, _⟩ := hN
  exact ⟨va_Nw.warmF hW h0, va_Nw.warmF hW h1, va_Nw.warmF hW h2, va_Nw.warmF hW h3, va_Nw.warmF hW h4, va_Nw.warmF hW h5, va_Nw.warmF hW h6, va_Nw.warmF hW h7, va_Nw.warmF hW h8, va_Nw.warmF hW h9, va_Nw.warmF hW h10, va_Nw.warmF hW h11, va_Nw.warmF hW h12, va_Nw.warmF hW h13, va_Nw.warmM hW h14, va_Nw.warmM hW h15, va_Nw.warmM hW h16, va_Nw.warmM hW h17, fun _ h => absurd h List.not_mem_nil⟩
theorem nests_same {s U : State} (hv : s.vm = U.vm) (hN : ∀ w ∈ nests, va_Nw w s) : ∀ w ∈ nests, va_Nw w U := by
  unfold nests at hN ⊢
  simp only [List.forall_mem_cons] at hN ⊢
  obtain ⟨h0, h1, h2, h3, h4, h5, h6, h7, h8, h9, h10, h11, h12, h13, h14, h15, h16, h17, _⟩ := hN
  exact ⟨va_Nw.same rfl hv h0, va_Nw.same rfl hv h1, va_Nw.same rfl hv h2, va_Nw.same rfl hv h3, va_Nw.same rfl hv h4, va_Nw.same rfl hv h5, va_Nw.same rfl hv h6, va_Nw.same rfl hv h7, va_Nw.same rfl hv h8, va_Nw.same rfl hv h9, va_Nw.same rfl hv h10, va_Nw.same rfl hv h11, va_Nw.same rfl hv h12, va_Nw.same rfl hv h13, va_Nw.same rfl hv h14, va_Nw.same rfl hv h15, va_Nw.same rfl hv h16, va_Nw.same rfl hv h17, fun _ h => absurd h List.not_mem_nil⟩
abbrev tyl (cy : Nat → ClassId) : List (ClassId × FieldType) := [(cy 0, .int), (cy 1, .long), (cy 2, .boolean), (cy 3, .object "StairCodes$Sheet")]
/-- what a state has besides the world: the classes, the two tables, the words of the nest -/
def Ev (D : va_G) (ad : Nat → Nat) (cy : Nat → ClassId) (tb : Nat → Nat) (U : State) : Prop :=
  va_K D vwCl (tyl cy) U ∧ va_Z "StairCodes" "LABELS" "[I" (.ref (tb 0)) (Aw ad) U U.heap ∧ va_T .int (tb 0) 16 (fun j => .int (tabL j)) (Aw ad) U U.heap ∧
  va_Z "StairCodes" "PLACE_OF_LABEL" "[I" (.ref (tb 1)) (Aw ad) U U.heap ∧ va_T .int (tb 1) 16 (fun j => .int (tabP j)) (Aw ad) U U.heap ∧ ∀ w ∈ nests, va_Nw w U
def Pr (D : va_G) (ad : Nat → Nat) (cy : Nat → ClassId) (tb : Nat → Nat) (h : AH) (U : State) : Prop := va_P D vwCl (wl ad cy h) U.heap ∧ Ev D ad cy tb U
theorem Ev.go {D : va_G} {ad : Nat → Nat} {cy : Nat → ClassId} {tb : Nat → Nat} {s U : State} (h : Ev D ad cy tb s) (hq : ∀ a : Nat, a < s.heap.size → ¬ Aw ad a → U.heap[a]? = s.heap[a]?) (hW : s.WarmedH U.vm) : Ev D ad cy tb U := by
  obtain ⟨h1, h2, h3, h4, h5, h6⟩ := h
  exact ⟨va_K.moved hW.alike h1, va_Z.moved hW.alike (h2.kept hq), va_T.moved hW.alike (h3.kept hq), va_Z.moved hW.alike (h4.kept hq), va_T.moved hW.alike (h5.kept hq), nests_warm hW h6⟩
theorem Ev.same {D : va_G} {ad : Nat → Nat} {cy : Nat → ClassId} {tb : Nat → Nat} {s U : State} (h : Ev D ad cy tb s) (hv : s.vm = U.vm) (hh : s.heap = U.heap) : Ev D ad cy tb U := by
  obtain ⟨h1, h2, h3, h4, h5, h6⟩ := h
  have ha : s.vm.Alike U.vm := by rw [hv]; exact Vm.Alike.refl U.vm
  rw [hh] at h2 h3 h4 h5
  exact ⟨va_K.moved ha h1, va_Z.moved ha h2, va_T.moved ha h3, va_Z.moved ha h4, va_T.moved ha h5, nests_same hv h6⟩
theorem Pr.blind {D : va_G} {ad : Nat → Nat} {cy : Nat → ClassId} {tb : Nat → Nat} {h : AH} {av : List Value} : FrameBlind (va_Pc av (Pr D ad cy tb h)) := fun a U g mk q => ⟨q.1, q.2.1, Ev.same (s := U) (U := U.calling g mk a) q.2.2 rfl rfl⟩
/-- a method's contract: from the heap h, with these arguments, it answers and leaves the heap h0 -/
def Ki (l : Launch) (y : MethodName) (ws : List Cond) (rm : Room) (D : va_G) (ad : Nat → Nat) (cy : Nat → ClassId) (tb : Nat → Nat) (av : List Value) (h : AH) (r0 : Int32) (h0 : AH) : Prop :=
  Met l y ws rm (va_Pc av (Pr D ad cy tb h)) (va_Qi (fun r (u : AH) => r = r0 ∧ u = h0) (fun u t => va_P D vwCl (wl ad cy u) t.heap) (Aw ad)) 0 0 (Aw ad)
def Kl (l : Launch) (y : MethodName) (ws : List Cond) (rm : Room) (D : va_G) (ad : Nat → Nat) (cy : Nat → ClassId) (tb : Nat → Nat) (av : List Value) (h : AH) (r0 : Int64) (h0 : AH) : Prop :=
  Met l y ws rm (va_Pc av (Pr D ad cy tb h)) (va_Ql (fun r (u : AH) => r = r0 ∧ u = h0) (fun u t => va_P D vwCl (wl ad cy u) t.heap) (Aw ad)) 0 0 (Aw ad)
def Kv (l : Launch) (y : MethodName) (ws : List Cond) (rm : Room) (D : va_G) (ad : Nat → Nat) (cy : Nat → ClassId) (tb : Nat → Nat) (av : List Value) (h : AH) (h0 : AH) : Prop :=
  Met l y ws rm (va_Pc av (Pr D ad cy tb h)) (va_Qv (fun (u : AH) => u = h0) (fun u t => va_P D vwCl (wl ad cy u) t.heap) (Aw ad)) 0 0 (Aw ad)
def Qi (D : va_G) (ad : Nat → Nat) (cy : Nat → ClassId) (below : List Frame) (args : Array Value) (s : State) (r0 : Int32) (h0 : AH) : State → Prop := MQ below (va_Qi (fun r (u : AH) => r = r0 ∧ u = h0) (fun u t => va_P D vwCl (wl ad cy u) t.heap) (Aw ad)) args s 0 0 (Aw ad)
def Ql (D : va_G) (ad : Nat → Nat) (cy : Nat → ClassId) (below : List Frame) (args : Array Value) (s : State) (r0 : Int64) (h0 : AH) : State → Prop := MQ below (va_Ql (fun r (u : AH) => r = r0 ∧ u = h0) (fun u t => va_P D vwCl (wl ad cy u) t.heap) (Aw ad)) args s 0 0 (Aw ad)
def Qv (D : va_G) (ad : Nat → Nat) (cy : Nat → ClassId) (below : List Frame) (args : Array Value) (s : State) (h0 : AH) : State → Prop := MQ below (va_Qv (fun (u : AH) => u = h0) (fun u t => va_P D vwCl (wl ad cy u) t.heap) (Aw ad)) args s 0 0 (Aw ad)
/-- what is fixed in a method's body -/
def Cx (p : Program) (R : Room) (s : State) (m : MethodId) (args : Array Value) (meth : Method) (c : Code) (own : String) (cc : ByteArray) (nL : Nat) (ret : Option FieldType) (ts : List Cond) (D : va_G) (ad : Nat → Nat) (cy : Nat → ClassId) (tb : Nat → Nat) (cells slots : Nat) : Prop :=
  p.tables.exec = Jvm.exec ∧ c.code = cc ∧ meth.sig.returnType = ret ∧ c.maxLocals = nL ∧ s.vm.findClass own = some m.cls ∧ (∀ w ∈ ts, w.before args s = true) ∧ meth.locks = false ∧ Ev D ad cy tb s ∧ Inj ad ∧ cells ≤ R.cells ∧ slots ≤ R.slots
/-- the machine, at pc with these locals and this stack over the heap h, comes to a state with Q -/
def AW (p : Program) (l : Launch) (e : Env) (R : Room) (s : State) (m : MethodId) (args : Array Value) (below : List Frame) (meth : Method) (c : Code) (nL : Nat) (D : va_G) (ad : Nat → Nat) (cy : Nat → ClassId) (cells slots : Nat) (Q : State → Prop) (pc : Nat) (lv : List (Nat × Value)) (st : List Value) (h : AH) : Prop :=
  ∀ (H : Heap) (locs : List Loc) (ls : Array Slot), va_P D vwCl (wl ad cy h) H → va_S (Aw ad) s.heap H locs → lv_has ls nL lv → W p l e R s m args below meth c H locs cells slots Q (F0 m pc ls st)
section AWR
variable {p : Program} {l : Launch} {e : Env} {R : Room} {s : State} {m : MethodId} {args : Array Value} {below : List Frame} {meth : Method} {c : Code}
variable {own : String} {cc : ByteArray} {nL : Nat} {ret : Option FieldType} {ts : List Cond} {D : va_G} {ad : Nat → Nat} {cy : Nat → ClassId} {tb : Nat → Nat} {cells slots : Nat} {Q : State → Prop}
variable {pc : Nat} {lv : List (Nat × Value)} {st : List Value} {h : AH}
theorem aw_iconst (C : Cx p R s m args meth c own cc nL ret ts D ad cy tb cells slots) {n : Int} {v : Int32} (hd : decode cc pc = .ok (.iconst n, 1)) (hv : Int32.ofInt n = v) (k : AW p l e R s m args below meth c nL D ad cy cells slots Q (pc + 1) lv (.int v :: st) h) : AW p l e R s m args below meth c nL D ad cy cells slots Q pc lv st h := fun H locs ls hP hS hl => lv_iconst C.1 C.2.1 hd hv (k H locs ls hP hS hl)
theorem aw_bipush (C : Cx p R s m args meth c own cc nL ret ts D ad cy tb cells slots) {n : Int} {v : Int32} (hd : decode cc pc = .ok (.bipush n, 2)) (hv : (Int8.ofInt n).toInt32 = v) (k : AW p l e R s m args below meth c nL D ad cy cells slots Q (pc + 2) lv (.int v :: st) h) : AW p l e R s m args below meth c nL D ad cy cells slots Q pc lv st h := fun H locs ls hP hS hl => lv_bipush C.1 C.2.1 hd hv (k H locs ls hP hS hl)
theorem aw_sipush (C : Cx p R s m args meth c own cc nL ret ts D ad cy tb cells slots) {n : Int} {v : Int32} (hd : decode cc pc = .ok (.sipush n, 3)) (hv : (Int16.ofInt n).toInt32 = v) (k : AW p l e R s m args below meth c nL D ad cy cells slots Q (pc + 3) lv (.int v :: st) h) : AW p l e R s m args below meth c nL D ad cy cells slots Q pc lv st h := fun H locs ls hP hS hl => lv_sipush C.1 C.2.1 hd hv (k H locs ls hP hS hl)
theorem aw_lconst (C : Cx p R s m args meth c own cc nL ret ts D ad cy tb cells slots) {n : Fin 2} {v : Int64} (hd : decode cc pc = .ok (.lconst n, 1)) (hv : Int64.ofNat (n : Nat) = v) (k : AW p l e R s m args below meth c nL D ad cy cells slots Q (pc + 1) lv (.long v :: st) h) : AW p l e R s m args below meth c nL D ad cy cells slots Q pc lv st h := fun H locs ls hP hS hl => lv_lconst C.1 C.2.1 hd hv (k H locs ls hP hS hl)
theorem aw_iload_n (C : Cx p R s m args meth c own cc nL ret ts D ad cy tb cells slots) {k0 : Fin 4} {i : Nat} {x : Int32} (hd : decode cc pc = .ok (.iload_n k0, 1)) (hi : (k0 : Nat) = i) (j : Nat) (hj : lv[j]? = some (i, .int x)) (k : AW p l e R s m args below meth c nL D ad cy cells slots Q (pc + 1) lv (.int x :: st) h) : AW p l e R s m args below meth c nL D ad cy cells slots Q pc lv st h := fun H locs ls hP hS hl => lv_iload_n C.1 C.2.1 hd hi (lv_at hl j hj) (k H locs ls hP hS hl)
theorem aw_iload (C : Cx p R s m args meth c own cc nL ret ts D ad cy tb cells slots) {i : Nat} {x : Int32} (hd : decode cc pc = .ok (.iload i, 2)) (j : Nat) (hj : lv[j]? = some (i, .int x)) (k : AW p l e R s m args below meth c nL D ad cy cells slots Q (pc + 2) lv (.int x :: st) h) : AW p l e R s m args below meth c nL D ad cy cells slots Q pc lv st h := fun H locs ls hP hS hl => lv_iload C.1 C.2.1 hd (lv_at hl j hj) (k H locs ls hP hS hl)
theorem aw_lload_n (C : Cx p R s m args meth c own cc nL ret ts D ad cy tb cells slots) {k0 : Fin 4} {i : Nat} {x : Int64} (hd : decode cc pc = .ok (.lload_n k0, 1)) (hi : (k0 : Nat) = i) (j : Nat) (hj : lv[j]? = some (i, .long x)) (k : AW p l e R s m args below meth c nL D ad cy cells slots Q (pc + 1) lv (.long x :: st) h) : AW p l e R s m args below meth c nL D ad cy cells slots Q pc lv st h := fun H locs ls hP hS hl => lv_lload_n C.1 C.2.1 hd hi (lv_at hl j hj) (k H locs ls hP hS hl)
theorem aw_lload (C : Cx p R s m args meth c own cc nL ret ts D ad cy tb cells slots) {i : Nat} {x : Int64} (hd : decode cc pc = .ok (.lload i, 2)) (j : Nat) (hj : lv[j]? = some (i, .long x)) (k : AW p l e R s m args below meth c nL D ad cy cells slots Q (pc + 2) lv (.long x :: st) h) : AW p l e R s m args below meth c nL D ad cy cells slots Q pc lv st h := fun H locs ls hP hS hl => lv_lload C.1 C.2.1 hd (lv_at hl j hj) (k H locs ls hP hS hl)
theorem aw_aload_n (C : Cx p R s m args meth c own cc nL ret ts D ad cy tb cells slots) {k0 : Fin 4} {i : Nat} {x : Nat} (hd : decode cc pc = .ok (.aload_n k0, 1)) (hi : (k0 : Nat) = i) (j : Nat) (hj : lv[j]? = some (i, .ref x)) (k : AW p l e R s m args below meth c nL D ad cy cells slots Q (pc + 1) lv (.ref x :: st) h) : AW p l e R s m args below meth c nL D ad cy cells slots Q pc lv st h := fun H locs ls hP hS hl => lv_aload_n C.1 C.2.1 hd hi (lv_at hl j hj) (k H locs ls hP hS hl)
theorem aw_aload (C : Cx p R s m args meth c own cc nL ret ts D ad cy tb cells slots) {i : Nat} {x : Nat} (hd : decode cc pc = .ok (.aload i, 2)) (j : Nat) (hj : lv[j]? = some (i, .ref x)) (k : AW p l e R s m args below meth c nL D ad cy cells slots Q (pc + 2) lv (.ref x :: st) h) : AW p l e R s m args below meth c nL D ad cy cells slots Q pc lv st h := fun H locs ls hP hS hl => lv_aload C.1 C.2.1 hd (lv_at hl j hj) (k H locs ls hP hS hl)
theorem aw_aloadN (C : Cx p R s m args meth c own cc nL ret ts D ad cy tb cells slots) {i : Nat} (hd : decode cc pc = .ok (.aload i, 2)) (j : Nat) (hj : lv[j]? = some (i, .null)) (k : AW p l e R s m args below meth c nL D ad cy cells slots Q (pc + 2) lv (.null :: st) h) : AW p l e R s m args below meth c nL D ad cy cells slots Q pc lv st h := fun H locs ls hP hS hl => by
  have hl1 := lv_at hl j hj
  have k1 := k H locs ls hP hS hl
  intro T hT X
  obtain ⟨t, a, b⟩ := k1 T hT X
  refine ⟨t, ?_, b⟩
  have hexec := C.1
  have hb := C.2.1
  jvm_step X.here [X.here.top, hexec, hb, hd, hl1, Value.isRef]
  exact a
theorem aw_istore_n (C : Cx p R s m args meth c own cc nL ret ts D ad cy tb cells slots) {k0 : Fin 4} {i : Nat} {x : Int32} {lv1 : List (Nat × Value)} (hd : decode cc pc = .ok (.istore_n k0, 1)) (hi : (k0 : Nat) = i) (hn : i < nL) (hlv : (i, Value.int x) :: lv.filter (fun q => !(q.1 == i) && !(q.1 + 1 == i && q.2.category == 2)) = lv1) (k : AW p l e R s m args below meth c nL D ad cy cells slots Q (pc + 1) lv1 st h) : AW p l e R s m args below meth c nL D ad cy cells slots Q pc lv (.int x :: st) h := fun H locs ls hP hS hl => lv_istore_n C.1 C.2.1 hd hi hl hn hlv (fun ls hl => k H locs ls hP hS hl)
theorem aw_istore (C : Cx p R s m args meth c own cc nL ret ts D ad cy tb cells slots) {i : Nat} {x : Int32} {lv1 : List (Nat × Value)} (hd : decode cc pc = .ok (.istore i, 2)) (hn : i < nL) (hlv : (i, Value.int x) :: lv.filter (fun q => !(q.1 == i) && !(q.1 + 1 == i && q.2.category == 2)) = lv1) (k : AW p l e R s m args below meth c nL D ad cy cells slots Q (pc + 2) lv1 st h) : AW p l e R s m args below meth c nL D ad cy cells slots Q pc lv (.int x :: st) h := fun H locs ls hP hS hl => lv_istore C.1 C.2.1 hd hl hn hlv (fun ls hl => k H locs ls hP hS hl)
theorem aw_lstore_n (C : Cx p R s m args meth c own cc nL ret ts D ad cy tb cells slots) {k0 : Fin 4} {i : Nat} {x : Int64} {lv1 : List (Nat × Value)} (hd : decode cc pc = .ok (.lstore_n k0, 1)) (hi : (k0 : Nat) = i) (hn : i + 1 < nL) (hlv : (i, Value.long x) :: lv.filter (fun q => !(q.1 == i) && (!(q.1 == i + 1) && !(q.1 + 1 == i && q.2.category == 2))) = lv1) (k : AW p l e R s m args below meth c nL D ad cy cells slots Q (pc + 1) lv1 st h) : AW p l e R s m args below meth c nL D ad cy cells slots Q pc lv (.long x :: st) h := fun H locs ls hP hS hl => lv_lstore_n C.1 C.2.1 hd hi hl hn hlv (fun ls hl => k H locs ls hP hS hl)
theorem aw_lstore (C : Cx p R s m args meth c own cc nL ret ts D ad cy tb cells slots) {i : Nat} {x : Int64} {lv1 : List (Nat × Value)} (hd : decode cc pc = .ok (.lstore i, 2)) (hn : i + 1 < nL) (hlv : (i, Value.long x) :: lv.filter (fun q => !(q.1 == i) && (!(q.1 == i + 1) && !(q.1 + 1 == i && q.2.category == 2))) = lv1) (k : AW p l e R s m args below meth c nL D ad cy cells slots Q (pc + 2) lv1 st h) : AW p l e R s m args below meth c nL D ad cy cells slots Q pc lv (.long x :: st) h := fun H locs ls hP hS hl => lv_lstore C.1 C.2.1 hd hl hn hlv (fun ls hl => k H locs ls hP hS hl)
theorem aw_astore_n (C : Cx p R s m args meth c own cc nL ret ts D ad cy tb cells slots) {k0 : Fin 4} {i : Nat} {x : Nat} {lv1 : List (Nat × Value)} (hd : decode cc pc = .ok (.astore_n k0, 1)) (hi : (k0 : Nat) = i) (hn : i < nL) (hlv : (i, Value.ref x) :: lv.filter (fun q => !(q.1 == i) && !(q.1 + 1 == i && q.2.category == 2)) = lv1) (k : AW p l e R s m args below meth c nL D ad cy cells slots Q (pc + 1) lv1 st h) : AW p l e R s m args below meth c nL D ad cy cells slots Q pc lv (.ref x :: st) h := fun H locs ls hP hS hl => lv_astore_n C.1 C.2.1 hd hi hl hn hlv (fun ls hl => k H locs ls hP hS hl)
theorem aw_astore (C : Cx p R s m args meth c own cc nL ret ts D ad cy tb cells slots) {i : Nat} {x : Nat} {lv1 : List (Nat × Value)} (hd : decode cc pc = .ok (.astore i, 2)) (hn : i < nL) (hlv : (i, Value.ref x) :: lv.filter (fun q => !(q.1 == i) && !(q.1 + 1 == i && q.2.category == 2)) = lv1) (k : AW p l e R s m args below meth c nL D ad cy cells slots Q (pc + 2) lv1 st h) : AW p l e R s m args below meth c nL D ad cy cells slots Q pc lv (.ref x :: st) h := fun H locs ls hP hS hl => lv_astore C.1 C.2.1 hd hl hn hlv (fun ls hl => k H locs ls hP hS hl)
theorem aw_iinc (C : Cx p R s m args meth c own cc nL ret ts D ad cy tb cells slots) {i j : Nat} {n : Int} {x v : Int32} {lv1 : List (Nat × Value)} (hd : decode cc pc = .ok (.iinc i n, 3)) (hj : lv[j]? = some (i, .int x)) (hv : x + Int32.ofInt n = v) (hn : i < nL) (hlv : (i, Value.int v) :: lv.filter (fun q => !(q.1 == i) && !(q.1 + 1 == i && q.2.category == 2)) = lv1) (k : AW p l e R s m args below meth c nL D ad cy cells slots Q (pc + 3) lv1 st h) : AW p l e R s m args below meth c nL D ad cy cells slots Q pc lv st h := fun H locs ls hP hS hl => lv_iinc C.1 C.2.1 hd hl hj hv hn hlv (fun ls hl => k H locs ls hP hS hl)
theorem aw_iadd (C : Cx p R s m args meth c own cc nL ret ts D ad cy tb cells slots) {x y : Int32} (hd : decode cc pc = .ok (.iadd, 1))  (k : AW p l e R s m args below meth c nL D ad cy cells slots Q (pc + 1) lv (.int (x + y) :: st) h) : AW p l e R s m args below meth c nL D ad cy cells slots Q pc lv (.int y :: .int x :: st) h := fun H locs ls hP hS hl => lv_iadd C.1 C.2.1 hd  (k H locs ls hP hS hl)
theorem aw_isub (C : Cx p R s m args meth c own cc nL ret ts D ad cy tb cells slots) {x y : Int32} (hd : decode cc pc = .ok (.isub, 1))  (k : AW p l e R s m args below meth c nL D ad cy cells slots Q (pc + 1) lv (.int (x - y) :: st) h) : AW p l e R s m args below meth c nL D ad cy cells slots Q pc lv (.int y :: .int x :: st) h := fun H locs ls hP hS hl => lv_isub C.1 C.2.1 hd  (k H locs ls hP hS hl)
theorem aw_imul (C : Cx p R s m args meth c own cc nL ret ts D ad cy tb cells slots) {x y : Int32} (hd : decode cc pc = .ok (.imul, 1))  (k : AW p l e R s m args below meth c nL D ad cy cells slots Q (pc + 1) lv (.int (x * y) :: st) h) : AW p l e R s m args below meth c nL D ad cy cells slots Q pc lv (.int y :: .int x :: st) h := fun H locs ls hP hS hl => lv_imul C.1 C.2.1 hd  (k H locs ls hP hS hl)
theorem aw_iand (C : Cx p R s m args meth c own cc nL ret ts D ad cy tb cells slots) {x y : Int32} (hd : decode cc pc = .ok (.iand, 1))  (k : AW p l e R s m args below meth c nL D ad cy cells slots Q (pc + 1) lv (.int (x &&& y) :: st) h) : AW p l e R s m args below meth c nL D ad cy cells slots Q pc lv (.int y :: .int x :: st) h := fun H locs ls hP hS hl => lv_iand C.1 C.2.1 hd  (k H locs ls hP hS hl)
theorem aw_ior (C : Cx p R s m args meth c own cc nL ret ts D ad cy tb cells slots) {x y : Int32} (hd : decode cc pc = .ok (.ior, 1))  (k : AW p l e R s m args below meth c nL D ad cy cells slots Q (pc + 1) lv (.int (x ||| y) :: st) h) : AW p l e R s m args below meth c nL D ad cy cells slots Q pc lv (.int y :: .int x :: st) h := fun H locs ls hP hS hl => lv_ior C.1 C.2.1 hd  (k H locs ls hP hS hl)
theorem aw_ixor (C : Cx p R s m args meth c own cc nL ret ts D ad cy tb cells slots) {x y : Int32} (hd : decode cc pc = .ok (.ixor, 1))  (k : AW p l e R s m args below meth c nL D ad cy cells slots Q (pc + 1) lv (.int (x ^^^ y) :: st) h) : AW p l e R s m args below meth c nL D ad cy cells slots Q pc lv (.int y :: .int x :: st) h := fun H locs ls hP hS hl => lv_ixor C.1 C.2.1 hd  (k H locs ls hP hS hl)
theorem aw_ladd (C : Cx p R s m args meth c own cc nL ret ts D ad cy tb cells slots) {x y : Int64} (hd : decode cc pc = .ok (.ladd, 1))  (k : AW p l e R s m args below meth c nL D ad cy cells slots Q (pc + 1) lv (.long (x + y) :: st) h) : AW p l e R s m args below meth c nL D ad cy cells slots Q pc lv (.long y :: .long x :: st) h := fun H locs ls hP hS hl => lv_ladd C.1 C.2.1 hd  (k H locs ls hP hS hl)
theorem aw_lsub (C : Cx p R s m args meth c own cc nL ret ts D ad cy tb cells slots) {x y : Int64} (hd : decode cc pc = .ok (.lsub, 1))  (k : AW p l e R s m args below meth c nL D ad cy cells slots Q (pc + 1) lv (.long (x - y) :: st) h) : AW p l e R s m args below meth c nL D ad cy cells slots Q pc lv (.long y :: .long x :: st) h := fun H locs ls hP hS hl => lv_lsub C.1 C.2.1 hd  (k H locs ls hP hS hl)
theorem aw_lmul (C : Cx p R s m args meth c own cc nL ret ts D ad cy tb cells slots) {x y : Int64} (hd : decode cc pc = .ok (.lmul, 1))  (k : AW p l e R s m args below meth c nL D ad cy cells slots Q (pc + 1) lv (.long (x * y) :: st) h) : AW p l e R s m args below meth c nL D ad cy cells slots Q pc lv (.long y :: .long x :: st) h := fun H locs ls hP hS hl => lv_lmul C.1 C.2.1 hd  (k H locs ls hP hS hl)
theorem aw_land (C : Cx p R s m args meth c own cc nL ret ts D ad cy tb cells slots) {x y : Int64} (hd : decode cc pc = .ok (.land, 1))  (k : AW p l e R s m args below meth c nL D ad cy cells slots Q (pc + 1) lv (.long (x &&& y) :: st) h) : AW p l e R s m args below meth c nL D ad cy cells slots Q pc lv (.long y :: .long x :: st) h := fun H locs ls hP hS hl => lv_land C.1 C.2.1 hd  (k H locs ls hP hS hl)
theorem aw_lor (C : Cx p R s m args meth c own cc nL ret ts D ad cy tb cells slots) {x y : Int64} (hd : decode cc pc = .ok (.lor, 1))  (k : AW p l e R s m args below meth c nL D ad cy cells slots Q (pc + 1) lv (.long (x ||| y) :: st) h) : AW p l e R s m args below meth c nL D ad cy cells slots Q pc lv (.long y :: .long x :: st) h := fun H locs ls hP hS hl => lv_lor C.1 C.2.1 hd  (k H locs ls hP hS hl)
theorem aw_lxor (C : Cx p R s m args meth c own cc nL ret ts D ad cy tb cells slots) {x y : Int64} (hd : decode cc pc = .ok (.lxor, 1))  (k : AW p l e R s m args below meth c nL D ad cy cells slots Q (pc + 1) lv (.long (x ^^^ y) :: st) h) : AW p l e R s m args below meth c nL D ad cy cells slots Q pc lv (.long y :: .long x :: st) h := fun H locs ls hP hS hl => lv_lxor C.1 C.2.1 hd  (k H locs ls hP hS hl)
theorem aw_idiv (C : Cx p R s m args meth c own cc nL ret ts D ad cy tb cells slots) {x y : Int32} (hd : decode cc pc = .ok (.idiv, 1)) (hne : ¬ y = 0) (k : AW p l e R s m args below meth c nL D ad cy cells slots Q (pc + 1) lv (.int (x / y) :: st) h) : AW p l e R s m args below meth c nL D ad cy cells slots Q pc lv (.int y :: .int x :: st) h := fun H locs ls hP hS hl => lv_idiv C.1 C.2.1 hd hne (k H locs ls hP hS hl)
theorem aw_irem (C : Cx p R s m args meth c own cc nL ret ts D ad cy tb cells slots) {x y : Int32} (hd : decode cc pc = .ok (.irem, 1)) (hne : ¬ y = 0) (k : AW p l e R s m args below meth c nL D ad cy cells slots Q (pc + 1) lv (.int (x - x / y * y) :: st) h) : AW p l e R s m args below meth c nL D ad cy cells slots Q pc lv (.int y :: .int x :: st) h := fun H locs ls hP hS hl => lv_irem C.1 C.2.1 hd hne (k H locs ls hP hS hl)
theorem aw_ineg (C : Cx p R s m args meth c own cc nL ret ts D ad cy tb cells slots) {x : Int32} (hd : decode cc pc = .ok (.ineg, 1))  (k : AW p l e R s m args below meth c nL D ad cy cells slots Q (pc + 1) lv (.int (-x) :: st) h) : AW p l e R s m args below meth c nL D ad cy cells slots Q pc lv (.int x :: st) h := fun H locs ls hP hS hl => lv_ineg C.1 C.2.1 hd  (k H locs ls hP hS hl)
theorem aw_ishl (C : Cx p R s m args meth c own cc nL ret ts D ad cy tb cells slots) {x y : Int32} (hd : decode cc pc = .ok (.ishl, 1))  (k : AW p l e R s m args below meth c nL D ad cy cells slots Q (pc + 1) lv (.int (x <<< (y &&& 31)) :: st) h) : AW p l e R s m args below meth c nL D ad cy cells slots Q pc lv (.int y :: .int x :: st) h := fun H locs ls hP hS hl => lv_ishl C.1 C.2.1 hd  (k H locs ls hP hS hl)
theorem aw_ishr (C : Cx p R s m args meth c own cc nL ret ts D ad cy tb cells slots) {x y : Int32} (hd : decode cc pc = .ok (.ishr, 1))  (k : AW p l e R s m args below meth c nL D ad cy cells slots Q (pc + 1) lv (.int (x >>> (y &&& 31)) :: st) h) : AW p l e R s m args below meth c nL D ad cy cells slots Q pc lv (.int y :: .int x :: st) h := fun H locs ls hP hS hl => lv_ishr C.1 C.2.1 hd  (k H locs ls hP hS hl)
theorem aw_iushr (C : Cx p R s m args meth c own cc nL ret ts D ad cy tb cells slots) {x y : Int32} (hd : decode cc pc = .ok (.iushr, 1))  (k : AW p l e R s m args below meth c nL D ad cy cells slots Q (pc + 1) lv (.int ((x.toUInt32 >>> (y.toUInt32 &&& Int32.toUInt32 31)).toInt32) :: st) h) : AW p l e R s m args below meth c nL D ad cy cells slots Q pc lv (.int y :: .int x :: st) h := fun H locs ls hP hS hl => lv_iushr C.1 C.2.1 hd rfl (k H locs ls hP hS hl)
theorem aw_lushr (C : Cx p R s m args meth c own cc nL ret ts D ad cy tb cells slots) {x : Int64} {y : Int32} (hd : decode cc pc = .ok (.lushr, 1))  (k : AW p l e R s m args below meth c nL D ad cy cells slots Q (pc + 1) lv (.long ((x.toUInt64 >>> (y.toInt64.toUInt64 &&& Int64.toUInt64 63)).toInt64) :: st) h) : AW p l e R s m args below meth c nL D ad cy cells slots Q pc lv (.int y :: .long x :: st) h := fun H locs ls hP hS hl => lv_lushr C.1 C.2.1 hd rfl (k H locs ls hP hS hl)
theorem aw_lshl (C : Cx p R s m args meth c own cc nL ret ts D ad cy tb cells slots) {x : Int64} {y : Int32} (hd : decode cc pc = .ok (.lshl, 1))  (k : AW p l e R s m args below meth c nL D ad cy cells slots Q (pc + 1) lv (.long (x <<< (y.toInt64 &&& 63)) :: st) h) : AW p l e R s m args below meth c nL D ad cy cells slots Q pc lv (.int y :: .long x :: st) h := fun H locs ls hP hS hl => lv_lshl C.1 C.2.1 hd rfl (k H locs ls hP hS hl)
theorem aw_i2l (C : Cx p R s m args meth c own cc nL ret ts D ad cy tb cells slots) {x : Int32} (hd : decode cc pc = .ok (.i2l, 1))  (k : AW p l e R s m args below meth c nL D ad cy cells slots Q (pc + 1) lv (.long x.toInt64 :: st) h) : AW p l e R s m args below meth c nL D ad cy cells slots Q pc lv (.int x :: st) h := fun H locs ls hP hS hl => lv_i2l C.1 C.2.1 hd rfl (k H locs ls hP hS hl)
theorem aw_l2i (C : Cx p R s m args meth c own cc nL ret ts D ad cy tb cells slots) {x : Int64} (hd : decode cc pc = .ok (.l2i, 1))  (k : AW p l e R s m args below meth c nL D ad cy cells slots Q (pc + 1) lv (.int x.toInt32 :: st) h) : AW p l e R s m args below meth c nL D ad cy cells slots Q pc lv (.long x :: st) h := fun H locs ls hP hS hl => lv_l2i C.1 C.2.1 hd rfl (k H locs ls hP hS hl)
theorem aw_lcmp (C : Cx p R s m args meth c own cc nL ret ts D ad cy tb cells slots) {x y : Int64} (hd : decode cc pc = .ok (.lcmp, 1))  (k : AW p l e R s m args below meth c nL D ad cy cells slots Q (pc + 1) lv (.int (lg_cmp x y) :: st) h) : AW p l e R s m args below meth c nL D ad cy cells slots Q pc lv (.long y :: .long x :: st) h := fun H locs ls hP hS hl => W.lcmp C.1 C.2.1 hd  (k H locs ls hP hS hl)
theorem aw_dup (C : Cx p R s m args meth c own cc nL ret ts D ad cy tb cells slots) {v : Value} (hd : decode cc pc = .ok (.dup, 1)) (hv : v.category = 1) (k : AW p l e R s m args below meth c nL D ad cy cells slots Q (pc + 1) lv (v :: v :: st) h) : AW p l e R s m args below meth c nL D ad cy cells slots Q pc lv (v :: st) h := fun H locs ls hP hS hl => lv_dup C.1 C.2.1 hd hv (k H locs ls hP hS hl)
theorem aw_dup2 (C : Cx p R s m args meth c own cc nL ret ts D ad cy tb cells slots) {v v2 : Value} (hd : decode cc pc = .ok (.dup2, 1)) (hv : v.category = 1) (hv2 : v2.category = 1) (k : AW p l e R s m args below meth c nL D ad cy cells slots Q (pc + 1) lv (v :: v2 :: v :: v2 :: st) h) : AW p l e R s m args below meth c nL D ad cy cells slots Q pc lv (v :: v2 :: st) h := fun H locs ls hP hS hl => lv_dup2_11 C.1 C.2.1 hd hv hv2 (k H locs ls hP hS hl)
theorem aw_pop (C : Cx p R s m args meth c own cc nL ret ts D ad cy tb cells slots) {v : Value} (hd : decode cc pc = .ok (.pop, 1)) (hv : v.category = 1) (k : AW p l e R s m args below meth c nL D ad cy cells slots Q (pc + 1) lv st h) : AW p l e R s m args below meth c nL D ad cy cells slots Q pc lv (v :: st) h := fun H locs ls hP hS hl => lv_pop C.1 C.2.1 hd hv (k H locs ls hP hS hl)
theorem aw_null (C : Cx p R s m args meth c own cc nL ret ts D ad cy tb cells slots)  (hd : decode cc pc = .ok (.aconst_null, 1))  (k : AW p l e R s m args below meth c nL D ad cy cells slots Q (pc + 1) lv (.null :: st) h) : AW p l e R s m args below meth c nL D ad cy cells slots Q pc lv st h := fun H locs ls hP hS hl => lv_null C.1 C.2.1 hd  (k H locs ls hP hS hl)
theorem aw_if_eq (C : Cx p R s m args meth c own cc nL ret ts D ad cy tb cells slots) {x : Int32} {off : Int} {tgt : Nat} {α : Type} {A B o : Option α} (hd : decode cc pc = .ok (.ifCond .eq off, 3)) (ht : (pc : Int) + off = (tgt : Int)) (hf : (if x = 0 then A else B) = o) (kt : A = o → AW p l e R s m args below meth c nL D ad cy cells slots Q tgt lv st h) (kf : B = o → AW p l e R s m args below meth c nL D ad cy cells slots Q (pc + 3) lv st h) : AW p l e R s m args below meth c nL D ad cy cells slots Q pc lv (.int x :: st) h := fun H locs ls hP hS hl => lv_if_eq C.1 C.2.1 hd ht (fun q => kt (by rw [if_pos q] at hf; exact hf) H locs ls hP hS hl) (fun q => kf (by rw [if_neg q] at hf; exact hf) H locs ls hP hS hl)
theorem aw_icmp_eq (C : Cx p R s m args meth c own cc nL ret ts D ad cy tb cells slots) {x y : Int32} {off : Int} {tgt : Nat} {α : Type} {A B o : Option α} (hd : decode cc pc = .ok (.if_icmp .eq off, 3)) (ht : (pc : Int) + off = (tgt : Int)) (hf : (if x = y then A else B) = o) (kt : A = o → AW p l e R s m args below meth c nL D ad cy cells slots Q tgt lv st h) (kf : B = o → AW p l e R s m args below meth c nL D ad cy cells slots Q (pc + 3) lv st h) : AW p l e R s m args below meth c nL D ad cy cells slots Q pc lv (.int y :: .int x :: st) h := fun H locs ls hP hS hl => lv_icmp_eq C.1 C.2.1 hd ht (fun q => kt (by rw [if_pos q] at hf; exact hf) H locs ls hP hS hl) (fun q => kf (by rw [if_neg q] at hf; exact hf) H locs ls hP hS hl)
theorem aw_if_ne (C : Cx p R s m args meth c own cc nL ret ts D ad cy tb cells slots) {x : Int32} {off : Int} {tgt : Nat} {α : Type} {A B o : Option α} (hd : decode cc pc = .ok (.ifCond .ne off, 3)) (ht : (pc : Int) + off = (tgt : Int)) (hf : (if x = 0 then A else B) = o) (kt : B = o → AW p l e R s m args below meth c nL D ad cy cells slots Q tgt lv st h) (kf : A = o → AW p l e R s m args below meth c nL D ad cy cells slots Q (pc + 3) lv st h) : AW p l e R s m args below meth c nL D ad cy cells slots Q pc lv (.int x :: st) h := fun H locs ls hP hS hl => lv_if_ne C.1 C.2.1 hd ht (fun q => kt (by rw [if_neg q] at hf; exact hf) H locs ls hP hS hl) (fun q => kf (by rw [if_pos q] at hf; exact hf) H locs ls hP hS hl)
theorem aw_icmp_ne (C : Cx p R s m args meth c own cc nL ret ts D ad cy tb cells slots) {x y : Int32} {off : Int} {tgt : Nat} {α : Type} {A B o : Option α} (hd : decode cc pc = .ok (.if_icmp .ne off, 3)) (ht : (pc : Int) + off = (tgt : Int)) (hf : (if x = y then A else B) = o) (kt : B = o → AW p l e R s m args below meth c nL D ad cy cells slots Q tgt lv st h) (kf : A = o → AW p l e R s m args below meth c nL D ad cy cells slots Q (pc + 3) lv st h) : AW p l e R s m args below meth c nL D ad cy cells slots Q pc lv (.int y :: .int x :: st) h := fun H locs ls hP hS hl => lv_icmp_ne C.1 C.2.1 hd ht (fun q => kt (by rw [if_neg q] at hf; exact hf) H locs ls hP hS hl) (fun q => kf (by rw [if_pos q] at hf; exact hf) H locs ls hP hS hl)
theorem aw_if_lt (C : Cx p R s m args meth c own cc nL ret ts D ad cy tb cells slots) {x : Int32} {off : Int} {tgt : Nat} {α : Type} {A B o : Option α} (hd : decode cc pc = .ok (.ifCond .lt off, 3)) (ht : (pc : Int) + off = (tgt : Int)) (hf : (if x < 0 then A else B) = o) (kt : A = o → AW p l e R s m args below meth c nL D ad cy cells slots Q tgt lv st h) (kf : B = o → AW p l e R s m args below meth c nL D ad cy cells slots Q (pc + 3) lv st h) : AW p l e R s m args below meth c nL D ad cy cells slots Q pc lv (.int x :: st) h := fun H locs ls hP hS hl => lv_if_lt C.1 C.2.1 hd ht (fun q => kt (by rw [if_pos q] at hf; exact hf) H locs ls hP hS hl) (fun q => kf (by rw [if_neg q] at hf; exact hf) H locs ls hP hS hl)
theorem aw_icmp_lt (C : Cx p R s m args meth c own cc nL ret ts D ad cy tb cells slots) {x y : Int32} {off : Int} {tgt : Nat} {α : Type} {A B o : Option α} (hd : decode cc pc = .ok (.if_icmp .lt off, 3)) (ht : (pc : Int) + off = (tgt : Int)) (hf : (if x < y then A else B) = o) (kt : A = o → AW p l e R s m args below meth c nL D ad cy cells slots Q tgt lv st h) (kf : B = o → AW p l e R s m args below meth c nL D ad cy cells slots Q (pc + 3) lv st h) : AW p l e R s m args below meth c nL D ad cy cells slots Q pc lv (.int y :: .int x :: st) h := fun H locs ls hP hS hl => lv_icmp_lt C.1 C.2.1 hd ht (fun q => kt (by rw [if_pos q] at hf; exact hf) H locs ls hP hS hl) (fun q => kf (by rw [if_neg q] at hf; exact hf) H locs ls hP hS hl)
theorem aw_if_ge (C : Cx p R s m args meth c own cc nL ret ts D ad cy tb cells slots) {x : Int32} {off : Int} {tgt : Nat} {α : Type} {A B o : Option α} (hd : decode cc pc = .ok (.ifCond .ge off, 3)) (ht : (pc : Int) + off = (tgt : Int)) (hf : (if 0 ≤ x then A else B) = o) (kt : A = o → AW p l e R s m args below meth c nL D ad cy cells slots Q tgt lv st h) (kf : B = o → AW p l e R s m args below meth c nL D ad cy cells slots Q (pc + 3) lv st h) : AW p l e R s m args below meth c nL D ad cy cells slots Q pc lv (.int x :: st) h := fun H locs ls hP hS hl => lv_if_ge C.1 C.2.1 hd ht (fun q => kt (by rw [if_pos q] at hf; exact hf) H locs ls hP hS hl) (fun q => kf (by rw [if_neg q] at hf; exact hf) H locs ls hP hS hl)
theorem aw_icmp_ge (C : Cx p R s m args meth c own cc nL ret ts D ad cy tb cells slots) {x y : Int32} {off : Int} {tgt : Nat} {α : Type} {A B o : Option α} (hd : decode cc pc = .ok (.if_icmp .ge off, 3)) (ht : (pc : Int) + off = (tgt : Int)) (hf : (if y ≤ x then A else B) = o) (kt : A = o → AW p l e R s m args below meth c nL D ad cy cells slots Q tgt lv st h) (kf : B = o → AW p l e R s m args below meth c nL D ad cy cells slots Q (pc + 3) lv st h) : AW p l e R s m args below meth c nL D ad cy cells slots Q pc lv (.int y :: .int x :: st) h := fun H locs ls hP hS hl => lv_icmp_ge C.1 C.2.1 hd ht (fun q => kt (by rw [if_pos q] at hf; exact hf) H locs ls hP hS hl) (fun q => kf (by rw [if_neg q] at hf; exact hf) H locs ls hP hS hl)
theorem aw_if_gt (C : Cx p R s m args meth c own cc nL ret ts D ad cy tb cells slots) {x : Int32} {off : Int} {tgt : Nat} {α : Type} {A B o : Option α} (hd : decode cc pc = .ok (.ifCond .gt off, 3)) (ht : (pc : Int) + off = (tgt : Int)) (hf : (if 0 < x then A else B) = o) (kt : A = o → AW p l e R s m args below meth c nL D ad cy cells slots Q tgt lv st h) (kf : B = o → AW p l e R s m args below meth c nL D ad cy cells slots Q (pc + 3) lv st h) : AW p l e R s m args below meth c nL D ad cy cells slots Q pc lv (.int x :: st) h := fun H locs ls hP hS hl => lv_if_gt C.1 C.2.1 hd ht (fun q => kt (by rw [if_pos q] at hf; exact hf) H locs ls hP hS hl) (fun q => kf (by rw [if_neg q] at hf; exact hf) H locs ls hP hS hl)
theorem aw_icmp_gt (C : Cx p R s m args meth c own cc nL ret ts D ad cy tb cells slots) {x y : Int32} {off : Int} {tgt : Nat} {α : Type} {A B o : Option α} (hd : decode cc pc = .ok (.if_icmp .gt off, 3)) (ht : (pc : Int) + off = (tgt : Int)) (hf : (if y < x then A else B) = o) (kt : A = o → AW p l e R s m args below meth c nL D ad cy cells slots Q tgt lv st h) (kf : B = o → AW p l e R s m args below meth c nL D ad cy cells slots Q (pc + 3) lv st h) : AW p l e R s m args below meth c nL D ad cy cells slots Q pc lv (.int y :: .int x :: st) h := fun H locs ls hP hS hl => lv_icmp_gt C.1 C.2.1 hd ht (fun q => kt (by rw [if_pos q] at hf; exact hf) H locs ls hP hS hl) (fun q => kf (by rw [if_neg q] at hf; exact hf) H locs ls hP hS hl)
theorem aw_if_le (C : Cx p R s m args meth c own cc nL ret ts D ad cy tb cells slots) {x : Int32} {off : Int} {tgt : Nat} {α : Type} {A B o : Option α} (hd : decode cc pc = .ok (.ifCond .le off, 3)) (ht : (pc : Int) + off = (tgt : Int)) (hf : (if x ≤ 0 then A else B) = o) (kt : A = o → AW p l e R s m args below meth c nL D ad cy cells slots Q tgt lv st h) (kf : B = o → AW p l e R s m args below meth c nL D ad cy cells slots Q (pc + 3) lv st h) : AW p l e R s m args below meth c nL D ad cy cells slots Q pc lv (.int x :: st) h := fun H locs ls hP hS hl => lv_if_le C.1 C.2.1 hd ht (fun q => kt (by rw [if_pos q] at hf; exact hf) H locs ls hP hS hl) (fun q => kf (by rw [if_neg q] at hf; exact hf) H locs ls hP hS hl)
theorem aw_icmp_le (C : Cx p R s m args meth c own cc nL ret ts D ad cy tb cells slots) {x y : Int32} {off : Int} {tgt : Nat} {α : Type} {A B o : Option α} (hd : decode cc pc = .ok (.if_icmp .le off, 3)) (ht : (pc : Int) + off = (tgt : Int)) (hf : (if x ≤ y then A else B) = o) (kt : A = o → AW p l e R s m args below meth c nL D ad cy cells slots Q tgt lv st h) (kf : B = o → AW p l e R s m args below meth c nL D ad cy cells slots Q (pc + 3) lv st h) : AW p l e R s m args below meth c nL D ad cy cells slots Q pc lv (.int y :: .int x :: st) h := fun H locs ls hP hS hl => lv_icmp_le C.1 C.2.1 hd ht (fun q => kt (by rw [if_pos q] at hf; exact hf) H locs ls hP hS hl) (fun q => kf (by rw [if_neg q] at hf; exact hf) H locs ls hP hS hl)
theorem aw_goto (C : Cx p R s m args meth c own cc nL ret ts D ad cy tb cells slots) {off : Int} {tgt : Nat} (hd : decode cc pc = .ok (.goto off, 3)) (ht : (pc : Int) + off = (tgt : Int)) (k : AW p l e R s m args below meth c nL D ad cy cells slots Q tgt lv st h) : AW p l e R s m args below meth c nL D ad cy cells slots Q pc lv st h := fun H locs ls hP hS hl => lv_goto C.1 C.2.1 hd ht (k H locs ls hP hS hl)
theorem aw_ifnull (C : Cx p R s m args meth c own cc nL ret ts D ad cy tb cells slots) {x : Nat} {off : Int} (hd : decode cc pc = .ok (.ifnull off, 3)) (k : AW p l e R s m args below meth c nL D ad cy cells slots Q (pc + 3) lv st h) : AW p l e R s m args below meth c nL D ad cy cells slots Q pc lv (.ref x :: st) h := fun H locs ls hP hS hl => lv_ifnull C.1 C.2.1 hd (k H locs ls hP hS hl)
theorem aw_ifnullN (C : Cx p R s m args meth c own cc nL ret ts D ad cy tb cells slots) {off : Int} {tgt : Nat} (hd : decode cc pc = .ok (.ifnull off, 3)) (ht : (pc : Int) + off = (tgt : Int)) (k : AW p l e R s m args below meth c nL D ad cy cells slots Q tgt lv st h) : AW p l e R s m args below meth c nL D ad cy cells slots Q pc lv (.null :: st) h := fun H locs ls hP hS hl => lv_ifnullN C.1 C.2.1 hd ht (k H locs ls hP hS hl)
theorem aw_tabIn (C : Cx p R s m args meth c own cc nL ret ts D ad cy tb cells slots) {dflt lo hi : Int} {offs : Array Int} {len : Nat} {x : Int32} {off : Int} {tgt : Nat} (hd : decode cc pc = .ok (.tableswitch dflt lo hi offs, len)) (h1 : ¬ x.toInt < lo) (h2 : ¬ hi < x.toInt) (ho : offs[(x.toInt - lo).toNat]? = some off) (ht : (pc : Int) + off = (tgt : Int)) (k : AW p l e R s m args below meth c nL D ad cy cells slots Q tgt lv st h) : AW p l e R s m args below meth c nL D ad cy cells slots Q pc lv (.int x :: st) h := fun H locs ls hP hS hl => lv_tableIn C.1 C.2.1 hd h1 h2 ho ht (k H locs ls hP hS hl)
theorem aw_tabOut (C : Cx p R s m args meth c own cc nL ret ts D ad cy tb cells slots) {dflt lo hi : Int} {offs : Array Int} {len : Nat} {x : Int32} {tgt : Nat} (hd : decode cc pc = .ok (.tableswitch dflt lo hi offs, len)) (h1 : x.toInt < lo ∨ hi < x.toInt) (ht : (pc : Int) + dflt = (tgt : Int)) (k : AW p l e R s m args below meth c nL D ad cy cells slots Q tgt lv st h) : AW p l e R s m args below meth c nL D ad cy cells slots Q pc lv (.int x :: st) h := fun H locs ls hP hS hl => lv_tableOut C.1 C.2.1 hd h1 ht (k H locs ls hP hS hl)
theorem aw_ldc (C : Cx p R s m args meth c own cc nL ret ts D ad cy tb cells slots) {index : Nat} {v : Int32} (hc : (Cond.constant own index v) ∈ ts) (hd : decode cc pc = .ok (.ldc index, 2)) (k : AW p l e R s m args below meth c nL D ad cy cells slots Q (pc + 2) lv (.int v :: st) h) : AW p l e R s m args below meth c nL D ad cy cells slots Q pc lv st h := fun H locs ls hP hS hl => lv_ldc C.1 C.2.1 C.2.2.2.2.1 (C.2.2.2.2.2.1 _ hc) hd (k H locs ls hP hS hl)
theorem aw_ldcw (C : Cx p R s m args meth c own cc nL ret ts D ad cy tb cells slots) {index : Nat} {v : Int32} (hc : (Cond.constant own index v) ∈ ts) (hd : decode cc pc = .ok (.ldc_w index, 3)) (k : AW p l e R s m args below meth c nL D ad cy cells slots Q (pc + 3) lv (.int v :: st) h) : AW p l e R s m args below meth c nL D ad cy cells slots Q pc lv st h := fun H locs ls hP hS hl => lv_ldcw C.1 C.2.1 C.2.2.2.2.1 (C.2.2.2.2.2.1 _ hc) hd (k H locs ls hP hS hl)
theorem aw_ldc2 (C : Cx p R s m args meth c own cc nL ret ts D ad cy tb cells slots) {index : Nat} {v : Int64} (hc : (Cond.constantLong own index v) ∈ ts) (hd : decode cc pc = .ok (.ldc2_w index, 3)) (k : AW p l e R s m args below meth c nL D ad cy cells slots Q (pc + 3) lv (.long v :: st) h) : AW p l e R s m args below meth c nL D ad cy cells slots Q pc lv st h := fun H locs ls hP hS hl => lv_ldc2 C.1 C.2.1 C.2.2.2.2.1 (C.2.2.2.2.2.1 _ hc) hd (k H locs ls hP hS hl)
theorem aw_nmI {x : Int32} {α : Type} {f : Int32 → Option α} {o : Option α} (hf : nm x f = o) (k : ∀ y : Int32, f y = o → AW p l e R s m args below meth c nL D ad cy cells slots Q pc lv (.int y :: st) h) : AW p l e R s m args below meth c nL D ad cy cells slots Q pc lv (.int x :: st) h := k x hf
theorem aw_nmL {x : Int64} {α : Type} {f : Int64 → Option α} {o : Option α} (hf : nm x f = o) (k : ∀ y : Int64, f y = o → AW p l e R s m args below meth c nL D ad cy cells slots Q pc lv (.long y :: st) h) : AW p l e R s m args below meth c nL D ad cy cells slots Q pc lv (.long x :: st) h := k x hf
theorem aw_nmH {h1 : AH} {α : Type} {f : AH → Option α} {o : Option α} (hf : nm h1 f = o) (k : ∀ y : AH, f y = o → AW p l e R s m args below meth c nL D ad cy cells slots Q pc lv st y) : AW p l e R s m args below meth c nL D ad cy cells slots Q pc lv st h1 := k h1 hf
theorem aw_nm2 {x : Int32} {v : Value} {α : Type} {f : Int32 → Option α} {o : Option α} (hf : nm x f = o) (k : ∀ y : Int32, f y = o → AW p l e R s m args below meth c nL D ad cy cells slots Q pc lv (v :: .int y :: st) h) : AW p l e R s m args below meth c nL D ad cy cells slots Q pc lv (v :: .int x :: st) h := k x hf
theorem aw_sub {lv1 : List (Nat × Value)} (ks : List Nat) (hl1 : lv_pick lv ks = lv1) (k : AW p l e R s m args below meth c nL D ad cy cells slots Q pc lv1 st h) : AW p l e R s m args below meth c nL D ad cy cells slots Q pc lv st h := fun H locs ls hP hS hl => k H locs ls hP hS (lv_sub hl ks hl1)
theorem aw_iald (C : Cx p R s m args meth c own cc nL ret ts D ad cy tb cells slots) {k n : Nat} {i : Int32} {α : Type} {B : Option α} {o : α} (hk : kd k = 7) (hn : ln k = n) (hf : ck (inb i n) B = some o) (hd : decode cc pc = .ok (.iaload, 1)) (kk : B = some o → AW p l e R s m args below meth c nL D ad cy cells slots Q (pc + 1) lv (.int (h.1 k i.toNatClampNeg) :: st) h) : AW p l e R s m args below meth c nL D ad cy cells slots Q pc lv (.int i :: .ref (ad k) :: st) h := fun H locs ls hP hS hl => by
  obtain ⟨hin, hB⟩ := ck_some hf (by simp)
  subst hn
  exact va_iald C.1 C.2.1 C.2.2.2.2.2.2.2.1.1 hP k 0 (by rw [wl_get (kd_lt hk (by decide)), ce_7 hk]) rfl (inb_in hin) hd (kk hB H locs ls hP hS hl)
theorem aw_zald (C : Cx p R s m args meth c own cc nL ret ts D ad cy tb cells slots) {k n : Nat} {i : Int32} {α : Type} {B : Option α} {o : α} (hk : kd k = 9) (hn : ln k = n) (hf : ck (inb i n) B = some o) (hd : decode cc pc = .ok (.baload, 1)) (kk : B = some o → AW p l e R s m args below meth c nL D ad cy cells slots Q (pc + 1) lv (.int (h.1 k i.toNatClampNeg) :: st) h) : AW p l e R s m args below meth c nL D ad cy cells slots Q pc lv (.int i :: .ref (ad k) :: st) h := fun H locs ls hP hS hl => by
  obtain ⟨hin, hB⟩ := ck_some hf (by simp)
  subst hn
  exact va_zald C.1 C.2.1 C.2.2.2.2.2.2.2.1.1 hP k 2 (by rw [wl_get (kd_lt hk (by decide)), ce_9 hk]) rfl (inb_in hin) hd (kk hB H locs ls hP hS hl)
theorem aw_lald (C : Cx p R s m args meth c own cc nL ret ts D ad cy tb cells slots) {k n : Nat} {i : Int32} {α : Type} {B : Option α} {o : α} (hk : kd k = 8) (hn : ln k = n) (hf : ck (inb i n) B = some o) (hd : decode cc pc = .ok (.laload, 1)) (kk : B = some o → AW p l e R s m args below meth c nL D ad cy cells slots Q (pc + 1) lv (.long (h.2 k i.toNatClampNeg) :: st) h) : AW p l e R s m args below meth c nL D ad cy cells slots Q pc lv (.int i :: .ref (ad k) :: st) h := fun H locs ls hP hS hl => by
  obtain ⟨hin, hB⟩ := ck_some hf (by simp)
  subst hn
  exact va_lald C.1 C.2.1 C.2.2.2.2.2.2.2.1.1 hP k 1 (by rw [wl_get (kd_lt hk (by decide)), ce_8 hk]) rfl (inb_in hin) hd (kk hB H locs ls hP hS hl)
theorem aw_iast (C : Cx p R s m args meth c own cc nL ret ts D ad cy tb cells slots) {k n : Nat} {i : Int32} {x : Int32} {α : Type} {B : Option α} {o : α} (hk : kd k = 7) (hn : ln k = n) (hf : ck (inb i n) B = some o) (hd : decode cc pc = .ok (.iastore, 1)) (kk : B = some o → AW p l e R s m args below meth c nL D ad cy cells slots Q (pc + 1) lv st (sI h k i.toNatClampNeg x)) : AW p l e R s m args below meth c nL D ad cy cells slots Q pc lv (.int x :: .int i :: .ref (ad k) :: st) h := fun H locs ls hP hS hl => by
  obtain ⟨hin, hB⟩ := ck_some hf (by simp)
  subst hn
  have hk3 := kd_lt hk (by decide)
  refine va_iast C.1 C.2.1 C.2.2.2.2.2.2.2.1.1 hP (wl_D C.2.2.2.2.2.2.2.2.1) hS k 0 (by rw [wl_get hk3, ce_7 hk]) rfl (inb_in hin) hd (fun H locs hP hD hS => ?_)
  rw [wl_set (h := h) (h' := sI h k i.toNatClampNeg x) hk3 (fun j hj => sI_r hj) (fun j hj => rfl) (by rw [ce_7 hk, sI_u])] at hP
  exact kk hB H locs ls hP hS hl
theorem aw_zast (C : Cx p R s m args meth c own cc nL ret ts D ad cy tb cells slots) {k n : Nat} {i : Int32} {x : Int32} {α : Type} {B : Option α} {o : α} (hk : kd k = 9) (hn : ln k = n) (hf : ck (inb i n) B = some o) (hd : decode cc pc = .ok (.bastore, 1)) (kk : B = some o → AW p l e R s m args below meth c nL D ad cy cells slots Q (pc + 1) lv st (sI h k i.toNatClampNeg (vp_nar .boolean x))) : AW p l e R s m args below meth c nL D ad cy cells slots Q pc lv (.int x :: .int i :: .ref (ad k) :: st) h := fun H locs ls hP hS hl => by
  obtain ⟨hin, hB⟩ := ck_some hf (by simp)
  subst hn
  have hk3 := kd_lt hk (by decide)
  refine va_zast C.1 C.2.1 C.2.2.2.2.2.2.2.1.1 hP (wl_D C.2.2.2.2.2.2.2.2.1) hS k 2 (by rw [wl_get hk3, ce_9 hk]) rfl (inb_in hin) hd (fun H locs hP hD hS => ?_)
  rw [wl_set (h := h) (h' := sI h k i.toNatClampNeg (vp_nar .boolean x)) hk3 (fun j hj => sI_r hj) (fun j hj => rfl) (by rw [ce_9 hk, sI_u])] at hP
  exact kk hB H locs ls hP hS hl
theorem aw_last (C : Cx p R s m args meth c own cc nL ret ts D ad cy tb cells slots) {k n : Nat} {i : Int32} {x : Int64} {α : Type} {B : Option α} {o : α} (hk : kd k = 8) (hn : ln k = n) (hf : ck (inb i n) B = some o) (hd : decode cc pc = .ok (.lastore, 1)) (kk : B = some o → AW p l e R s m args below meth c nL D ad cy cells slots Q (pc + 1) lv st (sL h k i.toNatClampNeg x)) : AW p l e R s m args below meth c nL D ad cy cells slots Q pc lv (.long x :: .int i :: .ref (ad k) :: st) h := fun H locs ls hP hS hl => by
  obtain ⟨hin, hB⟩ := ck_some hf (by simp)
  subst hn
  have hk3 := kd_lt hk (by decide)
  refine va_last C.1 C.2.1 C.2.2.2.2.2.2.2.1.1 hP (wl_D C.2.2.2.2.2.2.2.2.1) hS k 1 (by rw [wl_get hk3, ce_8 hk]) rfl (inb_in hin) hd (fun H locs hP hD hS => ?_)
  rw [wl_set (h := h) (h' := sL h k i.toNatClampNeg x) hk3 (fun j hj => rfl) (fun j hj => sL_r hj) (by rw [ce_8 hk, sL_u])] at hP
  exact kk hB H locs ls hP hS hl
theorem aw_alenI (C : Cx p R s m args meth c own cc nL ret ts D ad cy tb cells slots) {k n : Nat} (hk : kd k = 7) (hn : ln k = n) (hd : decode cc pc = .ok (.arraylength, 1)) (kk : AW p l e R s m args below meth c nL D ad cy cells slots Q (pc + 1) lv (.int (nI n) :: st) h) : AW p l e R s m args below meth c nL D ad cy cells slots Q pc lv (.ref (ad k) :: st) h := fun H locs ls hP hS hl => va_alen C.1 C.2.1 C.2.2.2.2.2.2.2.1.1 hP k 0 (by rw [wl_get (kd_lt hk (by decide)), ce_7 hk]) rfl (by rw [← hn]; rfl) hd (kk H locs ls hP hS hl)
theorem aw_alenL (C : Cx p R s m args meth c own cc nL ret ts D ad cy tb cells slots) {k n : Nat} (hk : kd k = 8) (hn : ln k = n) (hd : decode cc pc = .ok (.arraylength, 1)) (kk : AW p l e R s m args below meth c nL D ad cy cells slots Q (pc + 1) lv (.int (nI n) :: st) h) : AW p l e R s m args below meth c nL D ad cy cells slots Q pc lv (.ref (ad k) :: st) h := fun H locs ls hP hS hl => va_alen C.1 C.2.1 C.2.2.2.2.2.2.2.1.1 hP k 1 (by rw [wl_get (kd_lt hk (by decide)), ce_8 hk]) rfl (by rw [← hn]; rfl) hd (kk H locs ls hP hS hl)
theorem aw_get (C : Cx p R s m args meth c own cc nL ret ts D ad cy tb cells slots) {k ci N ix : Nat} {Cn rf : String} {T : u_T} {fs : List Value} {v : Value} (hk : k < 43) (hce : ce ad cy h k = .inr (ci, fs)) (hcl : vwCl[ci]? = some (Cn, T, N)) (hin : ∀ w ∈ u_ws Cn T N, w ∈ ts) (j : Nat) (hj : j < N) (hrf : (T j).1 = rf) (hlk : Cond.fieldLink own ix rf (T j).2.1 (T j).2.2.1 ∈ ts) (hv : fs[j]? = some v) (hd : decode cc pc = .ok (.getfield ix, 3)) (kk : AW p l e R s m args below meth c nL D ad cy cells slots Q (pc + 3) lv (v :: st) h) : AW p l e R s m args below meth c nL D ad cy cells slots Q pc lv (.ref (ad k) :: st) h := fun H locs ls hP hS hl => va_get C.1 C.2.1 C.2.2.2.2.2.1 hin C.2.2.2.2.1 C.2.2.2.2.2.2.2.1.1 hP k (by rw [wl_get hk, hce]) hcl j hj (C.2.2.2.2.2.1 _ hlk) (fun _ q => by rw [← hrf]; exact q) hv hd (kk H locs ls hP hS hl)
theorem aw_getN (C : Cx p R s m args meth c own cc nL ret ts D ad cy tb cells slots) {k ci N ix : Nat} {Cn rf host : String} {T : u_T} {fs : List Value} {v : Value} (hk : k < 43) (hce : ce ad cy h k = .inr (ci, fs)) (hcl : vwCl[ci]? = some (Cn, T, N)) (hin : ∀ w ∈ u_ws Cn T N, w ∈ ts) (j : Nat) (hj : j < N) (hrf : (T j).1 = rf) (hlk : Cond.fieldLinkNest own ix rf (T j).2.1 (T j).2.2.1 host ∈ nests) (hv : fs[j]? = some v) (hd : decode cc pc = .ok (.getfield ix, 3)) (kk : AW p l e R s m args below meth c nL D ad cy cells slots Q (pc + 3) lv (v :: st) h) : AW p l e R s m args below meth c nL D ad cy cells slots Q pc lv (.ref (ad k) :: st) h := fun H locs ls hP hS hl => va_getN C.1 C.2.1 C.2.2.2.2.2.1 hin C.2.2.2.2.1 C.2.2.2.2.2.2.2.1.1 hP k (by rw [wl_get hk, hce]) hcl j hj (va_Nw.use rfl (C.2.2.2.2.2.2.2.1.2.2.2.2.2 _ hlk)) (fun _ q => by rw [← hrf]; exact q) hv hd (kk H locs ls hP hS hl)
theorem aw_put (C : Cx p R s m args meth c own cc nL ret ts D ad cy tb cells slots) {k ci N ix : Nat} {Cn rf : String} {T : u_T} {fs : List Value} {x : Int32} {ty : FieldType} (hk : k < 43) (hce : ce ad cy h k = .inr (ci, fs)) (hcl : vwCl[ci]? = some (Cn, T, N)) (hin : ∀ w ∈ u_ws Cn T N, w ∈ ts) (ty0 : Nat → FieldType) (hty : ∀ k, k < N → parseFieldDescriptor (T k).2.2.1 = some (ty0 k)) (hnm : ∀ a, a < N → ∀ b, b < N → a ≠ b → (T a).2.1 ≠ (T b).2.1) (j : Nat) (hj : j < N) (hrf : (T j).1 = rf) (hlk : Cond.fieldLink own ix rf (T j).2.1 (T j).2.2.1 ∈ ts) (hfin : (T j).2.2.2 = false) (hdt : parseFieldDescriptor (T j).2.2.1 = some ty) (hnr : narrow ty (.int x) = .int x) (hft : fits ty (.int x) = true) (hl9 : j < fs.length) (hcs : ce ad cy (sI h k j x) k = .inr (ci, fs.set j (.int x))) (hd : decode cc pc = .ok (.putfield ix, 3)) (kk : AW p l e R s m args below meth c nL D ad cy cells slots Q (pc + 3) lv st (sI h k j x)) : AW p l e R s m args below meth c nL D ad cy cells slots Q pc lv (.int x :: .ref (ad k) :: st) h := fun H locs ls hP hS hl => by
  refine va_put C.1 C.2.1 C.2.2.2.2.2.1 hin ty0 hty hnm C.2.2.2.2.1 C.2.2.2.2.2.2.2.1.1 hP (wl_D C.2.2.2.2.2.2.2.2.1) hS k (by rw [wl_get hk, hce]) hcl j hj (C.2.2.2.2.2.1 _ hlk) (fun _ q => by rw [← hrf]; exact q) hfin hdt hnr hft hl9 hd (fun H locs hP hD hS => ?_)
  rw [wl_set (h := h) (h' := sI h k j x) hk (fun j hj => sI_r hj) (fun j hj => rfl) hcs] at hP
  exact kk H locs ls hP hS hl
theorem aw_putN (C : Cx p R s m args meth c own cc nL ret ts D ad cy tb cells slots) {k ci N ix : Nat} {Cn rf host : String} {T : u_T} {fs : List Value} {x : Int32} {ty : FieldType} (hk : k < 43) (hce : ce ad cy h k = .inr (ci, fs)) (hcl : vwCl[ci]? = some (Cn, T, N)) (hin : ∀ w ∈ u_ws Cn T N, w ∈ ts) (ty0 : Nat → FieldType) (hty : ∀ k, k < N → parseFieldDescriptor (T k).2.2.1 = some (ty0 k)) (hnm : ∀ a, a < N → ∀ b, b < N → a ≠ b → (T a).2.1 ≠ (T b).2.1) (j : Nat) (hj : j < N) (hrf : (T j).1 = rf) (hlk : Cond.fieldLinkNest own ix rf (T j).2.1 (T j).2.2.1 host ∈ nests) (hfin : (T j).2.2.2 = false) (hdt : parseFieldDescriptor (T j).2.2.1 = some ty) (hnr : narrow ty (.int x) = .int x) (hft : fits ty (.int x) = true) (hl9 : j < fs.length) (hcs : ce ad cy (sI h k j x) k = .inr (ci, fs.set j (.int x))) (hd : decode cc pc = .ok (.putfield ix, 3)) (kk : AW p l e R s m args below meth c nL D ad cy cells slots Q (pc + 3) lv st (sI h k j x)) : AW p l e R s m args below meth c nL D ad cy cells slots Q pc lv (.int x :: .ref (ad k) :: st) h := fun H locs ls hP hS hl => by
  refine va_putN C.1 C.2.1 C.2.2.2.2.2.1 hin ty0 hty hnm C.2.2.2.2.1 C.2.2.2.2.2.2.2.1.1 hP (wl_D C.2.2.2.2.2.2.2.2.1) hS k (by rw [wl_get hk, hce]) hcl j hj (va_Nw.use rfl (C.2.2.2.2.2.2.2.1.2.2.2.2.2 _ hlk)) (fun _ q => by rw [← hrf]; exact q) hfin hdt hnr hft hl9 hd (fun H locs hP hD hS => ?_)
  rw [wl_set (h := h) (h' := sI h k j x) hk (fun j hj => sI_r hj) (fun j hj => rfl) hcs] at hP
  exact kk H locs ls hP hS hl
theorem aw_aald (C : Cx p R s m args meth c own cc nL ret ts D ad cy tb cells slots) {i : Int32} {α : Type} {f : Nat → Option α} {o : α} (hf : ck (inb i 4) (nm (21 + i.toNatClampNeg) f) = some o) (hd : decode cc pc = .ok (.aaload, 1)) (kk : ∀ r : Nat, kd r = 3 → f r = some o → AW p l e R s m args below meth c nL D ad cy cells slots Q (pc + 1) lv (.ref (ad r) :: st) h) : AW p l e R s m args below meth c nL D ad cy cells slots Q pc lv (.int i :: .ref (ad 20) :: st) h := fun H locs ls hP hS hl => by
  obtain ⟨hin, hB⟩ := ck_some hf (by simp)
  exact va_aldq (f := fun j => some (ad (21 + j))) C.1 C.2.1 C.2.2.2.2.2.2.2.1.1 hP 20 3 (by rw [wl_get (by decide), ce_10 rfl]) rfl (inb_in hin) hd (kk _ (kd_sh hin) hB H locs ls hP hS hl)
theorem aw_gtab0 (C : Cx p R s m args meth c own cc nL ret ts D ad cy tb cells slots) {ix : Nat} (hlk : Cond.fieldLinkNest own ix "StairCodes" "LABELS" "[I" "StairCodes" ∈ nests) (hd : decode cc pc = .ok (.getstatic ix, 3)) (kk : AW p l e R s m args below meth c nL D ad cy cells slots Q (pc + 3) lv (.ref (tb 0) :: st) h) : AW p l e R s m args below meth c nL D ad cy cells slots Q pc lv st h := fun H locs ls hP hS hl => va_getsN C.1 C.2.1 C.2.2.2.2.2.2.2.1.2.1 hS C.2.2.2.2.1 (va_Nw.use rfl (C.2.2.2.2.2.2.2.1.2.2.2.2.2 _ hlk)) (fun _ q => q) hd (kk H locs ls hP hS hl)
theorem aw_ltab0 (C : Cx p R s m args meth c own cc nL ret ts D ad cy tb cells slots) {i : Int32} {α : Type} {B : Option α} {o : α} (hf : ck (inb i 16) B = some o) (hd : decode cc pc = .ok (.iaload, 1)) (kk : B = some o → AW p l e R s m args below meth c nL D ad cy cells slots Q (pc + 1) lv (.int (tabL i.toNatClampNeg) :: st) h) : AW p l e R s m args below meth c nL D ad cy cells slots Q pc lv (.int i :: .ref (tb 0) :: st) h := fun H locs ls hP hS hl => by
  obtain ⟨hin, hB⟩ := ck_some hf (by simp)
  exact va_ti C.1 C.2.1 C.2.2.2.2.2.2.2.1.2.2.1 hS (inb_in hin) rfl hd (kk hB H locs ls hP hS hl)
theorem aw_gtab1 (C : Cx p R s m args meth c own cc nL ret ts D ad cy tb cells slots) {ix : Nat} (hlk : Cond.fieldLinkNest own ix "StairCodes" "PLACE_OF_LABEL" "[I" "StairCodes" ∈ nests) (hd : decode cc pc = .ok (.getstatic ix, 3)) (kk : AW p l e R s m args below meth c nL D ad cy cells slots Q (pc + 3) lv (.ref (tb 1) :: st) h) : AW p l e R s m args below meth c nL D ad cy cells slots Q pc lv st h := fun H locs ls hP hS hl => va_getsN C.1 C.2.1 C.2.2.2.2.2.2.2.1.2.2.2.1 hS C.2.2.2.2.1 (va_Nw.use rfl (C.2.2.2.2.2.2.2.1.2.2.2.2.2 _ hlk)) (fun _ q => q) hd (kk H locs ls hP hS hl)
theorem aw_ltab1 (C : Cx p R s m args meth c own cc nL ret ts D ad cy tb cells slots) {i : Int32} {α : Type} {B : Option α} {o : α} (hf : ck (inb i 16) B = some o) (hd : decode cc pc = .ok (.iaload, 1)) (kk : B = some o → AW p l e R s m args below meth c nL D ad cy cells slots Q (pc + 1) lv (.int (tabP i.toNatClampNeg) :: st) h) : AW p l e R s m args below meth c nL D ad cy cells slots Q pc lv (.int i :: .ref (tb 1) :: st) h := fun H locs ls hP hS hl => by
  obtain ⟨hin, hB⟩ := ck_some hf (by simp)
  exact va_ti C.1 C.2.1 C.2.2.2.2.2.2.2.1.2.2.2.2.1 hS (inb_in hin) rfl hd (kk hB H locs ls hP hS hl)
theorem aw_callVi (C : Cx p R s m args meth c own cc nL ret ts D ad cy tb cells slots) {y : MethodName} {ws : List Cond} {rm : Room} {ix maxL n : Nat} {bytes : ByteArray} {rt : Option FieldType} {As rest : List Value} {h0 : AH} {r0 : Int32} {k ci N : Nat} {Cn : String} {T : u_T} (hk : kd k = ci) (hc7 : ci < 7) (hcl : vwCl[ci]? = some (Cn, T, N)) (hM : Ki l y ws rm D ad cy tb (.ref (ad k) :: As) h r0 h0) (cw : (∀ w ∈ ts, w.before args s = true) → (∀ w ∈ nests, va_Nw w s) → CallW R s args own Cn ix y bytes maxL rt ws rm 0 0 n) (hst : st = As.reverse ++ .ref (ad k) :: rest) (hn : As.length = n) (hrm : (rest.map fun v => v.category).sum ≤ 8) (hd : decode cc pc = .ok (.invokevirtual ix, 3)) (kk : AW p l e R s m args below meth c nL D ad cy cells slots Q (pc + 3) lv (.int r0 :: rest) h0) : AW p l e R s m args below meth c nL D ad cy cells slots Q pc lv st h := fun H locs ls hP hS hl => by
  subst hst
  obtain ⟨fs, hfs⟩ := ce_ob (ad := ad) (cy := cy) (h := h) hk hc7
  refine va_calli (va_runV (As := As) (rest := rest) ⟨C.1, C.2.1, C.2.2.2.1, C.2.2.2.2.1, C.2.2.2.2.2.1⟩ hM (cw C.2.2.2.2.2.1 C.2.2.2.2.2.2.2.1.2.2.2.2.2) ⟨Pr.blind, va_recv C.2.2.2.2.2.2.2.1.1 hP hcl (by rw [wl_get (kd_lt hk (by omega)), hfs]), (fun U hU hW => ⟨rfl, by rw [hU]; exact hP, Ev.go C.2.2.2.2.2.2.2.1 (fun a h1 h2 => by rw [hU]; exact hS.2.1 a h1 h2) hW⟩)⟩ rfl hn hl.1 rfl (lv_room hrm) hd ⟨C.2.2.2.2.2.2.2.2.2.1, C.2.2.2.2.2.2.2.2.2.2⟩) hS (fun _ _ q => q) (fun _ q => q) (fun r u t H1 locs1 ht hvm hw hB hz1 hk1 hS1 => ?_)
  obtain ⟨rfl, rfl⟩ := hw
  rw [ht] at hB
  exact kk H1 locs1 ls hB hS1 hl
theorem aw_callSi (C : Cx p R s m args meth c own cc nL ret ts D ad cy tb cells slots) {y : MethodName} {ws : List Cond} {rm : Room} {ix maxL n : Nat} {bytes : ByteArray} {rt : Option FieldType} {As rest : List Value} {h0 : AH} {r0 : Int32} (hM : Ki l y ws rm D ad cy tb (As) h r0 h0) (cw : (∀ w ∈ ts, w.before args s = true) → (∀ w ∈ nests, va_Nw w s) → CallB R s args own ix y bytes maxL rt ws rm 0 0 n ∧ (Cond.static y).before args s = true) (hst : st = As.reverse ++ rest) (hn : As.length = n) (hrm : (rest.map fun v => v.category).sum ≤ 8) (hd : decode cc pc = .ok (.invokestatic ix, 3)) (kk : AW p l e R s m args below meth c nL D ad cy cells slots Q (pc + 3) lv (.int r0 :: rest) h0) : AW p l e R s m args below meth c nL D ad cy cells slots Q pc lv st h := fun H locs ls hP hS hl => by
  subst hst
  refine va_calli (va_runS (As := As) (rest := rest) ⟨C.1, C.2.1, C.2.2.2.1, C.2.2.2.2.1, C.2.2.2.2.2.1⟩ hM (cw C.2.2.2.2.2.1 C.2.2.2.2.2.2.2.1.2.2.2.2.2) ⟨Pr.blind, (fun U hU hW => ⟨rfl, by rw [hU]; exact hP, Ev.go C.2.2.2.2.2.2.2.1 (fun a h1 h2 => by rw [hU]; exact hS.2.1 a h1 h2) hW⟩)⟩ rfl hn hl.1 rfl (lv_room hrm) hd ⟨C.2.2.2.2.2.2.2.2.2.1, C.2.2.2.2.2.2.2.2.2.2⟩) hS (fun _ _ q => q) (fun _ q => q) (fun r u t H1 locs1 ht hvm hw hB hz1 hk1 hS1 => ?_)
  obtain ⟨rfl, rfl⟩ := hw
  rw [ht] at hB
  exact kk H1 locs1 ls hB hS1 hl
theorem aw_callSNi (C : Cx p R s m args meth c own cc nL ret ts D ad cy tb cells slots) {y : MethodName} {ws : List Cond} {rm : Room} {ix maxL n : Nat} {bytes : ByteArray} {rt : Option FieldType} {host : String} {As rest : List Value} {h0 : AH} {r0 : Int32} (hM : Ki l y ws rm D ad cy tb (As) h r0 h0) (cw : (∀ w ∈ ts, w.before args s = true) → (∀ w ∈ nests, va_Nw w s) → va_CN R s args own ix y host bytes maxL rt ws rm 0 0 n ∧ (Cond.static y).before args s = true ∧ True) (hst : st = As.reverse ++ rest) (hn : As.length = n) (hrm : (rest.map fun v => v.category).sum ≤ 8) (hd : decode cc pc = .ok (.invokestatic ix, 3)) (kk : AW p l e R s m args below meth c nL D ad cy cells slots Q (pc + 3) lv (.int r0 :: rest) h0) : AW p l e R s m args below meth c nL D ad cy cells slots Q pc lv st h := fun H locs ls hP hS hl => by
  subst hst
  refine va_calli (va_runSN (As := As) (rest := rest) ⟨C.1, C.2.1, C.2.2.2.1, C.2.2.2.2.1, C.2.2.2.2.2.1⟩ hM (cw C.2.2.2.2.2.1 C.2.2.2.2.2.2.2.1.2.2.2.2.2) ⟨Pr.blind, (fun U hU hW => ⟨rfl, by rw [hU]; exact hP, Ev.go C.2.2.2.2.2.2.2.1 (fun a h1 h2 => by rw [hU]; exact hS.2.1 a h1 h2) hW⟩)⟩ rfl hn hl.1 rfl (lv_room hrm) hd ⟨C.2.2.2.2.2.2.2.2.2.1, C.2.2.2.2.2.2.2.2.2.2⟩) hS (fun _ _ q => q) (fun _ q => q) (fun r u t H1 locs1 ht hvm hw hB hz1 hk1 hS1 => ?_)
  obtain ⟨rfl, rfl⟩ := hw
  rw [ht] at hB
  exact kk H1 locs1 ls hB hS1 hl
theorem aw_callVNi (C : Cx p R s m args meth c own cc nL ret ts D ad cy tb cells slots) {y : MethodName} {ws : List Cond} {rm : Room} {ix maxL n : Nat} {bytes : ByteArray} {rt : Option FieldType} {host : String} {As rest : List Value} {h0 : AH} {r0 : Int32} {k ci N : Nat} {Cn : String} {T : u_T} (hk : kd k = ci) (hc7 : ci < 7) (hcl : vwCl[ci]? = some (Cn, T, N)) (hM : Ki l y ws rm D ad cy tb (.ref (ad k) :: As) h r0 h0) (cw : (∀ w ∈ ts, w.before args s = true) → (∀ w ∈ nests, va_Nw w s) → va_CN R s args own ix y host bytes maxL rt ws rm 0 0 n ∧ (Cond.instanceMethod y).before args s = true ∧ (Cond.selects Cn y y).before args s = true) (hst : st = As.reverse ++ .ref (ad k) :: rest) (hn : As.length = n) (hrm : (rest.map fun v => v.category).sum ≤ 8) (hd : decode cc pc = .ok (.invokevirtual ix, 3)) (kk : AW p l e R s m args below meth c nL D ad cy cells slots Q (pc + 3) lv (.int r0 :: rest) h0) : AW p l e R s m args below meth c nL D ad cy cells slots Q pc lv st h := fun H locs ls hP hS hl => by
  subst hst
  obtain ⟨fs, hfs⟩ := ce_ob (ad := ad) (cy := cy) (h := h) hk hc7
  refine va_calli (va_runVN (As := As) (rest := rest) ⟨C.1, C.2.1, C.2.2.2.1, C.2.2.2.2.1, C.2.2.2.2.2.1⟩ hM (cw C.2.2.2.2.2.1 C.2.2.2.2.2.2.2.1.2.2.2.2.2) ⟨Pr.blind, va_recv C.2.2.2.2.2.2.2.1.1 hP hcl (by rw [wl_get (kd_lt hk (by omega)), hfs]), (fun U hU hW => ⟨rfl, by rw [hU]; exact hP, Ev.go C.2.2.2.2.2.2.2.1 (fun a h1 h2 => by rw [hU]; exact hS.2.1 a h1 h2) hW⟩)⟩ rfl hn hl.1 rfl (lv_room hrm) hd ⟨C.2.2.2.2.2.2.2.2.2.1, C.2.2.2.2.2.2.2.2.2.2⟩) hS (fun _ _ q => q) (fun _ q => q) (fun r u t H1 locs1 ht hvm hw hB hz1 hk1 hS1 => ?_)
  obtain ⟨rfl, rfl⟩ := hw
  rw [ht] at hB
  exact kk H1 locs1 ls hB hS1 hl
theorem aw_callVl (C : Cx p R s m args meth c own cc nL ret ts D ad cy tb cells slots) {y : MethodName} {ws : List Cond} {rm : Room} {ix maxL n : Nat} {bytes : ByteArray} {rt : Option FieldType} {As rest : List Value} {h0 : AH} {r0 : Int64} {k ci N : Nat} {Cn : String} {T : u_T} (hk : kd k = ci) (hc7 : ci < 7) (hcl : vwCl[ci]? = some (Cn, T, N)) (hM : Kl l y ws rm D ad cy tb (.ref (ad k) :: As) h r0 h0) (cw : (∀ w ∈ ts, w.before args s = true) → (∀ w ∈ nests, va_Nw w s) → CallW R s args own Cn ix y bytes maxL rt ws rm 0 0 n) (hst : st = As.reverse ++ .ref (ad k) :: rest) (hn : As.length = n) (hrm : (rest.map fun v => v.category).sum ≤ 8) (hd : decode cc pc = .ok (.invokevirtual ix, 3)) (kk : AW p l e R s m args below meth c nL D ad cy cells slots Q (pc + 3) lv (.long r0 :: rest) h0) : AW p l e R s m args below meth c nL D ad cy cells slots Q pc lv st h := fun H locs ls hP hS hl => by
  subst hst
  obtain ⟨fs, hfs⟩ := ce_ob (ad := ad) (cy := cy) (h := h) hk hc7
  refine va_calll (va_runV (As := As) (rest := rest) ⟨C.1, C.2.1, C.2.2.2.1, C.2.2.2.2.1, C.2.2.2.2.2.1⟩ hM (cw C.2.2.2.2.2.1 C.2.2.2.2.2.2.2.1.2.2.2.2.2) ⟨Pr.blind, va_recv C.2.2.2.2.2.2.2.1.1 hP hcl (by rw [wl_get (kd_lt hk (by omega)), hfs]), (fun U hU hW => ⟨rfl, by rw [hU]; exact hP, Ev.go C.2.2.2.2.2.2.2.1 (fun a h1 h2 => by rw [hU]; exact hS.2.1 a h1 h2) hW⟩)⟩ rfl hn hl.1 rfl (lv_room hrm) hd ⟨C.2.2.2.2.2.2.2.2.2.1, C.2.2.2.2.2.2.2.2.2.2⟩) hS (fun _ _ q => q) (fun _ q => q) (fun r u t H1 locs1 ht hvm hw hB hz1 hk1 hS1 => ?_)
  obtain ⟨rfl, rfl⟩ := hw
  rw [ht] at hB
  exact kk H1 locs1 ls hB hS1 hl
theorem aw_callSl (C : Cx p R s m args meth c own cc nL ret ts D ad cy tb cells slots) {y : MethodName} {ws : List Cond} {rm : Room} {ix maxL n : Nat} {bytes : ByteArray} {rt : Option FieldType} {As rest : List Value} {h0 : AH} {r0 : Int64} (hM : Kl l y ws rm D ad cy tb (As) h r0 h0) (cw : (∀ w ∈ ts, w.before args s = true) → (∀ w ∈ nests, va_Nw w s) → CallB R s args own ix y bytes maxL rt ws rm 0 0 n ∧ (Cond.static y).before args s = true) (hst : st = As.reverse ++ rest) (hn : As.length = n) (hrm : (rest.map fun v => v.category).sum ≤ 8) (hd : decode cc pc = .ok (.invokestatic ix, 3)) (kk : AW p l e R s m args below meth c nL D ad cy cells slots Q (pc + 3) lv (.long r0 :: rest) h0) : AW p l e R s m args below meth c nL D ad cy cells slots Q pc lv st h := fun H locs ls hP hS hl => by
  subst hst
  refine va_calll (va_runS (As := As) (rest := rest) ⟨C.1, C.2.1, C.2.2.2.1, C.2.2.2.2.1, C.2.2.2.2.2.1⟩ hM (cw C.2.2.2.2.2.1 C.2.2.2.2.2.2.2.1.2.2.2.2.2) ⟨Pr.blind, (fun U hU hW => ⟨rfl, by rw [hU]; exact hP, Ev.go C.2.2.2.2.2.2.2.1 (fun a h1 h2 => by rw [hU]; exact hS.2.1 a h1 h2) hW⟩)⟩ rfl hn hl.1 rfl (lv_room hrm) hd ⟨C.2.2.2.2.2.2.2.2.2.1, C.2.2.2.2.2.2.2.2.2.2⟩) hS (fun _ _ q => q) (fun _ q => q) (fun r u t H1 locs1 ht hvm hw hB hz1 hk1 hS1 => ?_)
  obtain ⟨rfl, rfl⟩ := hw
  rw [ht] at hB
  exact kk H1 locs1 ls hB hS1 hl
theorem aw_callSNl (C : Cx p R s m args meth c own cc nL ret ts D ad cy tb cells slots) {y : MethodName} {ws : List Cond} {rm : Room} {ix maxL n : Nat} {bytes : ByteArray} {rt : Option FieldType} {host : String} {As rest : List Value} {h0 : AH} {r0 : Int64} (hM : Kl l y ws rm D ad cy tb (As) h r0 h0) (cw : (∀ w ∈ ts, w.before args s = true) → (∀ w ∈ nests, va_Nw w s) → va_CN R s args own ix y host bytes maxL rt ws rm 0 0 n ∧ (Cond.static y).before args s = true ∧ True) (hst : st = As.reverse ++ rest) (hn : As.length = n) (hrm : (rest.map fun v => v.category).sum ≤ 8) (hd : decode cc pc = .ok (.invokestatic ix, 3)) (kk : AW p l e R s m args below meth c nL D ad cy cells slots Q (pc + 3) lv (.long r0 :: rest) h0) : AW p l e R s m args below meth c nL D ad cy cells slots Q pc lv st h := fun H locs ls hP hS hl => by
  subst hst
  refine va_calll (va_runSN (As := As) (rest := rest) ⟨C.1, C.2.1, C.2.2.2.1, C.2.2.2.2.1, C.2.2.2.2.2.1⟩ hM (cw C.2.2.2.2.2.1 C.2.2.2.2.2.2.2.1.2.2.2.2.2) ⟨Pr.blind, (fun U hU hW => ⟨rfl, by rw [hU]; exact hP, Ev.go C.2.2.2.2.2.2.2.1 (fun a h1 h2 => by rw [hU]; exact hS.2.1 a h1 h2) hW⟩)⟩ rfl hn hl.1 rfl (lv_room hrm) hd ⟨C.2.2.2.2.2.2.2.2.2.1, C.2.2.2.2.2.2.2.2.2.2⟩) hS (fun _ _ q => q) (fun _ q => q) (fun r u t H1 locs1 ht hvm hw hB hz1 hk1 hS1 => ?_)
  obtain ⟨rfl, rfl⟩ := hw
  rw [ht] at hB
  exact kk H1 locs1 ls hB hS1 hl
theorem aw_callVNl (C : Cx p R s m args meth c own cc nL ret ts D ad cy tb cells slots) {y : MethodName} {ws : List Cond} {rm : Room} {ix maxL n : Nat} {bytes : ByteArray} {rt : Option FieldType} {host : String} {As rest : List Value} {h0 : AH} {r0 : Int64} {k ci N : Nat} {Cn : String} {T : u_T} (hk : kd k = ci) (hc7 : ci < 7) (hcl : vwCl[ci]? = some (Cn, T, N)) (hM : Kl l y ws rm D ad cy tb (.ref (ad k) :: As) h r0 h0) (cw : (∀ w ∈ ts, w.before args s = true) → (∀ w ∈ nests, va_Nw w s) → va_CN R s args own ix y host bytes maxL rt ws rm 0 0 n ∧ (Cond.instanceMethod y).before args s = true ∧ (Cond.selects Cn y y).before args s = true) (hst : st = As.reverse ++ .ref (ad k) :: rest) (hn : As.length = n) (hrm : (rest.map fun v => v.category).sum ≤ 8) (hd : decode cc pc = .ok (.invokevirtual ix, 3)) (kk : AW p l e R s m args below meth c nL D ad cy cells slots Q (pc + 3) lv (.long r0 :: rest) h0) : AW p l e R s m args below meth c nL D ad cy cells slots Q pc lv st h := fun H locs ls hP hS hl => by
  subst hst
  obtain ⟨fs, hfs⟩ := ce_ob (ad := ad) (cy := cy) (h := h) hk hc7
  refine va_calll (va_runVN (As := As) (rest := rest) ⟨C.1, C.2.1, C.2.2.2.1, C.2.2.2.2.1, C.2.2.2.2.2.1⟩ hM (cw C.2.2.2.2.2.1 C.2.2.2.2.2.2.2.1.2.2.2.2.2) ⟨Pr.blind, va_recv C.2.2.2.2.2.2.2.1.1 hP hcl (by rw [wl_get (kd_lt hk (by omega)), hfs]), (fun U hU hW => ⟨rfl, by rw [hU]; exact hP, Ev.go C.2.2.2.2.2.2.2.1 (fun a h1 h2 => by rw [hU]; exact hS.2.1 a h1 h2) hW⟩)⟩ rfl hn hl.1 rfl (lv_room hrm) hd ⟨C.2.2.2.2.2.2.2.2.2.1, C.2.2.2.2.2.2.2.2.2.2⟩) hS (fun _ _ q => q) (fun _ q => q) (fun r u t H1 locs1 ht hvm hw hB hz1 hk1 hS1 => ?_)
  obtain ⟨rfl, rfl⟩ := hw
  rw [ht] at hB
  exact kk H1 locs1 ls hB hS1 hl
theorem aw_callVv (C : Cx p R s m args meth c own cc nL ret ts D ad cy tb cells slots) {y : MethodName} {ws : List Cond} {rm : Room} {ix maxL n : Nat} {bytes : ByteArray} {rt : Option FieldType} {As rest : List Value} {h0 : AH}  {k ci N : Nat} {Cn : String} {T : u_T} (hk : kd k = ci) (hc7 : ci < 7) (hcl : vwCl[ci]? = some (Cn, T, N)) (hM : Kv l y ws rm D ad cy tb (.ref (ad k) :: As) h h0) (cw : (∀ w ∈ ts, w.before args s = true) → (∀ w ∈ nests, va_Nw w s) → CallW R s args own Cn ix y bytes maxL rt ws rm 0 0 n) (hst : st = As.reverse ++ .ref (ad k) :: rest) (hn : As.length = n) (hrm : (rest.map fun v => v.category).sum ≤ 8) (hd : decode cc pc = .ok (.invokevirtual ix, 3)) (kk : AW p l e R s m args below meth c nL D ad cy cells slots Q (pc + 3) lv (rest) h0) : AW p l e R s m args below meth c nL D ad cy cells slots Q pc lv st h := fun H locs ls hP hS hl => by
  subst hst
  obtain ⟨fs, hfs⟩ := ce_ob (ad := ad) (cy := cy) (h := h) hk hc7
  refine va_callv (va_runV (As := As) (rest := rest) ⟨C.1, C.2.1, C.2.2.2.1, C.2.2.2.2.1, C.2.2.2.2.2.1⟩ hM (cw C.2.2.2.2.2.1 C.2.2.2.2.2.2.2.1.2.2.2.2.2) ⟨Pr.blind, va_recv C.2.2.2.2.2.2.2.1.1 hP hcl (by rw [wl_get (kd_lt hk (by omega)), hfs]), (fun U hU hW => ⟨rfl, by rw [hU]; exact hP, Ev.go C.2.2.2.2.2.2.2.1 (fun a h1 h2 => by rw [hU]; exact hS.2.1 a h1 h2) hW⟩)⟩ rfl hn hl.1 rfl (lv_room hrm) hd ⟨C.2.2.2.2.2.2.2.2.2.1, C.2.2.2.2.2.2.2.2.2.2⟩) hS (fun _ _ q => q) (fun _ q => q) (fun u t H1 locs1 ht hvm hw hB hz1 hk1 hS1 => ?_)
  subst hw
  rw [ht] at hB
  exact kk H1 locs1 ls hB hS1 hl
theorem aw_callSv (C : Cx p R s m args meth c own cc nL ret ts D ad cy tb cells slots) {y : MethodName} {ws : List Cond} {rm : Room} {ix maxL n : Nat} {bytes : ByteArray} {rt : Option FieldType} {As rest : List Value} {h0 : AH}  (hM : Kv l y ws rm D ad cy tb (As) h h0) (cw : (∀ w ∈ ts, w.before args s = true) → (∀ w ∈ nests, va_Nw w s) → CallB R s args own ix y bytes maxL rt ws rm 0 0 n ∧ (Cond.static y).before args s = true) (hst : st = As.reverse ++ rest) (hn : As.length = n) (hrm : (rest.map fun v => v.category).sum ≤ 8) (hd : decode cc pc = .ok (.invokestatic ix, 3)) (kk : AW p l e R s m args below meth c nL D ad cy cells slots Q (pc + 3) lv (rest) h0) : AW p l e R s m args below meth c nL D ad cy cells slots Q pc lv st h := fun H locs ls hP hS hl => by
  subst hst
  refine va_callv (va_runS (As := As) (rest := rest) ⟨C.1, C.2.1, C.2.2.2.1, C.2.2.2.2.1, C.2.2.2.2.2.1⟩ hM (cw C.2.2.2.2.2.1 C.2.2.2.2.2.2.2.1.2.2.2.2.2) ⟨Pr.blind, (fun U hU hW => ⟨rfl, by rw [hU]; exact hP, Ev.go C.2.2.2.2.2.2.2.1 (fun a h1 h2 => by rw [hU]; exact hS.2.1 a h1 h2) hW⟩)⟩ rfl hn hl.1 rfl (lv_room hrm) hd ⟨C.2.2.2.2.2.2.2.2.2.1, C.2.2.2.2.2.2.2.2.2.2⟩) hS (fun _ _ q => q) (fun _ q => q) (fun u t H1 locs1 ht hvm hw hB hz1 hk1 hS1 => ?_)
  subst hw
  rw [ht] at hB
  exact kk H1 locs1 ls hB hS1 hl
theorem aw_callSNv (C : Cx p R s m args meth c own cc nL ret ts D ad cy tb cells slots) {y : MethodName} {ws : List Cond} {rm : Room} {ix maxL n : Nat} {bytes : ByteArray} {rt : Option FieldType} {host : String} {As rest : List Value} {h0 : AH}  (hM : Kv l y ws rm D ad cy tb (As) h h0) (cw : (∀ w ∈ ts, w.before args s = true) → (∀ w ∈ nests, va_Nw w s) → va_CN R s args own ix y host bytes maxL rt ws rm 0 0 n ∧ (Cond.static y).before args s = true ∧ True) (hst : st = As.reverse ++ rest) (hn : As.length = n) (hrm : (rest.map fun v => v.category).sum ≤ 8) (hd : decode cc pc = .ok (.invokestatic ix, 3)) (kk : AW p l e R s m args below meth c nL D ad cy cells slots Q (pc + 3) lv (rest) h0) : AW p l e R s m args below meth c nL D ad cy cells slots Q pc lv st h := fun H locs ls hP hS hl => by
  subst hst
  refine va_callv (va_runSN (As := As) (rest := rest) ⟨C.1, C.2.1, C.2.2.2.1, C.2.2.2.2.1, C.2.2.2.2.2.1⟩ hM (cw C.2.2.2.2.2.1 C.2.2.2.2.2.2.2.1.2.2.2.2.2) ⟨Pr.blind, (fun U hU hW => ⟨rfl, by rw [hU]; exact hP, Ev.go C.2.2.2.2.2.2.2.1 (fun a h1 h2 => by rw [hU]; exact hS.2.1 a h1 h2) hW⟩)⟩ rfl hn hl.1 rfl (lv_room hrm) hd ⟨C.2.2.2.2.2.2.2.2.2.1, C.2.2.2.2.2.2.2.2.2.2⟩) hS (fun _ _ q => q) (fun _ q => q) (fun u t H1 locs1 ht hvm hw hB hz1 hk1 hS1 => ?_)
  subst hw
  rw [ht] at hB
  exact kk H1 locs1 ls hB hS1 hl
theorem aw_callVNv (C : Cx p R s m args meth c own cc nL ret ts D ad cy tb cells slots) {y : MethodName} {ws : List Cond} {rm : Room} {ix maxL n : Nat} {bytes : ByteArray} {rt : Option FieldType} {host : String} {As rest : List Value} {h0 : AH}  {k ci N : Nat} {Cn : String} {T : u_T} (hk : kd k = ci) (hc7 : ci < 7) (hcl : vwCl[ci]? = some (Cn, T, N)) (hM : Kv l y ws rm D ad cy tb (.ref (ad k) :: As) h h0) (cw : (∀ w ∈ ts, w.before args s = true) → (∀ w ∈ nests, va_Nw w s) → va_CN R s args own ix y host bytes maxL rt ws rm 0 0 n ∧ (Cond.instanceMethod y).before args s = true ∧ (Cond.selects Cn y y).before args s = true) (hst : st = As.reverse ++ .ref (ad k) :: rest) (hn : As.length = n) (hrm : (rest.map fun v => v.category).sum ≤ 8) (hd : decode cc pc = .ok (.invokevirtual ix, 3)) (kk : AW p l e R s m args below meth c nL D ad cy cells slots Q (pc + 3) lv (rest) h0) : AW p l e R s m args below meth c nL D ad cy cells slots Q pc lv st h := fun H locs ls hP hS hl => by
  subst hst
  obtain ⟨fs, hfs⟩ := ce_ob (ad := ad) (cy := cy) (h := h) hk hc7
  refine va_callv (va_runVN (As := As) (rest := rest) ⟨C.1, C.2.1, C.2.2.2.1, C.2.2.2.2.1, C.2.2.2.2.2.1⟩ hM (cw C.2.2.2.2.2.1 C.2.2.2.2.2.2.2.1.2.2.2.2.2) ⟨Pr.blind, va_recv C.2.2.2.2.2.2.2.1.1 hP hcl (by rw [wl_get (kd_lt hk (by omega)), hfs]), (fun U hU hW => ⟨rfl, by rw [hU]; exact hP, Ev.go C.2.2.2.2.2.2.2.1 (fun a h1 h2 => by rw [hU]; exact hS.2.1 a h1 h2) hW⟩)⟩ rfl hn hl.1 rfl (lv_room hrm) hd ⟨C.2.2.2.2.2.2.2.2.2.1, C.2.2.2.2.2.2.2.2.2.2⟩) hS (fun _ _ q => q) (fun _ q => q) (fun u t H1 locs1 ht hvm hw hB hz1 hk1 hS1 => ?_)
  subst hw
  rw [ht] at hB
  exact kk H1 locs1 ls hB hS1 hl
theorem aw_max (C : Cx p R s m args meth c own cc nL ret ts D ad cy tb cells slots) {ix : Nat} {x y : Int32} {rest : List Value} (w1 : Cond.methodLink own ix Lib.Math.max.name ∈ ts) (w2 : Cond.static Lib.Math.max.name ∈ ts) (w3 : Cond.initialized "java/lang/Math" ∈ ts) (w4 : Cond.code Lib.Math.max.name Lib.Math.max.code 2 (some .int) ∈ ts) (hfr : 1 ≤ R.frames) (hlo : (rest.map fun v => v.category).sum + 13 ≤ R.locals) (hd : decode cc pc = .ok (.invokestatic ix, 3)) (kk : AW p l e R s m args below meth c nL D ad cy cells slots Q (pc + 3) lv (.int (if x < y then y else x) :: rest) h) : AW p l e R s m args below meth c nL D ad cy cells slots Q pc lv (.int y :: .int x :: rest) h := fun H locs ls hP hS hl => va_mmax C.1 C.2.1 (by rw [C.2.2.2.1]; exact hl.1.symm) C.2.2.2.2.1 (C.2.2.2.2.2.1 _ w1) (C.2.2.2.2.2.1 _ w2) (C.2.2.2.2.2.1 _ w3) (C.2.2.2.2.2.1 _ w4) hfr hlo C.2.2.2.2.2.2.2.2.2.1 C.2.2.2.2.2.2.2.2.2.2 hd (kk H locs ls hP hS hl)
def cpOk (sp dp n : Int32) (n0 n1 : Nat) : Bool := decide (0 ≤ sp.toInt ∧ 0 ≤ dp.toInt ∧ 0 ≤ n.toInt ∧ sp.toNatClampNeg + n.toNatClampNeg ≤ n0 ∧ dp.toNatClampNeg + n.toNatClampNeg ≤ n1)
theorem nneg {x : Int32} (hx : 0 ≤ x.toInt) : ¬ x < 0 := by
  rw [Int32.lt_iff_toInt_lt]
  have h0 : (0 : Int32).toInt = 0 := by decide
  omega
theorem aw_copyI (C : Cx p R s m args meth c own cc nL ret ts D ad cy tb cells slots) {ix k1 k2 n1 n2 : Nat} {sp dp n : Int32} {rest : List Value} {α : Type} {B : Option α} {o : α} (h1k : kd k1 = 7) (h1n : ln k1 = n1) (h2k : kd k2 = 7) (h2n : ln k2 = n2) (hf : ck (cpOk sp dp n n1 n2) B = some o) (w1 : Cond.methodLink own ix arraycopyName ∈ ts) (w2 : Cond.native arraycopyName ∈ ts) (w3 : Cond.static arraycopyName ∈ ts) (w4 : Cond.initialized "java/lang/System" ∈ ts) (hfr : 1 ≤ R.frames) (hlo : (rest.map fun v => v.category).sum + (nativeFrameWords "java/lang/System" "arraycopy" 5 + 11) ≤ R.locals) (hd : decode cc pc = .ok (.invokestatic ix, 3)) (kk : B = some o → AW p l e R s m args below meth c nL D ad cy cells slots Q (pc + 3) lv rest (cpI h k1 sp.toNatClampNeg k2 dp.toNatClampNeg n.toNatClampNeg)) : AW p l e R s m args below meth c nL D ad cy cells slots Q pc lv (.int n :: .int dp :: .ref (ad k2) :: .int sp :: .ref (ad k1) :: rest) h := fun H locs ls hP hS hl => by
  obtain ⟨hin, hB⟩ := ck_some hf (by simp)
  subst h1n
  subst h2n
  obtain ⟨b1, b2, b3, b4, b5⟩ := of_decide_eq_true hin
  refine va_copyi C.1 C.2.1 (by rw [C.2.2.2.1]; exact hl.1.symm) C.2.2.2.2.1 (C.2.2.2.2.2.1 _ w1) (C.2.2.2.2.2.1 _ w2) (C.2.2.2.2.2.1 _ w3) (C.2.2.2.2.2.1 _ w4) C.2.2.2.2.2.2.2.1.1 hP (wl_D C.2.2.2.2.2.2.2.2.1) hS k1 k2 0 0 (by rw [wl_get (kd_lt h1k (by decide)), ce_7 h1k]) (by rw [wl_get (kd_lt h2k (by decide)), ce_7 h2k]) rfl rfl rfl (nneg b1) (nneg b2) (nneg b3) b4 b5 (fun _ _ => rfl) hfr hlo hd (fun H locs hP hD hS => ?_)
  rw [wl_set (h := h) (h' := cpI h k1 sp.toNatClampNeg k2 dp.toNatClampNeg n.toNatClampNeg) (kd_lt h2k (by decide)) (fun j hj => cpI_r hj) (fun j hj => rfl) (by rw [ce_7 h2k, cpI_u])] at hP
  exact kk hB H locs ls hP hS hl
theorem aw_copyL (C : Cx p R s m args meth c own cc nL ret ts D ad cy tb cells slots) {ix k1 k2 n1 n2 : Nat} {sp dp n : Int32} {rest : List Value} {α : Type} {B : Option α} {o : α} (h1k : kd k1 = 8) (h1n : ln k1 = n1) (h2k : kd k2 = 8) (h2n : ln k2 = n2) (hf : ck (cpOk sp dp n n1 n2) B = some o) (w1 : Cond.methodLink own ix arraycopyName ∈ ts) (w2 : Cond.native arraycopyName ∈ ts) (w3 : Cond.static arraycopyName ∈ ts) (w4 : Cond.initialized "java/lang/System" ∈ ts) (hfr : 1 ≤ R.frames) (hlo : (rest.map fun v => v.category).sum + (nativeFrameWords "java/lang/System" "arraycopy" 5 + 11) ≤ R.locals) (hd : decode cc pc = .ok (.invokestatic ix, 3)) (kk : B = some o → AW p l e R s m args below meth c nL D ad cy cells slots Q (pc + 3) lv rest (cpL h k1 sp.toNatClampNeg k2 dp.toNatClampNeg n.toNatClampNeg)) : AW p l e R s m args below meth c nL D ad cy cells slots Q pc lv (.int n :: .int dp :: .ref (ad k2) :: .int sp :: .ref (ad k1) :: rest) h := fun H locs ls hP hS hl => by
  obtain ⟨hin, hB⟩ := ck_some hf (by simp)
  subst h1n
  subst h2n
  obtain ⟨b1, b2, b3, b4, b5⟩ := of_decide_eq_true hin
  refine va_copyl C.1 C.2.1 (by rw [C.2.2.2.1]; exact hl.1.symm) C.2.2.2.2.1 (C.2.2.2.2.2.1 _ w1) (C.2.2.2.2.2.1 _ w2) (C.2.2.2.2.2.1 _ w3) (C.2.2.2.2.2.1 _ w4) C.2.2.2.2.2.2.2.1.1 hP (wl_D C.2.2.2.2.2.2.2.2.1) hS k1 k2 1 1 (by rw [wl_get (kd_lt h1k (by decide)), ce_8 h1k]) (by rw [wl_get (kd_lt h2k (by decide)), ce_8 h2k]) rfl rfl rfl (nneg b1) (nneg b2) (nneg b3) b4 b5 (fun _ _ => rfl) hfr hlo hd (fun H locs hP hD hS => ?_)
  rw [wl_set (h := h) (h' := cpL h k1 sp.toNatClampNeg k2 dp.toNatClampNeg n.toNatClampNeg) (kd_lt h2k (by decide)) (fun j hj => rfl) (fun j hj => cpL_r hj) (by rw [ce_8 h2k, cpL_u])] at hP
  exact kk hB H locs ls hP hS hl
end AWR
section AWE
variable {p : Program} {l : Launch} {e : Env} {R : Room} {s : State} {m : MethodId} {args : Array Value} {below : List Frame} {meth : Method} {c : Code}
variable {own : String} {cc : ByteArray} {nL : Nat} {ret : Option FieldType} {ts : List Cond} {D : va_G} {ad : Nat → Nat} {cy : Nat → ClassId} {tb : Nat → Nat} {cells slots : Nat} {Q : State → Prop}
variable {pc : Nat} {lv : List (Nat × Value)} {st : List Value} {h : AH}
theorem aw_iretW (C : Cx p R s m args meth c own cc nL (some .int) ts D ad cy tb 0 0) {x r0 : Int32} {h0 : AH}  (hd : decode cc pc = .ok (.ireturn, 1)) (hf : some (x, h) = some (r0, h0)) : AW p l e R s m args below meth c nL D ad cy 0 0 (Qi D ad cy below args s r0 h0) pc lv [.int x] h := fun H locs ls hP hS hl => by
  cases hf
  exact W.iret C.1 C.2.1 C.2.2.1  (fun t ht hW => ⟨⟨x, h, rfl, ⟨rfl, rfl⟩, by show va_P D vwCl (wl ad cy h) t.heap; rw [ht]; exact hP⟩, hS.F ht⟩) hS.2.2 hd C.2.2.2.2.2.2.1
theorem aw_iretR (C : Cx p R s m args meth c own cc nL (some .int) ts D ad cy tb 0 0) {x r0 : Int32}  (hd : decode cc pc = .ok (.ireturn, 1)) (hf : some x = some r0) : AW p l e R s m args below meth c nL D ad cy 0 0 (Qi D ad cy below args s r0 h) pc lv [.int x] h := fun H locs ls hP hS hl => by
  cases hf
  exact W.iret C.1 C.2.1 C.2.2.1  (fun t ht hW => ⟨⟨x, h, rfl, ⟨rfl, rfl⟩, by show va_P D vwCl (wl ad cy h) t.heap; rw [ht]; exact hP⟩, hS.F ht⟩) hS.2.2 hd C.2.2.2.2.2.2.1
theorem aw_lretW (C : Cx p R s m args meth c own cc nL (some .long) ts D ad cy tb 0 0) {x r0 : Int64} {h0 : AH}  (hd : decode cc pc = .ok (.lreturn, 1)) (hf : some (x, h) = some (r0, h0)) : AW p l e R s m args below meth c nL D ad cy 0 0 (Ql D ad cy below args s r0 h0) pc lv [.long x] h := fun H locs ls hP hS hl => by
  cases hf
  exact W.lret C.1 C.2.1 C.2.2.1  (fun t ht hW => ⟨⟨x, h, rfl, ⟨rfl, rfl⟩, by show va_P D vwCl (wl ad cy h) t.heap; rw [ht]; exact hP⟩, hS.F ht⟩) hS.2.2 hd C.2.2.2.2.2.2.1
theorem aw_lretR (C : Cx p R s m args meth c own cc nL (some .long) ts D ad cy tb 0 0) {x r0 : Int64}  (hd : decode cc pc = .ok (.lreturn, 1)) (hf : some x = some r0) : AW p l e R s m args below meth c nL D ad cy 0 0 (Ql D ad cy below args s r0 h) pc lv [.long x] h := fun H locs ls hP hS hl => by
  cases hf
  exact W.lret C.1 C.2.1 C.2.2.1  (fun t ht hW => ⟨⟨x, h, rfl, ⟨rfl, rfl⟩, by show va_P D vwCl (wl ad cy h) t.heap; rw [ht]; exact hP⟩, hS.F ht⟩) hS.2.2 hd C.2.2.2.2.2.2.1
theorem aw_vret (C : Cx p R s m args meth c own cc nL none ts D ad cy tb 0 0) {h0 : AH}  (hd : decode cc pc = .ok (.return_, 1)) (hf : some h = some h0) : AW p l e R s m args below meth c nL D ad cy 0 0 (Qv D ad cy below args s h0) pc lv [] h := fun H locs ls hP hS hl => by
  cases hf
  exact W.vret C.1 C.2.1 C.2.2.1  (fun t ht hW => ⟨⟨h, rfl, rfl, by show va_P D vwCl (wl ad cy h) t.heap; rw [ht]; exact hP⟩, hS.F ht⟩) hS.2.2 hd C.2.2.2.2.2.2.1
theorem aw_zretR (C : Cx p R s m args meth c own cc nL (some .boolean) ts D ad cy tb 0 0) {x r0 : Int32} (hn : narrow .boolean (.int x) = .int x) (hd : decode cc pc = .ok (.ireturn, 1)) (hf : some x = some r0) : AW p l e R s m args below meth c nL D ad cy 0 0 (Qi D ad cy below args s r0 h) pc lv [.int x] h := fun H locs ls hP hS hl => by
  cases hf
  exact W.zret C.1 C.2.1 C.2.2.1 hn (fun t ht hW => ⟨⟨x, h, rfl, ⟨rfl, rfl⟩, by show va_P D vwCl (wl ad cy h) t.heap; rw [ht]; exact hP⟩, hS.F ht⟩) hS.2.2 hd C.2.2.2.2.2.2.1
theorem W_zret2 {cc : ByteArray} {H : Heap} {locs : List Loc} {Qc : Array Value → State → Outcome → State → Prop} {free : Addr → Prop} {v v2 : Int32} {ty : FieldType} (hexec : p.tables.exec = Jvm.exec) (hb : c.code = cc) (hr : meth.sig.returnType = some ty) (hn : narrow ty (.int v) = .int v2)
    (hq : ∀ t : State, t.heap = H → s.WarmedH t.vm → Qc args s (.returned (some (.int v2))) t) (hf : ∀ q ∈ locs, free q.base)
    {pc : Nat} {ls : Array Slot} (hdg : decode cc pc = .ok (.ireturn, 1)) (hlocks : meth.locks = false) : W p l e R s m args below meth c H locs cells slots (MQ below Qc args s cells slots free) (F0 m pc ls [.int v]) := by
  intro T hT X
  have hlocks : meth.locks = false := hlocks
  obtain ⟨fs, hret, hrun, hended, hW, hframe⟩ := X.leave (v := some (.int v2)) (fun h => by rw [hr] at h; cases h)
  have hmeth' : T.vm.method? m = some meth := X.method'
  refine ⟨T.setFrames fs, ?_, .returned (some (.int v2)), hrun, hended, hq _ hT hW, locs, ⟨⟨_, rfl⟩, hW, hframe⟩, hf⟩
  jvm_step X.here [X.here.top, hexec, hb, hdg, hmeth', hr, hn]
  (try refine ⟨rfl, ?_⟩); (try refine ⟨rfl, ?_⟩)
  first | (intro acts; rw [hret _ acts rfl rfl rfl]) | rw [hret _ _ rfl rfl rfl]
  exact Steps.refl _
theorem aw_zretN (C : Cx p R s m args meth c own cc nL (some .boolean) ts D ad cy tb 0 0) {x r0 : Int32}  (hd : decode cc pc = .ok (.ireturn, 1)) (hf : some (vp_nar .boolean x) = some r0) : AW p l e R s m args below meth c nL D ad cy 0 0 (Qi D ad cy below args s r0 h) pc lv [.int x] h := fun H locs ls hP hS hl => by
  cases hf
  exact W_zret2 C.1 C.2.1 C.2.2.1 (v2 := vp_nar .boolean x) rfl (fun t ht hW => ⟨⟨vp_nar .boolean x, h, rfl, ⟨rfl, rfl⟩, by show va_P D vwCl (wl ad cy h) t.heap; rw [ht]; exact hP⟩, hS.F ht⟩) hS.2.2 hd C.2.2.2.2.2.2.1
theorem met_i {y : MethodName} {ws ws' : List Cond} {rm : Room} {av : List Value} {r0 : Int32} {h0 : AH} (hi : Inj ad) (hy : plainName y.cls = true) (hw : ws = Cond.code y cc nL ret :: ws') (hlen : (lg_sl av).length ≤ nL) (hown : y.cls = own) (hlv : lv_args 0 av = lv)
    (body : ∀ (p : Program) (e : Env) (s : State) (m : MethodId) (args : Array Value) (below : List Frame) (meth : Method) (c : Code), Cx p rm s m args meth c own cc nL ret ws D ad cy tb 0 0 → AW p l e rm s m args below meth c nL D ad cy 0 0 (Qi D ad cy below args s r0 h0) 0 lv [] h) : Ki l y ws rm D ad cy tb av h r0 h0 := by
  refine Met.ofW (cc := cc) (maxL := nL) (ret := ret) hy hw ?_
  intro p e s m args below meth c s₁ B hml hv
  obtain ⟨rfl, hP, hE⟩ := hv
  subst hown
  subst hlv
  have hl := lv_entry av (n := nL) hlen
  rw [lg_entry_eq]
  exact body p e s m _ below meth c ⟨B.exec, B.bytes, B.returns, hml, findClass_of_methodNamed B.named, atoms_spec (ws := ws) B.pre, B.notSynchronized, hE, hi, Nat.zero_le _, Nat.zero_le _⟩ s.heap [] _ hP va_S.rf hl
theorem met_l {y : MethodName} {ws ws' : List Cond} {rm : Room} {av : List Value} {r0 : Int64} {h0 : AH} (hi : Inj ad) (hy : plainName y.cls = true) (hw : ws = Cond.code y cc nL ret :: ws') (hlen : (lg_sl av).length ≤ nL) (hown : y.cls = own) (hlv : lv_args 0 av = lv)
    (body : ∀ (p : Program) (e : Env) (s : State) (m : MethodId) (args : Array Value) (below : List Frame) (meth : Method) (c : Code), Cx p rm s m args meth c own cc nL ret ws D ad cy tb 0 0 → AW p l e rm s m args below meth c nL D ad cy 0 0 (Ql D ad cy below args s r0 h0) 0 lv [] h) : Kl l y ws rm D ad cy tb av h r0 h0 := by
  refine Met.ofW (cc := cc) (maxL := nL) (ret := ret) hy hw ?_
  intro p e s m args below meth c s₁ B hml hv
  obtain ⟨rfl, hP, hE⟩ := hv
  subst hown
  subst hlv
  have hl := lv_entry av (n := nL) hlen
  rw [lg_entry_eq]
  exact body p e s m _ below meth c ⟨B.exec, B.bytes, B.returns, hml, findClass_of_methodNamed B.named, atoms_spec (ws := ws) B.pre, B.notSynchronized, hE, hi, Nat.zero_le _, Nat.zero_le _⟩ s.heap [] _ hP va_S.rf hl
theorem met_v {y : MethodName} {ws ws' : List Cond} {rm : Room} {av : List Value}  {h0 : AH} (hi : Inj ad) (hy : plainName y.cls = true) (hw : ws = Cond.code y cc nL ret :: ws') (hlen : (lg_sl av).length ≤ nL) (hown : y.cls = own) (hlv : lv_args 0 av = lv)
    (body : ∀ (p : Program) (e : Env) (s : State) (m : MethodId) (args : Array Value) (below : List Frame) (meth : Method) (c : Code), Cx p rm s m args meth c own cc nL ret ws D ad cy tb 0 0 → AW p l e rm s m args below meth c nL D ad cy 0 0 (Qv D ad cy below args s  h0) 0 lv [] h) : Kv l y ws rm D ad cy tb av h  h0 := by
  refine Met.ofW (cc := cc) (maxL := nL) (ret := ret) hy hw ?_
  intro p e s m args below meth c s₁ B hml hv
  obtain ⟨rfl, hP, hE⟩ := hv
  subst hown
  subst hlv
  have hl := lv_entry av (n := nL) hlen
  rw [lg_entry_eq]
  exact body p e s m _ below meth c ⟨B.exec, B.bytes, B.returns, hml, findClass_of_methodNamed B.named, atoms_spec (ws := ws) B.pre, B.notSynchronized, hE, hi, Nat.zero_le _, Nat.zero_le _⟩ s.heap [] _ hP va_S.rf hl
end AWE
theorem sw_out {x : Int32} (n : Nat) (hn : n < 2 ^ 31) (h : ∀ j : Nat, j < n → ¬ x = nI j) : x.toInt < 0 ∨ ((n : Int) - 1) < x.toInt := by
  rcases Int.lt_or_le x.toInt 0 with q | q
  · exact Or.inl q
  · rcases Int.lt_or_le ((n : Int) - 1) x.toInt with q2 | q2
    · exact Or.inr q2
    · exfalso
      refine h x.toInt.toNat (by omega) (Int32.toInt_inj.mp ?_)
      rw [nI_toInt (by omega)]
      omega
