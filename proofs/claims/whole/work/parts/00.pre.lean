/-! THE ABSTRACT HEAP: 43 cells by number; ints (and truths) of a cell by slot, longs of a cell by slot -/
abbrev AH : Type := (Nat → Nat → Int32) × (Nat → Nat → Int64)
def sI (h : AH) (k j : Nat) (v : Int32) : AH := (fun a b => if a = k ∧ b = j then v else h.1 a b, h.2)
def sL (h : AH) (k j : Nat) (v : Int64) : AH := (h.1, fun a b => if a = k ∧ b = j then v else h.2 a b)
def cpI (h : AH) (k1 sp k2 dp n : Nat) : AH := (fun a b => if a = k2 then va_cpy (h.1 k1) (h.1 k2) sp dp n b else h.1 a b, h.2)
def cpL (h : AH) (k1 sp k2 dp n : Nat) : AH := (h.1, fun a b => if a = k2 then va_cpy (h.2 k1) (h.2 k2) sp dp n b else h.2 a b)
def nm {α β : Type} (e : α) (f : α → β) : β := f e
def ck {α : Type} (c : Bool) (e : Option α) : Option α := if c then e else none
def inb (i : Int32) (n : Nat) : Bool := decide (0 ≤ i.toInt ∧ i.toInt < n)
theorem inb_in {i : Int32} {n : Nat} (h : inb i n = true) : vp_in i n := vp_in_iff.mpr (by simpa [inb] using h)
theorem ck_some {α : Type} {c : Bool} {e o : Option α} (h : ck c e = o) (ho : o ≠ none) : c = true ∧ e = o := by
  unfold ck at h
  by_cases hc : c = true
  · rw [if_pos hc] at h; exact ⟨hc, h⟩
  · rw [if_neg hc] at h; exact absurd h.symm ho
theorem bind_some {α β : Type} {x : Option β} {f : β → Option α} {o : α} (h : x.bind f = some o) : ∃ y, x = some y ∧ f y = some o := by
  cases x with
  | none => cases h
  | some y => exact ⟨y, rfl, h⟩
def FU : Nat := 1000
theorem nm_ex {α β : Type} {e : α} {f : α → β} {o : β} (hf : nm e f = o) : ∃ y, e = y ∧ f y = o := ⟨e, rfl, hf⟩
def bR {α β : Type} (x : Option β) (f : β → Option α) : Option α := x.bind f
def bW {α β : Type} (x : Option (β × AH)) (f : β → AH → Option α) : Option α := x.bind (fun z => f z.1 z.2)
theorem bR_some {α β : Type} {x : Option β} {f : β → Option α} {o : α} (h : bR x f = some o) : ∃ y, x = some y ∧ f y = some o := bind_some h
theorem bW_some {α β : Type} {x : Option (β × AH)} {f : β → AH → Option α} {o : α} (h : bW x f = some o) : ∃ y h1, x = some (y, h1) ∧ f y h1 = some o := by
  obtain ⟨⟨y, h1⟩, hx, hf⟩ := bind_some h
  exact ⟨y, h1, hx, hf⟩
def kds : List Nat := [5, 4, 8, 7, 4, 8, 7, 2, 7, 8, 8, 0, 7, 1, 7, 7, 7, 7, 9, 7, 10, 3, 3, 3, 3, 8, 8, 8, 8, 6, 7, 9, 9, 9, 7, 7, 7, 9, 7, 7, 7, 8, 8]
def lns : List Nat := [0, 0, 7, 56, 0, 7, 56, 0, 56, 7, 7, 0, 60, 0, 56, 56, 56, 56, 56, 56, 4, 0, 0, 0, 0, 64, 64, 64, 64, 0, 56, 448, 448, 448, 60, 448, 448, 448, 60, 4, 4, 256, 64]
def kd (k : Nat) : Nat := kds.getD k 99
def ln (k : Nat) : Nat := lns.getD k 0
theorem kd_lt {k n : Nat} (h : kd k = n) (hn : n < 99) : k < 43 := by
  rcases Nat.lt_or_ge k 43 with q | q
  · exact q
  · have : kd k = 99 := by
      unfold kd
      rw [List.getD_eq_getElem?_getD, List.getElem?_eq_none (by show kds.length ≤ k; exact q)]
      rfl
    omega
theorem kd_4 {k : Nat} (h : kd k = 4) : k = 1 ∨ k = 4 := by
  have key : ∀ k, k < 43 → kd k = 4 → k = 1 ∨ k = 4 := by decide
  exact key k (kd_lt h (by decide)) h
theorem kd_3 {k : Nat} (h : kd k = 3) : k = 21 ∨ k = 22 ∨ k = 23 ∨ k = 24 := by
  have key : ∀ k, k < 43 → kd k = 3 → k = 21 ∨ k = 22 ∨ k = 23 ∨ k = 24 := by decide
  exact key k (kd_lt h (by decide)) h
theorem kd4a {k : Nat} (h : kd k = 4) : kd (k + 1) = 8 := by rcases kd_4 h with rfl | rfl <;> rfl
theorem kd4b {k : Nat} (h : kd k = 4) : kd (k + 2) = 7 := by rcases kd_4 h with rfl | rfl <;> rfl
theorem ln4a {k : Nat} (h : kd k = 4) : ln (k + 1) = 7 := by rcases kd_4 h with rfl | rfl <;> rfl
theorem ln4b {k : Nat} (h : kd k = 4) : ln (k + 2) = 56 := by rcases kd_4 h with rfl | rfl <;> rfl
theorem kd3a {k : Nat} (h : kd k = 3) : kd (k + 4) = 8 := by rcases kd_3 h with rfl | rfl | rfl | rfl <;> rfl
theorem ln3a {k : Nat} (h : kd k = 3) : ln (k + 4) = 64 := by rcases kd_3 h with rfl | rfl | rfl | rfl <;> rfl
theorem kd_sh {i : Int32} (h : inb i 4 = true) : kd (21 + i.toNatClampNeg) = 3 := by
  obtain ⟨j, hj, rfl⟩ := vp_in_of (inb_in h) (by decide)
  rw [nI_clamp (by omega)]
  rcases (show j = 0 ∨ j = 1 ∨ j = 2 ∨ j = 3 by omega) with rfl | rfl | rfl | rfl <;> rfl

def tabL (j : Nat) : Int32 := ([7, 9, 10, 11, 12, 13, 14, 15, 3, 5, 6, 0, 1, 2, 4, 8] : List Int32).getD j 0
def tabP (j : Nat) : Int32 := ([11, 12, 13, 8, 14, 9, 10, 0, 15, 1, 2, 3, 4, 5, 6, 7] : List Int32).getD j 0
def cpOk (sp dp n : Int32) (n0 n1 : Nat) : Bool := decide (0 ≤ sp.toInt ∧ 0 ≤ dp.toInt ∧ 0 ≤ n.toInt ∧ sp.toNatClampNeg + n.toNatClampNeg ≤ n0 ∧ dp.toNatClampNeg + n.toNatClampNeg ≤ n1)
theorem sI_r {h : AH} {k j i : Nat} {v : Int32} (hi : i ≠ k) : (sI h k j v).1 i = h.1 i := by
  funext b
  simp [sI, hi]
theorem sI_u {h : AH} {k j : Nat} {v : Int32} : (sI h k j v).1 k = upd (h.1 k) j v := by
  funext b
  simp [sI, upd]
theorem sL_r {h : AH} {k j i : Nat} {v : Int64} (hi : i ≠ k) : (sL h k j v).2 i = h.2 i := by
  funext b
  simp [sL, hi]
theorem sL_u {h : AH} {k j : Nat} {v : Int64} : (sL h k j v).2 k = vp_updL (h.2 k) j v := by
  funext b
  simp [sL, vp_updL]
theorem cpI_r {h : AH} {k1 sp k2 dp n i : Nat} (hi : i ≠ k2) : (cpI h k1 sp k2 dp n).1 i = h.1 i := by
  funext b
  simp [cpI, hi]
theorem cpI_u {h : AH} {k1 sp k2 dp n : Nat} : (cpI h k1 sp k2 dp n).1 k2 = va_cpy (h.1 k1) (h.1 k2) sp dp n := by
  funext b
  simp [cpI]
theorem cpL_r {h : AH} {k1 sp k2 dp n i : Nat} (hi : i ≠ k2) : (cpL h k1 sp k2 dp n).2 i = h.2 i := by
  funext b
  simp [cpL, hi]
theorem cpL_u {h : AH} {k1 sp k2 dp n : Nat} : (cpL h k1 sp k2 dp n).2 k2 = va_cpy (h.2 k1) (h.2 k2) sp dp n := by
  funext b
  simp [cpL]
def hI : AH := (fun k => match k with | 1 => (fun j => if j = 0 then 4 else 0) | 4 => (fun j => if j = 0 then 4 else 0) | 21 => (fun j => if j = 0 then 1 else 0) | 22 => (fun j => if j = 0 then 1 else 0) | 23 => (fun j => if j = 0 then 1 else 0) | 24 => (fun j => if j = 0 then 1 else 0) | 29 => (fun j => if j = 0 then 4 else 0) | 39 => upd (upd (upd (upd (fun _ => (0 : Int32)) 0 (-1)) 1 (-1)) 2 (-1)) 3 (-1) | _ => (fun _ => 0), fun _ _ => 0)
