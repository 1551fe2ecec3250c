/-! PURE: numbers, loops, counts -/
def b2i (b : Bool) : Int32 := if b then 1 else 0
def cnt (p : Nat → Bool) : Nat → Nat
  | 0 => 0
  | n + 1 => cnt p n + (if p n then 1 else 0)
theorem cnt_le (p : Nat → Bool) (n : Nat) : cnt p n ≤ n := by
  induction n with
  | zero => exact Nat.le_refl 0
  | succ n ih =>
    show cnt p n + _ ≤ n + 1
    by_cases h : p n = true
    · rw [if_pos h]; omega
    · rw [if_neg h]; omega
theorem cnt_cong {p q : Nat → Bool} {n : Nat} (h : ∀ j, j < n → p j = q j) : cnt p n = cnt q n := by
  induction n with
  | zero => rfl
  | succ n ih =>
    show cnt p n + _ = cnt q n + _
    rw [ih (fun j hj => h j (by omega)), h n (by omega)]
theorem cnt_add (p : Nat → Bool) (a b : Nat) : cnt p (a + b) = cnt p a + cnt (fun j => p (a + j)) b := by
  induction b with
  | zero => rfl
  | succ b ih =>
    show cnt p (a + b) + (if p (a + b) then 1 else 0) = cnt p a + (cnt (fun j => p (a + j)) b + (if p (a + b) then 1 else 0))
    rw [ih]
    omega
theorem cnt_none {p : Nat → Bool} {n : Nat} (h : ∀ j, j < n → p j = false) : cnt p n = 0 := by
  induction n with
  | zero => rfl
  | succ n ih =>
    show cnt p n + _ = 0
    rw [ih (fun j hj => h j (by omega)), h n (by omega)]
    rfl
theorem cnt_mono (p : Nat → Bool) {a b : Nat} (h : a ≤ b) : cnt p a ≤ cnt p b := by
  obtain ⟨d, rfl⟩ : ∃ d, b = a + d := ⟨b - a, by omega⟩
  rw [cnt_add]
  omega
/-- a loop that counts i from its start up to N: f fuel state, with an invariant -/
theorem linv {α β : Type} (f : Nat → β → Option α) (Iv : Nat → β → Prop) (N : Nat) (P : Option α → Prop)
    (step : ∀ n i s, i < N → Iv i s → ∃ s', Iv (i + 1) s' ∧ f (n + 1) s = f n s') (ex : ∀ n s, Iv N s → P (f (n + 1) s)) :
    ∀ (d i fuel : Nat) (s : β), i + d = N → d < fuel → Iv i s → P (f fuel s) := by
  intro d
  induction d with
  | zero =>
    intro i fuel s hi hf h
    obtain ⟨n, rfl⟩ : ∃ n, fuel = n + 1 := ⟨fuel - 1, by omega⟩
    obtain rfl : i = N := by omega
    exact ex n s h
  | succ d ih =>
    intro i fuel s hi hf h
    obtain ⟨n, rfl⟩ : ∃ n, fuel = n + 1 := ⟨fuel - 1, by omega⟩
    obtain ⟨s', h', e⟩ := step n i s (by omega) h
    rw [e]
    exact ih (i + 1) n s' (by omega) (by omega) h'
/-- .. whose state at i is known -/
theorem lup {α β : Type} (f : Nat → β → Option α) (S : Nat → β) (N : Nat) {out : Option α}
    (step : ∀ n i, i < N → f (n + 1) (S i) = f n (S (i + 1))) (ex : ∀ n, f (n + 1) (S N) = out) (i fuel : Nat) (hi : i ≤ N) (hf : N - i < fuel) : f fuel (S i) = out :=
  linv f (fun i s => s = S i) N (fun o => o = out) (fun n i s h e => ⟨S (i + 1), rfl, by rw [e]; exact step n i h⟩) (fun n s e => by rw [e]; exact ex n) (N - i) i fuel (S i) (by omega) hf rfl
theorem FU_lt {d : Nat} (h : d < 1000) : d < FU := h
theorem nI_ltE {a b : Nat} (ha : a < 2 ^ 31) (hb : b < 2 ^ 31) : (nI a < nI b) = (a < b) := propext (nI_ltI ha hb)
theorem nI_leE {a b : Nat} (ha : a < 2 ^ 31) (hb : b < 2 ^ 31) : (nI a ≤ nI b) = (a ≤ b) := propext (nI_leI ha hb)
theorem nI_eqE {a b : Nat} (ha : a < 2 ^ 31) (hb : b < 2 ^ 31) : (nI a = nI b) = (a = b) := propext (nI_eq ha hb)
theorem inb_nI {n m : Nat} (h : n < 2 ^ 31) : inb (nI n) m = decide (n < m) := by
  unfold inb
  rw [nI_toInt h]
  apply decide_eq_decide.mpr
  omega
theorem ck_in {α : Type} {n m : Nat} {e : Option α} (h : n < m) (hm : m < 2 ^ 31) : ck (inb (nI n) m) e = e := by
  rw [inb_nI (by omega), decide_eq_true h]
  rfl
theorem ck_out {α : Type} {c : Bool} {e : Option α} (h : c = false) : ck c e = none := by
  rw [h]
  rfl
theorem nm_eq {α β : Type} (e : α) (f : α → β) : nm e f = f e := rfl
theorem bR_s {α β : Type} (x : β) (f : β → Option α) : bR (some x) f = f x := rfl
theorem bW_s {α β : Type} (x : β) (h : AH) (f : β → AH → Option α) : bW (some (x, h)) f = f x h := rfl
theorem shr3 {n : Nat} (h : n < 2 ^ 31) : nI n >>> ((3 : Int32) &&& 31) = nI (n / 8) := pk_shrN h _ 3 (by decide)
theorem shr6 {n : Nat} (h : n < 2 ^ 31) : nI n >>> ((6 : Int32) &&& 31) = nI (n / 64) := pk_shrN h _ 6 (by decide)
theorem and7 {n : Nat} (h : n < 2 ^ 32) : nI n &&& 7 = nI (n % 8) := pk_andN h 3 (by decide)
theorem and1 {n : Nat} (h : n < 2 ^ 32) : nI n &&& 1 = nI (n % 2) := pk_andN h 1 (by decide)
theorem and15 {n : Nat} (h : n < 2 ^ 32) : nI n &&& 15 = nI (n % 16) := pk_andN h 4 (by decide)
theorem and63 {n : Nat} (h : n < 2 ^ 32) : nI n &&& 63 = nI (n % 64) := pk_andN h 6 (by decide)
theorem and127 {n : Nat} (h : n < 2 ^ 32) : nI n &&& 127 = nI (n % 128) := pk_andN h 7 (by decide)
/-- an int between two small bounds is a small natural -/
theorem int_of {x : Int32} {a b : Nat} (ha : a < 2 ^ 31) (hb : b < 2 ^ 31) (h1 : ¬ x < nI a) (h2 : ¬ nI b < x) : ∃ n, a ≤ n ∧ n ≤ b ∧ x = nI n := by
  rw [Int32.lt_iff_toInt_lt, nI_toInt ha] at h1
  rw [Int32.lt_iff_toInt_lt, nI_toInt hb] at h2
  refine ⟨x.toInt.toNat, by omega, by omega, Int32.toInt_inj.mp ?_⟩
  rw [nI_toInt (by omega)]
  omega
