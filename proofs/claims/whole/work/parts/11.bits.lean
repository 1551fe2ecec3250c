/-! PURE: how many bits are set; single bits, rows, columns of a long -/
def mkB (c : Nat) : Nat → Nat
  | 0 => 0
  | k + 1 => c + 256 * mkB c k
def nbB : Nat → (Nat → Nat) → Nat
  | 0, _ => 0
  | k + 1, f => f 0 + 256 * nbB k (fun j => f (j + 1))
theorem land_split {a m c M : Nat} (ha : a < 256) (hc : c < 256) : (a + 256 * m) &&& (c + 256 * M) = (a &&& c) + 256 * (m &&& M) := by
  have h1 : ((a + 256 * m) &&& (c + 256 * M)) % 2 ^ 8 = ((a + 256 * m) % 2 ^ 8) &&& ((c + 256 * M) % 2 ^ 8) := Nat.and_mod_two_pow
  have h2 : ((a + 256 * m) &&& (c + 256 * M)) / 2 ^ 8 = ((a + 256 * m) / 2 ^ 8) &&& ((c + 256 * M) / 2 ^ 8) := Nat.and_div_two_pow
  rw [show (a + 256 * m) % 2 ^ 8 = a by omega, show (c + 256 * M) % 2 ^ 8 = c by omega] at h1
  rw [show (a + 256 * m) / 2 ^ 8 = m by omega, show (c + 256 * M) / 2 ^ 8 = M by omega] at h2
  omega
theorem swa1 : ∀ a, a < 256 → ∀ e, e < 2 → (a / 2 + 128 * e) &&& 85 = (a / 2) &&& 85 := by decide +kernel
theorem swa2 : ∀ a, a < 256 → (a / 2) &&& 85 ≤ a := by decide +kernel
theorem swb1 : ∀ a, a < 256 → ∀ e, e < 4 → (a / 4 + 64 * e) &&& 51 = (a / 4) &&& 51 := by decide +kernel
theorem swc1 : ∀ a, a < 256 → a % 16 ≤ 4 → a / 16 ≤ 4 → ∀ e, e < 5 → (a + a / 16 + 16 * e) &&& 15 = (a + a / 16) &&& 15 := by decide +kernel
theorem swA : ∀ (k : Nat) (f : Nat → Nat), (∀ j, f j < 256) → ((nbB k f / 2) &&& mkB 85 k) ≤ nbB k f ∧ nbB k f - ((nbB k f / 2) &&& mkB 85 k) = nbB k (fun j => f j - ((f j / 2) &&& 85)) := by
  intro k
  induction k with
  | zero => intro f _; simp [nbB, mkB]
  | succ k ih =>
    intro f hf
    obtain ⟨i1, i2⟩ := ih (fun j => f (j + 1)) (fun j => hf (j + 1))
    show ((f 0 + 256 * nbB k (fun j => f (j + 1))) / 2 &&& (85 + 256 * mkB 85 k)) ≤ f 0 + 256 * nbB k (fun j => f (j + 1)) ∧ (f 0 + 256 * nbB k (fun j => f (j + 1))) - ((f 0 + 256 * nbB k (fun j => f (j + 1))) / 2 &&& (85 + 256 * mkB 85 k)) = (f 0 - ((f 0 / 2) &&& 85)) + 256 * nbB k (fun j => f (j + 1) - ((f (j + 1) / 2) &&& 85))
    have h0 := hf 0
    have ha := swa2 (f 0) h0
    generalize f 0 = a at h0 ha ⊢
    rw [← i2]
    generalize nbB k (fun j => f (j + 1)) = m at i1 ⊢
    have e1 : (a + 256 * m) / 2 = (a / 2 + 128 * (m % 2)) + 256 * (m / 2) := by omega
    rw [e1, land_split (by omega) (by decide), swa1 a h0 (m % 2) (by omega)]
    generalize (m / 2 &&& mkB 85 k) = z at i1 ⊢
    generalize (a / 2 &&& 85) = y at ha ⊢
    omega
theorem swB : ∀ (k : Nat) (f : Nat → Nat), (∀ j, f j < 256) → (nbB k f &&& mkB 51 k) + ((nbB k f / 4) &&& mkB 51 k) = nbB k (fun j => (f j &&& 51) + ((f j / 4) &&& 51)) := by
  intro k
  induction k with
  | zero => intro f _; simp [nbB, mkB]
  | succ k ih =>
    intro f hf
    have i2 := ih (fun j => f (j + 1)) (fun j => hf (j + 1))
    show ((f 0 + 256 * nbB k (fun j => f (j + 1))) &&& (51 + 256 * mkB 51 k)) + ((f 0 + 256 * nbB k (fun j => f (j + 1))) / 4 &&& (51 + 256 * mkB 51 k)) = ((f 0 &&& 51) + ((f 0 / 4) &&& 51)) + 256 * nbB k (fun j => (f (j + 1) &&& 51) + ((f (j + 1) / 4) &&& 51))
    have h0 := hf 0
    generalize f 0 = a at h0 ⊢
    rw [← i2]
    generalize nbB k (fun j => f (j + 1)) = m
    have e1 : (a + 256 * m) / 4 = (a / 4 + 64 * (m % 4)) + 256 * (m / 4) := by omega
    rw [e1, land_split (a := a / 4 + 64 * (m % 4)) (m := m / 4) (by omega) (by decide), land_split (a := a) (m := m) h0 (by decide), swb1 a h0 (m % 4) (by omega)]
    omega
theorem nb_mod {k : Nat} {f : Nat → Nat} (h : ∀ j, f j % 16 ≤ 4) : nbB k f % 16 ≤ 4 := by
  cases k with
  | zero => simp [nbB]
  | succ k =>
    show (f 0 + 256 * nbB k _) % 16 ≤ 4
    have := h 0
    omega
theorem swC : ∀ (k : Nat) (f : Nat → Nat), (∀ j, f j < 256 ∧ f j % 16 ≤ 4 ∧ f j / 16 ≤ 4) → (nbB k f + nbB k f / 16) &&& mkB 15 k = nbB k (fun j => (f j + f j / 16) &&& 15) := by
  intro k
  induction k with
  | zero => intro f _; simp [nbB, mkB]
  | succ k ih =>
    intro f hf
    have i2 := ih (fun j => f (j + 1)) (fun j => hf (j + 1))
    show (f 0 + 256 * nbB k (fun j => f (j + 1)) + (f 0 + 256 * nbB k (fun j => f (j + 1))) / 16) &&& (15 + 256 * mkB 15 k) = ((f 0 + f 0 / 16) &&& 15) + 256 * nbB k (fun j => (f (j + 1) + f (j + 1) / 16) &&& 15)
    obtain ⟨h0, h1, h2⟩ := hf 0
    have hm : nbB k (fun j => f (j + 1)) % 16 ≤ 4 := nb_mod (fun j => (hf (j + 1)).2.1)
    generalize f 0 = a at h0 h1 h2 ⊢
    rw [← i2]
    generalize nbB k (fun j => f (j + 1)) = m at hm ⊢
    have e1 : a + 256 * m + (a + 256 * m) / 16 = (a + a / 16 + 16 * (m % 16)) + 256 * (m + m / 16) := by omega
    rw [e1, land_split (by omega) (by decide), swc1 a h0 h1 h2 (m % 16) (by omega)]
theorem nb_of : ∀ (k n : Nat), n < 256 ^ k → nbB k (fun j => n / 256 ^ j % 256) = n := by
  intro k
  induction k with
  | zero => intro n h; rw [Nat.pow_zero] at h; show 0 = n; omega
  | succ k ih =>
    intro n h
    show n / 256 ^ 0 % 256 + 256 * nbB k (fun j => n / 256 ^ (j + 1) % 256) = n
    have e : (fun j => n / 256 ^ (j + 1) % 256) = fun j => (n / 256) / 256 ^ j % 256 := by
      funext j
      rw [Nat.pow_succ, Nat.mul_comm, Nat.div_div_eq_div_mul]
    rw [e, ih (n / 256) (by rw [Nat.pow_succ] at h; omega), Nat.pow_zero, Nat.div_one]
    omega
/-- the bits of a byte -/
theorem pop8a : ∀ b, b < 256 → ((((b - ((b / 2) &&& 85)) &&& 51) + (((b - ((b / 2) &&& 85)) / 4) &&& 51)) < 256 ∧ (((b - ((b / 2) &&& 85)) &&& 51) + (((b - ((b / 2) &&& 85)) / 4) &&& 51)) % 16 ≤ 4 ∧ (((b - ((b / 2) &&& 85)) &&& 51) + (((b - ((b / 2) &&& 85)) / 4) &&& 51)) / 16 ≤ 4) := by decide +kernel
theorem pop8b : ∀ b, b < 256 → (((((b - ((b / 2) &&& 85)) &&& 51) + (((b - ((b / 2) &&& 85)) / 4) &&& 51)) + (((b - ((b / 2) &&& 85)) &&& 51) + (((b - ((b / 2) &&& 85)) / 4) &&& 51)) / 16) &&& 15) = cnt (fun c => b.testBit c) 8 := by decide +kernel
theorem pop8c : ∀ b, b < 256 → b - ((b / 2) &&& 85) < 256 := by decide +kernel
theorem fi1 {a B Y : Nat} (ha : a ≤ 8) (hY : Y = a + 256 * B) : Y / 2 ^ 8 = B := by omega
theorem fi2 {x y C Z : Nat} (hx : x ≤ 16) (hy : y ≤ 16) (hZ : Z = x + 256 * y + 65536 * C) : Z / 2 ^ 16 = C := by omega
theorem fi3 {p q r s D U : Nat} (hp : p ≤ 32) (hq : q ≤ 32) (hr : r ≤ 32) (hs : s ≤ 32) (hU : U = p + 256 * q + 65536 * r + 16777216 * s + 4294967296 * D) : U / 2 ^ 32 = D := by omega
theorem fi4 {u X V : Nat} (h : u ≤ 64) (hV : V = u + 256 * X) : V % 2 ^ 7 = u := by omega
theorem fin64 {a b c d e f g i B1 B2 B3 B4 B5 B6 B7 Y : Nat} (ha : a ≤ 8) (hb : b ≤ 8) (hc : c ≤ 8) (hd : d ≤ 8) (he : e ≤ 8) (hf : f ≤ 8) (hg : g ≤ 8) (hi : i ≤ 8) (h0 : Y = a + 256 * B1) (h1 : B1 = b + 256 * B2) (h2 : B2 = c + 256 * B3) (h3 : B3 = d + 256 * B4) (h4 : B4 = e + 256 * B5) (h5 : B5 = f + 256 * B6) (h6 : B6 = g + 256 * B7) (h7 : B7 = i) :
    Y < 2 ^ 60 ∧ ((Y + Y / 2 ^ 8 + (Y + Y / 2 ^ 8) / 2 ^ 16) + (Y + Y / 2 ^ 8 + (Y + Y / 2 ^ 8) / 2 ^ 16) / 2 ^ 32) % 2 ^ 7 = a + b + c + d + e + f + g + i := by
  have g1 := fi1 ha h0
  have p6 : B6 ≤ 2056 := by clear h0 h1 h2 h3 h4 h5 g1; omega
  have p5 : B5 ≤ 526344 := by clear h0 h1 h2 h3 h4 h6 h7 g1; omega
  have p4 : B4 ≤ 134744072 := by clear h0 h1 h2 h3 h5 h6 h7 g1 p6; omega
  have p3 : B3 ≤ 34494482440 := by clear h0 h1 h2 h4 h5 h6 h7 g1 p6 p5; omega
  have p2 : B2 ≤ 8830587504648 := by clear h0 h1 h3 h4 h5 h6 h7 g1 p6 p5 p4; omega
  have p1 : B1 ≤ 2260630401189896 := by clear h0 h2 h3 h4 h5 h6 h7 g1 p6 p5 p4 p3; omega
  have p0 : Y ≤ 578721382704613384 := by clear h1 h2 h3 h4 h5 h6 h7 g1 p6 p5 p4 p3 p2; omega
  have y1 : Y + B1 = (a + b) + 256 * (b + c) + 65536 * (B2 + B3) := by clear h3 h4 h5 h6 h7 g1 p0 p1 p2 p3 p4 p5 p6 ha hb hc hd he hf hg hi; omega
  have g2 := fi2 (x := a + b) (y := b + c) (C := B2 + B3) (Z := Y + Y / 2 ^ 8) (Nat.add_le_add ha hb) (Nat.add_le_add hb hc) (by rw [g1]; exact y1)
  have q0 : Y = a + 256 * b + 65536 * c + 16777216 * d + 4294967296 * B4 := by clear h4 h5 h6 h7 g1 g2 y1 p0 p1 p2 p3 p4 p5 p6 ha hb hc hd he hf hg hi; omega
  have q1 : B1 = b + 256 * c + 65536 * d + 16777216 * e + 4294967296 * B5 := by clear q0 h0 h5 h6 h7 g1 g2 y1 p0 p1 p2 p3 p4 p5 p6 ha hb hc hd he hf hg hi; omega
  have q2 : B2 = c + 256 * d + 65536 * e + 16777216 * f + 4294967296 * B6 := by clear q0 q1 h0 h1 h6 h7 g1 g2 y1 p0 p1 p2 p3 p4 p5 p6 ha hb hc hd he hf hg hi; omega
  have q3 : B3 = d + 256 * e + 65536 * f + 16777216 * g + 4294967296 * B7 := by clear q0 q1 q2 h0 h1 h2 h7 g1 g2 y1 p0 p1 p2 p3 p4 p5 p6 ha hb hc hd he hf hg hi; omega
  have y2 : Y + B1 + (B2 + B3) = (a + b + c + d) + 256 * (b + c + d + e) + 65536 * (c + d + e + f) + 16777216 * (d + e + f + g) + 4294967296 * (B4 + B5 + B6 + B7) := by
    clear h0 h1 h2 h3 h4 h5 h6 h7 g1 g2 y1 p0 p1 p2 p3 p4 p5 p6 ha hb hc hd he hf hg hi
    omega
  have g3 := fi3 (p := a + b + c + d) (q := b + c + d + e) (r := c + d + e + f) (s := d + e + f + g) (D := B4 + B5 + B6 + B7) (U := Y + Y / 2 ^ 8 + (Y + Y / 2 ^ 8) / 2 ^ 16) (Nat.add_le_add (Nat.add_le_add (Nat.add_le_add ha hb) hc) hd) (Nat.add_le_add (Nat.add_le_add (Nat.add_le_add hb hc) hd) he) (Nat.add_le_add (Nat.add_le_add (Nat.add_le_add hc hd) he) hf) (Nat.add_le_add (Nat.add_le_add (Nat.add_le_add hd he) hf) hg) (by rw [g2, g1]; exact y2)
  have y3 : B4 + B5 + B6 + B7 = (e + f + g + i) + 256 * (B5 + B6 + B7) := by clear q0 q1 q2 q3 y2 h0 h1 h2 h3 g1 g2 g3 y1 p0 p1 p2 p3 p4 p5 p6 ha hb hc hd he hf hg hi; omega
  refine ⟨by clear q0 q1 q2 q3 y1 y2 y3 g1 g2 g3 h0 h1 h2 h3 h4 h5 h6 h7; omega, fi4 (X := (b + c + d + e) + 256 * (c + d + e + f) + 65536 * (d + e + f + g) + 16777216 * (B4 + B5 + B6 + B7) + (B5 + B6 + B7)) (Nat.add_le_add (Nat.add_le_add (Nat.add_le_add (Nat.add_le_add (Nat.add_le_add (Nat.add_le_add (Nat.add_le_add ha hb) hc) hd) he) hf) hg) hi) ?_⟩
  rw [g3, g2, g1, y2]
  generalize B4 + B5 + B6 + B7 = Dq at y3 ⊢
  generalize B5 + B6 + B7 = Eq at y3 ⊢
  clear q0 q1 q2 q3 y2 g1 g2 g3 h0 h1 h2 h3 h4 h5 h6 h7 y1 p0 p1 p2 p3 p4 p5 p6 ha hb hc hd he hf hg hi
  omega
theorem cnt64 (p : Nat → Bool) : cnt p 64 = cnt p 8 + cnt (fun j => p (8 + j)) 8 + cnt (fun j => p (16 + j)) 8 + cnt (fun j => p (24 + j)) 8 + cnt (fun j => p (32 + j)) 8 + cnt (fun j => p (40 + j)) 8 + cnt (fun j => p (48 + j)) 8 + cnt (fun j => p (56 + j)) 8 := by
  rw [show (64 : Nat) = 56 + 8 from rfl, cnt_add, show (56 : Nat) = 48 + 8 from rfl, cnt_add, show (48 : Nat) = 40 + 8 from rfl, cnt_add, show (40 : Nat) = 32 + 8 from rfl, cnt_add, show (32 : Nat) = 24 + 8 from rfl, cnt_add, show (24 : Nat) = 16 + 8 from rfl, cnt_add, show (16 : Nat) = 8 + 8 from rfl, cnt_add]
theorem byte_bit (n j c : Nat) (hc : c < 8) : (n / 256 ^ j % 256).testBit c = n.testBit (8 * j + c) := by
  rw [show (256 : Nat) ^ j = 2 ^ (8 * j) by rw [show (256 : Nat) = 2 ^ 8 from rfl, ← Nat.pow_mul], show (256 : Nat) = 2 ^ 8 from rfl, Nat.testBit_mod_two_pow, Nat.testBit_div_two_pow, decide_eq_true hc, Bool.true_and, Nat.add_comm]
theorem T_ushr (x : Int64) (s : UInt64) (k : Nat) (hs : (s.toBitVec % 64).toNat = k) : (x.toUInt64 >>> s).toInt64.toBitVec.toNat = x.toBitVec.toNat / 2 ^ k := by
  show (x.toBitVec >>> (s.toBitVec % 64)).toNat = _
  rw [BitVec.ushiftRight_eq', BitVec.toNat_ushiftRight, hs, Nat.shiftRight_eq_div_pow]
theorem T_add {x y : Int64} {a b : Nat} (hx : x.toBitVec.toNat = a) (hy : y.toBitVec.toNat = b) (h : a + b < 2 ^ 64) : (x + y).toBitVec.toNat = a + b := by
  show (x.toBitVec + y.toBitVec).toNat = _
  rw [BitVec.toNat_add_of_lt (by rw [hx, hy]; exact h), hx, hy]
theorem T_sub {x y : Int64} {a b : Nat} (hx : x.toBitVec.toNat = a) (hy : y.toBitVec.toNat = b) (h : b ≤ a) : (x - y).toBitVec.toNat = a - b := by
  show (x.toBitVec - y.toBitVec).toNat = _
  rw [BitVec.toNat_sub, hx, hy]
  have := x.toBitVec.isLt
  omega
theorem T_and {x y : Int64} {a b : Nat} (hx : x.toBitVec.toNat = a) (hy : y.toBitVec.toNat = b) : (x &&& y).toBitVec.toNat = a &&& b := by
  show (x.toBitVec &&& y.toBitVec).toNat = _
  rw [BitVec.toNat_and, hx, hy]
theorem T_i32 (x : Int64) : x.toInt32.toBitVec.toNat = x.toBitVec.toNat % 2 ^ 32 := by
  show (x.toBitVec.signExtend 32).toNat = _
  rw [BitVec.signExtend_eq_setWidth_of_le _ (by decide), BitVec.toNat_setWidth]
theorem bdq {x y : Nat} (hx : x ≤ mkB 51 8) (hy : y ≤ mkB 51 8) : x + y < 2 ^ 63 := by
  have q3 : mkB 51 8 = 3689348814741910323 := by decide
  omega
theorem bd4 {Y : Nat} (h : Y < 2 ^ 60) : Y + Y / 2 ^ 8 < 2 ^ 61 := by omega
theorem bd5 {Z : Nat} (h : Z < 2 ^ 61) : Z + Z / 2 ^ 16 < 2 ^ 62 := by omega
theorem bd6 {Z : Nat} (h : Z < 2 ^ 62) : Z + Z / 2 ^ 32 < 2 ^ 63 := by omega
theorem bd7 {Z : Nat} (h : Z < 2 ^ 63) : Z + Z / 2 ^ 4 < 2 ^ 64 := by omega
theorem up64 {Z : Nat} (h : Z < 2 ^ 63) : Z < 2 ^ 64 := by omega
theorem up61 {Z : Nat} (h : Z < 2 ^ 61) : Z < 2 ^ 64 := by omega
theorem up62 {Z : Nat} (h : Z < 2 ^ 62) : Z < 2 ^ 64 := by omega
/-- Long.bitCount -/
theorem pop64 (h : AH) (x : Int64) : fJ13_bitCount_95d88 h x = some (nI (cnt (fun j => x.toBitVec.getLsbD j) 64)) := by
  have hx : x.toBitVec.toNat < 256 ^ 8 := x.toBitVec.isLt
  have h0 := nb_of 8 _ hx
  obtain ⟨f, hf⟩ : ∃ f : Nat → Nat, f = fun j => x.toBitVec.toNat / 256 ^ j % 256 := ⟨_, rfl⟩
  rw [← hf] at h0
  have hb : ∀ j, f j < 256 := fun j => by rw [hf]; exact Nat.mod_lt _ (by decide)
  obtain ⟨a1, a2⟩ := swA 8 f hb
  have b2 := swB 8 (fun j => f j - ((f j / 2) &&& 85)) (fun j => pop8c _ (hb j))
  have c2 := swC 8 (fun j => ((f j - ((f j / 2) &&& 85)) &&& 51) + (((f j - ((f j / 2) &&& 85)) / 4) &&& 51)) (fun j => pop8a _ (hb j))
  have c3 : (fun j => (((f j - ((f j / 2) &&& 85)) &&& 51) + (((f j - ((f j / 2) &&& 85)) / 4) &&& 51) + (((f j - ((f j / 2) &&& 85)) &&& 51) + (((f j - ((f j / 2) &&& 85)) / 4) &&& 51)) / 16) &&& 15) = fun j => cnt (fun c => (f j).testBit c) 8 := by
    funext j
    exact pop8b _ (hb j)
  rw [c3] at c2
  unfold fJ13_bitCount_95d88
  simp only [nm_eq]
  obtain ⟨v1, e1⟩ : ∃ v, v = x - (((x.toUInt64 >>> ((1 : Int32).toInt64.toUInt64 &&& Int64.toUInt64 63)).toInt64) &&& 6148914691236517205) := ⟨_, rfl⟩
  rw [← e1]
  have t1 : v1.toBitVec.toNat = nbB 8 (fun j => f j - ((f j / 2) &&& 85)) := by
    rw [e1, ← a2]
    refine T_sub h0.symm (T_and (b := mkB 85 8) ?_ (by decide)) a1
    rw [T_ushr _ _ 1 (by decide), h0]
  obtain ⟨v2, e2⟩ : ∃ v, v = (v1 &&& 3689348814741910323) + (((v1.toUInt64 >>> ((2 : Int32).toInt64.toUInt64 &&& Int64.toUInt64 63)).toInt64) &&& 3689348814741910323) := ⟨_, rfl⟩
  rw [← e2]
  have t2 : v2.toBitVec.toNat = nbB 8 (fun j => ((f j - ((f j / 2) &&& 85)) &&& 51) + (((f j - ((f j / 2) &&& 85)) / 4) &&& 51)) := by
    rw [e2, ← b2]
    refine T_add (T_and (b := mkB 51 8) t1 (by decide)) (T_and (b := mkB 51 8) ?_ (by decide)) ?_
    · rw [T_ushr _ _ 2 (by decide), t1]
    · exact up64 (bdq Nat.and_le_right Nat.and_le_right)
  obtain ⟨v3, e3⟩ : ∃ v, v = (v2 + ((v2.toUInt64 >>> ((4 : Int32).toInt64.toUInt64 &&& Int64.toUInt64 63)).toInt64)) &&& 1085102592571150095 := ⟨_, rfl⟩
  rw [← e3]
  have l2 : v2.toBitVec.toNat < 2 ^ 63 := by
    rw [t2, ← b2]
    exact bdq Nat.and_le_right Nat.and_le_right
  have t3 : v3.toBitVec.toNat = nbB 8 (fun j => cnt (fun c => (f j).testBit c) 8) := by
    rw [e3, ← c2, ← t2]
    refine T_and (b := mkB 15 8) (T_add rfl ?_ ?_) (by decide)
    · rw [T_ushr _ _ 4 (by decide)]
    · exact bd7 l2
  have hg : ∀ j, cnt (fun c => (f j).testBit c) 8 ≤ 8 := fun j => cnt_le _ 8
  have F := fin64 (Y := v3.toBitVec.toNat) (hg 0) (hg 1) (hg 2) (hg 3) (hg 4) (hg 5) (hg 6) (hg 7) t3 rfl rfl rfl rfl rfl rfl rfl
  obtain ⟨f1, f2⟩ := F
  generalize hY : v3.toBitVec.toNat = Y at f1 f2
  have t4 : (v3 + ((v3.toUInt64 >>> ((8 : Int32).toInt64.toUInt64 &&& Int64.toUInt64 63)).toInt64)).toBitVec.toNat = Y + Y / 2 ^ 8 := T_add hY (by rw [T_ushr _ _ 8 (by decide), hY]) (up61 (bd4 f1))
  generalize (v3 + ((v3.toUInt64 >>> ((8 : Int32).toInt64.toUInt64 &&& Int64.toUInt64 63)).toInt64)) = v4 at t4 ⊢
  have t5 : (v4 + ((v4.toUInt64 >>> ((16 : Int32).toInt64.toUInt64 &&& Int64.toUInt64 63)).toInt64)).toBitVec.toNat = Y + Y / 2 ^ 8 + (Y + Y / 2 ^ 8) / 2 ^ 16 := T_add t4 (by rw [T_ushr _ _ 16 (by decide), t4]) (up62 (bd5 (bd4 f1)))
  generalize (v4 + ((v4.toUInt64 >>> ((16 : Int32).toInt64.toUInt64 &&& Int64.toUInt64 63)).toInt64)) = v5 at t5 ⊢
  have t6 : (v5 + ((v5.toUInt64 >>> ((32 : Int32).toInt64.toUInt64 &&& Int64.toUInt64 63)).toInt64)).toBitVec.toNat = (Y + Y / 2 ^ 8 + (Y + Y / 2 ^ 8) / 2 ^ 16) + (Y + Y / 2 ^ 8 + (Y + Y / 2 ^ 8) / 2 ^ 16) / 2 ^ 32 := T_add t5 (by rw [T_ushr _ _ 32 (by decide), t5]) (up64 (bd6 (bd5 (bd4 f1))))
  generalize (v5 + ((v5.toUInt64 >>> ((32 : Int32).toInt64.toUInt64 &&& Int64.toUInt64 63)).toInt64)) = v6 at t6 ⊢
  rw [pk_and v6.toInt32 (m := 127) 7 (by decide), T_i32, t6, Nat.mod_mod_of_dvd _ (by decide), f2]
  congr 2
  rw [cnt64]
  have key : ∀ j, cnt (fun c => (f j).testBit c) 8 = cnt (fun c => x.toBitVec.getLsbD (8 * j + c)) 8 := fun j => cnt_cong (fun c hc => by rw [hf]; show (x.toBitVec.toNat / 256 ^ j % 256).testBit c = _; rw [byte_bit _ _ _ hc]; rfl)
  rw [key 0, key 1, key 2, key 3, key 4, key 5, key 6, key 7]
  simp only [Nat.mul_zero, Nat.zero_add]
/-- Integer.bitCount of a byte -/
def bc32 (a0 : Int32) : Int32 :=
  let v1 := a0 - (((a0.toUInt32 >>> ((1 : Int32).toUInt32 &&& Int32.toUInt32 31)).toInt32) &&& 1431655765)
  let v2 := (v1 &&& 858993459) + (((v1.toUInt32 >>> ((2 : Int32).toUInt32 &&& Int32.toUInt32 31)).toInt32) &&& 858993459)
  let v3 := (v2 + ((v2.toUInt32 >>> ((4 : Int32).toUInt32 &&& Int32.toUInt32 31)).toInt32)) &&& 252645135
  let v4 := v3 + ((v3.toUInt32 >>> ((8 : Int32).toUInt32 &&& Int32.toUInt32 31)).toInt32)
  let v5 := v4 + ((v4.toUInt32 >>> ((16 : Int32).toUInt32 &&& Int32.toUInt32 31)).toInt32)
  v5 &&& 63
theorem bc32_ok : ∀ n, n < 256 → bc32 (nI n) = nI (cnt (fun c => n.testBit c) 8) := by decide +kernel
theorem pop8 (h : AH) {n : Nat} (hn : n < 256) : fJ6_bitCount_0f7a4 h (nI n) = some (nI (cnt (fun c => n.testBit c) 8)) := by
  rw [← bc32_ok n hn]
  rfl
/-- one bit of a long -/
theorem amt : ∀ p, p < 64 → ((((nI p).toInt64.toUInt64 &&& Int64.toUInt64 63)).toBitVec % 64).toNat = p := by decide +kernel
theorem getBit (x : Int64) {p : Nat} (hp : p < 64) : (((x.toUInt64 >>> ((nI p).toInt64.toUInt64 &&& Int64.toUInt64 63)).toInt64 : Int64).toInt32) &&& 1 = b2i (x.toBitVec.getLsbD p) := by
  rw [pk_and _ (m := 1) 1 (by decide), T_i32, T_ushr _ _ p (amt p hp), Nat.mod_mod_of_dvd _ (by decide)]
  rw [← BitVec.testBit_toNat, Nat.testBit_eq_decide_div_mod_eq]
  rcases (show x.toBitVec.toNat / 2 ^ p % 2 ^ 1 = 0 ∨ x.toBitVec.toNat / 2 ^ p % 2 ^ 1 = 1 by omega) with q | q
  · rw [q]; rfl
  · rw [q]; rfl
/-- a row of a long -/
theorem getRow (x : Int64) {r : Nat} (hr : r < 8) : (((x.toUInt64 >>> ((nI (8 * r)).toInt64.toUInt64 &&& Int64.toUInt64 63)).toInt64 : Int64).toInt32) &&& 255 = nI (x.toBitVec.toNat / 2 ^ (8 * r) % 256) := by
  rw [pk_and _ (m := 255) 8 (by decide), T_i32, T_ushr _ _ (8 * r) (amt _ (by omega)), Nat.mod_mod_of_dvd _ (by decide)]
theorem row_bit (x : Int64) (r c : Nat) (hc : c < 8) : (x.toBitVec.toNat / 2 ^ (8 * r) % 256).testBit c = x.toBitVec.getLsbD (8 * r + c) := by
  rw [show (256 : Nat) = 2 ^ 8 from rfl, Nat.testBit_mod_two_pow, Nat.testBit_div_two_pow, decide_eq_true hc, Bool.true_and, Nat.add_comm]
  rfl
