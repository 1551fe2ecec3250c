/-! PURE: ranges of arguments; what class and reference hold -/
def rg (x : Int32) (a b : Nat) : Bool := decide ((a : Int) ≤ x.toInt ∧ x.toInt ≤ (b : Int))
theorem rg_n {x : Int32} {a b : Nat} (hb : b < 2 ^ 31) (h : rg x a b = true) : ∃ n, a ≤ n ∧ n ≤ b ∧ x = nI n := by
  unfold rg at h
  have h := of_decide_eq_true h
  refine ⟨x.toInt.toNat, by omega, by omega, Int32.toInt_inj.mp ?_⟩
  rw [nI_toInt (by omega)]
  omega
theorem rg_t {n a b : Nat} (hn : n < 2 ^ 31) (h1 : a ≤ n) (h2 : n ≤ b) : rg (nI n) a b = true := by
  unfold rg
  rw [nI_toInt hn]
  exact decide_eq_true (by omega)
theorem rg_two {x : Int32} {a b : Nat} (ha : a < 2 ^ 31) (hb : b < 2 ^ 31) : (if x < nI a then some 0 else if nI b < x then some 0 else some (1 : Int32)) = some (b2i (rg x a b)) := by
  have e1 : x < nI a ↔ x.toInt < (a : Int) := by rw [Int32.lt_iff_toInt_lt, nI_toInt ha]
  have e2 : nI b < x ↔ (b : Int) < x.toInt := by rw [Int32.lt_iff_toInt_lt, nI_toInt hb]
  unfold rg
  by_cases h1 : x < nI a
  · have := e1.mp h1
    rw [if_pos h1, decide_eq_false (by omega)]; rfl
  · have h1' : ¬ x.toInt < (a : Int) := fun q => h1 (e1.mpr q)
    rw [if_neg h1]
    by_cases h2 : nI b < x
    · have := e2.mp h2
      rw [if_pos h2, decide_eq_false (by omega)]; rfl
    · have h2' : ¬ (b : Int) < x.toInt := fun q => h2 (e2.mpr q)
      rw [if_neg h2, decide_eq_true (by omega)]; rfl
theorem rg_twoU {x : Int32} {a b : Nat} (ha : a < 2 ^ 31) (hb : b + 1 < 2 ^ 31) : (if x < nI a then some 0 else if nI (b + 1) ≤ x then some 0 else some (1 : Int32)) = some (b2i (rg x a b)) := by
  have e1 : x < nI a ↔ x.toInt < (a : Int) := by rw [Int32.lt_iff_toInt_lt, nI_toInt ha]
  have e2 : nI (b + 1) ≤ x ↔ ((b + 1 : Nat) : Int) ≤ x.toInt := by rw [Int32.le_iff_toInt_le, nI_toInt hb]
  unfold rg
  by_cases h1 : x < nI a
  · have := e1.mp h1
    rw [if_pos h1, decide_eq_false (by omega)]; rfl
  · have h1' : ¬ x.toInt < (a : Int) := fun q => h1 (e1.mpr q)
    rw [if_neg h1]
    by_cases h2 : nI (b + 1) ≤ x
    · have := e2.mp h2
      rw [if_pos h2, decide_eq_false (by omega)]; rfl
    · have h2' : ¬ ((b + 1 : Nat) : Int) ≤ x.toInt := fun q => h2 (e2.mpr q)
      rw [if_neg h2, decide_eq_true (by omega)]; rfl
theorem r_in (h : AH) (x : Int32) {a b : Nat} (ha : a < 2 ^ 31) (hb : b < 2 ^ 31) : fX6_in h x (nI a) (nI b) = some (b2i (rg x a b)) := rg_two ha hb
theorem vn_b (b : Bool) : vp_nar .boolean (b2i b) = b2i b := by cases b <;> rfl
section GW
variable {h : AH} {K : Nat}
theorem g_isBlock (hK : h.1 1 0 = nI K) (hk : K ≤ 6) (x : Int32) : fX5_isBlock h x = some (b2i (rg x 1 K)) := by
  unfold fX5_isBlock
  rw [hK]
  exact rg_two (a := 1) (by decide) (by omega)
theorem g_isOctal (x : Int32) : fX5_isOctal h x = some (b2i (rg x 0 7)) := rg_two (a := 0) (b := 7) (by decide) (by decide)
theorem g_isTurns (x : Int32) : fX5_isTurns h x = some (b2i (rg x 1 9)) := rg_two (a := 1) (b := 9) (by decide) (by decide)
theorem g_isSheet (x : Int32) : fX5_isSheet h x = some (b2i (rg x 0 3)) := rg_twoU (a := 0) (b := 3) (by decide) (by decide)
theorem g_isForm (x : Int32) : fX5_isForm h x = some (b2i (rg x 0 2)) := rg_twoU (a := 0) (b := 2) (by decide) (by decide)
theorem g_isSlideSize (hK : h.1 1 0 = nI K) (hk : K ≤ 6) (x : Int32) : fX5_isSlideSize h x = some (b2i (rg x 2 K)) := by
  unfold fX5_isSlideSize
  rw [hK]
  exact rg_two (a := 2) (by decide) (by omega)
theorem g_isRule (x : Int32) : fX5_isRule h x = some (b2i (rg x 0 1)) := by
  unfold fX5_isRule
  by_cases h0 : x = 0
  · rw [if_pos h0, h0]; rfl
  · rw [if_neg h0]
    by_cases h1 : x = 1
    · rw [if_pos h1, h1]; rfl
    · rw [if_neg h1]
      cases hr : rg x 0 1
      · rfl
      · obtain ⟨n, -, n2, rfl⟩ := rg_n (by decide) hr
        rcases (show n = 0 ∨ n = 1 by omega) with rfl | rfl
        · exact absurd rfl h0
        · exact absurd rfl h1
theorem g_isWord (hK : h.1 1 0 = nI K) (hk : K ≤ 6) (x y : Int32) : fX5_isWord h x y = some (b2i (rg x 1 K && rg y 0 7)) := by
  unfold fX5_isWord
  rw [g_isBlock hK hk, bR_s, g_isOctal]
  cases rg x 1 K <;> cases rg y 0 7 <;> rfl
theorem g_isBit (hK : h.1 1 0 = nI K) (hk : K ≤ 6) (x y z : Int32) : fX5_isBit h x y z = some (b2i (rg x 1 K && rg y 0 7 && rg z 0 7)) := by
  unfold fX5_isBit
  rw [g_isBlock hK hk, bR_s, g_isOctal, g_isOctal]
  cases rg x 1 K <;> cases rg y 0 7 <;> cases rg z 0 7 <;> rfl
theorem m_isBlock (hK : h.1 29 0 = nI K) (hk : K ≤ 6) (x : Int32) : fX6_isBlock h x = some (b2i (rg x 1 K)) := by
  unfold fX6_isBlock
  rw [hK, show (1 : Int32) = nI 1 from rfl, r_in h x (by decide) (by omega), bR_s, vn_b]
theorem m_isWord (hK : h.1 29 0 = nI K) (hk : K ≤ 6) (x y : Int32) : fX6_isWord h x y = some (b2i (rg x 1 K && rg y 0 7)) := by
  unfold fX6_isWord
  rw [m_isBlock hK hk, bR_s, show fX6_in h y 0 7 = some (b2i (rg y 0 7)) from r_in h y (a := 0) (b := 7) (by decide) (by decide)]
  cases rg x 1 K <;> cases rg y 0 7 <;> rfl
theorem m_isBit (hK : h.1 29 0 = nI K) (hk : K ≤ 6) (x y z : Int32) : fX6_isBit h x y z = some (b2i (rg x 1 K && rg y 0 7 && rg z 0 7)) := by
  unfold fX6_isBit
  rw [m_isWord hK hk, bR_s, show fX6_in h z 0 7 = some (b2i (rg z 0 7)) from r_in h z (a := 0) (b := 7) (by decide) (by decide)]
  cases rg x 1 K <;> cases rg y 0 7 <;> cases rg z 0 7 <;> rfl
theorem m_isSheet (x : Int32) : fX6_isSheet h x = some (b2i (rg x 0 3)) := by
  unfold fX6_isSheet
  rw [show fX6_in h x 0 3 = some (b2i (rg x 0 3)) from r_in h x (a := 0) (b := 3) (by decide) (by decide), bR_s, vn_b]
end GW
/-! what both hold -/
/-- the SENT bits for DATA d: labels of the first n places, by their bits -/
def laF (q : Nat → Bool) : Nat → Nat
  | 0 => 0
  | n + 1 => laF q n ^^^ (if q n then tabLN n else 0)
/-- a word's bits at its first 11 places, from the block ahead and the data -/
def pv (b : Nat → Bool) (v r p : Nat) : Bool := if p < 8 then b (8 * p + r) else v.testBit (p - 8)
def rowG (b : Nat → Bool) (v r c : Nat) : Bool :=
  if c < 3 then v.testBit c else if c = 3 then (cnt (fun c => (v + 16 * laF (pv b v r) 11).testBit c) 8 + cnt (fun p => b (8 * p + r)) 8) % 2 == 1 else (laF (pv b v r) 11).testBit (c - 4)
def seB (d : Nat → Nat) : Nat → Nat → Bool
  | 0 => fun _ => false
  | i + 1 => fun t => rowG (seB d i) (d (8 * (i + 1) + t / 8)) (t / 8) (t % 8)
def seG (K : Nat) (d : Nat → Nat) (a : Nat) : Bool := decide (a / 64 ≤ K) && seB d (a / 64) (a % 64)
def SeF (K : Nat) (d : Nat → Nat) (se : Nat → Bool) : Prop := se = seG K d
abbrev Sht : Type := (Nat → Bool) × (Nat → Nat) × (Nat → Nat) × (Nat → Nat → Int64)
def Lb (c : Nat) (w : Nat → Bool) (h : AH) : Prop := ∀ i, i < 7 → ∀ j, j < 64 → (h.2 c i).toBitVec.getLsbD j = w (64 * i + j)
def Da (c : Nat) (d : Nat → Nat) (h : AH) : Prop := ∀ W, W < 56 → h.1 c W = nI (d W)
def ShC (T : Sht) (h : AH) : Prop := ∀ s, s < 4 → h.1 (21 + s) 0 = b2i (T.1 s) ∧ h.1 (21 + s) 1 = nI (T.2.1 s) ∧ h.1 (21 + s) 2 = nI (T.2.2.1 s) ∧ ∀ k, k < 64 → h.2 (25 + s) k = T.2.2.2 s k
def ShM (T : Sht) (h : AH) : Prop := ∀ s, s < 4 → h.1 39 s = (if T.1 s then -1 else nI (T.2.1 s)) ∧ h.1 40 s = nI (T.2.2.1 s) ∧ ∀ k, k < 64 → h.2 41 (64 * s + k) = T.2.2.2 s k
def Cl (K rl : Nat) (d : Nat → Nat) (se w g : Nat → Bool) (j : List Nat) (T : Sht) (fi : Int32) (h : AH) : Prop :=
  St 1 K w h ∧ Da 8 d h ∧ Lb 9 se h ∧ Lb 10 g h ∧ CJ j h ∧ ShC T h ∧ h.1 0 7 = nI rl ∧ h.1 0 8 = fi
def Mo (K rl : Nat) (d : Nat → Nat) (se w g : Nat → Bool) (j : List Nat) (T : Sht) (fi : Int32) (h : AH) : Prop :=
  MSt K rl w j h ∧ Da 30 d h ∧ Ro 31 se h ∧ Ro 33 g h ∧ ShM T h ∧ h.1 29 17 = fi
def Iv (K rl : Nat) (d : Nat → Nat) (se w g : Nat → Bool) (j : List Nat) (T : Sht) : Prop :=
  2 ≤ K ∧ K ≤ 6 ∧ rl ≤ 1 ∧ (∀ W, d W < 8) ∧ SeF K d se ∧ (∀ a, (a < 64 ∨ 64 * (K + 1) ≤ a) → w a = false) ∧ (∀ a, a ∈ j → 64 ≤ a ∧ a < 64 * (K + 1)) ∧ ∀ s, s < 4 → T.2.1 s < 3 ∧ T.2.2.1 s ≤ 64
/-- cells below, above 29 alone are changed -/
def Lo (h h1 : AH) : Prop := ∀ k, 29 ≤ k → h1.1 k = h.1 k ∧ h1.2 k = h.2 k
def Hi (h h1 : AH) : Prop := ∀ k, k < 29 → h1.1 k = h.1 k ∧ h1.2 k = h.2 k
theorem Lo.rf (h : AH) : Lo h h := fun _ _ => ⟨rfl, rfl⟩
theorem Hi.rf (h : AH) : Hi h h := fun _ _ => ⟨rfl, rfl⟩
theorem Lo.tr {h h1 h2 : AH} (a : Lo h h1) (b : Lo h1 h2) : Lo h h2 := fun k hk => ⟨(b k hk).1.trans (a k hk).1, (b k hk).2.trans (a k hk).2⟩
theorem Hi.tr {h h1 h2 : AH} (a : Hi h h1) (b : Hi h1 h2) : Hi h h2 := fun k hk => ⟨(b k hk).1.trans (a k hk).1, (b k hk).2.trans (a k hk).2⟩
theorem Fx.lo {ci cl : List Nat} {h h1 : AH} (a : Fx ci cl h h1) (hi : ∀ k ∈ ci, k < 29) (hl : ∀ k ∈ cl, k < 29) : Lo h h1 := fun k hk => ⟨a.1 k (fun q => by have := hi k q; omega), a.2 k (fun q => by have := hl k q; omega)⟩
theorem Fx.hi {ci cl : List Nat} {h h1 : AH} (a : Fx ci cl h h1) (hi : ∀ k ∈ ci, 29 ≤ k) (hl : ∀ k ∈ cl, 29 ≤ k) : Hi h h1 := fun k hk => ⟨a.1 k (fun q => by have := hi k q; omega), a.2 k (fun q => by have := hl k q; omega)⟩
theorem FrS.fx {a0 : Nat} {h h1 : AH} (a : FrS a0 h h1) : Fx [a0 + 2] [a0 + 1] h h1 := ⟨fun k hk => a.1 k (fun e => hk (by rw [e]; exact List.mem_cons_self)), fun k hk => a.2 k (fun e => hk (by rw [e]; exact List.mem_cons_self))⟩
section FC
variable {h h1 : AH} {ci cl : List Nat}
theorem St.fx (F : Fx ci cl h h1) {a0 K : Nat} {w : Nat → Bool} (q : St a0 K w h) (c1 : a0 ∉ ci) (c2 : a0 + 2 ∉ ci) (c3 : a0 + 1 ∉ cl) : St a0 K w h1 := by
  unfold St at q ⊢
  rw [F.1 _ c1, F.1 _ c2, F.2 _ c3]
  exact q
theorem Da.fx (F : Fx ci cl h h1) {c : Nat} {d : Nat → Nat} (q : Da c d h) (c1 : c ∉ ci) : Da c d h1 := by
  unfold Da at q ⊢
  rw [F.1 _ c1]
  exact q
theorem Lb.fx (F : Fx ci cl h h1) {c : Nat} {w : Nat → Bool} (q : Lb c w h) (c1 : c ∉ cl) : Lb c w h1 := by
  unfold Lb at q ⊢
  rw [F.2 _ c1]
  exact q
theorem Ro.fx (F : Fx ci cl h h1) {c : Nat} {w : Nat → Bool} (q : Ro c w h) (c1 : c ∉ ci) : Ro c w h1 := by
  unfold Ro at q ⊢
  rw [F.1 _ c1]
  exact q
theorem CJ.fx (F : Fx ci cl h h1) {j : List Nat} (q : CJ j h) (c1 : 11 ∉ ci) (c2 : 12 ∉ ci) : CJ j h1 := by
  unfold CJ at q ⊢
  rw [F.1 _ c1, F.1 _ c2]
  exact q
theorem ShC.fx (F : Fx ci cl h h1) {T : Sht} (q : ShC T h) (c1 : ∀ k ∈ ci, ¬ (21 ≤ k ∧ k < 25)) (c2 : ∀ k ∈ cl, ¬ (25 ≤ k ∧ k < 29)) : ShC T h1 := by
  intro s hs
  rw [F.1 _ (fun e => c1 _ e (by omega)), F.2 _ (fun e => c2 _ e (by omega))]
  exact q s hs
theorem ShM.fx (F : Fx ci cl h h1) {T : Sht} (q : ShM T h) (c1 : 39 ∉ ci) (c2 : 40 ∉ ci) (c3 : 41 ∉ cl) : ShM T h1 := by
  unfold ShM at q ⊢
  rw [F.1 _ c1, F.1 _ c2, F.2 _ c3]
  exact q
end FC
theorem Cl.hi {K rl : Nat} {d : Nat → Nat} {se w g : Nat → Bool} {j : List Nat} {T : Sht} {fi : Int32} {h h1 : AH} (q : Cl K rl d se w g j T fi h) (F : Hi h h1) : Cl K rl d se w g j T fi h1 := by
  obtain ⟨q1, q2, q3, q4, q5, q6, q7, q8⟩ := q
  refine ⟨?_, ?_, ?_, ?_, ?_, ?_, ?_, ?_⟩
  · unfold St at q1 ⊢
    rw [(F 1 (by decide)).1, (F (1 + 2) (by decide)).1, (F (1 + 1) (by decide)).2]; exact q1
  · unfold Da at q2 ⊢
    rw [(F 8 (by decide)).1]; exact q2
  · unfold Lb at q3 ⊢
    rw [(F 9 (by decide)).2]; exact q3
  · unfold Lb at q4 ⊢
    rw [(F 10 (by decide)).2]; exact q4
  · unfold CJ at q5 ⊢
    rw [(F 11 (by decide)).1, (F 12 (by decide)).1]; exact q5
  · intro s hs
    rw [(F (21 + s) (by omega)).1, (F (25 + s) (by omega)).2]; exact q6 s hs
  · rw [(F 0 (by decide)).1]; exact q7
  · rw [(F 0 (by decide)).1]; exact q8
theorem Mo.lo {K rl : Nat} {d : Nat → Nat} {se w g : Nat → Bool} {j : List Nat} {T : Sht} {fi : Int32} {h h1 : AH} (q : Mo K rl d se w g j T fi h) (F : Lo h h1) : Mo K rl d se w g j T fi h1 := by
  obtain ⟨q1, q2, q3, q4, q5, q6⟩ := q
  refine ⟨?_, ?_, ?_, ?_, ?_, ?_⟩
  · unfold MSt Ro MJ at q1 ⊢
    rw [(F 32 (by decide)).1, (F 29 (by decide)).1, (F 34 (by decide)).1]; exact q1
  · unfold Da at q2 ⊢
    rw [(F 30 (by decide)).1]; exact q2
  · unfold Ro at q3 ⊢
    rw [(F 31 (by decide)).1]; exact q3
  · unfold Ro at q4 ⊢
    rw [(F 33 (by decide)).1]; exact q4
  · unfold ShM at q5 ⊢
    rw [(F 39 (by decide)).1, (F 40 (by decide)).1, (F 41 (by decide)).2]; exact q5
  · rw [(F 29 (by decide)).1]; exact q6
