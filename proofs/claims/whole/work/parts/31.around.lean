/-! PURE: sets of four -/
section AR
variable {K rl : Nat} {d : Nat → Nat} {se w g w' g' : Nat → Bool} {j j' : List Nat} {T T' : Sht} {fi : Int32} {h h1 h2 : AH}
def sumN (f : Nat → Nat) : Nat → Nat
  | 0 => 0
  | n + 1 => sumN f n + f n
theorem sumN_add (f : Nat → Nat) (a b : Nat) : sumN f (a + b) = sumN f a + sumN (fun t => f (a + t)) b := by
  induction b with
  | zero => rfl
  | succ b ih =>
    show sumN f (a + b) + f (a + b) = sumN f a + (sumN (fun t => f (a + t)) b + f (a + b))
    rw [ih]
    omega
theorem sumN_cong {f g : Nat → Nat} {n : Nat} (h : ∀ t, t < n → f t = g t) : sumN f n = sumN g n := by
  induction n with
  | zero => rfl
  | succ n ih =>
    show sumN f n + _ = sumN g n + _
    rw [ih (fun t ht => h t (by omega)), h n (by omega)]
theorem sum8c (F : Nat) {c : Nat} (hc : c < 8) : sumN (fun t => if t ≠ c then F else 0) 8 = 7 * F := by
  rcases (show c = 0 ∨ c = 1 ∨ c = 2 ∨ c = 3 ∨ c = 4 ∨ c = 5 ∨ c = 6 ∨ c = 7 by omega) with rfl | rfl | rfl | rfl | rfl | rfl | rfl | rfl <;> simp [sumN] <;> omega
theorem sum8 (F : Nat) : sumN (fun _ => F) 8 = 8 * F := by
  simp [sumN]
  omega
theorem sumblk {m c : Nat} (hc : c < 8) (Q : Nat → Bool) (F : Nat → Nat) : ∀ n, sumN (fun v => if (decide (v ≠ 8 * m + c) && Q (v / 8)) = true then F (v / 8) else 0) (8 * n) = sumN (fun V => if Q V = true then (if V = m then 7 else 8) * F V else 0) n := by
  intro n
  induction n with
  | zero => rfl
  | succ n ih =>
    rw [show 8 * (n + 1) = 8 * n + 8 by omega, sumN_add, ih]
    show _ = sumN _ n + (if Q n = true then (if n = m then 7 else 8) * F n else 0)
    congr 1
    by_cases hQ : Q n = true
    · rw [if_pos hQ]
      by_cases hm : n = m
      · rw [if_pos hm, ← sum8c (F n) hc]
        refine sumN_cong (fun t ht => ?_)
        show (if (decide (8 * n + t ≠ 8 * m + c) && Q ((8 * n + t) / 8)) = true then F ((8 * n + t) / 8) else 0) = if t ≠ c then F n else 0
        rw [show (8 * n + t) / 8 = n by omega, hQ, Bool.and_true]
        by_cases e : t = c
        · rw [if_neg (fun z => (of_decide_eq_true z) (by omega)), if_neg (fun z => z e)]
        · rw [if_pos (decide_eq_true (show 8 * n + t ≠ 8 * m + c by omega)), if_pos e]
      · rw [if_neg hm, ← sum8 (F n)]
        refine sumN_cong (fun t ht => ?_)
        show (if (decide (8 * n + t ≠ 8 * m + c) && Q ((8 * n + t) / 8)) = true then F ((8 * n + t) / 8) else 0) = F n
        rw [show (8 * n + t) / 8 = n by omega, hQ, Bool.and_true, if_pos (decide_eq_true (show 8 * n + t ≠ 8 * m + c by omega))]
    · rw [if_neg hQ]
      have z : ∀ n, sumN (fun _ => 0) n = 0 := fun n => by induction n with | zero => rfl | succ n ih => exact ih
      rw [← z 8]
      refine sumN_cong (fun t ht => ?_)
      show (if (decide (8 * n + t ≠ 8 * m + c) && Q ((8 * n + t) / 8)) = true then F ((8 * n + t) / 8) else 0) = 0
      rw [show (8 * n + t) / 8 = n by omega, if_neg (fun z => hQ (by rw [Bool.and_eq_true] at z; exact z.2))]
theorem cnt_sum (p : Nat → Bool) : ∀ n, cnt p n = sumN (fun t => if p t = true then 1 else 0) n := by
  intro n
  induction n with
  | zero => rfl
  | succ n ih =>
    show cnt p n + _ = sumN _ n + _
    rw [ih]
/-- whether words of two blocks are joined -/
def jo (K p q : Nat) : Bool := decide (p = q + 1 ∧ 1 ≤ q ∧ q ≤ K - 1) || decide (q = p + 1 ∧ 1 ≤ p ∧ p ≤ K - 1)
theorem r_isJoined {x y : Nat} (hK2 : 2 ≤ K) (hK : K ≤ 6) (hm : h.1 29 0 = nI K) (hx : x < 1000) (hy : y < 1000) : fX6_isJoined h (nI x) (nI y) = some (b2i (jo K (x / 8) (y / 8))) := by
  unfold fX6_isJoined
  rw [nm_eq, div8 (by omega), div8 (by omega)]
  have sK : nI K - 1 = nI (K - 1) := pk_sub (b := 1) (by omega)
  have ti := pk_sub_toInt (a := x / 8) (b := y / 8) (by omega) (by omega)
  have c1 : nI (x / 8) - nI (y / 8) = 1 ↔ x / 8 = y / 8 + 1 := by
    rw [← Int32.toInt_inj, ti]
    show (_ : Int) = 1 ↔ _
    omega
  have c2 : nI (x / 8) - nI (y / 8) = -1 ↔ y / 8 = x / 8 + 1 := by
    rw [← Int32.toInt_inj, ti]
    show (_ : Int) = -1 ↔ _
    omega
  have l38 : ∀ z : Nat, z < 1000 → fX6_isJoined_38 h (nI x) (nI y) (nI z) = some (b2i (decide (1 ≤ z ∧ z ≤ K - 1))) := by
    intro z hz
    unfold fX6_isJoined_38
    rw [hm, sK, show (1 : Int32) = nI 1 from rfl, r_in h (nI z) (by decide) (by omega), bR_s]
    have : rg (nI z) 1 (K - 1) = decide (1 ≤ z ∧ z ≤ K - 1) := by
      unfold rg
      rw [nI_toInt (by omega)]
      exact decide_eq_decide.mpr (by omega)
    rw [this]
    cases decide (1 ≤ z ∧ z ≤ K - 1) <;> rfl
  have l26 : ∀ z : Nat, z < 1000 → fX6_isJoined_26 h (nI x) (nI y) (nI (x / 8) - nI (y / 8)) (nI z) = some (b2i (decide ((x / 8 = y / 8 + 1 ∨ y / 8 = x / 8 + 1) ∧ 1 ≤ z ∧ z ≤ K - 1))) := by
    intro z hz
    unfold fX6_isJoined_26
    rw [l38 z hz]
    by_cases q1 : x / 8 = y / 8 + 1
    · rw [if_pos (c1.mpr q1)]
      congr 2
      exact decide_eq_decide.mpr (by omega)
    · rw [if_neg (fun z => q1 (c1.mp z))]
      by_cases q2 : y / 8 = x / 8 + 1
      · rw [if_pos (c2.mpr q2)]
        congr 2
        exact decide_eq_decide.mpr (by omega)
      · rw [if_neg (fun z => q2 (c2.mp z)), decide_eq_false (by omega)]; rfl
  have cl : nI y ≤ nI x ↔ y ≤ x := nI_leI (by omega) (by omega)
  unfold jo
  by_cases q : y ≤ x
  · rw [if_pos (cl.mpr q), l26 _ (by omega)]
    congr 2
    rw [← Bool.decide_or]
    exact decide_eq_decide.mpr (by omega)
  · rw [if_neg (fun z => q (cl.mp z)), l26 _ (by omega)]
    congr 2
    rw [← Bool.decide_or]
    exact decide_eq_decide.mpr (by omega)
def fq (K a b v w : Nat) : Bool := decide (8 ≤ w) && (decide (v ≠ b) && (decide (w ≠ a) && (jo K (a / 8) (v / 8) && (jo K (b / 8) (w / 8) && jo K (v / 8) (w / 8)))))
theorem r_inner {a b v n x y z : Nat} {k26 : Int32 → Int32 → Int32 → Int32 → Option Int32} (hK2 : 2 ≤ K) (hK : K ≤ 6) (hm : h.1 29 0 = nI K) (ha : a < 1000) (hb : b < 1000) (hv : v < 1000) (hn : n < 100000) : fX6_aroundOf_53 k26 h (nI x) (nI y) (nI z) FU (nI a) (nI b) (nI n) (nI v) 8 = k26 (nI a) (nI b) (nI (n + cnt (fq K a b v) (8 * (K + 1)))) (nI (v + 1)) := by
  have z8 : cnt (fq K a b v) 8 = 0 := cnt_none (fun w hw => by unfold fq; rw [decide_eq_false (by omega), Bool.false_and])
  have e8 : nI (8 * K) + 8 = nI (8 * K + 8) := nI_add _ 8
  have st : nI n = nI (n + cnt (fq K a b v) (8 + 0)) := by rw [z8]; rfl
  rw [st, show (8 : Int32) = nI (8 + 0) from rfl]
  refine lup (fun f (s : Int32 × Int32) => fX6_aroundOf_53 k26 h (nI x) (nI y) (nI z) f (nI a) (nI b) s.1 (nI v) s.2) (fun k => (nI (n + cnt (fq K a b v) (8 + k)), nI (8 + k))) (8 * K) ?_ ?_ 0 FU (by omega) (FU_lt (by omega))
  · intro f k hk
    show fX6_aroundOf_53b k26 (fX6_aroundOf_53 k26 h (nI x) (nI y) (nI z) f) h (nI x) (nI y) (nI z) (nI a) (nI b) (nI (n + cnt (fq K a b v) (8 + k))) (nI v) (nI (8 + k)) = fX6_aroundOf_53 k26 h (nI x) (nI y) (nI z) f (nI a) (nI b) (nI (n + (cnt (fq K a b v) (8 + k) + (if fq K a b v (8 + k) then 1 else 0)))) (nI v) (nI (8 + k + 1))
    have ev : nI v = nI b ↔ v = b := nI_eq (by omega) (by omega)
    have ew : nI (8 + k) = nI a ↔ 8 + k = a := nI_eq (by omega) (by omega)
    unfold fX6_aroundOf_53b fX6_aroundOf_119 fX6_aroundOf_120 fX6_aroundOf_134
    simp only [nm_eq]
    rw [hm, m8, e8, if_neg (nI_ge (by omega) (by omega)), r_isJoined hK2 hK hm ha hv, r_isJoined hK2 hK hm hb (by omega), r_isJoined hK2 hK hm hv (by omega), bR_s, bR_s, bR_s, nI_1, nI_1, Int32.add_zero]
    unfold fq
    rw [decide_eq_true (show 8 ≤ 8 + k by omega), Bool.true_and]
    by_cases q1 : v = b
    · rw [if_pos (ev.mpr q1), if_pos True.intro, decide_eq_false (fun z => z q1)]; rfl
    · rw [if_neg (fun z => q1 (ev.mp z)), decide_eq_true q1, Bool.true_and]
      by_cases q2 : 8 + k = a
      · rw [if_pos (ew.mpr q2), if_pos True.intro, decide_eq_false (fun z => z q2)]; rfl
      · rw [if_neg (fun z => q2 (ew.mp z)), decide_eq_true q2, Bool.true_and]
        cases jo K (a / 8) (v / 8)
        · rw [if_pos b2f, if_pos True.intro]; rfl
        · rw [if_neg b2t]
          cases jo K (b / 8) ((8 + k) / 8)
          · rw [if_pos b2f, if_pos True.intro]; rfl
          · rw [if_neg b2t]
            cases jo K (v / 8) ((8 + k) / 8)
            · rw [if_pos b2f, if_pos True.intro]; rfl
            · rw [if_neg b2t, if_neg (show ¬ (1 : Int32) = 0 by decide)]; rfl
  · intro f
    show fX6_aroundOf_53b k26 _ h (nI x) (nI y) (nI z) (nI a) (nI b) (nI (n + cnt (fq K a b v) (8 + 8 * K))) (nI v) (nI (8 + 8 * K)) = _
    unfold fX6_aroundOf_53b
    rw [hm, m8, e8, if_pos (nI_le (by omega) (by omega)), nm_eq, nI_1, show 8 + 8 * K = 8 * (K + 1) by omega]
def arK (K i : Nat) : Nat := if i = K then 0 else 49 + (if 1 < i then 56 else 0) + (if i + 2 ≤ K then 56 else 0)
theorem ar_dec : ∀ K, K < 7 → ∀ i, i < K → 1 ≤ i → sumN (fun V => if jo K i V = true then (if V = i + 1 then 7 else 8) * sumN (fun W => if (jo K (i + 1) W && jo K V W) = true then (if W = i then 7 else 8) * 1 else 0) (K + 1) else 0) (K + 1) = arK K i := by decide +kernel
theorem jo_0 (K p : Nat) : jo K p 0 = false := by
  unfold jo
  rw [decide_eq_false (by omega), decide_eq_false (by omega)]
  rfl
theorem ar_cnt {i r c v : Nat} (hr : r < 8) (hc : c < 8) : cnt (fq K (8 * i + r) (8 * i + 8 + c) v) (8 * (K + 1)) = if (decide (v ≠ 8 * (i + 1) + c) && jo K i (v / 8)) = true then sumN (fun W => if (jo K (i + 1) W && jo K (v / 8) W) = true then (if W = i then 7 else 8) * 1 else 0) (K + 1) else 0 := by
  have ea : (8 * i + r) / 8 = i := by omega
  have eb : (8 * i + 8 + c) / 8 = i + 1 := by omega
  by_cases q : (decide (v ≠ 8 * (i + 1) + c) && jo K i (v / 8)) = true
  · rw [if_pos q, cnt_sum, ← sumblk hr (fun W => jo K (i + 1) W && jo K (v / 8) W) (fun _ => 1) (K + 1)]
    rw [Bool.and_eq_true] at q
    have q1 : v ≠ 8 * i + 8 + c := by have := of_decide_eq_true q.1; omega
    refine sumN_cong (fun t ht => ?_)
    have e : fq K (8 * i + r) (8 * i + 8 + c) v t = (decide (t ≠ 8 * i + r) && (jo K (i + 1) (t / 8) && jo K (v / 8) (t / 8))) := by
      unfold fq
      rw [ea, eb, decide_eq_true q1, q.2]
      by_cases t8 : 8 ≤ t
      · rw [decide_eq_true t8]; simp
      · rw [decide_eq_false t8, show t / 8 = 0 by omega, jo_0, jo_0]; simp
    show (if fq K (8 * i + r) (8 * i + 8 + c) v t = true then 1 else 0) = _
    rw [e]
  · rw [if_neg q]
    refine cnt_none (fun t ht => ?_)
    have q' : (decide (v ≠ 8 * (i + 1) + c) && jo K i (v / 8)) = false := by simpa using q
    unfold fq
    rw [ea, eb]
    by_cases e : v = 8 * i + 8 + c
    · rw [decide_eq_false (show ¬ v ≠ 8 * i + 8 + c from fun z => z e)]; simp
    · rw [decide_eq_true (show v ≠ 8 * (i + 1) + c by omega), Bool.true_and] at q'
      rw [q']
      simp
theorem r_aroundOf {i r c : Nat} (hK2 : 2 ≤ K) (hK : K ≤ 6) (hm : h.1 29 0 = nI K) (hi : 1 ≤ i) (hiK : i ≤ K) (hr : r < 8) (hc : c < 8) : fX6_aroundOf h (nI i) (nI r) (nI c) = some (nI (arK K i)) := by
  unfold fX6_aroundOf
  rw [nm_eq, nm_eq, m8, nI_add, show nI (8 * i) + 8 = nI (8 * i + 8) from nI_add _ 8, nI_add]
  have e8 : nI (8 * K) + 8 = nI (8 * K + 8) := nI_add _ 8
  by_cases hl : i = K
  · have : arK K i = 0 := by unfold arK; rw [if_pos hl]
    rw [this]
    show fX6_aroundOf_26b _ h (nI i) (nI r) (nI c) _ _ 0 8 = _
    unfold fX6_aroundOf_26b
    rw [hm, m8, e8, if_neg (show ¬ nI (8 * K + 8) ≤ (8 : Int32) from nI_ge (a := 8) (by omega) (by omega)), if_pos (nI_le (by omega) (by omega))]
    rfl
  · have cc := fun v => ar_cnt (K := K) (i := i) (v := v) hr hc
    have tot : sumN (fun v => if 8 ≤ v then cnt (fq K (8 * i + r) (8 * i + 8 + c) v) (8 * (K + 1)) else 0) (8 * (K + 1)) = arK K i := by
      rw [← ar_dec K (by omega) i (by omega) hi, ← sumblk hc (jo K i) (fun V => sumN (fun W => if (jo K (i + 1) W && jo K V W) = true then (if W = i then 7 else 8) * 1 else 0) (K + 1)) (K + 1)]
      refine sumN_cong (fun v hv => ?_)
      show (if 8 ≤ v then cnt (fq K (8 * i + r) (8 * i + 8 + c) v) (8 * (K + 1)) else 0) = _
      by_cases v8 : 8 ≤ v
      · rw [if_pos v8, cc v]
      · rw [if_neg v8, if_neg (fun z => by rw [show v / 8 = 0 by omega, jo_0, Bool.and_false] at z; cases z)]
    obtain ⟨F, hF⟩ : ∃ F : Nat → Nat, F = fun v => if 8 ≤ v then cnt (fq K (8 * i + r) (8 * i + 8 + c) v) (8 * (K + 1)) else 0 := ⟨_, rfl⟩
    rw [← hF] at tot
    have Fb : ∀ v, F v ≤ 56 := by
      intro v
      rw [hF]
      show (if 8 ≤ v then _ else 0) ≤ 56
      by_cases q : 8 ≤ v
      · rw [if_pos q]; exact Nat.le_trans (cnt_le _ _) (by omega)
      · rw [if_neg q]; omega
    have Sb : ∀ n, sumN F n ≤ 56 * n := by
      intro n
      induction n with
      | zero => exact Nat.le_refl 0
      | succ n ih =>
        show sumN F n + F n ≤ _
        have := Fb n
        omega
    have z8 : sumN F 8 = 0 := by rw [hF]; rfl
    rw [← tot, show (8 : Int32) = nI (8 + 0) from rfl, show (0 : Int32) = nI (sumN F (8 + 0)) by rw [show 8 + 0 = 8 from rfl, z8]; rfl]
    refine lup (fun f (s : Int32 × Int32) => fX6_aroundOf_26 h (nI i) (nI r) (nI c) f (nI (8 * i + r)) (nI (8 * i + 8 + c)) s.1 s.2) (fun k => (nI (sumN F (8 + k)), nI (8 + k))) (8 * K) ?_ ?_ 0 FU (by omega) (FU_lt (by omega))
    · intro f k hk
      show fX6_aroundOf_26b (fX6_aroundOf_26 h (nI i) (nI r) (nI c) f) h (nI i) (nI r) (nI c) (nI (8 * i + r)) (nI (8 * i + 8 + c)) (nI (sumN F (8 + k))) (nI (8 + k)) = fX6_aroundOf_26 h (nI i) (nI r) (nI c) f (nI (8 * i + r)) (nI (8 * i + 8 + c)) (nI (sumN F (8 + k) + F (8 + k))) (nI (8 + k + 1))
      have sb := Sb (8 + k)
      unfold fX6_aroundOf_26b
      rw [hm, m8, e8, if_neg (nI_ge (by omega) (by omega)), if_neg (nI_ge (by omega) (by omega)), r_inner hK2 hK hm (by omega) (by omega) (by omega) (by omega)]
      have eF : F (8 + k) = cnt (fq K (8 * i + r) (8 * i + 8 + c) (8 + k)) (8 * (K + 1)) := by rw [hF]; show (if 8 ≤ 8 + k then _ else 0) = _; rw [if_pos (by omega)]
      rw [eF]
    · intro f
      show fX6_aroundOf_26b _ h (nI i) (nI r) (nI c) (nI (8 * i + r)) (nI (8 * i + 8 + c)) (nI (sumN F (8 + 8 * K))) (nI (8 + 8 * K)) = _
      unfold fX6_aroundOf_26b
      rw [hm, m8, e8, if_pos (nI_le (by omega) (by omega)), show 8 + 8 * K = 8 * (K + 1) by omega]
theorem c_around {i r c : Nat} (hK : K ≤ 6) (hS : h.1 1 0 = nI K) (hi : 1 ≤ i) (hiK : i ≤ K) (hr : r < 8) (hc : c < 8) : fX5_around h (nI i) (nI r) (nI c) = some (nI (arK K i)) := by
  unfold fX5_around fX5_around_38 arK
  rw [g_isBit hS hK, rg_t (by omega) hi hiK, rg_t (by omega) (Nat.zero_le r) (by omega), rg_t (by omega) (Nat.zero_le c) (by omega), bR_s, if_neg (show ¬ b2i (true && true && true) = 0 by decide), hS, nm_eq]
  have ce : nI i = nI K ↔ i = K := nI_eq (by omega) (by omega)
  have c1 : nI i ≤ 1 ↔ i ≤ 1 := nI_leI (b := 1) (by omega) (by decide)
  have c2 : nI K < nI i + 2 ↔ K < i + 2 := by rw [show nI i + 2 = nI (i + 2) from nI_add i 2]; exact nI_ltI (by omega) (by omega)
  by_cases q : i = K
  · rw [if_pos (ce.mpr q), if_pos q]; rfl
  · rw [if_neg (fun z => q (ce.mp z)), if_neg q]
    by_cases q1 : i ≤ 1
    · rw [if_pos (c1.mpr q1), if_neg (show ¬ 1 < i by omega)]
      by_cases q2 : K < i + 2
      · rw [if_pos (c2.mpr q2), if_neg (by omega)]; rfl
      · rw [if_neg (fun z => q2 (c2.mp z)), if_pos (by omega)]; rfl
    · rw [if_neg (fun z => q1 (c1.mp z)), if_pos (show 1 < i by omega), nm_eq]
      by_cases q2 : K < i + 2
      · rw [if_pos (c2.mpr q2), if_neg (by omega)]; rfl
      · rw [if_neg (fun z => q2 (c2.mp z)), if_pos (by omega)]; rfl
theorem o_around (B : Bo h) (x y z : Int32) : Oq (fun h => fX5_around h x y z) (fun h => fX6_around h x y z) h := by
  obtain ⟨K, rl, d, se, w, g, j, T, fi, hI, hC, hM⟩ := B
  have hK := hI.2.1
  have c0 : fX5_isBit h x y z = _ := g_isBit hC.1.1 hK x y z
  have c1 : fX6_isBit h x y z = _ := m_isBit hM.1.2.2.1 hK x y z
  cases hr : (rg x 1 K && rg y 0 7 && rg z 0 7)
  · rw [hr] at c0 c1
    refine ⟨-2, ?_, ?_⟩
    · show fX5_around h x y z = _
      unfold fX5_around
      rw [c0, bR_s, if_pos b2f]
    · show fX6_around h x y z = _
      unfold fX6_around
      rw [c1, bR_s, if_pos b2f]
  · rw [hr] at c0 c1
    simp only [Bool.and_eq_true] at hr
    obtain ⟨⟨hx, hy⟩, hz⟩ := hr
    obtain ⟨i, i1, i2, rfl⟩ := rg_n (by omega) hx
    obtain ⟨r, r1, r2, rfl⟩ := rg_n (by omega) hy
    obtain ⟨c, cc1, cc2, rfl⟩ := rg_n (by omega) hz
    refine ⟨nI (arK K i), c_around hK hC.1.1 i1 i2 (by omega) (by omega), ?_⟩
    show fX6_around h (nI i) (nI r) (nI c) = _
    unfold fX6_around
    rw [c1, bR_s, if_neg b2t, r_aroundOf hI.1 hK hM.1.2.2.1 i1 i2 (by omega) (by omega), bR_s]
end AR
