/-! PURE: pieces, as a graph of words -/
/-- a loop of at most N turns, with an invariant, that ends by itself -/
theorem lmea {α β : Type} (f : Nat → β → Option α) (Jv : Nat → β → Prop) (N : Nat) (P : Option α → Prop)
    (step : ∀ n i s, Jv i s → P (f (n + 1) s) ∨ (i < N ∧ ∃ s', Jv (i + 1) s' ∧ f (n + 1) s = f n s')) :
    ∀ (fuel i : Nat) (s : β), i ≤ N → N - i < fuel → Jv i s → P (f fuel s) := by
  intro fuel
  induction fuel with
  | zero => intro i s _ hf; omega
  | succ n ih =>
    intro i s hi hf h
    rcases step n i s h with q | ⟨q1, s', q2, q3⟩
    · exact q
    · rw [q3]
      exact ih (i + 1) s' (by omega) (by omega) q2
section PG
variable {K : Nat} {w : Nat → Bool}
def inW (K b V : Nat) : Prop := b / 8 = V ∨ (b / 64 < K ∧ V = 8 * (b / 64 + 1) + b % 8)
def adjW (K : Nat) (w : Nat → Bool) (V U : Nat) : Prop := ∃ b, w b = true ∧ inW K b V ∧ inW K b U
def rchW (K : Nat) (w : Nat → Bool) (s V : Nat) : Prop := ∀ C : Nat → Prop, C s → (∀ V U, C V → adjW K w V U → C U) → C V
theorem adjW.sy {V U : Nat} (a : adjW K w V U) : adjW K w U V := by
  obtain ⟨b, h1, h2, h3⟩ := a
  exact ⟨b, h1, h3, h2⟩
theorem rchW.rf (s : Nat) : rchW K w s s := fun _ h _ => h
theorem rchW.st {s V U : Nat} (a : rchW K w s V) (b : adjW K w V U) : rchW K w s U := fun C h1 h2 => h2 V U (a C h1 h2) b
theorem rchW.tr {s V U : Nat} (a : rchW K w s V) (b : rchW K w V U) : rchW K w s U := b (fun X => rchW K w s X) a (fun _ _ p q => p.st q)
theorem rchW.sy {s V : Nat} (a : rchW K w s V) : rchW K w V s := a (fun X => rchW K w X s) (rchW.rf s) (fun _ U p q => rchW.tr (rchW.st (rchW.rf U) q.sy) p)
theorem Ot.b (hO : Ot K w) {b : Nat} (hb : w b = true) : 64 ≤ b ∧ b < 64 * (K + 1) := by
  rcases Nat.lt_or_ge b 64 with q | q
  · rw [hO b (Or.inl q)] at hb; cases hb
  · rcases Nat.lt_or_ge b (64 * (K + 1)) with r | r
    · exact ⟨q, r⟩
    · rw [hO b (Or.inr r)] at hb; cases hb
theorem inW_rg (hO : Ot K w) {b V : Nat} (hb : w b = true) (h : inW K b V) : 8 ≤ V ∧ V < 8 * (K + 1) := by
  obtain ⟨b1, b2⟩ := hO.b hb
  rcases h with q | ⟨q1, q2⟩ <;> omega
theorem rchW_in {s V : Nat} (h : rchW K w s V) (hs : ∃ b, w b = true ∧ inW K b s) : ∃ b, w b = true ∧ inW K b V :=
  h (fun X => ∃ b, w b = true ∧ inW K b X) hs (fun _ _ _ q => by obtain ⟨b, h1, _, h3⟩ := q; exact ⟨b, h1, h3⟩)
theorem rchW_rg (hO : Ot K w) {s V : Nat} (h : rchW K w s V) (hs : ∃ b, w b = true ∧ inW K b s) : 8 ≤ V ∧ V < 8 * (K + 1) := by
  obtain ⟨b, h1, h2⟩ := rchW_in h hs
  exact inW_rg hO h1 h2
theorem inW_row (b : Nat) : inW K b (b / 8) := Or.inl rfl
theorem inW_bA {V b : Nat} (h8 : 8 ≤ V) : inW K b V → ∃ p, p < 16 ∧ bA V p = b := by
  intro h
  rcases h with q | ⟨q1, q2⟩
  · refine ⟨8 + b % 8, by omega, ?_⟩
    unfold bA
    rw [if_neg (by omega)]
    omega
  · refine ⟨b / 8 % 8, by omega, ?_⟩
    unfold bA
    rw [if_pos (by omega)]
    omega
theorem bA_inW {V p : Nat} (h8 : 8 ≤ V) (hV : V < 8 * (K + 1)) (hp : p < 16) : inW K (bA V p) V := by
  unfold bA inW
  by_cases q : p < 8
  · rw [if_pos q]
    right
    omega
  · rw [if_neg q]
    left
    omega
noncomputable def rcB (K : Nat) (w : Nat → Bool) (s V : Nat) : Bool := @decide (rchW K w s V) (Classical.propDecidable _)
theorem rcB_iff {s V : Nat} : rcB K w s V = true ↔ rchW K w s V := by
  unfold rcB
  exact @decide_eq_true_iff _ (Classical.propDecidable _)
theorem rcB_f {s V : Nat} : rcB K w s V = false ↔ ¬ rchW K w s V := by
  rw [← rcB_iff]
  cases rcB K w s V <;> simp
abbrev PS : Type := Nat × (Nat → Nat) × (Nat → Nat)
noncomputable def addP (K : Nat) (w : Nat → Bool) (a : Nat) (s : PS) : PS := (s.1 + 1, fun V => if rcB K w (a / 8) V then s.1 + 1 else s.2.1 V, fun k => if k = s.1 then a else s.2.2 k)
noncomputable def bcS (K : Nat) (w : Nat → Bool) : Nat → PS
  | 0 => (0, fun _ => 0, fun _ => 0)
  | a + 1 => if w a = true ∧ (bcS K w a).2.1 (a / 8) = 0 then addP K w a (bcS K w a) else bcS K w a
def PInv (K : Nat) (w : Nat → Bool) (a : Nat) (s : PS) : Prop :=
  (∀ V, s.2.1 V ≤ s.1) ∧ (∀ V U, adjW K w V U → s.2.1 V = s.2.1 U) ∧ (∀ V, s.2.1 V ≠ 0 → ∃ b, w b = true ∧ inW K b V) ∧ (∀ b, b < a → w b = true → s.2.1 (b / 8) ≠ 0) ∧
  ∀ k, k < s.1 → s.2.2 k < a ∧ w (s.2.2 k) = true ∧ (∀ V, s.2.1 V = k + 1 ↔ rchW K w (s.2.2 k / 8) V) ∧ ∀ b, w b = true → s.2.1 (b / 8) = k + 1 → s.2.2 k ≤ b
theorem lab_rch {f : Nat → Nat} (hf : ∀ V U, adjW K w V U → f V = f U) {V U : Nat} (h : rchW K w V U) : f V = f U :=
  h (fun X => f V = f X) rfl (fun _ _ p q => p.trans (hf _ _ q))
theorem addP_inv {a : Nat} {s : PS} (hs : PInv K w a s) (ha : w a = true) (hl : s.2.1 (a / 8) = 0) : PInv K w (a + 1) (addP K w a s) := by
  obtain ⟨i1, i2, i3, i4, i5⟩ := hs
  have z : ∀ V, rchW K w (a / 8) V → s.2.1 V = 0 := fun V q => (lab_rch i2 q).symm.trans hl
  refine ⟨fun V => ?_, fun V U q => ?_, fun V q => ?_, fun b hb hw => ?_, fun k hk => ?_⟩
  · show (if rcB K w (a / 8) V then s.1 + 1 else s.2.1 V) ≤ s.1 + 1
    by_cases e : rcB K w (a / 8) V = true
    · rw [if_pos e]; exact Nat.le_refl _
    · rw [if_neg e]; exact Nat.le_succ_of_le (i1 V)
  · show (if rcB K w (a / 8) V then s.1 + 1 else s.2.1 V) = (if rcB K w (a / 8) U then s.1 + 1 else s.2.1 U)
    by_cases e : rcB K w (a / 8) V = true
    · rw [if_pos e, if_pos (rcB_iff.mpr ((rcB_iff.mp e).st q))]
    · rw [if_neg e, if_neg (fun e2 => e (rcB_iff.mpr ((rcB_iff.mp e2).st q.sy)))]
      exact i2 V U q
  · have q' : (if rcB K w (a / 8) V then s.1 + 1 else s.2.1 V) ≠ 0 := q
    by_cases e : rcB K w (a / 8) V = true
    · exact rchW_in (rcB_iff.mp e) ⟨a, ha, inW_row a⟩
    · rw [if_neg e] at q'
      exact i3 V q'
  · show (if rcB K w (a / 8) (b / 8) then s.1 + 1 else s.2.1 (b / 8)) ≠ 0
    by_cases e : rcB K w (a / 8) (b / 8) = true
    · rw [if_pos e]; omega
    · rw [if_neg e]
      by_cases hba : b = a
      · subst hba
        exact absurd (rcB_iff.mpr (rchW.rf _)) e
      · exact i4 b (by omega) hw
  · have hk' : k < s.1 + 1 := hk
    show (if k = s.1 then a else s.2.2 k) < a + 1 ∧ w (if k = s.1 then a else s.2.2 k) = true ∧ (∀ V, (if rcB K w (a / 8) V then s.1 + 1 else s.2.1 V) = k + 1 ↔ rchW K w ((if k = s.1 then a else s.2.2 k) / 8) V) ∧ ∀ b, w b = true → (if rcB K w (a / 8) (b / 8) then s.1 + 1 else s.2.1 (b / 8)) = k + 1 → (if k = s.1 then a else s.2.2 k) ≤ b
    by_cases e : k = s.1
    · simp only [if_pos e]
      refine ⟨by omega, ha, fun V => ?_, fun b hw hb => ?_⟩
      · by_cases r : rcB K w (a / 8) V = true
        · rw [if_pos r, e]
          exact ⟨fun _ => rcB_iff.mp r, fun _ => rfl⟩
        · rw [if_neg r]
          have := i1 V
          exact ⟨fun q => by omega, fun q => absurd (rcB_iff.mpr q) r⟩
      · by_cases r : rcB K w (a / 8) (b / 8) = true
        · rcases Nat.lt_or_ge b a with q | q
          · exact absurd (z _ (rcB_iff.mp r)) (i4 b q hw)
          · exact q
        · rw [if_neg r] at hb
          have := i1 (b / 8)
          omega
    · simp only [if_neg e]
      obtain ⟨j1, j2, j3, j4⟩ := i5 k (by omega)
      refine ⟨by omega, j2, fun V => ?_, fun b hw hb => ?_⟩
      · by_cases r : rcB K w (a / 8) V = true
        · rw [if_pos r]
          refine ⟨fun q => by omega, fun q => ?_⟩
          have := (j3 V).mpr q
          rw [z V (rcB_iff.mp r)] at this
          omega
        · rw [if_neg r]
          exact j3 V
      · by_cases r : rcB K w (a / 8) (b / 8) = true
        · rw [if_pos r] at hb
          omega
        · rw [if_neg r] at hb
          exact j4 b hw hb
theorem bcS_pos {a : Nat} (h1 : w a = true) (h2 : (bcS K w a).2.1 (a / 8) = 0) : bcS K w (a + 1) = addP K w a (bcS K w a) := if_pos ⟨h1, h2⟩
theorem bcS_neg {a : Nat} (h : ¬ (w a = true ∧ (bcS K w a).2.1 (a / 8) = 0)) : bcS K w (a + 1) = bcS K w a := if_neg h
theorem bcS_inv : ∀ a, PInv K w a (bcS K w a) := by
  intro a
  induction a with
  | zero => exact ⟨fun _ => Nat.le_refl 0, fun _ _ _ => rfl, fun _ q => absurd rfl q, fun b hb => absurd hb (Nat.not_lt_zero b), fun k hk => absurd hk (Nat.not_lt_zero k)⟩
  | succ a ih =>
    by_cases h1 : w a = true
    · by_cases h2 : (bcS K w a).2.1 (a / 8) = 0
      · rw [bcS_pos h1 h2]
        exact addP_inv ih h1 h2
      · rw [bcS_neg (fun q => h2 q.2)]
        obtain ⟨i1, i2, i3, i4, i5⟩ := ih
        refine ⟨i1, i2, i3, fun b hb hw => ?_, fun k hk => ?_⟩
        · by_cases e : b = a
          · subst e; exact h2
          · exact i4 b (by omega) hw
        · obtain ⟨j1, j2⟩ := i5 k hk
          exact ⟨by omega, j2⟩
    · rw [bcS_neg (fun q => h1 q.1)]
      obtain ⟨i1, i2, i3, i4, i5⟩ := ih
      refine ⟨i1, i2, i3, fun b hb hw => ?_, fun k hk => ?_⟩
      · by_cases e : b = a
        · subst e; exact absurd hw h1
        · exact i4 b (by omega) hw
      · obtain ⟨j1, j2⟩ := i5 k hk
        exact ⟨by omega, j2⟩
theorem bcS_skip {a : Nat} : ∀ n, (∀ b, a ≤ b → b < a + n → ¬ (w b = true ∧ (bcS K w a).2.1 (b / 8) = 0)) → bcS K w (a + n) = bcS K w a := by
  intro n
  induction n with
  | zero => intro _; rfl
  | succ n ih =>
    intro h
    have e := ih (fun b h1 h2 => h b h1 (by omega))
    show bcS K w (a + n + 1) = _
    rw [bcS_neg (by rw [e]; exact h (a + n) (by omega) (by omega)), e]
def tzN (N : Nat) : Nat := cnt (fun c => decide (N % 2 ^ (c + 1) = 0)) 8
theorem tzN_ok : ∀ N, N < 256 → N ≠ 0 → (tzN N < 8 ∧ N.testBit (tzN N) = true ∧ ∀ c, c < tzN N → N.testBit c = false) := by decide +kernel
def rwN (w : Nat → Bool) (m : Nat) : Nat := rowN (fun c => w (8 * m + c)) 8
theorem rwN_lt (w : Nat → Bool) (m : Nat) : rwN w m < 256 := rowN_lt _ 8
theorem rwN_bit {m c : Nat} (hc : c < 8) : (rwN w m).testBit c = w (8 * m + c) := by
  unfold rwN
  rw [rowN_bit, decide_eq_true hc]
  rfl
theorem rwN_0 {m : Nat} (h : rwN w m = 0) {c : Nat} (hc : c < 8) : w (8 * m + c) = false := by
  rw [← rwN_bit (w := w) (m := m) hc, h]
  exact Nat.zero_testBit c
theorem bcS_row (m : Nat) : bcS K w (8 * m + 8) = if rwN w m ≠ 0 ∧ (bcS K w (8 * m)).2.1 m = 0 then addP K w (8 * m + tzN (rwN w m)) (bcS K w (8 * m)) else bcS K w (8 * m) := by
  by_cases h0 : rwN w m = 0
  · rw [if_neg (fun q => q.1 h0)]
    refine bcS_skip 8 (fun b h1 h2 q => ?_)
    have := rwN_0 h0 (c := b - 8 * m) (by omega)
    rw [show 8 * m + (b - 8 * m) = b by omega, q.1] at this
    cases this
  · by_cases h1 : (bcS K w (8 * m)).2.1 m = 0
    · rw [if_pos ⟨h0, h1⟩]
      obtain ⟨t1, t2, t3⟩ := tzN_ok (rwN w m) (rwN_lt w m) h0
      have e1 : bcS K w (8 * m + tzN (rwN w m)) = bcS K w (8 * m) := by
        refine bcS_skip _ (fun b h1 h2 q => ?_)
        have := t3 (b - 8 * m) (by omega)
        rw [rwN_bit (by omega), show 8 * m + (b - 8 * m) = b by omega, q.1] at this
        cases this
      rw [rwN_bit t1] at t2
      have e2 : bcS K w (8 * m + tzN (rwN w m) + 1) = addP K w (8 * m + tzN (rwN w m)) (bcS K w (8 * m)) := by
        rw [bcS_pos t2 (by rw [e1, show (8 * m + tzN (rwN w m)) / 8 = m by omega]; exact h1), e1]
      rw [← e2, show 8 * m + 8 = 8 * m + tzN (rwN w m) + 1 + (7 - tzN (rwN w m)) by omega]
      refine bcS_skip _ (fun b h1 h2 q => ?_)
      rw [e2] at q
      have q2 : (if rcB K w ((8 * m + tzN (rwN w m)) / 8) (b / 8) then (bcS K w (8 * m)).1 + 1 else (bcS K w (8 * m)).2.1 (b / 8)) = 0 := q.2
      rw [show (8 * m + tzN (rwN w m)) / 8 = m by omega, show b / 8 = m by omega, if_pos (rcB_iff.mpr (rchW.rf m))] at q2
      omega
    · rw [if_neg (fun q => h1 q.2)]
      refine bcS_skip 8 (fun b h2 h3 q => h1 ?_)
      rw [← q.2, show b / 8 = m by omega]
theorem bcS_64 (hO : Ot K w) : bcS K w 64 = bcS K w 0 := by
  refine bcS_skip (a := 0) 64 (fun b _ h2 q => ?_)
  have := (hO.b q.1).1
  omega
theorem bcS_cnt (hO : Ot K w) : ∀ m, (bcS K w (8 * (8 + m))).1 ≤ m := by
  intro m
  induction m with
  | zero => show (bcS K w 64).1 ≤ 0; rw [bcS_64 hO]; exact Nat.le_refl 0
  | succ m ih =>
    rw [show 8 * (8 + (m + 1)) = 8 * (8 + m) + 8 by omega, bcS_row]
    by_cases e : rwN w (8 + m) ≠ 0 ∧ (bcS K w (8 * (8 + m))).2.1 (8 + m) = 0
    · rw [if_pos e]
      show (bcS K w (8 * (8 + m))).1 + 1 ≤ m + 1
      omega
    · rw [if_neg e]; omega
theorem bcS_top (hO : Ot K w) (hK : K ≤ 6) : bcS K w 448 = bcS K w (8 * (8 * (K + 1))) := by
  have := bcS_skip (K := K) (w := w) (a := 8 * (8 * (K + 1))) (448 - 8 * (8 * (K + 1))) (fun b h1 _ q => by
    have := (hO.b q.1).2
    omega)
  rw [show 8 * (8 * (K + 1)) + (448 - 8 * (8 * (K + 1))) = 448 by omega] at this
  exact this
theorem bcS_le (a : Nat) : (bcS K w a).1 ≤ a := by
  induction a with
  | zero => exact Nat.le_refl 0
  | succ a ih =>
    by_cases h : w a = true ∧ (bcS K w a).2.1 (a / 8) = 0
    · rw [bcS_pos h.1 h.2]
      show (bcS K w a).1 + 1 ≤ a + 1
      omega
    · rw [bcS_neg h]; omega
/-! lists without repetition -/
theorem sumN_ins {f : Nat → Nat} {p : Nat → Bool} {V : Nat} (hp : p V = false) : ∀ n, V < n → sumN (fun x => if (p x || decide (x = V)) = true then f x else 0) n = sumN (fun x => if p x = true then f x else 0) n + f V := by
  have lo : ∀ n, n ≤ V → sumN (fun x => if (p x || decide (x = V)) = true then f x else 0) n = sumN (fun x => if p x = true then f x else 0) n := by
    intro n hn
    refine sumN_cong (fun t ht => ?_)
    rw [decide_eq_false (by omega), Bool.or_false]
  intro n
  induction n with
  | zero => intro h; omega
  | succ n ih =>
    intro h
    show sumN _ n + (if (p n || decide (n = V)) = true then f n else 0) = sumN _ n + (if p n = true then f n else 0) + f V
    by_cases e : n = V
    · subst e
      rw [lo n (Nat.le_refl n), hp, decide_eq_true rfl, if_pos (by rfl), if_neg (by decide)]
      omega
    · rw [ih (by omega), decide_eq_false e, Bool.or_false]
      omega
theorem nd_sum {f : Nat → Nat} {N : Nat} : ∀ q : List Nat, q.Nodup → (∀ x, x ∈ q → x < N) → sumN (fun i => f (q.getD i 0)) q.length = sumN (fun x => if decide (x ∈ q) = true then f x else 0) N := by
  intro q
  induction q with
  | nil =>
    intro _ _
    have z : ∀ n, sumN (fun x => if decide (x ∈ ([] : List Nat)) = true then f x else 0) n = 0 := by
      intro n
      induction n with
      | zero => rfl
      | succ n ih =>
        show sumN _ n + (if decide (n ∈ ([] : List Nat)) = true then f n else 0) = 0
        rw [ih]
        rfl
    rw [z N]
    rfl
  | cons V q ih =>
    intro hn hx
    obtain ⟨n1, n2⟩ := List.nodup_cons.mp hn
    have e := ih n2 (fun x h => hx x (List.mem_cons_of_mem _ h))
    have s : sumN (fun i => f ((V :: q).getD i 0)) (V :: q).length = f V + sumN (fun i => f (q.getD i 0)) q.length := by
      rw [show (V :: q).length = 1 + q.length from Nat.add_comm _ _, sumN_add]
      congr 1
      · show 0 + f V = f V
        omega
      · refine sumN_cong (fun t _ => ?_)
        rw [Nat.add_comm 1 t]
        rfl
    rw [s, e, Nat.add_comm, ← sumN_ins (p := fun x => decide (x ∈ q)) (decide_eq_false n1) N (hx V List.mem_cons_self)]
    refine sumN_cong (fun t _ => ?_)
    have : decide (t ∈ V :: q) = (decide (t ∈ q) || decide (t = V)) := by
      rw [← Bool.decide_or]
      apply decide_eq_decide.mpr
      rw [List.mem_cons]
      exact Or.comm
    rw [this]
theorem sumN_1 : ∀ n, sumN (fun _ => 1) n = n := by
  intro n
  induction n with
  | zero => rfl
  | succ n ih => show sumN _ n + 1 = n + 1; rw [ih]
theorem nd_len {N : Nat} {q : List Nat} (h : q.Nodup) (hx : ∀ x, x ∈ q → x < N) : q.length = cnt (fun x => decide (x ∈ q)) N := by
  have := nd_sum (f := fun _ => 1) q h hx
  rw [sumN_1] at this
  rw [this, cnt_sum]
theorem nd_le {N : Nat} {q : List Nat} (h : q.Nodup) (hx : ∀ x, x ∈ q → x < N) : q.length ≤ N := by
  rw [nd_len h hx]
  exact cnt_le _ N
theorem nd_app {q : List Nat} {V : Nat} (h : q.Nodup) (hV : V ∉ q) : (q ++ [V]).Nodup := by
  rw [List.nodup_append]
  refine ⟨h, List.nodup_cons.mpr ⟨List.not_mem_nil, List.nodup_nil⟩, ?_⟩
  intro a ha b hb e
  rw [List.mem_singleton] at hb
  exact hV (hb ▸ e ▸ ha)
theorem nd_lt {N : Nat} {q : List Nat} {V : Nat} (h : q.Nodup) (hV : V ∉ q) (hx : ∀ x, x ∈ q → x < N) (hVN : V < N) : q.length < N := by
  have := nd_le (N := N) (nd_app h hV) (fun x hx2 => by
    rcases List.mem_append.mp hx2 with r | r
    · exact hx x r
    · rw [List.mem_singleton] at r; omega)
  rw [List.length_append] at this
  exact this
theorem cnt_rows (p : Nat → Bool) : ∀ n, cnt p (8 * n) = sumN (fun V => cnt (fun c => p (8 * V + c)) 8) n := by
  intro n
  induction n with
  | zero => rfl
  | succ n ih =>
    rw [show 8 * (n + 1) = 8 * n + 8 by omega, cnt_add, ih]
    rfl
/-- what is told of the piece whose least bit is a -/
noncomputable def pvV (K : Nat) (w : Nat → Bool) (a n : Nat) : Int32 :=
  if n = 0 then nI (cnt (fun b => w b && rcB K w (a / 8) (b / 8)) 448) else if n = 1 then nI (cnt (fun V => rcB K w (a / 8) V) 56) else if n = 2 then b2i (cnt (fun V => rcB K w (a / 8) V && decide (onN w V 16 < 2)) 56 == 0) else nI a
end PG
