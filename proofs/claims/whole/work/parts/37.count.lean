/-! PURE: count -/
section CT
variable {K rl : Nat} {d : Nat → Nat} {se w g w' g' : Nat → Bool} {j j' : List Nat} {T T' : Sht} {fi : Int32} {h h1 h2 : AH} {S : PS}
/-- how many pieces are stuck -/
noncomputable def skI (K : Nat) (w : Nat → Bool) (S : PS) : Nat → Int32
  | 0 => 0
  | k + 1 => skI K w S k + pvV K w (S.2.2 k) 2
theorem c_stuckOnes (hP : CP K w S h) (hS : S.1 ≤ 56) : fX1_stuckOnes h = some (skI K w S S.1) := by
  unfold fX1_stuckOnes
  refine lup (fun n (s : Int32 × Int32) => fX1_stuckOnes_4 h n s.1 s.2) (fun k => (skI K w S k, nI k)) S.1 ?_ ?_ 0 FU (Nat.zero_le _) (FU_lt (by omega))
  · intro n k hk
    show fX1_stuckOnes_4b (fX1_stuckOnes_4 h n) h (skI K w S k) (nI k) = fX1_stuckOnes_4 h n (skI K w S k + pvV K w (S.2.2 k) 2) (nI (k + 1))
    unfold fX1_stuckOnes_4b
    rw [hP.1, if_neg (nI_ge hk (by omega)), ck_in (show k < 56 by omega) (by decide), nm_eq, nm_eq, nI_clamp (by omega), (hP.2 k hk).2.2.1, nI_1]
  · intro n
    show fX1_stuckOnes_4b (fX1_stuckOnes_4 h n) h (skI K w S S.1) (nI S.1) = _
    unfold fX1_stuckOnes_4b
    rw [hP.1, if_pos (nI_le (Nat.le_refl _) (by omega))]
theorem r_stuck8 (hc : h.1 29 10 = nI S.1) (hS : S.1 ≤ 56) (hp : ∀ k, k < S.1 → fX6_pieceBy h (nI k) 2 = some (pvV K w (S.2.2 k) 2)) : fX6_stuckNow_8 FU h 0 0 = some (skI K w S S.1, h) := by
  refine lup (fun n (s : Int32 × Int32) => fX6_stuckNow_8 n h s.1 s.2) (fun k => (skI K w S k, nI k)) S.1 ?_ ?_ 0 FU (Nat.zero_le _) (FU_lt (by omega))
  · intro n k hk
    show fX6_stuckNow_8b (fX6_stuckNow_8 n) h (skI K w S k) (nI k) = fX6_stuckNow_8 n h (skI K w S k + pvV K w (S.2.2 k) 2) (nI (k + 1))
    unfold fX6_stuckNow_8b
    rw [hc, if_neg (nI_ge hk (by omega)), hp k hk, bR_s, nm_eq, nm_eq, nI_1]
  · intro n
    show fX6_stuckNow_8b (fX6_stuckNow_8 n) h (skI K w S S.1) (nI S.1) = _
    unfold fX6_stuckNow_8b
    rw [hc, if_pos (nI_le (Nat.le_refl _) (by omega))]
noncomputable def ctV (K : Nat) (w g : Nat → Bool) (j : List Nat) (fi : Int32) (S : PS) (n : Nat) : Int32 :=
  if n = 0 then nI K else if n = 1 then nI (cnt w 448) else if n = 2 then nI (cnt (un w) (8 * (K + 1))) else if n = 3 then nI (cnt (stl w) (8 * (K + 1))) else if n = 4 then nI j.length else if n = 5 then nI (cnt (fun a => w a && !(g a)) 448) else if n = 6 then nI S.1 else if n = 7 then skI K w S S.1 else fi
theorem c_count {n : Nat} (hn : n < 9) (hI : Iv K rl d se w g j T) (hC : Cl K rl d se w g j T fi h) : ∃ h1, fX5_count h (nI n) = some (ctV K w g j fi (bcS K w 448) n, h1) ∧ Cl K rl d se w g j T fi h1 ∧ Lo h h1 := by
  have hK := hI.2.1
  have hO := hI.ot
  have c48 := bcS_48 hO
  obtain ⟨h1, e1, e2, e3⟩ := c_find hK hO hC.1
  have hC1 := hC.pf e3
  have hL := e3.lo (by decide) (by decide)
  generalize bcS K w 448 = S at e2 c48
  rcases (show n = 0 ∨ n = 1 ∨ n = 2 ∨ n = 3 ∨ n = 4 ∨ n = 5 ∨ n = 6 ∨ n = 7 ∨ n = 8 by omega) with rfl | rfl | rfl | rfl | rfl | rfl | rfl | rfl | rfl
  · refine ⟨h, ?_, hC, Lo.rf h⟩
    show some (h.1 1 0, h) = some (nI K, h)
    rw [hC.1.1]
  · refine ⟨h, ?_, hC, Lo.rf h⟩
    show (bR (fX4_wrongBits h 1) fun r1 => some (r1, h)) = some (nI (cnt w 448), h)
    rw [c_wrongBits hK hC.1 hO, bR_s]
  · refine ⟨h, ?_, hC, Lo.rf h⟩
    show (bR (fX4_unsoundWords h 1) fun r1 => some (r1, h)) = some (nI (cnt (un w) (8 * (K + 1))), h)
    rw [c_unsound hK hC.1, bR_s]
  · refine ⟨h, ?_, hC, Lo.rf h⟩
    show (bR (fX4_stalledWords h 1) fun r1 => some (r1, h)) = some (nI (cnt (stl w) (8 * (K + 1))), h)
    rw [c_stalled hK hC.1, bR_s]
  · refine ⟨h, ?_, hC, Lo.rf h⟩
    show some (h.1 11 2, h) = some (nI j.length, h)
    obtain ⟨o, ho, q1, q2, hl, q3⟩ := hC.2.2.2.2.1
    rw [q2]
  · refine ⟨h, ?_, hC, Lo.rf h⟩
    show (bR (fX5_falseBits h) fun r1 => some (r1, h)) = some (nI (cnt (fun a => w a && !(g a)) 448), h)
    rw [c_falseBits hK hC.1 hC.2.2.2.1 hO, bR_s]
  · refine ⟨h1, ?_, hC1, hL⟩
    show (bR (fX1_find h 1) fun h5 => some (h5.1 13 0, h5)) = some (nI S.1, h1)
    rw [e1, bR_s, e2.1]
  · refine ⟨h1, ?_, hC1, hL⟩
    show (bR (fX1_find h 1) fun h6 => bR (fX1_stuckOnes h6) fun r7 => some (r7, h6)) = some (skI K w S S.1, h1)
    rw [e1, bR_s, c_stuckOnes e2 (by omega), bR_s]
  · refine ⟨h, ?_, hC, Lo.rf h⟩
    show some (h.1 0 8, h) = some (fi, h)
    rw [hC.2.2.2.2.2.2.2]
theorem r_count {n : Nat} (hn : n < 9) (hI : Iv K rl d se w g j T) (hM : Mo K rl d se w g j T fi h) : ∃ h1, fX6_count h (nI n) = some (ctV K w g j fi (bcS K w 448) n, h1) ∧ Mo K rl d se w g j T fi h1 ∧ Hi h h1 := by
  have hK := hI.2.1
  have hO := hI.ot
  have c48 := bcS_48 hO
  obtain ⟨h1, e1, e2, e3⟩ := r_find hK hO hM.1.1 hM.1.2.2.1
  have hM1 := hM.pf e3
  have hL := e3.1.hi (by decide) (by decide)
  have hp : ∀ k, k < (bcS K w 448).1 → fX6_pieceBy h1 (nI k) 2 = some (pvV K w ((bcS K w 448).2.2 k) 2) := fun k hk => r_pieceBy (n := 2) hK hO hM1.1.1 hM1.1.2.2.1 e2 hk (by decide)
  generalize bcS K w 448 = S at e2 c48 hp
  rcases (show n = 0 ∨ n = 1 ∨ n = 2 ∨ n = 3 ∨ n = 4 ∨ n = 5 ∨ n = 6 ∨ n = 7 ∨ n = 8 by omega) with rfl | rfl | rfl | rfl | rfl | rfl | rfl | rfl | rfl
  · refine ⟨h, ?_, hM, Hi.rf h⟩
    show some (h.1 29 0, h) = some (nI K, h)
    rw [hM.1.2.2.1]
  · refine ⟨h, ?_, hM, Hi.rf h⟩
    show (bR (fX6_wrongMany h) fun r1 => some (r1, h)) = some (nI (cnt w 448), h)
    rw [r_wrongMany hM.1.1, bR_s]
  · refine ⟨h, ?_, hM, Hi.rf h⟩
    show (bR (fX6_wordsOf h 0) fun r1 => some (r1, h)) = some (nI (cnt (un w) (8 * (K + 1))), h)
    rw [r_words0 hK hM.1.1 hM.1.2.2.1, bR_s]
  · refine ⟨h, ?_, hM, Hi.rf h⟩
    show (bR (fX6_wordsOf h 1) fun r1 => some (r1, h)) = some (nI (cnt (stl w) (8 * (K + 1))), h)
    rw [r_words1 hK hM.1.1 hM.1.2.2.1, bR_s]
  · refine ⟨h, ?_, hM, Hi.rf h⟩
    show some (h.1 29 7, h) = some (nI j.length, h)
    rw [hM.1.2.1.1]
  · refine ⟨h, ?_, hM, Hi.rf h⟩
    show (bR (fX6_falseNow h) fun r1 => some (r1, h)) = some (nI (cnt (fun a => w a && !(g a)) 448), h)
    rw [r_falseNow hM.1.1 hM.2.2.2.1, bR_s]
  · refine ⟨h1, ?_, hM1, hL⟩
    show (bW (fX6_piecesNow h) fun r6 h5 => some (r6, h5)) = some (nI S.1, h1)
    unfold fX6_piecesNow
    rw [e1, bR_s, e2.1, bW_s]
  · refine ⟨h1, ?_, hM1, hL⟩
    show (bW (fX6_stuckNow h) fun r8 h7 => some (r8, h7)) = some (skI K w S S.1, h1)
    unfold fX6_stuckNow
    rw [e1, bR_s, r_stuck8 e2.1 (by omega) hp, bW_s]
  · refine ⟨h, ?_, hM, Hi.rf h⟩
    show some (h.1 29 17, h) = some (fi, h)
    rw [hM.2.2.2.2.2]
theorem o_count (B : Bo h) (x : Int32) : Oo (fun h => fX5_count h x) (fun h => fX6_count h x) h := by
  have B0 := B
  obtain ⟨K, rl, d, se, w, g, j, T, fi, hI, hC, hM⟩ := B
  cases hx : rg x 0 8
  · have ny : ∀ n, n ≤ 8 → ¬ x = nI n := fun n hn e => by rw [e, rg_t (by omega) (Nat.zero_le n) hn] at hx; cases hx
    refine Oo.no (v := -2) B0 ?_ ?_
    · show fX5_count h x = _
      unfold fX5_count
      rw [if_neg (show ¬ x = 0 from ny 0 (by decide)), if_neg (show ¬ x = 1 from ny 1 (by decide)), if_neg (show ¬ x = 2 from ny 2 (by decide)), if_neg (show ¬ x = 3 from ny 3 (by decide)), if_neg (show ¬ x = 4 from ny 4 (by decide)), if_neg (show ¬ x = 5 from ny 5 (by decide)), if_neg (show ¬ x = 6 from ny 6 (by decide)), if_neg (show ¬ x = 7 from ny 7 (by decide)), if_neg (show ¬ x = 8 from ny 8 (by decide))]
    · show fX6_count h x = _
      unfold fX6_count
      rw [if_neg (show ¬ x = 0 from ny 0 (by decide)), if_neg (show ¬ x = 1 from ny 1 (by decide)), if_neg (show ¬ x = 2 from ny 2 (by decide)), if_neg (show ¬ x = 3 from ny 3 (by decide)), if_neg (show ¬ x = 4 from ny 4 (by decide)), if_neg (show ¬ x = 5 from ny 5 (by decide)), if_neg (show ¬ x = 6 from ny 6 (by decide)), if_neg (show ¬ x = 7 from ny 7 (by decide)), if_neg (show ¬ x = 8 from ny 8 (by decide))]
  · obtain ⟨n, -, n2, rfl⟩ := rg_n (by decide) hx
    obtain ⟨h1, e1, e2, e3⟩ := c_count (n := n) (by omega) hI hC
    obtain ⟨h2, f1, f2, f3⟩ := r_count (n := n) (by omega) hI (hM.lo e3)
    exact Oo.mk (h1 := h1) (h2 := h2) e1 f1 hI e2 f2 f3
end CT
