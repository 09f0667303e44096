/-! ===== PURE 21: digest ===== -/
def foldH (v : Nat → Int32) (h : Int64) : Nat → Int64
  | 0 => h
  | n + 1 => (31 : Int64) * foldH v h n + (v n).toInt64
def foldC (F : FF) (h : Int64) : Nat → Int64
  | 0 => h
  | n + 1 => foldH (fun k => nI (F k n)) (foldC F h n) 5
theorem part_eq (σ : St) {w : Nat} (hw : w < 5) : f_X0_part (nI w) σ = some w := by
  match w, hw with
  | 0, _ => rfl
  | 1, _ => rfl
  | 2, _ => rfl
  | 3, _ => rfl
  | 4, _ => rfl
  | w + 5, h => omega
theorem lnC_5 {w : Nat} (hw : w < 5) : lnC w = 80 := by
  match w, hw with
  | 0, _ => rfl
  | 1, _ => rfl
  | 2, _ => rfl
  | 3, _ => rfl
  | 4, _ => rfl
  | w + 5, h => omega
theorem sim_digest : Sim0L TieZ f_X6_digest f_X7_digest := by
  intro σ μ h
  obtain ⟨F, Q, n, t, o, P, h1, h2, h3, h4, h5, h6, h7, h8, h9, h10⟩ := id h
  obtain ⟨r, e1, hr⟩ := laysSums_ok h6 h1.1 h7 h2
  have hs : ∀ a, wsum Q (cellSum F) a < 2 ^ 30 := fun a => wsum_l30 h1.1 a
  have r6 : ∀ a, a < 80 → (sAA μ 6 r).1 6 a = smOf Q (wsum Q (cellSum F)) a := fun a ha => by rw [sAA_self]; exact hr a ha
  obtain ⟨-, -, -, -, q2, q3, -⟩ := id h2
  obtain ⟨r2, e2, hr2⟩ := laysBurdens_ok (μ := sAA μ 6 r) (F := F) h6 h1.1
  have hT : TieZ σ (sAA (sAA μ 6 r) 10 r2) := h.scratch rfl rfl rfl rfl rfl rfl rfl
  -- what is told
  obtain ⟨tv, ht1, ht2⟩ : ∃ tv : Nat → Int32, (∀ j, j ≤ 9 → f_X6_told (nI j) σ = some (tv j, σ)) ∧ ∀ j, j ≤ 9 → f_X7_toldOf (nI j) μ = some (tv j) := by
    refine ⟨fun j => (f_X7_toldOf (nI j) μ).getD 0, fun j hj => ?_, fun j hj => ?_⟩
    · obtain ⟨x, a1, a2⟩ := told_in h hj
      rw [a1]; dsimp only; rw [a2]; rfl
    · obtain ⟨x, a1, a2⟩ := told_in h hj
      rw [a2]; dsimp only; rw [a2]; rfl
  have c6 : loopN f_X6_digest_L6 4096 ((2081 : Int64), nI 0, σ) = some (foldH tv 2081 10, σ) := by
    refine loopN_run (tr := fun i => (foldH tv 2081 i, nI i, σ)) 10 _ ?_ ?_ (by decide)
    · intro i hi
      rw [e_X6_digest_L6, if_neg (nI_nlt (by omega) (by decide)), bnd_of (ht1 i (by omega)), nI_add]
      rfl
    · rw [e_X6_digest_L6, if_pos (by decide)]
  have m6 : loopN (f_X7_digest_L6 μ) 4096 ((2081 : Int64), nI 0) = some (foldH tv 2081 10) := by
    refine loopN_run (tr := fun i => (foldH tv 2081 i, nI i)) 10 _ ?_ ?_ (by decide)
    · intro i hi
      rw [e_X7_digest_L6, if_neg (nI_ge (by omega) (by decide)), bnd_of (ht2 i (by omega)), nI_add]
      rfl
    · rw [e_X7_digest_L6, if_pos (by decide)]
  generalize foldH tv 2081 10 = x0 at c6 m6
  -- limits
  have c33 : loopN (f_X6_digest_L33 σ) 4096 (x0, nI 1) = some (foldH (fun j => nI (Q (4 + j))) x0 3) := by
    refine loopN_run (tr := fun i => (foldH (fun j => nI (Q (4 + j))) x0 i, nI (1 + i))) 3 _ ?_ ?_ (by decide)
    · intro i hi
      rw [e_X6_digest_L33, if_neg (nI_ge (by omega) (by decide)), gd_nI (by omega) (by decide), rd_nI _ 9 (by omega), h4.2.2.2.2.2 (1 + i) (by omega) (by omega), nI_add, show 3 + (1 + i) = 4 + i from by omega]
      rfl
    · rw [e_X6_digest_L33, if_pos (by decide)]
  have m33 : loopN (f_X7_digest_L33 μ) 4096 (x0, nI 0) = some (foldH (fun j => nI (Q (4 + j))) x0 3) := by
    refine loopN_run (tr := fun i => (foldH (fun j => nI (Q (4 + j))) x0 i, nI i)) 3 _ ?_ ?_ (by decide)
    · intro i hi
      rw [e_X7_digest_L33, if_neg (nI_ge (by omega) (by decide)), nI_add, gd_nI (by omega) (by decide), rd_nI _ 3 (by omega), h7 (4 + i) (by omega), nI_add]
      rfl
    · rw [e_X7_digest_L33, if_pos (by decide)]
  generalize foldH (fun j => nI (Q (4 + j))) x0 3 = x1 at c33 m33
  -- cells
  have c75 : ∀ c y, c < 80 → f_X6_digest_J75 y (nI c) (nI 0) σ = some (.inr (foldH (fun k => nI (F k c)) y 5, nI (c + 1))) := by
    intro c y hc
    have e : loopN (f_X6_digest_L75 (nI c) σ) 4096 (y, nI 0) = some (foldH (fun k => nI (F k c)) y 5) := by
      refine loopN_run (tr := fun i => (foldH (fun k => nI (F k c)) y i, nI i)) 5 _ ?_ ?_ (by decide)
      · intro i hi
        rw [e_X6_digest_L75, if_neg (nI_nlt (by omega) (by decide)), bnd_of (part_eq σ hi), gq_ok (by omega), lnC_5 hi, gd_nI hc (by decide), rd_nI _ i (by omega), h3.uni i c hi hc, nI_add]
        rfl
      · rw [e_X6_digest_L75, if_pos (by decide)]
    rw [e_X6_digest_J75, bnd_of e, e_X6_digest_J109, nI_add]
  have m71 : ∀ c y, c < 80 → f_X7_digest_J71 y (nI c) (nI 0) μ = some (.inr (foldH (fun k => nI (F k c)) y 5, nI (c + 1))) := by
    intro c y hc
    have e : loopN (f_X7_digest_L71 (nI c) μ) 4096 (y, nI 0) = some (foldH (fun k => nI (F k c)) y 5) := by
      refine loopN_run (tr := fun i => (foldH (fun k => nI (F k c)) y i, nI i)) 5 _ ?_ ?_ (by decide)
      · intro i hi
        rw [e_X7_digest_L71, if_neg (nI_ge (by omega) (by decide)), pk_mul, nI_add, gd_nI (by omega) (by decide), rd_nI _ 0 (by omega), h6.uni i c hi hc, nI_add]
        rfl
      · rw [e_X7_digest_L71, if_pos (by decide)]
    rw [e_X7_digest_J71, bnd_of e, e_X7_digest_J103, nI_add]
  have c66 : loopN (f_X6_digest_L66 σ) 4096 (x1, nI 0) = some (foldC F x1 80) := by
    refine loopN_run (tr := fun i => (foldC F x1 i, nI i)) 80 _ ?_ ?_ (by decide)
    · intro i hi
      rw [e_X6_digest_L66, if_neg (nI_ge hi (by decide)), c75 i _ hi]
      rfl
    · rw [e_X6_digest_L66, if_pos (by decide)]
  have m62 : loopN (f_X7_digest_L62 μ) 4096 (x1, nI 0) = some (foldC F x1 80) := by
    refine loopN_run (tr := fun i => (foldC F x1 i, nI i)) 80 _ ?_ ?_ (by decide)
    · intro i hi
      rw [e_X7_digest_L62, if_neg (nI_ge hi (by decide)), m71 i _ hi]
      rfl
    · rw [e_X7_digest_L62, if_pos (by decide)]
  generalize foldC F x1 80 = x2 at c66 m62
  -- burdens
  have c153 : ∀ y, loopN (f_X6_digest_L153 σ) 4096 (y, nI 1) = some (foldH (fun j => nI (burdenOf F (1 + j))) y 3) := by
    intro y
    refine loopN_run (tr := fun i => (foldH (fun j => nI (burdenOf F (1 + j))) y i, nI (1 + i))) 3 _ ?_ ?_ (by decide)
    · intro i hi
      rw [e_X6_digest_L153, if_neg (nI_ge (by omega) (by decide)), gd_nI (by omega) (by decide), rd_nI _ 10 (by omega), h5.2.2.1 (1 + i) (by omega) (by omega), nI_add]
      rfl
    · rw [e_X6_digest_L153, if_pos (by decide)]
  have m145 : ∀ y, loopN (f_X7_digest_L145 (sAA (sAA μ 6 r) 10 r2)) 4096 (y, nI 1) = some (foldH (fun j => nI (burdenOf F (1 + j))) y 3) := by
    intro y
    refine loopN_run (tr := fun i => (foldH (fun j => nI (burdenOf F (1 + j))) y i, nI (1 + i))) 3 _ ?_ ?_ (by decide)
    · intro i hi
      rw [e_X7_digest_L145, if_neg (nI_ge (by omega) (by decide)), gd_nI (by omega) (by decide), rd_nI _ 10 (by omega), sAA_self, hr2 (1 + i) (by omega) (by omega), nI_add]
      rfl
    · rw [e_X7_digest_L145, if_pos (by decide)]
  have em1 := windowsNow_eq (μ := sAA μ 6 r) r6 hs h7 h2 (w := 1) (by decide)
  have em2 := windowsNow_eq (μ := sAA μ 6 r) r6 hs h7 h2 (w := 2) (by decide)
  have ec1 : f_X5_countThin σ = some (nI (cntZ (wnB Q (wsum Q (cellSum F)) 1) 80)) := countThin_eq h5.1.1 hs h4.2.2.2.1 q2
  have ec2 : f_X5_countThick σ = some (nI (cntZ (wnB Q (wsum Q (cellSum F)) 2) 80)) := countThick_eq h5.1.1 hs h4.2.2.2.2.1 q3
  refine ⟨foldH (fun j => nI (burdenOf F (1 + j))) (((31 : Int64) * (((31 : Int64) * x2) + ((nI (cntZ (wnB Q (wsum Q (cellSum F)) 1) 80)).toInt64))) + ((nI (cntZ (wnB Q (wsum Q (cellSum F)) 2) 80)).toInt64)) 3, σ, _, ?_, ?_, hT⟩
  · rw [e_X6_digest, e_X6_digest_J6, bnd_of c6, e_X6_digest_J31, e_X6_digest_J33, bnd_of c33, e_X6_digest_J64, e_X6_digest_J66, bnd_of c66, e_X6_digest_J115, bnd_of ec1, bnd_of ec2, e_X6_digest_J153, bnd_of (c153 _)]
  · rw [e_X7_digest, e_X7_digest_J6, bnd_of m6, e_X7_digest_J31, e_X7_digest_J33, bnd_of m33, e_X7_digest_J60, e_X7_digest_J62, bnd_of m62, e_X7_digest_J109, bnd_of e1, bnd_of em1, bnd_of em2, bnd_of e2, e_X7_digest_J145, bnd_of (m145 _)]
