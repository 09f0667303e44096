/-! ===== PURE 17: worst, all, burden ===== -/
theorem sm_y {Q s : Nat → Nat} {a : Nat} (h : lies Q a = true) : smOf Q s a = nI (s a) := by unfold smOf; rw [h, bT]
theorem sm_n {Q s : Nat → Nat} {a : Nat} (h : lies Q a = false) : smOf Q s a = -nI 1 := by unfold smOf; rw [h, bF]
theorem lies0 {Q : Nat → Nat} (h : QOk Q) : lies Q 0 = true := by
  obtain ⟨qa, qb, qc, qd, -⟩ := h
  exact lies_iff.mpr ⟨by omega, by omega⟩
theorem cellSum_le {F : FF} (hF : ∀ c, c < 80 → F 0 c ≤ 9 ∧ F 1 c ≤ 1 ∧ F 2 c ≤ 3 ∧ F 3 c ≤ 3 ∧ F 4 c ≤ 9) {c : Nat} (hc : c < 80) : cellSum F c ≤ 18 := by
  have := hF c hc
  unfold cellSum
  omega
theorem wsum_lt {F : FF} {Q : Nat → Nat} (hF : ∀ c, c < 80 → F 0 c ≤ 9 ∧ F 1 c ≤ 1 ∧ F 2 c ≤ 3 ∧ F 3 c ≤ 3 ∧ F 4 c ≤ 9) (a : Nat) : wsum Q (cellSum F) a ≤ 1440 := by
  have := wsum_le (Q := Q) (g := cellSum F) (b := 18) (a := a) (fun c hc => cellSum_le hF hc)
  omega
theorem wsum_l30 {F : FF} {Q : Nat → Nat} (hF : ∀ c, c < 80 → F 0 c ≤ 9 ∧ F 1 c ≤ 1 ∧ F 2 c ≤ 3 ∧ F 3 c ≤ 3 ∧ F 4 c ≤ 9) (a : Nat) : wsum Q (cellSum F) a < 2 ^ 30 := by
  have := wsum_lt (Q := Q) hF a
  omega
/-- the first of the least (greatest) of the first windows -/
def lstZ (Q s : Nat → Nat) : Nat → Nat
  | 0 => 0
  | n + 1 => if lies Q (n + 1) && decide (s (n + 1) < s (lstZ Q s n)) then n + 1 else lstZ Q s n
def gstZ (Q s : Nat → Nat) : Nat → Nat
  | 0 => 0
  | n + 1 => if lies Q (n + 1) && decide (s (gstZ Q s n) < s (n + 1)) then n + 1 else gstZ Q s n
theorem lst_ok {Q s : Nat → Nat} (h0 : lies Q 0 = true) : ∀ n, lstZ Q s n ≤ n ∧ lies Q (lstZ Q s n) = true
  | 0 => ⟨Nat.le_refl _, h0⟩
  | n + 1 => by
    have ih := lst_ok (s := s) h0 n
    unfold lstZ
    split
    · rename_i q
      rw [Bool.and_eq_true] at q
      exact ⟨Nat.le_refl _, q.1⟩
    · exact ⟨by omega, ih.2⟩
theorem gst_ok {Q s : Nat → Nat} (h0 : lies Q 0 = true) : ∀ n, gstZ Q s n ≤ n ∧ lies Q (gstZ Q s n) = true
  | 0 => ⟨Nat.le_refl _, h0⟩
  | n + 1 => by
    have ih := gst_ok (s := s) h0 n
    unfold gstZ
    split
    · rename_i q
      rw [Bool.and_eq_true] at q
      exact ⟨Nat.le_refl _, q.1⟩
    · exact ⟨by omega, ih.2⟩
theorem atLeast_eq {σ : St} {Q s : Nat → Nat} (h5 : ∀ a, a < 80 → σ.1 5 a = smOf Q s a) (h0 : lies Q 0 = true) (hs : ∀ a, s a < 2 ^ 30) : f_X5_atLeast σ = some (nI (lstZ Q s 79)) := by
  rw [e_X5_atLeast, e_X5_atLeast_J4]
  have e : loopN (f_X5_atLeast_L4 σ) 4096 (nI 0, nI 1) = some (nI (lstZ Q s 79)) := by
    refine loopN_run (tr := fun i => (nI (lstZ Q s i), nI (i + 1))) 79 _ ?_ ?_ (by decide)
    · intro i hi
      obtain ⟨g1, g2⟩ := lst_ok (s := s) h0 i
      have e1 : lstZ Q s (i + 1) = if lies Q (i + 1) && decide (s (i + 1) < s (lstZ Q s i)) then i + 1 else lstZ Q s i := rfl
      have b1 := hs (i + 1)
      have b2 := hs (lstZ Q s i)
      rw [e_X5_atLeast_L4, if_neg (nI_ge (by omega) (by decide)), gd_nI (by omega) (by decide), gd_nI (by omega) (by decide), gd_nI (by omega) (by decide), rd_nI _ 5 (by omega), rd_nI _ 5 (by omega), h5 _ (by omega), h5 _ (by omega), sm_y g2, e1, nI_add]
      cases hl : lies Q (i + 1)
      · rw [sm_n hl, if_pos rfl, Bool.false_and, bF]
      · rw [sm_y hl, if_neg (m1_ne (by omega)), Bool.true_and]
        by_cases q : s (i + 1) < s (lstZ Q s i)
        · rw [if_neg (nI_ge q (by omega)), if_pos (decide_eq_true q)]
        · rw [if_pos (nI_le (by omega) (by omega)), if_neg (by simpa using q)]
    · rw [e_X5_atLeast_L4, if_pos (nI_le (by decide) (by decide))]
  rw [bnd_of e]
theorem atGreatest_eq {σ : St} {Q s : Nat → Nat} (h5 : ∀ a, a < 80 → σ.1 5 a = smOf Q s a) (h0 : lies Q 0 = true) (hs : ∀ a, s a < 2 ^ 30) : f_X5_atGreatest σ = some (nI (gstZ Q s 79)) := by
  rw [e_X5_atGreatest, e_X5_atGreatest_J4]
  have e : loopN (f_X5_atGreatest_L4 σ) 4096 (nI 0, nI 1) = some (nI (gstZ Q s 79)) := by
    refine loopN_run (tr := fun i => (nI (gstZ Q s i), nI (i + 1))) 79 _ ?_ ?_ (by decide)
    · intro i hi
      obtain ⟨g1, g2⟩ := gst_ok (s := s) h0 i
      have e1 : gstZ Q s (i + 1) = if lies Q (i + 1) && decide (s (gstZ Q s i) < s (i + 1)) then i + 1 else gstZ Q s i := rfl
      have b1 := hs (i + 1)
      have b2 := hs (gstZ Q s i)
      rw [e_X5_atGreatest_L4, if_neg (nI_ge (by omega) (by decide)), gd_nI (by omega) (by decide), gd_nI (by omega) (by decide), rd_nI _ 5 (by omega), rd_nI _ 5 (by omega), h5 _ (by omega), h5 _ (by omega), sm_y g2, e1, nI_add]
      cases hl : lies Q (i + 1)
      · rw [sm_n hl, if_pos (m1_le (by omega)), Bool.false_and, bF]
      · rw [sm_y hl, Bool.true_and]
        by_cases q : s (gstZ Q s i) < s (i + 1)
        · rw [if_neg (nI_ge q (by omega)), if_pos (decide_eq_true q)]
        · rw [if_pos (nI_le (by omega) (by omega)), if_neg (by simpa using q)]
    · rw [e_X5_atGreatest_L4, if_pos (nI_le (by decide) (by decide))]
  rw [bnd_of e]
theorem m1_lt0 : (-nI 1 : Int32) < nI 0 := by decide
theorem nI_nn {a : Nat} (h : a < 2 ^ 31) : ¬ nI a < nI 0 := nI_nlt (Nat.zero_le _) h
theorem w82Z (x y z : Int32) (μ : St) : f_X7_worst_J82 x y z μ = some (.inr (y, z + nI 1)) := by rw [e_X7_worst_J82, e_X7_worst_J83, if_pos rfl]
theorem w78Z (x y z : Int32) (μ : St) : f_X7_worst_J78 x y z μ = some (.inr (z, z + nI 1)) := by rw [e_X7_worst_J78, e_X7_worst_J83, if_neg (by decide)]
theorem worst7_l {μ : St} {Q s : Nat → Nat} (h6 : ∀ a, a < 80 → μ.1 6 a = smOf Q s a) (h0 : lies Q 0 = true) (hs : ∀ a, s a < 2 ^ 30) {w : Nat} (hw : w < 4) (h2 : w % 2 = 0) : loopN (f_X7_worst_L24 (nI w) μ) 4096 (nI 0, nI 1) = some (nI (lstZ Q s 79)) := by
  refine loopN_run (tr := fun i => (nI (lstZ Q s i), nI (i + 1))) 79 _ ?_ ?_ (by decide)
  · intro i hi
    obtain ⟨g1, g2⟩ := lst_ok (s := s) h0 i
    have e1 : lstZ Q s (i + 1) = if lies Q (i + 1) && decide (s (i + 1) < s (lstZ Q s i)) then i + 1 else lstZ Q s i := rfl
    have b1 := hs (i + 1)
    have b2 := hs (lstZ Q s i)
    rw [e_X7_worst_L24, if_neg (nI_ge (by omega) (by decide)), gd_nI (by omega) (by decide), gd_nI (by omega) (by decide), gd_nI (by omega) (by decide), rd_nI _ 6 (by omega), rd_nI _ 6 (by omega), h6 _ (by omega), h6 _ (by omega), sm_y g2, e1, w82Z, w78Z, nI_add, jrem_nI (by omega) (by decide) (by decide), h2]
    cases hl : lies Q (i + 1)
    · rw [sm_n hl, if_pos m1_lt0, Bool.false_and, bF]
    · rw [sm_y hl, if_neg (nI_nn (by omega)), if_pos rfl, Bool.true_and]
      by_cases q : s (i + 1) < s (lstZ Q s i)
      · rw [if_neg (nI_ge q (by omega)), if_pos (decide_eq_true q)]
      · rw [if_pos (nI_le (by omega) (by omega)), if_neg (by simpa using q)]
  · rw [e_X7_worst_L24, if_pos (nI_le (by decide) (by decide))]
theorem worst7_g {μ : St} {Q s : Nat → Nat} (h6 : ∀ a, a < 80 → μ.1 6 a = smOf Q s a) (h0 : lies Q 0 = true) (hs : ∀ a, s a < 2 ^ 30) {w : Nat} (hw : w < 4) (h2 : w % 2 = 1) : loopN (f_X7_worst_L24 (nI w) μ) 4096 (nI 0, nI 1) = some (nI (gstZ Q s 79)) := by
  refine loopN_run (tr := fun i => (nI (gstZ Q s i), nI (i + 1))) 79 _ ?_ ?_ (by decide)
  · intro i hi
    obtain ⟨g1, g2⟩ := gst_ok (s := s) h0 i
    have e1 : gstZ Q s (i + 1) = if lies Q (i + 1) && decide (s (gstZ Q s i) < s (i + 1)) then i + 1 else gstZ Q s i := rfl
    have b1 := hs (i + 1)
    have b2 := hs (gstZ Q s i)
    rw [e_X7_worst_L24, if_neg (nI_ge (by omega) (by decide)), gd_nI (by omega) (by decide), gd_nI (by omega) (by decide), gd_nI (by omega) (by decide), rd_nI _ 6 (by omega), rd_nI _ 6 (by omega), h6 _ (by omega), h6 _ (by omega), sm_y g2, e1, w82Z, w78Z, nI_add, jrem_nI (by omega) (by decide) (by decide), h2]
    cases hl : lies Q (i + 1)
    · rw [sm_n hl, if_pos m1_lt0, Bool.false_and, bF]
    · rw [sm_y hl, if_neg (nI_nn (by omega)), if_neg (by decide), Bool.true_and, gd_nI (by omega) (by decide), gd_nI (by omega) (by decide)]
      by_cases q : s (gstZ Q s i) < s (i + 1)
      · rw [if_neg (nI_ge q (by omega)), if_pos (decide_eq_true q)]
      · rw [if_pos (nI_le (by omega) (by omega)), if_neg (by simpa using q)]
  · rw [e_X7_worst_L24, if_pos (nI_le (by decide) (by decide))]
theorem in7_nI {j b : Nat} (hj : j ≤ b) (hb : b < 2 ^ 31) : f_X7_in (nI j) (nI 0) (nI b) = some (nI 1) := in7_t ⟨nI_le (Nat.zero_le _) (by omega), nI_le hj hb⟩
theorem isIn_nI {j b : Nat} (hj : j ≤ b) (hb : b < 2 ^ 31) : f_X6_isIn (nI j) (nI 0) (nI b) = some (nI 1) := isIn_t ⟨nI_le (Nat.zero_le _) (by omega), nI_le hj hb⟩
theorem in7_n {x : Int32} {b : Nat} (h : ¬ (0 ≤ x ∧ x ≤ nI b)) : f_X7_in x (nI 0) (nI b) = some (nI 0) := in7_f h
theorem isIn_n {x : Int32} {b : Nat} (h : ¬ (0 ≤ x ∧ x ≤ nI b)) : f_X6_isIn x (nI 0) (nI b) = some (nI 0) := isIn_f h
theorem in7_1n {x : Int32} {b : Nat} (h : ¬ (1 ≤ x ∧ x ≤ nI b)) : f_X7_in x (nI 1) (nI b) = some (nI 0) := in7_f h
theorem isIn_1n {x : Int32} {b : Nat} (h : ¬ (1 ≤ x ∧ x ≤ nI b)) : f_X6_isIn x (nI 1) (nI b) = some (nI 0) := isIn_f h
theorem sim_worst : Sim1 TieZ f_X6_worst f_X7_worst := by
  intro x σ μ h
  obtain ⟨F, Q, n, t, o, P, h1, h2, h3, h4, h5, h6, h7, h8, h9, h10⟩ := id h
  by_cases hx : (0 ≤ x ∧ x ≤ nI 3)
  · obtain ⟨j, hj, rfl⟩ := in_nI (b := 3) (by decide) hx
    obtain ⟨r, e1, hr⟩ := laysSums_ok h6 h1.1 h7 h2
    have hT : TieZ σ (sAA μ 6 r) := h.scratch rfl rfl rfl rfl rfl rfl rfl
    have l0 := lies0 h2
    have hs : ∀ a, wsum Q (cellSum F) a < 2 ^ 30 := fun a => wsum_l30 h1.1 a
    have cl := atLeast_eq (σ := σ) h5.1.1 l0 hs
    have cg := atGreatest_eq (σ := σ) h5.1.1 l0 hs
    have r6 : ∀ a, a < 80 → (sAA μ 6 r).1 6 a = smOf Q (wsum Q (cellSum F)) a := fun a ha => by rw [sAA_self]; exact hr a ha
    have k1 := (lst_ok (s := wsum Q (cellSum F)) l0 79).1
    have k2 := (gst_ok (s := wsum Q (cellSum F)) l0 79).1
    match j, hj with
    | 0, hj => exact ⟨_, σ, _, by rw [e_X6_worst, if_pos rfl, bnd_of cl], by rw [e_X7_worst, bnd_of (in7_nI hj (by decide)), if_neg (by decide), bnd_of e1, e_X7_worst_J24, bnd_of (worst7_l r6 l0 hs (by decide) (by decide)), e_X7_worst_J102, if_neg (by decide)], hT⟩
    | 1, hj => exact ⟨_, σ, _, by rw [e_X6_worst, if_neg (by decide), if_pos rfl, bnd_of cg], by rw [e_X7_worst, bnd_of (in7_nI hj (by decide)), if_neg (by decide), bnd_of e1, e_X7_worst_J24, bnd_of (worst7_g r6 l0 hs (by decide) (by decide)), e_X7_worst_J102, if_neg (by decide)], hT⟩
    | 2, hj => exact ⟨smOf Q (wsum Q (cellSum F)) (lstZ Q (wsum Q (cellSum F)) 79), σ, _, by rw [e_X6_worst, if_neg (by decide), if_neg (by decide), if_pos rfl, bnd_of cl, gd_nI (by omega) (by decide), rd_nI _ 5 (by omega), h5.1.1 _ (by omega)], by rw [e_X7_worst, bnd_of (in7_nI hj (by decide)), if_neg (by decide), bnd_of e1, e_X7_worst_J24, bnd_of (worst7_l r6 l0 hs (by decide) (by decide)), e_X7_worst_J102, if_pos (by decide), gd_nI (by omega) (by decide), rd_nI _ 6 (by omega), r6 _ (by omega)], hT⟩
    | 3, hj => exact ⟨smOf Q (wsum Q (cellSum F)) (gstZ Q (wsum Q (cellSum F)) 79), σ, _, by rw [e_X6_worst, if_neg (by decide), if_neg (by decide), if_neg (by decide), if_pos rfl, bnd_of cg, gd_nI (by omega) (by decide), rd_nI _ 5 (by omega), h5.1.1 _ (by omega)], by rw [e_X7_worst, bnd_of (in7_nI hj (by decide)), if_neg (by decide), bnd_of e1, e_X7_worst_J24, bnd_of (worst7_g r6 l0 hs (by decide) (by decide)), e_X7_worst_J102, if_pos (by decide), gd_nI (by omega) (by decide), rd_nI _ 6 (by omega), r6 _ (by omega)], hT⟩
    | j + 4, hj => omega
  · obtain ⟨rr, σr, μr, er1, er2, hrr⟩ := ref_bnd h (-2) (by decide)
    refine ⟨rr, σr, μr, ?_, ?_, hrr⟩
    · rw [e_X6_worst, if_neg (fun q => hx (by subst q; decide)), if_neg (fun q => hx (by subst q; decide)), if_neg (fun q => hx (by subst q; decide)), if_neg (fun q => hx (by subst q; decide))]
      exact er1
    · rw [e_X7_worst, bnd_of (in7_n hx), if_pos rfl]
      exact er2
/-! all -/
theorem countFilled_eq {σ : St} {f : Nat → Nat} (h4 : ∀ c, c < 80 → σ.1 4 c = nI (f c)) (hf : ∀ c, c < 80 → f c ≤ 9) : f_X0_countFilled σ = some (nI (cntZ (fun c => decide (0 < f c)) 80)) := by
  rw [e_X0_countFilled, e_X0_countFilled_J4]
  have e : loopN (f_X0_countFilled_L4 σ) 4096 (nI 0, nI 0) = some (nI (cntZ (fun c => decide (0 < f c)) 80)) := by
    refine loopN_run (tr := fun i => (nI (cntZ (fun c => decide (0 < f c)) i), nI i)) 80 _ ?_ ?_ (by decide)
    · intro i hi
      have b := hf i hi
      rw [e_X0_countFilled_L4, if_neg (nI_ge hi (by decide)), gd_nI hi (by decide), rd_nI _ 4 (by omega), h4 i hi, cntZ_succ, nI_add, nI_add]
      by_cases q : 0 < f i
      · rw [if_neg (nI_ge q (by omega)), if_pos (decide_eq_true q)]
      · rw [if_pos (nI_le (by omega) (by omega)), if_neg (by simpa using q)]
        rfl
    · rw [e_X0_countFilled_L4, if_pos (nI_le (Nat.le_refl _) (by decide))]
  rw [bnd_of e]
theorem all7_ok {μ : St} {w : Nat} {g : Nat → Nat} (hg : ∀ i b, i < 80 → f_X7_all_L20 (nI w) μ (nI b, nI i) = some (.inr (nI (b + g i), nI (i + 1)))) : f_X7_all_J20 (nI w) (nI 0) (nI 0) μ = some (nI (sumZ g 80), μ) := by
  have e : loopN (f_X7_all_L20 (nI w) μ) 4096 (nI 0, nI 0) = some (nI (sumZ g 80)) := by
    refine loopN_run (tr := fun i => (nI (sumZ g i), nI i)) 80 _ ?_ ?_ (by decide)
    · intro i hi
      rw [hg i _ hi]
      rfl
    · rw [e_X7_all_L20, if_pos (nI_le (Nat.le_refl _) (by decide))]
  rw [e_X7_all_J20, bnd_of e]
theorem sim_all : Sim1 TieZ f_X6_all f_X7_all := by
  intro x σ μ h
  obtain ⟨F, Q, n, t, o, P, h1, h2, h3, h4, h5, h6, h7, h8, h9, h10⟩ := id h
  by_cases hx : (0 ≤ x ∧ x ≤ nI 3)
  · obtain ⟨j, hj, rfl⟩ := in_nI (b := 3) (by decide) hx
    match j, hj with
    | 0, hj => exact ⟨nI (sumZ (F 4) 80), σ, μ, by rw [e_X6_all, if_pos rfl, bnd_of (total_eq σ 4 rfl (F 4) h3.2.2.2.2)], by rw [e_X7_all, bnd_of (in7_nI hj (by decide)), if_neg (by decide), all7_ok (g := F 4) (fun i b hi => by
        rw [e_X7_all_L20, if_neg (nI_ge hi (by decide)), if_pos rfl, nI_add, gd_nI (by omega) (by decide), rd_nI _ 0 (by omega), h6.2.2.2.2 i hi, e_X7_all_J93, nI_add, nI_add])], h⟩
    | 1, hj => exact ⟨nI (sumZ (F 0) 80), σ, μ, by rw [e_X6_all, if_neg (by decide), if_pos rfl, bnd_of (total_eq σ 0 rfl (F 0) h3.1)], by rw [e_X7_all, bnd_of (in7_nI hj (by decide)), if_neg (by decide), all7_ok (g := F 0) (fun i b hi => by
        rw [e_X7_all_L20, if_neg (nI_ge hi (by decide)), if_neg (by decide), if_pos rfl, gd_nI (by omega) (by decide), rd_nI _ 0 (by omega), h6.1 i hi, e_X7_all_J93, nI_add, nI_add])], h⟩
    | 2, hj =>
      have ev : f_X7_all_J20 (nI 2) (nI 0) (nI 0) μ = some (nI (cntZ (fun c => decide (0 < F 4 c)) 80), μ) := by
        refine all7_ok (g := fun c => if decide (0 < F 4 c) = true then 1 else 0) (fun i b hi => ?_)
        have bb := (h1.1 i hi).2.2.2.2
        rw [e_X7_all_L20, if_neg (nI_ge hi (by decide)), if_neg (by decide), if_neg (by decide), if_pos rfl, nI_add, gd_nI (by omega) (by decide), rd_nI _ 0 (by omega), h6.2.2.2.2 i hi, e_X7_all_J93, e_X7_all_J93, nI_add, nI_add, nI_add]
        by_cases q : 0 < F 4 i
        · rw [if_neg (nI_ge q (by omega)), if_pos (decide_eq_true q)]
        · rw [if_pos (nI_le (by omega) (by omega)), if_neg (by simpa using q)]
      exact ⟨nI (cntZ (fun c => decide (0 < F 4 c)) 80), σ, μ, by rw [e_X6_all, if_neg (by decide), if_neg (by decide), if_pos rfl, bnd_of (countFilled_eq h3.2.2.2.2 (fun c hc => (h1.1 c hc).2.2.2.2))], by rw [e_X7_all, bnd_of (in7_nI hj (by decide)), if_neg (by decide), ev], h⟩
    | 3, hj => exact ⟨nI (sumZ (F 1) 80), σ, μ, by rw [e_X6_all, if_neg (by decide), if_neg (by decide), if_neg (by decide), if_pos rfl, bnd_of (total_eq σ 1 rfl (F 1) h3.2.1)], by rw [e_X7_all, bnd_of (in7_nI hj (by decide)), if_neg (by decide), all7_ok (g := F 1) (fun i b hi => by
        rw [e_X7_all_L20, if_neg (nI_ge hi (by decide)), if_neg (by decide), if_neg (by decide), if_neg (by decide), nI_add, gd_nI (by omega) (by decide), rd_nI _ 0 (by omega), h6.2.1 i hi, e_X7_all_J93, nI_add, nI_add])], h⟩
    | j + 4, hj => omega
  · obtain ⟨rr, σr, μr, er1, er2, hrr⟩ := ref_bnd h (-2) (by decide)
    refine ⟨rr, σr, μr, ?_, ?_, hrr⟩
    · rw [e_X6_all, if_neg (fun q => hx (by subst q; decide)), if_neg (fun q => hx (by subst q; decide)), if_neg (fun q => hx (by subst q; decide)), if_neg (fun q => hx (by subst q; decide))]
      exact er1
    · rw [e_X7_all, bnd_of (in7_n hx), if_pos rfl]
      exact er2
/-! burden -/
theorem liesBeside_eq {μ : St} {F : FF} (h2 : ∀ c, c < 80 → μ.1 0 (160 + c) = nI (F 2 c)) (h3 : ∀ c, c < 80 → F 2 c ≤ 3) {c n : Nat} (hc : c < 80) (hn : n < 4) : f_X7_liesBeside (nI c) (nI n) μ = some (if beside F n c then nI 1 else nI 0) := by
  have key : ∀ (d : Nat) (x y : Option Int32), d < 80 → (if nI (F 2 d) = nI n then x else y) = if (F 2 d == n) = true then x else y := by
    intro d x y hd
    have b := h3 d hd
    by_cases q : F 2 d = n
    · rw [if_pos (by rw [q]), if_pos (by simpa using q)]
    · rw [if_neg (by rw [nI_eq (by omega) (by omega)]; exact q), if_neg (by simpa using q)]
  have r4 : f_X7_liesBeside_J71 (nI c) (nI n) (nI (c % 10)) μ = some (if (decide (c % 10 + 1 < 10) && (F 2 (c + 1) == n)) then nI 1 else nI 0) := by
    rw [e_X7_liesBeside_J71, e_X7_liesBeside_J93]
    by_cases q : c % 10 + 1 < 10
    · rw [if_neg (nI_ge (by omega) (by omega)), nI_add, nI_add, gd_nI (by omega) (by decide), rd_nI _ 0 (by omega), Nat.add_assoc, h2 _ (by omega), key _ _ _ (by omega), decide_eq_true q, Bool.true_and]
      cases (F 2 (c + 1) == n) <;> rfl
    · rw [if_pos (nI_le (by omega) (by omega)), decide_eq_false q, Bool.false_and, bF]
  have r3 : f_X7_liesBeside_J51 (nI c) (nI n) (nI (c % 10)) μ = some (if (decide (0 < c % 10) && (F 2 (c - 1) == n)) || (decide (c % 10 + 1 < 10) && (F 2 (c + 1) == n)) then nI 1 else nI 0) := by
    rw [e_X7_liesBeside_J51, e_X7_liesBeside_J93, r4]
    by_cases q : 0 < c % 10
    · rw [if_neg (nI_ge (by omega) (by omega)), nI_add, pk_sub (by omega), gd_nI (by omega) (by decide), rd_nI _ 0 (by omega), show 160 + c - 1 = 160 + (c - 1) from by omega, h2 _ (by omega), key _ _ _ (by omega), decide_eq_true q, Bool.true_and]
      cases (F 2 (c - 1) == n) <;> rfl
    · rw [if_pos (nI_le (by omega) (by omega)), decide_eq_false q, Bool.false_and, Bool.false_or]
  have r2 : f_X7_liesBeside_J28 (nI c) (nI n) (nI (c % 10)) μ = some (if (decide (c + 10 < 80) && (F 2 (c + 10) == n)) || ((decide (0 < c % 10) && (F 2 (c - 1) == n)) || (decide (c % 10 + 1 < 10) && (F 2 (c + 1) == n))) then nI 1 else nI 0) := by
    rw [e_X7_liesBeside_J28, e_X7_liesBeside_J93, r3]
    by_cases q : c + 10 < 80
    · rw [if_neg (nI_ge (by omega) (by omega)), nI_add, nI_add, gd_nI (by omega) (by decide), rd_nI _ 0 (by omega), Nat.add_assoc, h2 _ (by omega), key _ _ _ (by omega), decide_eq_true q, Bool.true_and]
      cases (F 2 (c + 10) == n) <;> rfl
    · rw [if_pos (nI_le (by omega) (by omega)), decide_eq_false q, Bool.false_and, Bool.false_or]
  rw [e_X7_liesBeside, e_X7_liesBeside_J93, jrem_nI (by omega) (by decide) (by decide), r2]
  unfold beside
  rw [Bool.or_assoc, Bool.or_assoc]
  by_cases q : 10 ≤ c
  · rw [if_neg (nI_nlt q (by omega)), nI_add, pk_sub (by omega), gd_nI (by omega) (by decide), rd_nI _ 0 (by omega), show 160 + c - 10 = 160 + (c - 10) from by omega, h2 _ (by omega), key _ _ _ (by omega), decide_eq_true q, Bool.true_and]
    cases (F 2 (c - 10) == n) <;> rfl
  · rw [if_pos (nI_lt (by omega) (by omega)), decide_eq_false q, Bool.false_and, Bool.false_or]
theorem isBurden_eq {μ : St} {F : FF} (h2 : ∀ c, c < 80 → μ.1 0 (160 + c) = nI (F 2 c)) (h3 : ∀ c, c < 80 → F 2 c ≤ 3) {c n : Nat} (hc : c < 80) (hn : n < 4) : f_X7_isBurden (nI c) (nI n) μ = some (if bor F n c then nI 1 else nI 0) := by
  have b := h3 c hc
  rw [e_X7_isBurden, nI_add, gd_nI (by omega) (by decide), rd_nI _ 0 (by omega), h2 c hc, bnd_of (liesBeside_eq h2 h3 hc hn)]
  unfold bor
  by_cases q : F 2 c = n
  · rw [if_pos (by rw [q]), show (F 2 c == n) = true from by simpa using q]; rfl
  · rw [if_neg (by rw [nI_eq (by omega) (by omega)]; exact q), show (F 2 c == n) = false from by simpa using q]
    cases beside F n c <;> rfl
theorem laysBurdens_ok {μ : St} {F : FF} (hM : MFd μ F) (hF : ∀ c, c < 80 → F 0 c ≤ 9 ∧ F 1 c ≤ 1 ∧ F 2 c ≤ 3 ∧ F 3 c ≤ 3 ∧ F 4 c ≤ 9) : ∃ r, f_X7_laysBurdens μ = some (sAA μ 10 r) ∧ ∀ n, 1 ≤ n → n < 4 → r n = nI (burdenOf F n) := by
  rw [e_X7_laysBurdens, e_X7_laysBurdens_J2]
  have hF2 : ∀ c, c < 80 → F 2 c ≤ 3 := fun c hc => (hF c hc).2.2.1
  have row : ∀ n (r0 : Nat → Int32), 1 ≤ n → n < 4 → f_X7_laysBurdens_J16 (nI n) (nI 0) (sAA μ 10 (upd r0 n (nI 0))) = some (.inr (nI (n + 1), sAA μ 10 (upd r0 n (nI (burdenOf F n))))) := by
    intro n r0 hn1 hn
    have e : loopN (f_X7_laysBurdens_L16 (nI n)) 4096 (nI 0, sAA μ 10 (upd r0 n (nI 0))) = some (sAA μ 10 (upd r0 n (nI (burdenOf F n)))) := by
      refine loopN_run (tr := fun i => (nI i, sAA μ 10 (upd r0 n (nI (sumZ (fun c => if bor F n c then F 4 c else 0) i))))) 80 _ ?_ ?_ (by decide)
      · intro i hi
        have b := (hF i hi).2.2.2.2
        have e2 : sumZ (fun c => if bor F n c then F 4 c else 0) (i + 1) = sumZ (fun c => if bor F n c then F 4 c else 0) i + (if bor F n i then F 4 i else 0) := rfl
        have st : ∀ v : Nat, sA (sAA μ 10 (upd r0 n (nI (sumZ (fun c => if bor F n c then F 4 c else 0) i)))) 10 (nI n) (nI v) = sAA μ 10 (upd r0 n (nI v)) := fun v => by rw [sA_nI _ _ _ (by omega), sAA_self, sAA_sAA, upd_upd]
        rw [e_X7_laysBurdens_L16, if_neg (nI_ge hi (by decide)), gd_nI hn (by decide), nI_add, gd_nI (by omega) (by decide), gd_nI (by omega) (by decide), rd_nI _ 0 (by omega), rd_nI _ 10 (by omega), sAA_self, sAA_ne μ _ (by decide : (0 : Nat) ≠ 10), hM.2.2.2.2 i hi, upd_at, bnd_of (isBurden_eq (μ := sAA μ 10 _) hM.2.2.1 hF2 hi hn), e_X7_laysBurdens_J64, e_X7_laysBurdens_J65, e_X7_laysBurdens_J65, gd_nI hn (by decide), gd_nI hn (by decide), nI_add, nI_add, nI_add, st, st, e2]
        by_cases q : 0 < F 4 i
        · rw [if_neg (nI_ge q (by omega))]
          cases bor F n i
          · rw [bF, bF, if_pos rfl]
          · rw [bT, bT, if_neg (by decide)]
        · rw [if_pos (nI_le (by omega) (by omega))]
          have z : F 4 i = 0 := by omega
          rw [z]
          cases bor F n i <;> rfl
      · rw [e_X7_laysBurdens_L16, if_pos (nI_le (Nat.le_refl _) (by decide))]
        rfl
    rw [e_X7_laysBurdens_J16, bnd_of e, e_X7_laysBurdens_J73, nI_add]
  have hm : ∃ y, loopN f_X7_laysBurdens_L2 4096 (nI 1, μ) = some y ∧ ∃ r, y = sAA μ 10 r ∧ ∀ n, 1 ≤ n → n < 4 → r n = nI (burdenOf F n) := by
    refine loop_for (Inv := fun i v => ∃ r, v = (nI (1 + i), sAA μ 10 r) ∧ ∀ n, 1 ≤ n → n < 1 + i → r n = nI (burdenOf F n)) 3 ?_ ?_ (by decide) ⟨μ.1 10, by rw [sAA_id], fun n h1 h2 => by omega⟩
    · rintro i v hi ⟨r, rfl, q1⟩
      refine ⟨_, ?_, upd r (1 + i) (nI (burdenOf F (1 + i))), rfl, ?_⟩
      · rw [e_X7_laysBurdens_L2, if_neg (nI_ge (by omega) (by decide)), gd_nI (by omega) (by decide), sA_nI _ _ _ (by omega), sAA_self, sAA_sAA, row (1 + i) r (by omega) (by omega)]
        rfl
      · intro n h1 h2
        unfold upd
        by_cases q3 : n = 1 + i
        · subst q3; rw [if_pos rfl]
        · rw [if_neg q3]; exact q1 n h1 (by omega)
    · rintro v ⟨r, rfl, q1⟩
      exact ⟨_, by rw [e_X7_laysBurdens_L2, if_pos (nI_le (by decide) (by decide))], r, rfl, q1⟩
  obtain ⟨y, e, r, rfl, h⟩ := hm
  exact ⟨r, by rw [bnd_of e], h⟩
theorem in_nI1 {x : Int32} {b : Nat} (hb : b < 2 ^ 31) (h : 1 ≤ x ∧ x ≤ nI b) : ∃ j, 1 ≤ j ∧ j ≤ b ∧ x = nI j := by
  obtain ⟨j, hj, rfl⟩ := in_nI hb ⟨by
    have h1 := h.1
    rw [Int32.le_iff_toInt_le] at h1 ⊢
    have h2 : (0 : Int32).toInt = 0 := by decide
    have h3 : (1 : Int32).toInt = 1 := by decide
    omega, h.2⟩
  refine ⟨j, ?_, hj, rfl⟩
  have h1 := h.1
  rw [Int32.le_iff_toInt_le, nI_toInt (by omega)] at h1
  have h3 : (1 : Int32).toInt = 1 := by decide
  omega
theorem in7_1 {j b : Nat} (h1 : 1 ≤ j) (hj : j ≤ b) (hb : b < 2 ^ 31) : f_X7_in (nI j) (nI 1) (nI b) = some (nI 1) := in7_t ⟨nI_le h1 (by omega), nI_le hj hb⟩
theorem isIn_1 {j b : Nat} (h1 : 1 ≤ j) (hj : j ≤ b) (hb : b < 2 ^ 31) : f_X6_isIn (nI j) (nI 1) (nI b) = some (nI 1) := isIn_t ⟨nI_le h1 (by omega), nI_le hj hb⟩
theorem sim_burden : Sim1 TieZ f_X6_burden f_X7_burden := by
  intro x σ μ h
  obtain ⟨F, Q, n, t, o, P, h1, h2, h3, h4, h5, h6, h7, h8, h9, h10⟩ := id h
  obtain ⟨r, e1, hr⟩ := laysBurdens_ok h6 h1.1
  have hT : TieZ σ (sAA μ 10 r) := h.scratch rfl rfl rfl rfl rfl rfl rfl
  by_cases hx : (1 ≤ x ∧ x ≤ nI 3)
  · obtain ⟨j, hj1, hj, rfl⟩ := in_nI1 (b := 3) (by decide) hx
    refine ⟨nI (burdenOf F j), σ, _, ?_, ?_, hT⟩
    · rw [e_X6_burden, bnd_of (isIn_1 hj1 hj (by decide)), if_neg (by decide), gd_nI (by omega) (by decide), rd_nI _ 10 (by omega), h5.2.2.1 j hj1 (by omega)]
    · rw [e_X7_burden, bnd_of e1, bnd_of (in7_1 hj1 hj (by decide)), if_neg (by decide), gd_nI (by omega) (by decide), rd_nI _ 10 (by omega), sAA_self, hr j hj1 (by omega)]
  · obtain ⟨rr, σr, μr, er1, er2, hrr⟩ := ref_bnd hT (-2) (by decide)
    refine ⟨rr, σr, μr, ?_, ?_, hrr⟩
    · rw [e_X6_burden, bnd_of (isIn_1n hx), if_pos rfl]
      exact er1
    · rw [e_X7_burden, bnd_of e1, bnd_of (in7_1n hx), if_pos rfl]
      exact er2
