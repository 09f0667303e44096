/-! ===== PURE 30: what is too much taken out again: slack against loss by loss ===== -/
def subF (F : FF) (c j : Nat) : FF := withFill F (famF F c (fun v => v - j))
def slkQ (Q s sh : Nat → Nat) : Nat → Nat
  | 0 => 9
  | n + 1 => if (lies Q n && decide (Q 2 ≤ s n)) && decide (0 < sh n) then min (slkQ Q s sh n) ((s n - Q 2) / sh n) else slkQ Q s sh n
theorem slkQ_succ (Q s sh : Nat → Nat) (n : Nat) : slkQ Q s sh (n + 1) = if (lies Q n && decide (Q 2 ≤ s n)) && decide (0 < sh n) then min (slkQ Q s sh n) ((s n - Q 2) / sh n) else slkQ Q s sh n := rfl
theorem slkQ_9 {Q s sh : Nat → Nat} : ∀ n, slkQ Q s sh n ≤ 9
  | 0 => Nat.le_refl _
  | n + 1 => by
    have := slkQ_9 (Q := Q) (s := s) (sh := sh) n
    rw [slkQ_succ]
    split <;> omega
theorem slkQ_le {Q s sh : Nat → Nat} : ∀ n a, a < n → lies Q a = true → Q 2 ≤ s a → 0 < sh a → slkQ Q s sh n ≤ (s a - Q 2) / sh a
  | 0, a, h, _, _, _ => absurd h (Nat.not_lt_zero _)
  | n + 1, a, h, h1, h2, h3 => by
    rw [slkQ_succ]
    by_cases q : a = n
    · subst q
      rw [h1, decide_eq_true h2, decide_eq_true h3]
      exact Nat.min_le_right _ _
    · have := slkQ_le (Q := Q) (s := s) (sh := sh) n a (by omega) h1 h2 h3
      split
      · exact Nat.le_trans (Nat.min_le_left _ _) this
      · exact this
theorem slkQ_at {Q s sh : Nat → Nat} : ∀ n, slkQ Q s sh n = 9 ∨ ∃ a, a < n ∧ lies Q a = true ∧ Q 2 ≤ s a ∧ 0 < sh a ∧ slkQ Q s sh n = (s a - Q 2) / sh a
  | 0 => Or.inl rfl
  | n + 1 => by
    have old : slkQ Q s sh (n + 1) = slkQ Q s sh n → slkQ Q s sh (n + 1) = 9 ∨ ∃ a, a < n + 1 ∧ lies Q a = true ∧ Q 2 ≤ s a ∧ 0 < sh a ∧ slkQ Q s sh (n + 1) = (s a - Q 2) / sh a := by
      intro e
      rw [e]
      rcases slkQ_at (Q := Q) (s := s) (sh := sh) n with h | ⟨a, h0, h⟩
      · exact Or.inl h
      · exact Or.inr ⟨a, by omega, h⟩
    by_cases q : ((lies Q n && decide (Q 2 ≤ s n)) && decide (0 < sh n)) = true
    · have e : slkQ Q s sh (n + 1) = min (slkQ Q s sh n) ((s n - Q 2) / sh n) := by rw [slkQ_succ, if_pos q]
      rcases Nat.le_total (slkQ Q s sh n) ((s n - Q 2) / sh n) with z | z
      · exact old (by rw [e, Nat.min_eq_left z])
      · rw [Bool.and_eq_true, Bool.and_eq_true] at q
        exact Or.inr ⟨n, by omega, q.1.1, of_decide_eq_true q.1.2, of_decide_eq_true q.2, by rw [e, Nat.min_eq_right z]⟩
    · exact old (by rw [slkQ_succ, if_neg q])
/-- how much each of a family can lose -/
def slQ (Q : Nat → Nat) (F : FF) (c : Nat) : Nat := slkQ Q (wsum Q (cellSum F)) (shWn Q (famB F c)) 80
def losQ (Q : Nat → Nat) (F : FF) (c : Nat) : Nat := min (F 4 c) (slQ Q F c)
theorem share_ok {σ : St} {F : FF} {Q : Nat → Nat} (hF : FbOk F) (hQ : QOk Q) (h : CSt σ F Q) {c a : Nat} (hc : c < 80) (ha : a < 80) (hl : lies Q a = true) : f_X5_share (nI a) (nI c) (nI (F 3 c)) σ = some (nI (shWn Q (famB F c) a)) := by
  have b3 := (hF c hc).2.2.2.1
  rw [e_X5_share]
  by_cases q : F 3 c = 0
  · rw [if_pos (by rw [q]), bnd_of (has_eq h.2.1 hQ ha hc), shWn_congr (fam_lone q) a, sh_lone hc]
    cases inW Q a c
    · rw [bF, if_pos rfl, bF]
    · rw [bT, if_neg (by decide), bT]
  · rw [if_neg (neq_f (b := 0) q (by omega) (by decide) rfl rfl), pk_mul, nI_add, gd_nI (by omega) (by decide), rd_nI _ 8 (by omega), h.2.2.2.1 (F 3 c) a (by omega) (by omega) ha, sh_tw hl, shWn_congr (fam_tw rfl q) a]
theorem slack_ok {σ : St} {F : FF} {Q : Nat → Nat} (hF : FbOk F) (hQ : QOk Q) (h : CSt σ F Q) {c : Nat} (hc : c < 80) : f_X5_slack (nI c) (nI (F 3 c)) σ = some (nI (slQ Q F c)) := by
  have g8 : gI σ 8 = nI (Q 2) := h.2.1.2.2.2.1
  obtain ⟨-, -, -, -, qe, -⟩ := id hQ
  rw [e_X5_slack, e_X5_slack_J6]
  have e : loopN (f_X5_slack_L6 (nI c) (nI (F 3 c)) σ) 4096 (nI 9, nI 0) = some (nI (slQ Q F c)) := by
    refine loopN_run (tr := fun i => (nI (slkQ Q (wsum Q (cellSum F)) (shWn Q (famB F c)) i), nI i)) 80 _ ?_ ?_ (by decide)
    · intro i hi
      have bs := wsum_lt (Q := Q) hF i
      have bsh : shWn Q (famB F c) i ≤ 80 := shWn_le
      have b9 := slkQ_9 (Q := Q) (s := wsum Q (cellSum F)) (sh := shWn Q (famB F c)) i
      rw [e_X5_slack_L6, if_neg (nI_ge hi (by decide)), g8, gd_nI hi (by decide), gd_nI hi (by decide), rd_nI _ 5 (by omega), h.2.2.1.1 i hi, slkQ_succ, nI_add]
      cases hl : lies Q i
      · rw [sm_n hl, if_pos rfl, Bool.false_and, Bool.false_and, bF]
      · rw [sm_y hl, if_neg (m1_ne (by omega)), Bool.true_and, bnd_of (share_ok hF hQ h hc hi hl)]
        by_cases z : Q 2 ≤ wsum Q (cellSum F) i
        · rw [if_neg (nI_nlt z (by omega)), decide_eq_true z, Bool.true_and]
          by_cases z2 : 0 < shWn Q (famB F c) i
          · have bd : (wsum Q (cellSum F) i - Q 2) / shWn Q (famB F c) i ≤ wsum Q (cellSum F) i - Q 2 := Nat.div_le_self _ _
            rw [if_neg (nI_ge z2 (by omega)), decide_eq_true z2, bT, gd_nI hi (by decide), dz_ne (neq_f (b := 0) (by omega) (by omega) (by decide) rfl rfl), pk_sub z, pk_div (by omega) z2 (by omega), jmin_nI (by omega) (by omega)]
          · rw [if_pos (nI_le (by omega) (by omega)), decide_eq_false z2, bF]
        · rw [if_pos (nI_lt (by omega) (by omega)), decide_eq_false z, Bool.false_and, bF]
    · rw [e_X5_slack_L6, if_pos (nI_le (Nat.le_refl 80) (by decide))]
      rfl
  rw [bnd_of e]
theorem nI_subv {v j : Nat} (h : j ≤ v) : nI v + -(nI j) = nI (v - j) := by
  rw [Int32.add_neg_eq_sub, pk_sub h]
theorem subF_0 (F : FF) (c : Nat) : subF F c 0 = F := by
  refine Eq.trans ?_ (withFill_id F)
  refine congrArg (withFill F) (funext fun d => ?_)
  unfold famF
  split <;> rfl
theorem subF_ff {F : FF} (h : FfOk F) (c j : Nat) : FfOk (subF F c j) := famF_ff h (fun d hd _ => by
  have := (h.1 d hd).2.2.2.2
  omega)
theorem los_le {Q : Nat → Nat} {F : FF} {c : Nat} : losQ Q F c ≤ F 4 c := Nat.min_le_left _ _
/-- a cell's turn, in the class -/
theorem thinC_ok {σ : St} {F : FF} {Q : Nat → Nat} (h1 : FfOk F) (hQ : QOk Q) (h : CSt σ F Q) {c : Nat} (hc : c < 80) (x : Int32) : ∃ σ', f_X1_thinOut_L14 x (nI c, σ) = some (.inr (nI c + -nI 1, σ')) ∧ FmZ [4, 5, 6, 7, 10] [] σ σ' ∧ CSt σ' (subF F c (losQ Q F c)) Q := by
  have b9 := (h1.1 c hc).2.2.2.2
  have s9 : slQ Q F c ≤ 9 := slkQ_9 80
  rw [e_X1_thinOut_L14, if_neg (nI_nn (by omega)), gd_nI hc (by decide), rd_nI _ 4 (by omega), h.1.2.2.2.2 c hc]
  by_cases q : F 4 c = 0
  · rw [if_pos (by rw [q]; decide)]
    refine ⟨σ, rfl, FmZ.rfl', ?_⟩
    rw [show losQ Q F c = 0 from by unfold losQ; rw [q]; exact Nat.zero_min _, subF_0]
    exact h
  · rw [if_neg (nI_ge (by omega) (by omega)), gd_nI hc (by decide), gd_nI hc (by decide), rd_nI _ 3 (by omega), h.1.2.2.2.1 c hc, bnd_of (slack_ok h1.1 hQ h hc), jmin_nI (by omega) (by omega)]
    have el : min (F 4 c) (slQ Q F c) = losQ Q F c := rfl
    rw [el]
    have ll := los_le (Q := Q) (F := F) (c := c)
    by_cases z : losQ Q F c = 0
    · rw [if_pos (by rw [z]; decide)]
      refine ⟨σ, rfl, FmZ.rfl', ?_⟩
      rw [z, subF_0]
      exact h
    · obtain ⟨s2, e2, f2, hS2⟩ := change_ok h1.1 hQ h hc (-(nI (losQ Q F c))) (famF F c (fun v => v - losQ Q F c)) (fun d hd => ((subF_ff h1 c (losQ Q F c)).1 d hd).2.2.2.2) (fun d hd hfm => by
        rw [famF_in hd hfm]
        exact nI_subv (by rw [fam_fill h1 hc hd hfm]; exact ll)) (fun d hfm => famF_out hfm)
      rw [if_neg (nI_ge (by omega) (by omega)), bnd_of e2]
      exact ⟨s2, rfl, f2, hS2⟩
/-- sums of windows once a family has lost -/
theorem wsum_sub {Q : Nat → Nat} {F : FF} {c j : Nat} (hj : ∀ d, d < 80 → famB F c d = true → j ≤ F 4 d) (a : Nat) : wsum Q (cellSum (subF F c j)) a + j * shWn Q (famB F c) a = wsum Q (cellSum F) a := by
  unfold shWn wsum
  rw [← sumZ_mul, ← sumZ_add]
  refine sumZ_congr fun d hd => ?_
  cases hi : inW Q a d
  · rw [bF, bF, bF]; omega
  · rw [bT, bT, bT]
    show F 0 d + famF F c (fun v => v - j) d + j * (if famB F c d = true then 1 else 0) = F 0 d + F 4 d
    cases hf : famB F c d
    · rw [famF_no hf, bF]; omega
    · have := hj d hd hf
      rw [famF_in hd hf, bT]; omega
theorem mayLose_ok {μ : St} {F G : FF} {Q : Nat → Nat} (hM : MFd μ G) (hF : FbOk G) (h : MQs μ Q) (hQ : QOk Q) {c : Nat} (hk : ∀ d, d < 80 → μ.1 8 d = nI (if famB F c d then 1 else 0)) : ∃ r μ', f_X7_mayLose μ = some (r, μ') ∧ FmZ [6] [] μ μ' ∧ BitOf r (∀ a, a < 80 → lies Q a = true → Q 2 ≤ wsum Q (cellSum G) a → Q 2 + shWn Q (famB F c) a ≤ wsum Q (cellSum G) a) := by
  obtain ⟨r6, e6, h6⟩ := laysSums_ok hM hF h hQ
  obtain ⟨-, -, -, -, qe, -⟩ := id hQ
  have g2 : rd (sAA μ 6 r6) 3 (nI 2) = nI (Q 2) := by rw [rd_nI _ 3 (by decide)]; exact h 2 (by decide)
  have hm : ∃ y, loopN (f_X7_mayLose_L8 (sAA μ 6 r6)) 4096 (nI 1, nI 0) = some y ∧ BitOf y (∀ a, a < 80 → lies Q a = true → Q 2 ≤ wsum Q (cellSum G) a → Q 2 + shWn Q (famB F c) a ≤ wsum Q (cellSum G) a) := by
    refine loop_inv (Inv := fun i v => v.2 = nI i ∧ BitOf v.1 (∀ a, a < i → lies Q a = true → Q 2 ≤ wsum Q (cellSum G) a → Q 2 + shWn Q (famB F c) a ≤ wsum Q (cellSum G) a)) 80 ?_ ?_ (by decide) ⟨rfl, Or.inl ⟨rfl, fun a ha => by omega⟩⟩
    · rintro i ⟨b, d⟩ hi ⟨q1, q2⟩
      dsimp only at q1 q2
      subst q1
      have bs := wsum_lt (Q := Q) hF i
      have bsh : shWn Q (famB F c) i ≤ 80 := shWn_le
      have g6 : rd (sAA μ 6 r6) 6 (nI i) = smOf Q (wsum Q (cellSum G)) i := by rw [rd_nI _ 6 (by omega), sAA_self]; exact h6 i hi
      rw [e_X7_mayLose_L8, if_neg (nI_ge hi (by decide))]
      rcases q2 with ⟨rfl, q2⟩ | ⟨rfl, q2⟩
      · left
        have ext : (lies Q i = true → Q 2 ≤ wsum Q (cellSum G) i → Q 2 + shWn Q (famB F c) i ≤ wsum Q (cellSum G) i) → ∀ a, a < i + 1 → lies Q a = true → Q 2 ≤ wsum Q (cellSum G) a → Q 2 + shWn Q (famB F c) a ≤ wsum Q (cellSum G) a := by
          intro x a ha la
          by_cases z : a = i
          · subst z; exact x la
          · exact q2 a (by omega) la
        rw [if_neg (by decide), gd_nI hi (by decide), gd_nI (by decide) (by decide), gd_nI hi (by decide), g6, g2, nI_add]
        cases hl : lies Q i
        · rw [sm_n hl, if_pos (m1_lt (by omega))]
          exact ⟨_, rfl, rfl, Or.inl ⟨rfl, ext (fun z => absurd (hl.symm.trans z) (by decide))⟩⟩
        · have em : f_X7_manyIn (nI i) (sAA μ 6 r6) = some (nI (shWn Q (famB F c) i)) := manyIn_eq (μ := sAA μ 6 r6) h hQ (F := F) (cell := c) hk hi hl
          rw [sm_y hl, bnd_of em, gd_nI (by decide) (by decide)]
          by_cases z : Q 2 ≤ wsum Q (cellSum G) i
          · rw [if_neg (nI_nlt z (by omega))]
            by_cases z2 : Q 2 + shWn Q (famB F c) i ≤ wsum Q (cellSum G) i
            · rw [pk_sub (by omega), if_neg (nI_nlt (by omega) (by omega))]
              exact ⟨_, rfl, rfl, Or.inl ⟨rfl, ext (fun _ _ => z2)⟩⟩
            · rw [if_pos]
              · exact ⟨_, rfl, rfl, Or.inr ⟨rfl, fun y => z2 (y i (by omega) hl z)⟩⟩
              · rw [Int32.lt_iff_toInt_lt, pk_sub_toInt (by omega) (by omega), nI_toInt (by omega)]
                omega
          · rw [if_pos (nI_lt (by omega) (by omega))]
            exact ⟨_, rfl, rfl, Or.inl ⟨rfl, ext (fun _ y => absurd y z)⟩⟩
      · right
        rw [if_pos rfl]
        exact ⟨_, rfl, Or.inr ⟨rfl, fun y => q2 (fun a ha => y a (by omega))⟩⟩
    · rintro ⟨b, d⟩ ⟨q1, q2⟩
      dsimp only at q1 q2
      subst q1
      exact ⟨b, by rw [e_X7_mayLose_L8, if_pos (nI_le (Nat.le_refl 80) (by decide))], q2⟩
  obtain ⟨y, e, hy⟩ := hm
  exact ⟨y, _, by rw [e_X7_mayLose, bnd_of e6, e_X7_mayLose_J8, bnd_of e, hy.gb], FmZ.sAA FmZ.rfl' (by decide) _, hy⟩
/-- one less may go as long as less than the loss is gone -/
theorem los_iff {F : FF} {Q : Nat → Nat} (h1 : FfOk F) {c j : Nat} (hc : c < 80) (hj : j ≤ losQ Q F c) (h4 : j < F 4 c) : (∀ a, a < 80 → lies Q a = true → Q 2 ≤ wsum Q (cellSum (subF F c j)) a → Q 2 + shWn Q (famB F c) a ≤ wsum Q (cellSum (subF F c j)) a) ↔ j < losQ Q F c := by
  have b9 := (h1.1 c hc).2.2.2.2
  have ws : ∀ a, wsum Q (cellSum (subF F c j)) a + j * shWn Q (famB F c) a = wsum Q (cellSum F) a := wsum_sub (fun d hd hf => by rw [fam_fill h1 hc hd hf]; omega)
  constructor
  · intro h
    rcases Nat.lt_or_ge j (losQ Q F c) with z | z
    · exact z
    · exfalso
      have e : slQ Q F c = j := by
        unfold losQ at hj z
        omega
      rcases slkQ_at (Q := Q) (s := wsum Q (cellSum F)) (sh := shWn Q (famB F c)) 80 with y | ⟨a, ha, la, ya, yb, yc⟩
      · have : slQ Q F c = 9 := y
        omega
      · have yc : slQ Q F c = (wsum Q (cellSum F) a - Q 2) / shWn Q (famB F c) a := yc
        rw [e] at yc
        have w := ws a
        have k1 : j * shWn Q (famB F c) a ≤ wsum Q (cellSum F) a - Q 2 := by
          rw [yc]; exact Nat.div_mul_le_self _ _
        have k2 := h a ha la (by omega)
        have k3 : (j + 1) * shWn Q (famB F c) a ≤ wsum Q (cellSum F) a - Q 2 := by
          rw [Nat.add_mul, Nat.one_mul]
          omega
        have k4 := (Nat.le_div_iff_mul_le yb).mpr k3
        omega
  · intro h a ha la hq
    have w := ws a
    rcases Nat.eq_zero_or_pos (shWn Q (famB F c) a) with z | z
    · rw [z]; omega
    · have k1 : slQ Q F c ≤ (wsum Q (cellSum F) a - Q 2) / shWn Q (famB F c) a := slkQ_le 80 a ha la (by omega) z
      have k2 : j + 1 ≤ (wsum Q (cellSum F) a - Q 2) / shWn Q (famB F c) a := by
        unfold losQ at h
        omega
      have k3 := (Nat.le_div_iff_mul_le z).mp k2
      rw [Nat.add_mul, Nat.one_mul] at k3
      omega
/-- a cell's turn, in the reference -/
theorem thinM_ok {μ : St} {F : FF} {Q : Nat → Nat} (h1 : FfOk F) (hQ : QOk Q) (hM : MFd μ F) (hq : MQs μ Q) {c : Nat} (hc : c < 80) (x : Int32) : ∃ μ', bnd (f_X7_marks (nI c) μ) (fun r3 => f_X7_loses_J17 x (nI c) r3) = some (.inr (nI c + -nI 1, μ')) ∧ FmZ [0, 6, 8, 9] [3] μ μ' ∧ MFd μ' (subF F c (losQ Q F c)) := by
  obtain ⟨m1, e1, f1, hk⟩ := marks_ok hM.2.2.2.1 (fun c hc => (h1.1 c hc).2.2.2.1) hc
  have hM1 : MFd m1 F := hM.fm f1 (by decide)
  have b9 := (h1.1 c hc).2.2.2.2
  have ll := los_le (Q := Q) (F := F) (c := c)
  have e4 : ∀ j, (subF F c j) 4 c = F 4 c - j := fun j => famF_in (g := fun v => v - j) hc fam_self
  have hm : ∃ y, loopN (f_X7_loses_L17 x (nI c)) 4096 m1 = some y ∧ FmZ [0, 6, 8, 9] [3] μ y ∧ MFd y (subF F c (losQ Q F c)) := by
    refine loop_for (Inv := fun j v => FmZ [0, 6] [] m1 v ∧ MFd v (subF F c j)) (losQ Q F c) ?_ ?_ (by omega) ⟨FmZ.rfl', by rw [subF_0]; exact hM1⟩
    · rintro j v hj ⟨q1, q2⟩
      have hG := subF_ff h1 c j
      obtain ⟨r, v2, er, f2, hr⟩ := mayLose_ok (F := F) (c := c) q2 hG.1 ((hq.fm f1 (by decide)).fm q1 (by decide)) hQ (by rw [q1.1 8 (by decide)]; exact hk.1)
      have hz := hr.iff (los_iff h1 hc (by omega) (by omega))
      rw [e_X7_loses_L17, nI_add, gd_nI (by omega) (by decide), rd_nI _ 0 (by omega), q2.2.2.2.2 c hc, e4, if_neg (nI_ge (by omega) (by omega)), bnd_of er]
      dsimp only
      rcases hz with ⟨rfl, -⟩ | ⟨rfl, hz⟩
      · have hM2 : MFd v2 (subF F c j) := q2.fm f2 (by decide)
        have g1 : FmZ [0, 6] [] m1 v2 := q1.trans (f2.mono (by decide) (by decide))
        obtain ⟨y, e2, h2⟩ := fills_ok (F := subF F c j) (cell := c) hM2 (by rw [g1.1 8 (by decide)]; exact hk.1) (-nI 1) (famF F c (fun v => v - (j + 1))) (fun d hd hfm => by
          have hfm : famB F c d = true := hfm
          have eL : (subF F c j) 4 d = F 4 d - j := famF_in (g := fun v => v - j) hd hfm
          rw [eL, famF_in hd hfm]
          exact nI_prdQ (by rw [fam_fill h1 hc hd hfm]; omega)) (fun d hfm => by
          have hfm : (decide (d < 80) && famB F c d) = false := hfm
          have eL : (subF F c j) 4 d = F 4 d := famF_out (g := fun v => v - j) hfm
          rw [eL, famF_out hfm])
        rw [if_neg (by decide), bnd_of e2]
        refine ⟨_, rfl, FmZ.sAA g1 (by decide) _, ?_⟩
        exact h2
      · exact absurd hj hz
    · rintro v ⟨q1, q2⟩
      have hG := subF_ff h1 c (losQ Q F c)
      have f0 : FmZ [0, 6, 8, 9] [3] μ v := (f1.mono (by decide) (by decide)).trans (q1.mono (by decide) (by decide))
      rw [e_X7_loses_L17, nI_add, gd_nI (by omega) (by decide), rd_nI _ 0 (by omega), q2.2.2.2.2 c hc, e4]
      by_cases z : F 4 c - losQ Q F c = 0
      · rw [if_pos (by rw [z]; decide)]
        exact ⟨v, rfl, f0, q2⟩
      · obtain ⟨r, v2, er, f2, hr⟩ := mayLose_ok (F := F) (c := c) q2 hG.1 ((hq.fm f1 (by decide)).fm q1 (by decide)) hQ (by rw [q1.1 8 (by decide)]; exact hk.1)
        have hz := hr.iff (los_iff h1 hc (Nat.le_refl _) (by omega))
        rw [if_neg (nI_ge (by omega) (by omega)), bnd_of er]
        dsimp only
        rcases hz with ⟨rfl, hz⟩ | ⟨rfl, -⟩
        · exact absurd hz (Nat.lt_irrefl _)
        · rw [if_pos rfl]
          exact ⟨v2, rfl, f0.trans (f2.mono (by decide) (by decide)), q2.fm f2 (by decide)⟩
  obtain ⟨y, e, h⟩ := hm
  exact ⟨y, by rw [bnd_of e1, e_X7_loses_J17, bnd_of e, e_X7_loses_J45], h⟩
def dnQ (i : Nat) : Int32 := if i < 80 then nI (79 - i) else -nI 1
theorem dnQ_y {i : Nat} (h : i < 80) : dnQ i = nI (79 - i) := if_pos h
theorem dnQ_s {i : Nat} (h : i < 80) : nI (79 - i) + -nI 1 = dnQ (i + 1) := by
  by_cases q : i = 79
  · subst q; decide
  · rw [dnQ_y (by omega)]; exact nI_prdQ (by omega)
def thF (Q : Nat → Nat) (F : FF) : Nat → FF
  | 0 => F
  | i + 1 => subF (thF Q F i) (79 - i) (losQ Q (thF Q F i) (79 - i))
theorem thF_ff {Q : Nat → Nat} {F : FF} (h : FfOk F) : ∀ i, FfOk (thF Q F i)
  | 0 => h
  | i + 1 => subF_ff (thF_ff h i) _ _
theorem thinOut_ok {σ : St} {F : FF} {Q : Nat → Nat} (h1 : FfOk F) (hQ : QOk Q) (h : CSt σ F Q) : ∃ σ', f_X1_thinOut σ = some (nI (sumZ (F 4) 80) - nI (sumZ (thF Q F 80 4) 80), σ') ∧ FmZ [4, 5, 6, 7, 10] [] σ σ' ∧ CSt σ' (thF Q F 80) Q := by
  have hm : ∃ y, loopN (f_X1_thinOut_L14 (nI (sumZ (F 4) 80))) 4096 (nI 79, σ) = some y ∧ FmZ [4, 5, 6, 7, 10] [] σ y ∧ CSt y (thF Q F 80) Q := by
    refine loop_for (Inv := fun i v => v.1 = dnQ i ∧ FmZ [4, 5, 6, 7, 10] [] σ v.2 ∧ CSt v.2 (thF Q F i) Q) 80 ?_ ?_ (by decide) ⟨rfl, FmZ.rfl', h⟩
    · rintro i ⟨b, st⟩ hi ⟨q1, q2, q3⟩
      dsimp only at q1 q2 q3
      subst q1
      obtain ⟨s2, e2, f2, hS⟩ := thinC_ok (thF_ff h1 i) hQ q3 (c := 79 - i) (by omega) (nI (sumZ (F 4) 80))
      refine ⟨(dnQ (i + 1), s2), ?_, rfl, q2.trans f2, hS⟩
      rw [dnQ_y hi, e2, dnQ_s hi]
    · rintro ⟨b, st⟩ ⟨q1, q2, q3⟩
      dsimp only at q1 q2 q3
      subst q1
      exact ⟨st, by rw [e_X1_thinOut_L14, if_pos (by decide)], q2, q3⟩
  obtain ⟨y, e, f1, hS⟩ := hm
  refine ⟨y, ?_, f1, hS⟩
  rw [e_X1_thinOut, bnd_of (total_eq σ 4 rfl (F 4) h.1.2.2.2.2), e_X1_thinOut_J14, bnd_of e, e_X1_thinOut_J77, bnd_of (total_eq y 4 rfl (thF Q F 80 4) hS.1.2.2.2.2)]
theorem loses_ok {μ : St} {F : FF} {Q : Nat → Nat} (h1 : FfOk F) (hQ : QOk Q) (hM : MFd μ F) (hq : MQs μ Q) : ∃ μ', f_X7_loses μ = some (nI (sumZ (F 4) 80) - nI (sumZ (thF Q F 80 4) 80), μ') ∧ FmZ [0, 6, 8, 9] [3] μ μ' ∧ MFd μ' (thF Q F 80) := by
  have hm : ∃ y, loopN (f_X7_loses_L8 (nI (sumZ (F 4) 80))) 4096 (nI 79, μ) = some y ∧ FmZ [0, 6, 8, 9] [3] μ y ∧ MFd y (thF Q F 80) := by
    refine loop_for (Inv := fun i v => v.1 = dnQ i ∧ FmZ [0, 6, 8, 9] [3] μ v.2 ∧ MFd v.2 (thF Q F i)) 80 ?_ ?_ (by decide) ⟨rfl, FmZ.rfl', hM⟩
    · rintro i ⟨b, st⟩ hi ⟨q1, q2, q3⟩
      dsimp only at q1 q2 q3
      subst q1
      obtain ⟨s2, e2, f2, hS⟩ := thinM_ok (thF_ff h1 i) hQ q3 (hq.fm q2 (by decide)) (c := 79 - i) (by omega) (nI (sumZ (F 4) 80))
      refine ⟨(dnQ (i + 1), s2), ?_, rfl, q2.trans f2, hS⟩
      rw [dnQ_y hi, e_X7_loses_L8, if_neg (nI_nn (by omega)), e2, dnQ_s hi]
    · rintro ⟨b, st⟩ ⟨q1, q2, q3⟩
      dsimp only at q1 q2 q3
      subst q1
      exact ⟨st, by rw [e_X7_loses_L8, if_pos (by decide)], q2, q3⟩
  obtain ⟨y, e, f1, hS⟩ := hm
  refine ⟨y, ?_, f1, hS⟩
  rw [e_X7_loses, bnd_of (fillOf_eq hM.2.2.2.2), e_X7_loses_J8, bnd_of e, e_X7_loses_J51, bnd_of (fillOf_eq hS.2.2.2.2)]
theorem sim_thins : Sim0 TieZ f_X6_thins f_X7_thins := by
  intro σ μ h
  obtain ⟨F, Q, n, t, o, P, h1, h2, h3, h4, h5, h6, h7, h8, h9, h10⟩ := id h
  rw [e_X6_thins, e_X7_thins]
  obtain ⟨hn, ho, hk, hk2, hol, hP1, hP2, hP3⟩ := id h10
  obtain ⟨r, e1, hr, hr2⟩ := note_ok h3 h1.1 hol ho hk hn
  obtain ⟨r2, a1, a2⟩ := aside_ok μ
  obtain ⟨σ3, e2, f1, hS⟩ := thinOut_ok (σ := sAA σ 15 r) h1 h2 ⟨h3, h4, h5⟩
  obtain ⟨μ3, e3, f2, hM⟩ := loses_ok (μ := sAA μ 2 r2) h1 h2 h6 h7
  obtain ⟨t1, σ4, μ4, t2, t3, -, t4⟩ := note_tie h1 h2 h6 h7 h8 h9 h10 hr hr2 a2 (thF_ff h1 80) hS (f1.mono (by decide) (by decide)) hM (f2.mono (by decide) (by decide))
  rw [bnd_of e1, bnd_of a1, bnd_of e2, bnd_of e3]
  dsimp only
  by_cases z : nI (sumZ (F 4) 80) - nI (sumZ (thF Q F 80 4) 80) ≤ nI 0
  · rw [if_pos z, if_pos z]
    exact ⟨_, _, _, rfl, rfl, t1⟩
  · rw [if_neg z, if_neg z, bnd_of t2, bnd_of t3]
    exact ⟨_, _, _, rfl, rfl, t4⟩
