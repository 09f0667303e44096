/-! ===== PURE 20: windows, order, turn: the reference's loops ===== -/
theorem isThin7_eq {μ : St} {Q s : Nat → Nat} {a : Nat} (ha : a < 80) (h6 : μ.1 6 a = smOf Q s a) (hM : MQs μ Q) (hq : Q 2 ≤ 720) (hs : s a < 2 ^ 30) : f_X7_isThin (nI a) μ = some (if thinB Q s a then nI 1 else nI 0) := by
  rw [e_X7_isThin, gd_nI ha (by decide), gd_nI ha (by decide), gd_nI (by decide) (by decide), rd_nI _ 6 (by omega), rd_nI _ 3 (by omega), h6, hM 2 (by decide)]
  unfold thinB
  cases hl : lies Q a
  · rw [sm_n hl, if_pos m1_lt0, Bool.false_and, bF]
  · rw [sm_y hl, if_neg (nI_nn (by omega)), Bool.true_and]
    by_cases q : s a < Q 2
    · rw [if_neg (nI_ge q (by omega)), if_pos (decide_eq_true q)]
    · rw [if_pos (nI_le (by omega) (by omega)), if_neg (by simpa using q)]
theorem wn131 (x y z : Int32) (μ : St) : f_X7_windowsNow_J131 x y z μ = some (.inr (z + nI 1, y + nI 1)) := by rw [e_X7_windowsNow_J131, e_X7_windowsNow_J136]
theorem wn135 (x y z : Int32) (μ : St) : f_X7_windowsNow_J135 x y z μ = some (.inr (z + nI 0, y + nI 1)) := by rw [e_X7_windowsNow_J135, e_X7_windowsNow_J136]
theorem wn_run {μ : St} {w : Nat} {p : Nat → Bool} (h : ∀ i b, i < 80 → f_X7_windowsNow_L4 (nI w) μ (nI b, nI i) = some (.inr (nI (b + if p i then 1 else 0), nI (i + 1)))) : f_X7_windowsNow (nI w) μ = some (nI (cntZ p 80)) := by
  have e : loopN (f_X7_windowsNow_L4 (nI w) μ) 4096 (nI 0, nI 0) = some (nI (cntZ p 80)) := by
    refine loopN_run (tr := fun i => (nI (cntZ p i), nI i)) 80 _ ?_ ?_ (by decide)
    · intro i hi
      rw [h i _ hi, cntZ_succ]
    · rw [e_X7_windowsNow_L4, if_pos (nI_le (Nat.le_refl _) (by decide))]
  rw [e_X7_windowsNow, e_X7_windowsNow_J4, bnd_of e]
theorem wn29 {w : Nat} (hw : ¬ nI w = nI 3) (b v t : Int32) (μ : St) : loopN (f_X7_windowsNow_L29 (nI w) b v μ) 4096 (t, nI 0) = some t := by
  refine loop_l (n := 4095) ?_
  rw [e_X7_windowsNow_L29, if_neg hw]
  split <;> rfl
/-- whether no window ahead has its sum, asked one by one -/
theorem wn29_3 {μ : St} {Q s : Nat → Nat} (h6 : ∀ a, a < 80 → μ.1 6 a = smOf Q s a) (hs : ∀ a, s a < 2 ^ 30) {v : Nat} (hv : v < 80) (b : Int32) : loopN (f_X7_windowsNow_L29 (nI 3) b (nI v) μ) 4096 (if lies Q v then nI 1 else nI 0, nI 0) = some (if lies Q v && fzB Q s v then nI 1 else nI 0) := by
  have h0 : (if lies Q v then nI 1 else nI 0) = (if lies Q v && decide (cntZ (fun u => lies Q u && (s u == s v)) 0 = 0) then nI 1 else nI 0) := by
    cases lies Q v <;> rfl
  rw [h0]
  refine loopN_run (tr := fun i => (if lies Q v && decide (cntZ (fun u => lies Q u && (s u == s v)) i = 0) then nI 1 else nI 0, nI i)) v _ ?_ ?_ (by omega)
  · intro i hi
    have b1 := hs i
    have b2 := hs v
    rw [e_X7_windowsNow_L29, if_neg (nI_ge hi (by omega)), if_pos rfl, bit_if, e_X7_windowsNow_J65, gd_nI (by omega) (by decide), gd_nI hv (by decide), rd_nI _ 6 (by omega), rd_nI _ 6 (by omega), h6 _ (by omega), h6 _ hv, nI_add, cntZ_succ]
    cases hl : lies Q v
    · rw [Bool.false_and, bF, Bool.false_and, bF]
    · rw [sm_y hl, Bool.true_and, Bool.true_and]
      by_cases q : cntZ (fun u => lies Q u && (s u == s v)) i = 0
      · rw [q, decide_eq_true rfl, bT]
        cases hu : lies Q i
        · rw [sm_n hu, if_neg (fun z => m1_ne (a := s v) (by omega) z.symm)]; rfl
        · rw [sm_y hu]
          by_cases q2 : s i = s v
          · rw [if_pos (by rw [q2]), show (true && (s i == s v)) = true from by rw [q2]; simp]; rfl
          · rw [if_neg (by rw [nI_eq (by omega) (by omega)]; exact q2), show (true && (s i == s v)) = false from by simpa using q2]; rfl
      · rw [decide_eq_false q, bF, decide_eq_false (by omega), bF]
  · rw [e_X7_windowsNow_L29, if_pos (nI_le (Nat.le_refl _) (by omega))]
    rfl
def wnB (Q s : Nat → Nat) (w v : Nat) : Bool := match w with
  | 0 => lies Q v
  | 1 => thinB Q s v
  | 2 => lies Q v && decide (Q 3 < s v)
  | _ => lies Q v && fzB Q s v
theorem windowsNow_eq {μ : St} {Q s : Nat → Nat} (h6 : ∀ a, a < 80 → μ.1 6 a = smOf Q s a) (hs : ∀ a, s a < 2 ^ 30) (hM : MQs μ Q) (hQ : QOk Q) {w : Nat} (hw : w ≤ 3) : f_X7_windowsNow (nI w) μ = some (nI (cntZ (wnB Q s w) 80)) := by
  obtain ⟨-, -, -, -, q2, q3, -⟩ := hQ
  refine wn_run fun i b hi => ?_
  have bi := hs i
  have e24 : f_X7_windowsNow_L4 (nI w) μ (nI b, nI i) = f_X7_windowsNow_J24 (nI w) (nI b) (nI i) (if lies Q i then nI 1 else nI 0) μ := by
    rw [e_X7_windowsNow_L4, if_neg (nI_ge hi (by decide)), gd_nI hi (by decide), rd_nI _ 6 (by omega), h6 i hi]
    cases hl : lies Q i
    · rw [sm_n hl, if_pos m1_lt0, bF]
    · rw [sm_y hl, if_neg (nI_nn (by omega)), bT]
  rw [e24, e_X7_windowsNow_J24, e_X7_windowsNow_J29]
  match w, hw with
  | 0, _ =>
    rw [bnd_of (wn29 (by decide) _ _ _ _), e_X7_windowsNow_J74, gd_nI hi (by decide), rd_nI _ 6 (by omega), h6 i hi, wn135, wn131, nI_add, nI_add, nI_add]
    show _ = some (Sum.inr (nI (b + if lies Q i then 1 else 0), _))
    cases hl : lies Q i
    · rw [sm_n hl, if_pos m1_lt0, bF]
    · rw [sm_y hl, if_neg (nI_nn (by omega)), if_pos rfl, bT]
  | 1, _ =>
    rw [bnd_of (wn29 (by decide) _ _ _ _), e_X7_windowsNow_J74, gd_nI hi (by decide), rd_nI _ 6 (by omega), h6 i hi, wn135, wn131, nI_add, nI_add, nI_add, bnd_of (isThin7_eq hi (h6 i hi) hM q2 bi), bit_if]
    show _ = some (Sum.inr (nI (b + if thinB Q s i then 1 else 0), _))
    rw [e_X7_windowsNow_J101, if_neg (by decide : ¬ nI 1 = nI 2), e_X7_windowsNow_J121, if_neg (by decide : ¬ nI 1 = nI 3), wn135, nI_add, nI_add]
    unfold thinB
    cases hl : lies Q i
    · rw [sm_n hl, if_pos m1_lt0, Bool.false_and, bF]
    · rw [sm_y hl, if_neg (nI_nn (by omega)), if_neg (by decide), if_pos rfl, Bool.true_and]
      cases decide (s i < Q 2) <;> rfl
  | 2, _ =>
    rw [bnd_of (wn29 (by decide) _ _ _ _), e_X7_windowsNow_J74, gd_nI hi (by decide), rd_nI _ 6 (by omega), h6 i hi, wn135]
    show _ = some (Sum.inr (nI (b + if lies Q i && decide (Q 3 < s i) then 1 else 0), _))
    rw [e_X7_windowsNow_J101, if_pos rfl, e_X7_windowsNow_J121, if_neg (by decide : ¬ nI 2 = nI 3), wn135, wn131, nI_add, nI_add, nI_add, gd_nI hi (by decide), gd_nI (by decide) (by decide), rd_nI _ 6 (by omega), rd_nI _ 3 (by omega), h6 i hi, hM 3 (by decide)]
    cases hl : lies Q i
    · rw [sm_n hl, if_pos m1_lt0, Bool.false_and, bF]
    · rw [sm_y hl, if_neg (nI_nn (by omega)), if_neg (by decide), if_neg (by decide), Bool.true_and]
      by_cases q : Q 3 < s i
      · rw [if_pos (nI_lt q (by omega)), if_pos (decide_eq_true q)]
      · rw [if_neg (nI_nlt (by omega) (by omega)), if_neg (by simpa using q)]
  | 3, _ =>
    rw [bnd_of (wn29_3 h6 hs hi _), e_X7_windowsNow_J74, gd_nI hi (by decide), rd_nI _ 6 (by omega), h6 i hi, wn135]
    show _ = some (Sum.inr (nI (b + if lies Q i && fzB Q s i then 1 else 0), _))
    rw [e_X7_windowsNow_J101, if_neg (by decide : ¬ nI 3 = nI 2), e_X7_windowsNow_J121, if_pos (rfl : nI 3 = nI 3), wn135, wn131, nI_add, nI_add, nI_add, bit_if]
    cases hl : lies Q i
    · rw [sm_n hl, if_pos m1_lt0, Bool.false_and, bF]
    · rw [sm_y hl, if_neg (nI_nn (by omega)), if_neg (by decide), if_neg (by decide), Bool.true_and]
      cases fzB Q s i <;> rfl
  | w + 4, hw => omega
theorem sim_windows : Sim1 TieZ f_X6_windows f_X7_windows := by
  intro x σ μ h
  obtain ⟨F, Q, n, t, o, P, h1, h2, h3, h4, h5, h6, h7, h8, h9, h10⟩ := id h
  obtain ⟨r, e1, hr⟩ := laysSums_ok h6 h1.1 h7 h2
  have hT : TieZ σ (sAA μ 6 r) := h.scratch rfl rfl rfl rfl rfl rfl rfl
  have hs : ∀ a, wsum Q (cellSum F) a < 2 ^ 30 := fun a => wsum_l30 h1.1 a
  have r6 : ∀ a, a < 80 → (sAA μ 6 r).1 6 a = smOf Q (wsum Q (cellSum F)) a := fun a ha => by rw [sAA_self]; exact hr a ha
  obtain ⟨-, -, -, -, q2, q3, -⟩ := id h2
  by_cases hx : (0 ≤ x ∧ x ≤ nI 3)
  · obtain ⟨j, hj, rfl⟩ := in_nI (b := 3) (by decide) hx
    have em := windowsNow_eq (μ := sAA μ 6 r) r6 hs h7 h2 hj
    refine ⟨nI (cntZ (wnB Q (wsum Q (cellSum F)) j) 80), σ, _, ?_, by rw [e_X7_windows, bnd_of e1, bnd_of (in7_nI hj (by decide)), if_neg (by decide), bnd_of em], hT⟩
    match j, hj with
    | 0, hj => rw [e_X6_windows, if_pos rfl, bnd_of (count_eq h4.2.1 h4.2.2.1 h2)]; rfl
    | 1, hj => rw [e_X6_windows, if_neg (by decide), if_pos rfl, bnd_of (countThin_eq h5.1.1 hs h4.2.2.2.1 q2)]; rfl
    | 2, hj => rw [e_X6_windows, if_neg (by decide), if_neg (by decide), if_pos rfl, bnd_of (countThick_eq h5.1.1 hs h4.2.2.2.2.1 q3)]; rfl
    | 3, hj => rw [e_X6_windows, if_neg (by decide), if_neg (by decide), if_neg (by decide), if_pos rfl, bnd_of (countUnlike_eq h5.1.1 hs)]; rfl
    | j + 4, hj => omega
  · obtain ⟨rr, σr, μr, er1, er2, hrr⟩ := ref_bnd hT (-2) (by decide)
    refine ⟨rr, σr, μr, ?_, ?_, hrr⟩
    · rw [e_X6_windows, if_neg (fun q => hx (by subst q; decide)), if_neg (fun q => hx (by subst q; decide)), if_neg (fun q => hx (by subst q; decide)), if_neg (fun q => hx (by subst q; decide))]
      exact er1
    · rw [e_X7_windows, bnd_of e1, bnd_of (in7_n hx), if_pos rfl]
      exact er2
/-! lessThan -/
theorem lt48_0 (x b v t : Int32) (μ : St) : loopN (f_X7_lessThan_L48 x (nI 0) b v μ) 4096 (t, nI 0) = some t := by
  refine loop_l (n := 4095) ?_
  rw [e_X7_lessThan_L48, if_pos rfl]
  split <;> rfl
theorem lt48_1 {μ : St} {Q s : Nat → Nat} (h6 : ∀ a, a < 80 → μ.1 6 a = smOf Q s a) (hs : ∀ a, s a < 2 ^ 30) {v : Nat} (hv : v < 80) (x b : Int32) (p : Bool) (hp : p = true → lies Q v = true) : loopN (f_X7_lessThan_L48 x (nI 1) b (nI v) μ) 4096 (if p then nI 1 else nI 0, nI 0) = some (if p && fzB Q s v then nI 1 else nI 0) := by
  have h0 : (if p then nI 1 else nI 0) = (if p && decide (cntZ (fun u => lies Q u && (s u == s v)) 0 = 0) then nI 1 else nI 0) := by
    cases p <;> rfl
  rw [h0]
  refine loopN_run (tr := fun i => (if p && decide (cntZ (fun u => lies Q u && (s u == s v)) i = 0) then nI 1 else nI 0, nI i)) v _ ?_ ?_ (by omega)
  · intro i hi
    have b1 := hs i
    have b2 := hs v
    rw [e_X7_lessThan_L48, if_neg (nI_ge hi (by omega)), if_neg (by decide), bit_if, e_X7_lessThan_J85, gd_nI (by omega) (by decide), gd_nI hv (by decide), rd_nI _ 6 (by omega), rd_nI _ 6 (by omega), h6 _ (by omega), h6 _ hv, nI_add, cntZ_succ]
    cases p
    · rw [Bool.false_and, bF, Bool.false_and, bF]
    · have hl := hp rfl
      rw [sm_y hl, Bool.true_and, Bool.true_and]
      by_cases q : cntZ (fun u => lies Q u && (s u == s v)) i = 0
      · rw [q, decide_eq_true rfl, bT]
        cases hu : lies Q i
        · rw [sm_n hu, if_neg (fun z => m1_ne (a := s v) (by omega) z.symm)]; rfl
        · rw [sm_y hu]
          by_cases q2 : s i = s v
          · rw [if_pos (by rw [q2]), show (true && (s i == s v)) = true from by rw [q2]; simp]; rfl
          · rw [if_neg (by rw [nI_eq (by omega) (by omega)]; exact q2), show (true && (s i == s v)) = false from by simpa using q2]; rfl
      · rw [decide_eq_false q, bF, decide_eq_false (by omega), bF]
  · rw [e_X7_lessThan_L48, if_pos (nI_le (Nat.le_refl _) (by omega))]
    rfl
theorem lt_L5 {μ : St} {Q s : Nat → Nat} (h6 : ∀ a, a < 80 → μ.1 6 a = smOf Q s a) (hs : ∀ a, s a < 2 ^ 30) {w v : Nat} (hw : w < 80) (hv : v < 80) (lw : lies Q w = true) (u b : Int32) : f_X7_lessThan_L5 (nI w) u μ (b, nI v) = f_X7_lessThan_J48 (nI w) u b (nI v) (if lies Q v && decide (s v < s w) then nI 1 else nI 0) (nI 0) μ := by
  have b1 := hs w
  have b2 := hs v
  rw [e_X7_lessThan_L5, if_neg (nI_ge hv (by decide)), gd_nI hv (by decide), gd_nI hv (by decide), gd_nI hw (by decide), rd_nI _ 6 (by omega), rd_nI _ 6 (by omega), h6 v hv, h6 w hw, sm_y lw, e_X7_lessThan_J42, e_X7_lessThan_J43, e_X7_lessThan_J43]
  cases hl : lies Q v
  · rw [sm_n hl, if_pos m1_lt0, Bool.false_and, bF]
  · rw [sm_y hl, if_neg (nI_nn (by omega)), Bool.true_and]
    by_cases q : s v < s w
    · rw [if_neg (nI_ge q (by omega)), if_pos (decide_eq_true q)]
    · rw [if_pos (nI_le (by omega) (by omega)), if_neg (by simpa using q)]
theorem lessThan_1 {μ : St} {Q s : Nat → Nat} (h6 : ∀ a, a < 80 → μ.1 6 a = smOf Q s a) (hs : ∀ a, s a < 2 ^ 30) {w : Nat} (hw : w < 80) (lw : lies Q w = true) : f_X7_lessThan (nI w) (nI 1) μ = some (nI (lqN Q s (s w))) := by
  have e : loopN (f_X7_lessThan_L5 (nI w) (nI 1) μ) 4096 (nI 0, nI 0) = some (nI (lqN Q s (s w))) := by
    refine loopN_run (tr := fun i => (nI (cntZ (fun v => (lies Q v && decide (s v < s w)) && fzB Q s v) i), nI i)) 80 _ ?_ ?_ (by decide)
    · intro i hi
      rw [lt_L5 h6 hs hw hi lw, e_X7_lessThan_J48, bnd_of (lt48_1 h6 hs hi _ _ (lies Q i && decide (s i < s w)) (fun z => by rw [Bool.and_eq_true] at z; exact z.1)), e_X7_lessThan_J94, bit_if, e_X7_lessThan_J105, e_X7_lessThan_J105, cntZ_succ, nI_add, nI_add, nI_add]
      cases ((lies Q i && decide (s i < s w)) && fzB Q s i) <;> rfl
    · rw [e_X7_lessThan_L5, if_pos (nI_le (Nat.le_refl _) (by decide))]; rfl
  rw [e_X7_lessThan, e_X7_lessThan_J5, bnd_of e]
theorem lessThan_0 {μ : St} {Q s : Nat → Nat} (h6 : ∀ a, a < 80 → μ.1 6 a = smOf Q s a) (hs : ∀ a, s a < 2 ^ 30) {w : Nat} (hw : w < 80) (lw : lies Q w = true) : f_X7_lessThan (nI w) (nI 0) μ = some (nI (ltN Q s (s w))) := by
  have e : loopN (f_X7_lessThan_L5 (nI w) (nI 0) μ) 4096 (nI 0, nI 0) = some (nI (ltN Q s (s w))) := by
    refine loopN_run (tr := fun i => (nI (cntZ (fun v => lies Q v && decide (s v < s w)) i), nI i)) 80 _ ?_ ?_ (by decide)
    · intro i hi
      rw [lt_L5 h6 hs hw hi lw, e_X7_lessThan_J48, bnd_of (lt48_0 _ _ _ _ _), e_X7_lessThan_J94, bit_if, e_X7_lessThan_J105, e_X7_lessThan_J105, cntZ_succ, nI_add, nI_add, nI_add]
      cases (lies Q i && decide (s i < s w)) <;> rfl
    · rw [e_X7_lessThan_L5, if_pos (nI_le (Nat.le_refl _) (by decide))]; rfl
  rw [e_X7_lessThan, e_X7_lessThan_J5, bnd_of e]
/-! order -/
theorem order7_ok {μ : St} {Q s : Nat → Nat} (h6 : ∀ a, a < 80 → μ.1 6 a = smOf Q s a) (hs : ∀ a, s a < 2 ^ 30) {k m : Nat} (hk : k < 2 ^ 31) (hm : ∀ w, w < 80 → lies Q w = true → lqN Q s (s w) = k → s w = m) (x2 : Int32) : f_X7_order_J32 (nI k) x2 (nI 0) (-nI 1) (nI 0) μ = f_X7_order_J78 x2 (nI (cntZ (fun w => lies Q w && (lqN Q s (s w) == k)) 80)) (if cntZ (fun w => lies Q w && (lqN Q s (s w) == k)) 80 = 0 then -nI 1 else nI m) μ := by
  have e : loopN (f_X7_order_L32 (nI k) x2 μ) 4096 (nI 0, -nI 1, nI 0) = some (nI (cntZ (fun w => lies Q w && (lqN Q s (s w) == k)) 80), if cntZ (fun w => lies Q w && (lqN Q s (s w) == k)) 80 = 0 then -nI 1 else nI m) := by
    refine loopN_run (tr := fun i => (nI (cntZ (fun w => lies Q w && (lqN Q s (s w) == k)) i), if cntZ (fun w => lies Q w && (lqN Q s (s w) == k)) i = 0 then -nI 1 else nI m, nI i)) 80 _ ?_ ?_ (by decide)
    · intro i hi
      have bi := hs i
      have bl : lqN Q s (s i) ≤ 80 := cntZ_le
      rw [e_X7_order_L32, if_neg (nI_ge hi (by decide)), gd_nI hi (by decide), gd_nI hi (by decide), rd_nI _ 6 (by omega), h6 i hi, nI_add, nI_add, cntZ_succ]
      cases hl : lies Q i
      · rw [sm_n hl, if_pos m1_lt0]; rfl
      · rw [sm_y hl, if_neg (nI_nn (by omega)), bnd_of (lessThan_1 h6 hs hi hl)]
        by_cases q : lqN Q s (s i) = k
        · rw [if_pos (by rw [q]), show (true && (lqN Q s (s i) == k)) = true from by rw [q]; simp, bT, if_neg (by omega : ¬ cntZ (fun w => lies Q w && (lqN Q s (s w) == k)) i + 1 = 0), hm i hi hl q]
        · rw [if_neg (by rw [nI_eq (by omega) (by omega)]; exact q), show (true && (lqN Q s (s i) == k)) = false from by simpa using q]; rfl
    · rw [e_X7_order_L32, if_pos (nI_le (Nat.le_refl _) (by decide))]
  rw [e_X7_order_J32, bnd_of e]
theorem neg_lt {x : Int32} (h : ¬ x < nI 0) : ∃ k, k < 2 ^ 31 ∧ x = nI k := nI_of h
theorem sim_order : Sim2 TieZ f_X6_order f_X7_order := by
  intro x y σ μ h
  obtain ⟨F, Q, n, t, o, P, h1, h2, h3, h4, h5, h6, h7, h8, h9, h10⟩ := id h
  have bad : ∃ r σ' μ', f_X6_order_J13 σ = some (r, σ') ∧ f_X7_order_J13 μ = some (r, μ') ∧ TieZ σ' μ' := by
    rw [e_X6_order_J13, e_X7_order_J13]
    exact ref_bnd h (-2) (by decide)
  rw [e_X6_order, e_X7_order]
  by_cases hx : x < nI 0
  · rw [if_pos hx, if_pos hx]
    exact bad
  · rw [if_neg hx, if_neg hx]
    by_cases hy : (0 ≤ y ∧ y ≤ nI 1)
    · obtain ⟨j, hj, rfl⟩ := in_nI (b := 1) (by decide) hy
      obtain ⟨k, hk, rfl⟩ := neg_lt hx
      obtain ⟨r, e1, hr⟩ := laysSums_ok h6 h1.1 h7 h2
      have hT : TieZ σ (sAA μ 6 r) := h.scratch rfl rfl rfl rfl rfl rfl rfl
      have hs : ∀ a, wsum Q (cellSum F) a < 2 ^ 30 := fun a => wsum_l30 h1.1 a
      have r6 : ∀ a, a < 80 → (sAA μ 6 r).1 6 a = smOf Q (wsum Q (cellSum F)) a := fun a ha => by rw [sAA_self]; exact hr a ha
      obtain ⟨ru, eu, hu⟩ := unlikeSum_ok (σ := σ) h5.1.1 hs hk
      rw [bnd_of (isIn_nI hj (by decide)), bnd_of (in7_nI hj (by decide)), if_neg (by decide), if_neg (by decide), bnd_of eu, bnd_of e1]
      rcases hu with ⟨m, rfl, hv, hm⟩ | ⟨rfl, hm⟩
      · have bm := val_lt hs hv
        have hq : ∀ w, w < 80 → lies Q w = true → lqN Q (wsum Q (cellSum F)) (wsum Q (cellSum F) w) = k → wsum Q (cellSum F) w = m := fun w hw lw hl => lqN_inj ⟨w, hw, lw, rfl⟩ hv (by rw [hl, hm])
        rw [order7_ok r6 hs hk hq]
        have en : cntZ (fun w => lies Q w && (lqN Q (wsum Q (cellSum F)) (wsum Q (cellSum F) w) == k)) 80 = eqN Q (wsum Q (cellSum F)) m := cntZ_congr fun w hw => by
          show (lies Q w && (lqN Q (wsum Q (cellSum F)) (wsum Q (cellSum F) w) == k)) = (lies Q w && (wsum Q (cellSum F) w == m))
          cases hl : lies Q w
          · rw [Bool.false_and, Bool.false_and]
          · rw [Bool.true_and, Bool.true_and]
            by_cases q : wsum Q (cellSum F) w = m
            · rw [q, hm]; simp
            · rw [show (wsum Q (cellSum F) w == m) = false from by simpa using q, beq_eq_false_iff_ne]
              exact fun z => q (hq w hw hl z)
        have e0 : eqN Q (wsum Q (cellSum F)) m ≠ 0 := by
          obtain ⟨a, ha, la, sa⟩ := hv
          have := cntZ_ltn (p := fun v => lies Q v && (wsum Q (cellSum F) v == m)) ha (by show (lies Q a && (wsum Q (cellSum F) a == m)) = true; rw [la, sa]; simp)
          unfold eqN
          omega
        have be : eqN Q (wsum Q (cellSum F)) m ≤ 80 := cntZ_le
        rw [en, if_neg e0, e_X7_order_J78, if_neg (neq_f (b := 0) e0 (by omega) (by decide) rfl rfl), e_X6_order_J41]
        match j, hj with
        | 0, _ => exact ⟨_, σ, _, if_pos rfl, if_pos rfl, hT⟩
        | 1, _ => exact ⟨nI (eqN Q (wsum Q (cellSum F)) m), σ, _, by rw [if_neg (by decide), if_neg (m1_ne (by omega)), bnd_of (countOf_eq h5.1.1 hs bm)], if_neg (by decide), hT⟩
        | j + 2, hj => omega
      · have hq : ∀ w, w < 80 → lies Q w = true → lqN Q (wsum Q (cellSum F)) (wsum Q (cellSum F) w) = k → False := fun w hw lw hl => by
          have := lqN_uq (Q := Q) (s := wsum Q (cellSum F)) ⟨w, hw, lw, rfl⟩
          omega
        rw [order7_ok (m := 0) r6 hs hk (fun w hw lw hl => (hq w hw lw hl).elim)]
        have en : cntZ (fun w => lies Q w && (lqN Q (wsum Q (cellSum F)) (wsum Q (cellSum F) w) == k)) 80 = 0 := cntZ_0 fun w hw => by
          cases hl : lies Q w
          · rfl
          · rw [Bool.true_and, beq_eq_false_iff_ne]
            exact fun z => hq w hw hl z
        rw [en, e_X7_order_J78, if_pos (rfl : -nI 1 = -nI 1), if_pos (rfl : nI 0 = nI 0), e_X6_order_J41]
        refine ⟨_, σ, _, ?_, rfl, hT⟩
        split <;> rfl
    · rw [bnd_of (isIn_n hy), bnd_of (in7_n hy), if_pos rfl, if_pos rfl]
      exact bad
/-! turn -/
theorem turn7_ok {μ : St} {Q s : Nat → Nat} (h6 : ∀ a, a < 80 → μ.1 6 a = smOf Q s a) (hs : ∀ a, s a < 2 ^ 30) {k W : Nat} (hk : k < 2 ^ 31) (hW : ∀ w, w < 80 → lies Q w = true → (ahN Q s w = k ↔ w = W)) (hW2 : W < 80 → lies Q W = true) : f_X7_turn_J19 (nI k) (-nI 1) (nI 0) μ = some (if W < 80 then nI W else -nI 1, μ) := by
  have e : loopN (f_X7_turn_L19 (nI k) μ) 4096 (-nI 1, nI 0) = some (if W < 80 then nI W else -nI 1) := by
    refine loopN_run (tr := fun i => (if W < i then nI W else -nI 1, nI i)) 80 _ ?_ ?_ (by decide)
    · intro i hi
      have bi := hs i
      rw [e_X7_turn_L19, if_neg (nI_ge hi (by decide)), gd_nI hi (by decide), rd_nI _ 6 (by omega), h6 i hi, nI_add]
      cases hl : lies Q i
      · have ne : W ≠ i := fun z => by subst z; rw [hW2 hi] at hl; exact absurd hl (by decide)
        rw [sm_n hl, if_pos m1_lt0]
        by_cases q : W < i
        · rw [if_pos q, if_pos (by omega : W < i + 1)]
        · rw [if_neg q, if_neg (by omega : ¬ W < i + 1)]
      · have ba : ahN Q s i < 161 := by
          have h1 : ltN Q s (s i) ≤ 80 := cntZ_le
          have h2 : cntZ (fun v => lies Q v && (s v == s i)) i ≤ i := cntZ_le
          unfold ahN; omega
        have ein : loopN (f_X7_turn_L45 (nI k) (if W < i then nI W else -nI 1) (nI i) μ) 4096 (nI (ltN Q s (s i)), nI 0) = some (nI (ahN Q s i)) := by
          have e0 : nI (ltN Q s (s i)) = nI (ltN Q s (s i) + cntZ (fun v => lies Q v && (s v == s i)) 0) := by rw [show cntZ (fun v => lies Q v && (s v == s i)) 0 = 0 from rfl, Nat.add_zero]
          rw [e0]
          refine loopN_run (tr := fun j => (nI (ltN Q s (s i) + cntZ (fun v => lies Q v && (s v == s i)) j), nI j)) i _ ?_ ?_ (by omega)
          · intro j hj
            have bj := hs j
            rw [e_X7_turn_L45, if_neg (nI_ge hj (by omega)), gd_nI (by omega) (by decide), gd_nI hi (by decide), rd_nI _ 6 (by omega), rd_nI _ 6 (by omega), h6 j (by omega), h6 i hi, sm_y hl, e_X7_turn_J74, e_X7_turn_J74, cntZ_succ, nI_add, nI_add, nI_add, ← Nat.add_assoc]
            cases hu : lies Q j
            · rw [sm_n hu, if_neg (fun z => m1_ne (a := s i) (by omega) z.symm)]; rfl
            · rw [sm_y hu]
              by_cases q2 : s j = s i
              · rw [if_pos (by rw [q2]), show (true && (s j == s i)) = true from by rw [q2]; simp]; rfl
              · rw [if_neg (by rw [nI_eq (by omega) (by omega)]; exact q2), show (true && (s j == s i)) = false from by simpa using q2]; rfl
          · rw [e_X7_turn_L45, if_pos (nI_le (Nat.le_refl _) (by omega))]; rfl
        rw [sm_y hl, if_neg (nI_nn (by omega)), bnd_of (lessThan_0 h6 hs hi hl), e_X7_turn_J45, bnd_of ein, e_X7_turn_J83, nI_add]
        by_cases q : ahN Q s i = k
        · have ew := (hW i hi hl).mp q
          subst ew
          rw [if_pos (by rw [q]), if_pos (by omega : i < i + 1)]
        · have ne : i ≠ W := fun z => q ((hW i hi hl).mpr z)
          rw [if_neg (by rw [nI_eq (by omega) (by omega)]; exact q)]
          by_cases q : W < i
          · rw [if_pos q, if_pos (by omega : W < i + 1)]
          · rw [if_neg q, if_neg (by omega : ¬ W < i + 1)]
    · rw [e_X7_turn_L19, if_pos (nI_le (Nat.le_refl _) (by decide))]
  rw [e_X7_turn_J19, bnd_of e]
theorem sim_turn : Sim1 TieZ f_X6_turn f_X7_turn := by
  intro x σ μ h
  obtain ⟨F, Q, n, t, o, P, h1, h2, h3, h4, h5, h6, h7, h8, h9, h10⟩ := id h
  rw [e_X6_turn, e_X7_turn]
  by_cases hx : nI 0 ≤ x
  · obtain ⟨k, hk, rfl⟩ := neg_lt (x := x) (fun z => by
      rw [Int32.lt_iff_toInt_lt] at z
      rw [Int32.le_iff_toInt_le] at hx
      omega)
    obtain ⟨r, e1, hr⟩ := laysSums_ok h6 h1.1 h7 h2
    have hT : TieZ σ (sAA μ 6 r) := h.scratch rfl rfl rfl rfl rfl rfl rfl
    have hs : ∀ a, wsum Q (cellSum F) a < 2 ^ 30 := fun a => wsum_l30 h1.1 a
    have r6 : ∀ a, a < 80 → (sAA μ 6 r).1 6 a = smOf Q (wsum Q (cellSum F)) a := fun a ha => by rw [sAA_self]; exact hr a ha
    rw [if_pos hx, if_pos hx, bnd_of e1]
    rcases rising_ok (σ := σ) h5.1.1 hs hk with ⟨w, e, hw, lw, aw⟩ | ⟨e, hw⟩
    · rw [bnd_of e, turn7_ok (W := w) r6 hs hk (fun v hv lv => ⟨fun z => ahN_inj hv hw lv lw (by rw [z, aw]), fun z => by rw [z, aw]⟩) (fun _ => lw), if_pos hw]
      exact ⟨_, σ, _, rfl, rfl, hT⟩
    · rw [bnd_of e, turn7_ok (W := 80) r6 hs hk (fun v hv lv => ⟨fun z => by have := ahN_all (s := wsum Q (cellSum F)) hv lv; omega, fun z => by omega⟩) (fun z => by omega), if_neg (by decide)]
      exact ⟨_, σ, _, rfl, rfl, hT⟩
  · rw [if_neg hx, if_neg hx]
    exact ref_bnd h (-2) (by decide)
