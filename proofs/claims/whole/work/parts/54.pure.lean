/-! ===== PURE 16: the reference's sums; sum, all, worst ===== -/
theorem upd_upd (r : Nat → Int32) (i : Nat) (x y : Int32) : upd (upd r i x) i y = upd r i y := by
  funext j
  unfold upd
  split <;> rfl
theorem upd_at (r : Nat → Int32) (i : Nat) (x : Int32) : upd r i x i = x := by
  unfold upd
  rw [if_pos rfl]
theorem sumOf7_eq {μ : St} {F : FF} (h0 : ∀ c, c < 80 → μ.1 0 c = nI (F 0 c)) (h4 : ∀ c, c < 80 → μ.1 0 (320 + c) = nI (F 4 c)) {c : Nat} (hc : c < 80) : f_X7_sumOf (nI c) μ = some (nI (cellSum F c)) := by
  rw [e_X7_sumOf, nI_add, gd_nI (by omega) (by decide), gd_nI (by omega) (by decide), rd_nI _ 0 (by omega), rd_nI _ 0 (by omega), h0 c hc, h4 c hc, nI_add]
  rfl
theorem isWindow_eq {μ : St} {Q : Nat → Nat} (h : MQs μ Q) (hq : Q 0 ≤ 8 ∧ Q 1 ≤ 10) {a : Nat} (ha : a < 80) : f_X7_isWindow (nI a) μ = some (if lies Q a then nI 1 else nI 0) := by
  rw [e_X7_isWindow, gd_nI (by decide) (by decide), gd_nI (by decide) (by decide), rd_nI _ 3 (by decide), rd_nI _ 3 (by decide), h 0 (by decide), h 1 (by decide), pk_div (by omega) (by decide) (by decide), nI_add, jrem_nI (by omega) (by decide) (by decide), nI_add]
  by_cases q1 : a / 10 + Q 0 ≤ 8
  · rw [if_neg (nI_nlt (by omega) (by omega))]
    by_cases q2 : a % 10 + Q 1 ≤ 10
    · rw [if_neg (nI_nlt (by omega) (by omega)), if_pos (lies_iff.mpr ⟨q1, q2⟩)]
    · rw [if_pos (nI_lt (by omega) (by omega)), if_neg (fun z => q2 (lies_iff.mp z).2)]
  · rw [if_pos (nI_lt (by omega) (by omega)), if_neg (fun z => q1 (lies_iff.mp z).1)]
theorem laysSums_ok {μ : St} {F : FF} {Q : Nat → Nat} (hM : MFd μ F) (hF : ∀ c, c < 80 → F 0 c ≤ 9 ∧ F 1 c ≤ 1 ∧ F 2 c ≤ 3 ∧ F 3 c ≤ 3 ∧ F 4 c ≤ 9) (h : MQs μ Q) (hQ : QOk Q) : ∃ r, f_X7_laysSums μ = some (sAA μ 6 r) ∧ ∀ a, a < 80 → r a = smOf Q (wsum Q (cellSum F)) a := by
  obtain ⟨qa, qb, qc, qd, -⟩ := hQ
  rw [e_X7_laysSums, e_X7_laysSums_J2]
  have row : ∀ a d (r0 : Nat → Int32) (t0 : Nat), a < 80 → lies Q a = true → d < Q 0 → f_X7_laysSums_J44 (nI a) (nI d) (nI 0) (sAA μ 6 (upd r0 a (nI t0))) = some (.inr (nI (d + 1), sAA μ 6 (upd r0 a (nI (t0 + sumZ (fun k => cellSum F (a + 10 * d + k)) (Q 1)))))) := by
    intro a d r0 t0 ha hl hd
    have e : loopN (f_X7_laysSums_L44 (nI a) (nI d)) 4096 (nI 0, sAA μ 6 (upd r0 a (nI t0))) = some (sAA μ 6 (upd r0 a (nI (t0 + sumZ (fun k => cellSum F (a + 10 * d + k)) (Q 1))))) := by
      refine loopN_run (tr := fun i => (nI i, sAA μ 6 (upd r0 a (nI (t0 + sumZ (fun k => cellSum F (a + 10 * d + k)) i))))) (Q 1) _ ?_ ?_ (by omega)
      · intro i hi
        have hlt := (cell_lt ha hl hd hi).1
        rw [e_X7_laysSums_L44, gd_nI (by decide) (by decide), rd_nI _ 3 (by decide), sAA_ne μ _ (by decide : (3 : Nat) ≠ 6), h 1 (by decide), if_neg (nI_ge hi (by omega)), gd_nI ha (by decide), pk_mul, nI_add, nI_add, bnd_of (sumOf7_eq (μ := sAA μ 6 _) (F := F) hM.1 hM.2.2.2.2 hlt), gd_nI ha (by decide), rd_nI _ 6 (by omega), sA_nI _ _ _ (by omega), sAA_self, sAA_sAA, upd_at, upd_upd, nI_add, nI_add]
        show _ = some (Sum.inr (nI (i + 1), sAA μ 6 (upd r0 a (nI (t0 + (sumZ (fun k => cellSum F (a + 10 * d + k)) i + cellSum F (a + 10 * d + i)))))))
        rw [← Nat.add_assoc t0]
      · rw [e_X7_laysSums_L44, gd_nI (by decide) (by decide), rd_nI _ 3 (by decide), sAA_ne μ _ (by decide : (3 : Nat) ≠ 6), h 1 (by decide), if_pos (nI_le (Nat.le_refl _) (by omega))]
    rw [e_X7_laysSums_J44, bnd_of e, e_X7_laysSums_J81, nI_add]
  have win : ∀ a (r0 : Nat → Int32), a < 80 → lies Q a = true → f_X7_laysSums_J32 (nI a) (nI 0) (sAA μ 6 (upd r0 a (nI 0))) = some (.inr (nI (a + 1), sAA μ 6 (upd r0 a (nI (wsum Q (cellSum F) a))))) := by
    intro a r0 ha hl
    have e : loopN (f_X7_laysSums_L32 (nI a)) 4096 (nI 0, sAA μ 6 (upd r0 a (nI 0))) = some (sAA μ 6 (upd r0 a (nI (wsum Q (cellSum F) a)))) := by
      refine loopN_run (tr := fun i => (nI i, sAA μ 6 (upd r0 a (nI (sumZ (fun d => sumZ (fun k => cellSum F (a + 10 * d + k)) (Q 1)) i))))) (Q 0) _ ?_ ?_ (by omega)
      · intro i hi
        rw [e_X7_laysSums_L32, gd_nI (by decide) (by decide), rd_nI _ 3 (by decide), sAA_ne μ _ (by decide : (3 : Nat) ≠ 6), h 0 (by decide), if_neg (nI_ge hi (by omega)), row a i r0 _ ha hl hi]
        rfl
      · rw [e_X7_laysSums_L32, gd_nI (by decide) (by decide), rd_nI _ 3 (by decide), sAA_ne μ _ (by decide : (3 : Nat) ≠ 6), h 0 (by decide), if_pos (nI_le (Nat.le_refl _) (by omega)), wsum_eq hl]
    rw [e_X7_laysSums_J32, bnd_of e, e_X7_laysSums_J87, nI_add]
  have hm := loop_store (σ := μ) (k := 6) (off := 0) (N := 80) (new := fun a => smOf Q (wsum Q (cellSum F)) a) (body := f_X7_laysSums_L2) (fuel := 4096) (by decide) (fun i r hi h3 h4 => by
    have e1 : sA (sAA μ 6 r) 6 (nI i) (-nI 1) = sAA μ 6 (upd r i (-nI 1)) := by rw [sA_nI _ _ _ (by omega), sAA_self, sAA_sAA]
    have e2 : sA (sAA μ 6 (upd r i (-nI 1))) 6 (nI i) (nI 0) = sAA μ 6 (upd r i (nI 0)) := by rw [sA_nI _ _ _ (by omega), sAA_self, sAA_sAA, upd_upd]
    rw [e_X7_laysSums_L2, if_neg (nI_ge hi (by decide)), gd_nI hi (by decide), e1, bnd_of (isWindow_eq (μ := sAA μ 6 (upd r i (-nI 1))) h ⟨qb, qd⟩ hi), gd_nI hi (by decide), e2, Nat.zero_add]
    unfold smOf
    cases hl : lies Q i
    · rw [bF, if_pos rfl, bF, e_X7_laysSums_J87, nI_add]
    · rw [bT, if_neg (by decide), bT, win i r hi hl]) (fun r => by
    rw [e_X7_laysSums_L2, if_pos (nI_le (Nat.le_refl 80) (by decide))])
  obtain ⟨r, e, h1, -⟩ := hm
  refine ⟨r, by rw [bnd_of e], fun a ha => ?_⟩
  have w := h1 a ha
  rw [Nat.zero_add] at w
  exact w
/-- the tie doesn't speak of the rows that the reference lays anew -/
theorem TieZ.scratch {σ μ : St} (h : TieZ σ μ) {μ' : St} (e0 : μ'.1 0 = μ.1 0) (e1 : μ'.1 1 = μ.1 1) (e3 : μ'.1 3 = μ.1 3) (e4 : μ'.1 4 = μ.1 4) (e5 : μ'.1 5 = μ.1 5) (i0 : μ'.2 0 = μ.2 0) (i1 : μ'.2 1 = μ.2 1) : TieZ σ μ' := by
  obtain ⟨F, Q, n, t, o, P, h1, h2, h3, h4, h5, h6, h7, h8, h9, h10⟩ := h
  refine ⟨F, Q, n, t, o, P, h1, h2, h3, h4, h5, ?_, ?_, ?_, ?_, ?_⟩
  · unfold MFd at h6 ⊢; rw [e0]; exact h6
  · unfold MQs at h7 ⊢; rw [e3]; exact h7
  · unfold Cts at h8 ⊢; rw [e4]; exact h8
  · unfold Txz at h9 ⊢; rw [e5, i1]; exact h9
  · unfold Hst at h10 ⊢; rw [e1, i0]; exact h10
theorem sim_sum : Sim1 TieZ f_X6_sum f_X7_sum := by
  intro x σ μ h
  obtain ⟨F, Q, n, t, o, P, h1, h2, h3, h4, h5, h6, h7, h8, h9, h10⟩ := id h
  obtain ⟨r, e1, hr⟩ := laysSums_ok h6 h1.1 h7 h2
  have hT : TieZ σ (sAA μ 6 r) := h.scratch rfl rfl rfl rfl rfl rfl rfl
  by_cases hx : (0 ≤ x ∧ x ≤ 79)
  · obtain ⟨c, hc, rfl⟩ := in_nI (b := 79) (by decide) hx
    have hc : c < 80 := by omega
    refine ⟨smOf Q (wsum Q (cellSum F)) c, σ, sAA μ 6 r, ?_, ?_, hT⟩
    · rw [e_X6_sum, bnd_of (isCell_t hc), if_neg (by decide), gd_nI hc (by decide), rd_nI _ 5 (by omega), h5.1.1 c hc]
    · rw [e_X7_sum, bnd_of e1, bnd_of (isCell7_t hc), if_neg (by decide), gd_nI hc (by decide), rd_nI _ 6 (by omega), sAA_self, hr c hc]
  · obtain ⟨rr, σr, μr, er1, er2, hrr⟩ := ref_bnd hT (-2) (by decide)
    refine ⟨rr, σr, μr, ?_, ?_, hrr⟩
    · rw [e_X6_sum, bnd_of (isCell_f hx), if_pos rfl]
      exact er1
    · rw [e_X7_sum, bnd_of e1, bnd_of (isCell7_f hx), if_pos rfl]
      exact er2
