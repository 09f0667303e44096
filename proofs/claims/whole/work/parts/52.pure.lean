/-! ===== PURE 14: draw, rules ===== -/
theorem sim_draw : Sim2 TieZ f_X6_draw f_X7_draw := by
  intro x w9 σ μ h
  obtain ⟨rr, σr, μr, er1, er2, hrr⟩ := ref_bnd h (-2) (by decide)
  by_cases hx : (nI 0 ≤ x ∧ x ≤ nI 999999)
  · obtain ⟨s, hs, rfl⟩ := in_nI (b := 999999) (by decide) hx
    by_cases hw : (nI 0 ≤ w9 ∧ w9 ≤ nI 9)
    · obtain ⟨v, hv, rfl⟩ := in_nI (b := 9) (by decide) hw
      have hs2 : s < 2147483648 := by omega
      obtain ⟨r, σ', μ', e1, e2, h'⟩ := draw_core h (s := s) (v := v) (d := drS s v) (fun c => Nat.le_trans drS_le hv) (fun s9 => drawShapes_ok s9 hs2 hv) (fun μ9 => mdraw_ok μ9 hs2 hv)
      refine ⟨r, σ', μ', ?_, ?_, h'⟩
      · rw [e_X6_draw, bnd_of (isIn_t hx), if_neg (by decide), bnd_of (isIn_t hw), if_neg (by decide)]
        exact e1
      · rw [e_X7_draw, bnd_of (in7_t hx), if_neg (by decide), bnd_of (in7_t hw), if_neg (by decide), nI_l (by omega)]
        exact e2
    · refine ⟨rr, σr, μr, ?_, ?_, hrr⟩
      · rw [e_X6_draw, bnd_of (isIn_t hx), if_neg (by decide), bnd_of (isIn_f hw), if_pos rfl]
        exact er1
      · rw [e_X7_draw, bnd_of (in7_t hx), if_neg (by decide), bnd_of (in7_f hw), if_pos rfl]
        exact er2
  · refine ⟨rr, σr, μr, ?_, ?_, hrr⟩
    · rw [e_X6_draw, bnd_of (isIn_f hx), if_pos rfl]
      exact er1
    · rw [e_X7_draw, bnd_of (in7_f hx), if_pos rfl]
      exact er2
/-- the settings are laid where they are used, all is measured -/
theorem useSettings_ok (σ : St) (F : FF) (Q : Nat → Nat) (hC : CF σ F) (hF : ∀ c, c < 80 → F 0 c ≤ 9 ∧ F 1 c ≤ 1 ∧ F 2 c ≤ 3 ∧ F 3 c ≤ 3 ∧ F 4 c ≤ 9) (h17 : ∀ k, k < 8 → σ.1 17 k = nI (Q k)) (hQ : QOk Q) :
    ∃ σ', f_X6_useSettings σ = some σ' ∧ CF σ' F ∧ CQ σ' Q ∧ CDz σ' Q F ∧ (∀ k, 13 ≤ k → σ'.1 k = σ.1 k) ∧ σ'.2 = (sI (sI (sI (sI σ 6 (nI (Q 0))) 7 (nI (Q 1))) 8 (nI (Q 2))) 9 (nI (Q 3))).2 := by
  have r17 : ∀ (s : St) (k : Nat), s.1 = σ.1 → k < 8 → rd s 17 (nI k) = nI (Q k) := fun s k e hk => by
    rw [rd_nI s 17 (by omega), e]
    exact h17 k hk
  rw [e_X6_useSettings, gd_nI (by decide) (by decide), gd_nI (by decide) (by decide), gd_nI (by decide) (by decide), gd_nI (by decide) (by decide), r17 σ 0 rfl (by decide), r17 (sI σ 6 _) 1 rfl (by decide), r17 (sI (sI σ 6 _) 7 _) 2 rfl (by decide), r17 (sI (sI (sI σ 6 _) 7 _) 8 _) 3 rfl (by decide), e_X6_useSettings_J50]
  have hm : ∃ y, loopN f_X6_useSettings_L50 4096 (nI 1, sI (sI (sI (sI σ 6 (nI (Q 0))) 7 (nI (Q 1))) 8 (nI (Q 2))) 9 (nI (Q 3))) = some y ∧ ∃ r, y = sAA (sI (sI (sI (sI σ 6 (nI (Q 0))) 7 (nI (Q 1))) 8 (nI (Q 2))) 9 (nI (Q 3))) 9 r ∧ ∀ n, 1 ≤ n → n < 4 → r n = nI (Q (3 + n)) := by
    generalize hs : sI (sI (sI (sI σ 6 (nI (Q 0))) 7 (nI (Q 1))) 8 (nI (Q 2))) 9 (nI (Q 3)) = s1
    have hs17 : s1.1 17 = σ.1 17 := by rw [← hs]; rfl
    refine loop_for (Inv := fun i v => ∃ r, v = (nI (1 + i), sAA s1 9 r) ∧ ∀ n, 1 ≤ n → n < 1 + i → r n = nI (Q (3 + n))) 3 ?_ ?_ (by decide) ⟨s1.1 9, by rw [sAA_id], fun n h1 h2 => by omega⟩
    · rintro i v hi ⟨r, rfl, q1⟩
      refine ⟨_, ?_, upd r (1 + i) (nI (Q (3 + (1 + i)))), rfl, ?_⟩
      · rw [e_X6_useSettings_L50, if_neg (nI_ge (by omega) (by decide)), nI_add, gd_nI (by omega) (by decide), gd_nI (by omega) (by decide), rd_nI _ 17 (by omega), sAA_ne s1 r (by decide : (17 : Nat) ≠ 9), hs17, h17 _ (by omega), sA_nI _ _ _ (by omega), sAA_self, sAA_sAA, nI_add]
        rfl
      · intro n h1 h2
        unfold upd
        by_cases q : n = 1 + i
        · rw [if_pos q, q]
        · rw [if_neg q]; exact q1 n h1 (by omega)
    · rintro v ⟨r, rfl, q1⟩
      refine ⟨_, ?_, r, rfl, q1⟩
      rw [e_X6_useSettings_L50, if_pos (nI_le (by decide) (by decide))]
  obtain ⟨y, e, r, rfl, h9⟩ := hm
  rw [bnd_of e, e_X6_useSettings_J81]
  obtain ⟨σ', e2, d1, d2, d3, d4, d5⟩ := measure_ok (sAA (sI (sI (sI (sI σ 6 (nI (Q 0))) 7 (nI (Q 1))) 8 (nI (Q 2))) 9 (nI (Q 3))) 9 r) F Q hC hF ⟨h17, rfl, rfl, rfl, rfl, h9⟩ hQ
  refine ⟨σ', by rw [bnd_of e2], d1, d2, d3, fun k hk => ?_, d5⟩
  rw [d4 k hk, sAA_ne _ _ (by omega : k ≠ 9)]
  rfl
def setQ (Q : Nat → Nat) (j v : Nat) : Nat → Nat := fun k => if k = j then v else Q k
theorem rules_core {σ μ : St} (h : TieZ σ μ) {j v : Nat} (hj : j < 8) (hq : ∀ Q, QOk Q → QOk (setQ Q j v)) :
    ∃ r σ' μ', gd (nI j) 8 (gd (nI j) 8 (bnd (f_X6_useSettings (sA σ 17 (nI j) (nI v))) (fun r4 => some ((rd σ 17 (nI j)), r4)))) = some (r, σ') ∧ f_X7_rules_J90 (nI j) (nI v) (nI 1) μ = some (r, μ') ∧ TieZ σ' μ' := by
  obtain ⟨F, Q, n, t, o, P, h1, h2, h3, h4, h5, h6, h7, h8, h9, h10⟩ := h
  have h17 : ∀ k, k < 8 → (sAA σ 17 (upd (σ.1 17) j (nI v))).1 17 k = nI (setQ Q j v k) := by
    intro k hk
    show upd (σ.1 17) j (nI v) k = _
    unfold upd setQ
    by_cases q : k = j
    · rw [if_pos q, if_pos q]
    · rw [if_neg q, if_neg q]; exact h4.1 k hk
  obtain ⟨σ', e1, d1, d2, d3, d4, d5⟩ := useSettings_ok (sAA σ 17 (upd (σ.1 17) j (nI v))) F (setQ Q j v) h3 h1.1 h17 (hq Q h2)
  refine ⟨nI (Q j), σ', sAA μ 3 (upd (μ.1 3) j (nI v)), ?_, ?_, F, setQ Q j v, n, t, o, P, h1, hq Q h2, d1, d2, d3, h6, ?_, ?_, ?_, ?_⟩
  · rw [gd_nI hj (by decide), gd_nI hj (by decide), sA_nI _ _ _ (by omega), bnd_of e1, rd_nI _ 17 (by omega), h4.1 j hj]
  · rw [e_X7_rules_J90, if_neg (by decide), gd_nI hj (by decide), gd_nI hj (by decide), sA_nI _ _ _ (by omega), rd_nI _ 3 (by omega), h7 j hj]
  · intro k hk
    show upd (μ.1 3) j (nI v) k = _
    unfold upd setQ
    by_cases q : k = j
    · rw [if_pos q, if_pos q]
    · rw [if_neg q, if_neg q]; exact h7 k hk
  · unfold Cts at h8 ⊢
    rw [d5]
    exact h8
  · unfold Txz at h9 ⊢
    rw [d5, d4 16 (by decide)]
    exact h9
  · unfold Hst at h10 ⊢
    rw [d5, d4 15 (by decide)]
    exact h10
theorem rules_bad {σ μ : St} (h : TieZ σ μ) (x y : Int32) : ∃ r σ' μ', f_X6_rules_J27 σ = some (r, σ') ∧ f_X7_rules_J90 x y (nI 0) μ = some (r, μ') ∧ TieZ σ' μ' := by
  obtain ⟨rr, σr, μr, er1, er2, hrr⟩ := ref_bnd h (-2) (by decide)
  refine ⟨rr, σr, μr, er1, ?_, hrr⟩
  rw [e_X7_rules_J90, if_pos rfl]
  exact er2
theorem sim_rules : Sim2 TieZ f_X6_rules f_X7_rules := by
  intro x y σ μ h
  by_cases hx : (nI 0 ≤ x ∧ x ≤ nI 7)
  · obtain ⟨j, hj, rfl⟩ := in_nI (b := 7) (by decide) hx
    have main : ∀ (p q : Nat), p ≤ 1 → q ≤ 720 → svl 1 j = nI p → svl 2 j = nI q → (∀ v Q, p ≤ v → v ≤ q → QOk Q → QOk (setQ Q j v)) → f_X7_rules (nI j) y μ = f_X7_rules_J90 (nI j) y (if nI p ≤ y ∧ y ≤ nI q then nI 1 else nI 0) μ → ∃ r σ' μ', f_X6_rules (nI j) y σ = some (r, σ') ∧ f_X7_rules (nI j) y μ = some (r, μ') ∧ TieZ σ' μ' := by
      intro p q hp hq31 e1 e2 hQ e3
      have ea : f_X6_rules (nI j) y σ = bnd (f_X6_isIn y (nI p) (nI q)) (fun r3 => if r3 = nI 0 then (f_X6_rules_J27 σ) else (gd (nI j) 8 (gd (nI j) 8 (bnd (f_X6_useSettings (sA σ 17 (nI j) y)) (fun r4 => some ((rd σ 17 (nI j)), r4)))))) := by
        rw [e_X6_rules, bnd_of (isIn_t hx), if_neg (by decide), gd_nI (by omega) (by decide), gd_nI (by omega) (by decide), nI_clamp (by omega), e1, e2]
      rw [ea, e3]
      by_cases hy : (nI p ≤ y ∧ y ≤ nI q)
      · rw [bnd_of (isIn_t hy), if_neg (by decide), if_pos hy]
        have h0 : (0 : Int32) ≤ y := by
          have a1 := hy.1
          rw [Int32.le_iff_toInt_le, nI_toInt (by omega)] at a1
          rw [Int32.le_iff_toInt_le, show (0 : Int32).toInt = 0 from by decide]
          omega
        obtain ⟨v, hv, rfl⟩ := in_nI (by omega) ⟨h0, hy.2⟩
        have hpv : p ≤ v := (nI_leI (by omega) (by omega)).mp hy.1
        exact rules_core h (by omega) (fun Q hq => hQ v Q hpv hv hq)
      · rw [bnd_of (isIn_f hy), if_pos rfl, if_neg hy]
        exact rules_bad h _ _
    match j, hj with
    | 0, _ => exact main 1 8 (by decide) (by decide) rfl rfl (fun v Q h1 h2 hq => by obtain ⟨a0, a1, b0, b1, c2, c3, c4, c5, c6, c7⟩ := hq; exact ⟨h1, h2, b0, b1, c2, c3, c4, c5, c6, c7⟩) (by rw [e_X7_rules, if_pos rfl, bnd_of (in_eq _ _ _)]; rfl)
    | 1, _ => exact main 1 10 (by decide) (by decide) rfl rfl (fun v Q h1 h2 hq => by obtain ⟨a0, a1, b0, b1, c2, c3, c4, c5, c6, c7⟩ := hq; exact ⟨a0, a1, h1, h2, c2, c3, c4, c5, c6, c7⟩) (by rw [e_X7_rules, if_neg (by decide), if_pos rfl, bnd_of (in_eq _ _ _)]; rfl)
    | 2, _ => exact main 0 720 (by decide) (by decide) rfl rfl (fun v Q h1 h2 hq => by obtain ⟨a0, a1, b0, b1, c2, c3, c4, c5, c6, c7⟩ := hq; exact ⟨a0, a1, b0, b1, h2, c3, c4, c5, c6, c7⟩) (by rw [e_X7_rules, if_neg (by decide), if_neg (by decide), if_pos rfl, e_X7_rules_J39, bnd_of (in_eq _ _ _)]; rfl)
    | 3, _ => exact main 0 720 (by decide) (by decide) rfl rfl (fun v Q h1 h2 hq => by obtain ⟨a0, a1, b0, b1, c2, c3, c4, c5, c6, c7⟩ := hq; exact ⟨a0, a1, b0, b1, c2, h2, c4, c5, c6, c7⟩) (by rw [e_X7_rules, if_neg (by decide), if_neg (by decide), if_neg (by decide), if_pos rfl, e_X7_rules_J39, bnd_of (in_eq _ _ _)]; rfl)
    | 4, _ =>
      refine main 0 99 (by decide) (by decide) rfl rfl (fun v Q h1 h2 hq => by obtain ⟨a0, a1, b0, b1, c2, c3, c4, c5, c6, c7⟩ := hq; exact ⟨a0, a1, b0, b1, c2, c3, h2, c5, c6, c7⟩) ?_
      rw [e_X7_rules, if_neg (by decide), if_neg (by decide), if_neg (by decide), if_neg (by decide), if_neg (by decide), bnd_of (in7_t (by decide)), if_neg (by decide), e_X7_rules_J89]
      by_cases hy : (nI 0 ≤ y ∧ y ≤ nI 99)
      · rw [bnd_of (in7_t hy), if_neg (by decide), if_pos hy]
      · rw [bnd_of (in7_f hy), if_pos rfl, if_neg hy]
    | 5, _ =>
      refine main 0 99 (by decide) (by decide) rfl rfl (fun v Q h1 h2 hq => by obtain ⟨a0, a1, b0, b1, c2, c3, c4, c5, c6, c7⟩ := hq; exact ⟨a0, a1, b0, b1, c2, c3, c4, h2, c6, c7⟩) ?_
      rw [e_X7_rules, if_neg (by decide), if_neg (by decide), if_neg (by decide), if_neg (by decide), if_neg (by decide), bnd_of (in7_t (by decide)), if_neg (by decide), e_X7_rules_J89]
      by_cases hy : (nI 0 ≤ y ∧ y ≤ nI 99)
      · rw [bnd_of (in7_t hy), if_neg (by decide), if_pos hy]
      · rw [bnd_of (in7_f hy), if_pos rfl, if_neg hy]
    | 6, _ =>
      refine main 0 99 (by decide) (by decide) rfl rfl (fun v Q h1 h2 hq => by obtain ⟨a0, a1, b0, b1, c2, c3, c4, c5, c6, c7⟩ := hq; exact ⟨a0, a1, b0, b1, c2, c3, c4, c5, h2, c7⟩) ?_
      rw [e_X7_rules, if_neg (by decide), if_neg (by decide), if_neg (by decide), if_neg (by decide), if_neg (by decide), bnd_of (in7_t (by decide)), if_neg (by decide), e_X7_rules_J89]
      by_cases hy : (nI 0 ≤ y ∧ y ≤ nI 99)
      · rw [bnd_of (in7_t hy), if_neg (by decide), if_pos hy]
      · rw [bnd_of (in7_f hy), if_pos rfl, if_neg hy]
    | 7, _ => exact main 0 4 (by decide) (by decide) rfl rfl (fun v Q h1 h2 hq => by obtain ⟨a0, a1, b0, b1, c2, c3, c4, c5, c6, c7⟩ := hq; exact ⟨a0, a1, b0, b1, c2, c3, c4, c5, c6, h2⟩) (by rw [e_X7_rules, if_neg (by decide), if_neg (by decide), if_neg (by decide), if_neg (by decide), if_pos rfl, bnd_of (in_eq _ _ _)]; rfl)
    | j + 8, hj => omega
  · have ne : ∀ j : Nat, j ≤ 7 → ¬ x = nI j := fun j hj e => hx (by rw [e]; exact ⟨nI_le (Nat.zero_le _) (by omega), nI_le hj (by decide)⟩)
    have n46 : ¬ (nI 4 ≤ x ∧ x ≤ nI 6) := by
      intro z
      apply hx
      obtain ⟨z1, z2⟩ := z
      rw [Int32.le_iff_toInt_le, nI_toInt (by decide)] at z1 z2
      refine ⟨?_, ?_⟩
      · rw [Int32.le_iff_toInt_le, nI_toInt (by decide)]; omega
      · rw [Int32.le_iff_toInt_le, nI_toInt (by decide)]; omega
    obtain ⟨r, σ', μ', e1, e2, h'⟩ := rules_bad h x y
    refine ⟨r, σ', μ', ?_, ?_, h'⟩
    · rw [e_X6_rules, bnd_of (isIn_f hx), if_pos rfl]
      exact e1
    · rw [e_X7_rules, if_neg (ne 0 (by decide)), if_neg (ne 1 (by decide)), if_neg (ne 2 (by decide)), if_neg (ne 3 (by decide)), if_neg (ne 7 (by decide)), bnd_of (in7_f n46), if_pos rfl, e_X7_rules_J89]
      exact e2
