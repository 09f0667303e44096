/-! ===== PURE 9: the simple calls ===== -/
theorem isIn_t {x a b : Int32} (h : a ≤ x ∧ x ≤ b) : f_X6_isIn x a b = some (nI 1) := by rw [isIn_eq, if_pos h]; rfl
theorem isIn_f {x a b : Int32} (h : ¬ (a ≤ x ∧ x ≤ b)) : f_X6_isIn x a b = some (nI 0) := by rw [isIn_eq, if_neg h]; rfl
theorem in7_t {x a b : Int32} (h : a ≤ x ∧ x ≤ b) : f_X7_in x a b = some (nI 1) := isIn_t h
theorem in7_f {x a b : Int32} (h : ¬ (a ≤ x ∧ x ≤ b)) : f_X7_in x a b = some (nI 0) := isIn_f h
theorem isCell_t {c : Nat} (h : c < 80) : f_X6_isCell (nI c) = some (nI 1) := by
  rw [isCell_eq, if_pos ⟨nI_pos' (by omega), nI_le (a := c) (b := 79) (by omega) (by decide)⟩]; rfl
theorem isCell_f {x : Int32} (h : ¬ (0 ≤ x ∧ x ≤ 79)) : f_X6_isCell x = some (nI 0) := by rw [isCell_eq, if_neg h]; rfl
theorem isCell7_t {c : Nat} (h : c < 80) : f_X7_isCell (nI c) = some (nI 1) := isCell_t h
theorem isCell7_f {x : Int32} (h : ¬ (0 ≤ x ∧ x ≤ 79)) : f_X7_isCell x = some (nI 0) := isCell_f h
theorem sim_clear : Sim0 TieZ f_X6_clear f_X7_clear := by
  intro σ μ h
  obtain ⟨F, Q, n, t, o, P, h1, h2, h3, h4, h5, h6, h7, h8, ⟨h9a, h9b, h9c, h9d⟩, h10⟩ := h
  refine ⟨nI t, sI σ 5 (nI 0), sI μ 1 (nI 0), ?_, ?_, F, Q, n, 0, o, P, h1, h2, h3, h4, h5, h6, h7, h8, ⟨by omega, rfl, rfl, fun i hi => by omega⟩, h10⟩
  · rw [e_X6_clear, show gI σ 5 = nI t from h9b]
  · rw [e_X7_clear, show gI μ 1 = nI t from h9c]
theorem sim_type : Sim1 TieZ f_X6_type f_X7_type := by
  intro x σ μ h
  by_cases hx : (nI 0 ≤ x ∧ x ≤ nI 127)
  · obtain ⟨F, Q, n, t, o, P, h1, h2, h3, h4, h5, h6, h7, h8, ⟨h9a, h9b, h9c, h9d⟩, h10⟩ := id h
    have g5 : gI σ 5 = nI t := h9b
    have g1 : gI μ 1 = nI t := h9c
    by_cases ht : t < 120
    · refine ⟨nI (t + 1), sI (sAA σ 16 (upd (σ.1 16) t x)) 5 (nI (t + 1)), sI (sAA μ 5 (upd (μ.1 5) t x)) 1 (nI (t + 1)), ?_, ?_, F, Q, n, t + 1, o, P, h1, h2, h3, h4, h5, h6, h7, h8, ⟨by omega, rfl, rfl, ?_⟩, h10⟩
      · rw [e_X6_type, bnd_of (isIn_t hx), if_neg (by decide), g5, if_pos (nI_lt ht (by decide)), bnd_of (x := sI (sAA σ 16 (upd (σ.1 16) t x)) 5 (nI (t + 1))) ?_]
        · rfl
        · rw [e_X4_append, g5, if_neg (nI_ge ht (by decide)), gd_nI ht (by decide), sA_nI _ _ _ (by omega)]
          rw [show gI (sAA σ 16 (upd (σ.1 16) t x)) 5 = nI t from h9b, nI_add]
      · rw [e_X7_type, bnd_of (in7_t hx), if_neg (by decide), g1, if_neg (neq_f (b := 120) (by omega) (by omega) (by decide) rfl rfl), gd_nI ht (by decide), sA_nI _ _ _ (by omega)]
        rw [show gI (sAA μ 5 (upd (μ.1 5) t x)) 1 = nI t from h9c, nI_add]
        rfl
      · intro i hi
        show upd (σ.1 16) t x i = upd (μ.1 5) t x i
        unfold upd
        by_cases q : i = t
        · rw [if_pos q, if_pos q]
        · rw [if_neg q, if_neg q]; exact h9d i (by omega)
    · have e : t = 120 := by omega
      subst e
      obtain ⟨r, σ', μ', e1, e2, h'⟩ := ref_bnd h (-4) (by decide)
      refine ⟨r, σ', μ', ?_, ?_, h'⟩
      · rw [e_X6_type, bnd_of (isIn_t hx), if_neg (by decide), g5, if_neg (nI_nlt (Nat.le_refl _) (by decide))]
        exact e1
      · rw [e_X7_type, bnd_of (in7_t hx), if_neg (by decide), g1, if_pos rfl]
        exact e2
  · obtain ⟨r, σ', μ', e1, e2, h'⟩ := ref_bnd h (-2) (by decide)
    refine ⟨r, σ', μ', ?_, ?_, h'⟩
    · rw [e_X6_type, bnd_of (isIn_f hx), if_pos rfl]
      exact e1
    · rw [e_X7_type, bnd_of (in7_f hx), if_pos rfl]
      exact e2
theorem told_in {σ μ : St} (h : TieZ σ μ) {j : Nat} (hj : j ≤ 9) : ∃ r, f_X6_told (nI j) σ = some (r, σ) ∧ f_X7_toldOf (nI j) μ = some r := by
  obtain ⟨F, Q, n, t, o, P, h1, h2, h3, h4, h5, h6, h7, ⟨h8a, h8b, h8c⟩, ⟨h9a, h9b, h9c, h9d⟩, ⟨ha, hb, hc, hd, -⟩⟩ := h
  match j, hj with
  | 0, _ => exact ⟨σ.2 10, by rw [e_X6_told, if_pos rfl], by rw [e_X7_toldOf, if_pos rfl, gd_nI (by decide) (by decide), rd_nI _ 4 (by decide), h8a]⟩
  | 1, _ => exact ⟨σ.2 11, by rw [e_X6_told, if_neg (by decide), if_pos rfl], by rw [e_X7_toldOf, if_neg (by decide), if_pos rfl, gd_nI (by decide) (by decide), rd_nI _ 4 (by decide), h8b]⟩
  | 2, _ => exact ⟨σ.2 12, by rw [e_X6_told, if_neg (by decide), if_neg (by decide), if_pos rfl], by rw [e_X7_toldOf, if_neg (by decide), if_neg (by decide), if_pos rfl, gd_nI (by decide) (by decide), rd_nI _ 4 (by decide), h8c]⟩
  | 3, _ => exact ⟨nI t, by rw [e_X6_told, if_neg (by decide), if_neg (by decide), if_neg (by decide), if_pos rfl, show gI σ 5 = nI t from h9b], by rw [e_X7_toldOf, if_neg (by decide), if_neg (by decide), if_neg (by decide), if_pos rfl, show gI μ 1 = nI t from h9c]⟩
  | 4, _ => exact ⟨nI (Q 0), by rw [e_X6_told, if_neg (by decide), if_neg (by decide), if_neg (by decide), if_neg (by decide), if_pos rfl, gd_nI (by decide) (by decide), rd_nI _ 17 (by decide), h4.1 0 (by decide)], by rw [e_X7_toldOf, if_neg (by decide), if_neg (by decide), if_neg (by decide), if_neg (by decide), if_pos rfl, pk_sub (by decide), gd_nI (by decide) (by decide), rd_nI _ 3 (by decide), h7 (4 - 4) (by decide)]⟩
  | 5, _ => exact ⟨nI (Q 1), by rw [e_X6_told, if_neg (by decide), if_neg (by decide), if_neg (by decide), if_neg (by decide), if_neg (by decide), if_pos rfl, gd_nI (by decide) (by decide), rd_nI _ 17 (by decide), h4.1 1 (by decide)], by rw [e_X7_toldOf, if_neg (by decide), if_neg (by decide), if_neg (by decide), if_neg (by decide), if_neg (by decide), if_pos rfl, pk_sub (by decide), gd_nI (by decide) (by decide), rd_nI _ 3 (by decide), h7 (5 - 4) (by decide)]⟩
  | 6, _ => exact ⟨nI (Q 2), by rw [e_X6_told, if_neg (by decide), if_neg (by decide), if_neg (by decide), if_neg (by decide), if_neg (by decide), if_neg (by decide), if_pos rfl, gd_nI (by decide) (by decide), rd_nI _ 17 (by decide), h4.1 2 (by decide)], by rw [e_X7_toldOf, if_neg (by decide), if_neg (by decide), if_neg (by decide), if_neg (by decide), if_neg (by decide), if_neg (by decide), if_pos rfl, pk_sub (by decide), gd_nI (by decide) (by decide), rd_nI _ 3 (by decide), h7 (6 - 4) (by decide)]⟩
  | 7, _ => exact ⟨nI (Q 3), by rw [e_X6_told, if_neg (by decide), if_neg (by decide), if_neg (by decide), if_neg (by decide), if_neg (by decide), if_neg (by decide), if_neg (by decide), if_pos rfl, gd_nI (by decide) (by decide), rd_nI _ 17 (by decide), h4.1 3 (by decide)], by rw [e_X7_toldOf, if_neg (by decide), if_neg (by decide), if_neg (by decide), if_neg (by decide), if_neg (by decide), if_neg (by decide), if_neg (by decide), if_pos rfl, pk_sub (by decide), gd_nI (by decide) (by decide), rd_nI _ 3 (by decide), h7 (7 - 4) (by decide)]⟩
  | 8, _ => exact ⟨nI (Q 7), by rw [e_X6_told, if_neg (by decide), if_neg (by decide), if_neg (by decide), if_neg (by decide), if_neg (by decide), if_neg (by decide), if_neg (by decide), if_neg (by decide), if_pos rfl, gd_nI (by decide) (by decide), rd_nI _ 17 (by decide), h4.1 7 (by decide)], by rw [e_X7_toldOf, if_neg (by decide), if_neg (by decide), if_neg (by decide), if_neg (by decide), if_neg (by decide), if_neg (by decide), if_neg (by decide), if_neg (by decide), if_pos rfl, gd_nI (by decide) (by decide), rd_nI _ 3 (by decide), h7 7 (by decide)]⟩
  | 9, _ => exact ⟨nI n, by rw [e_X6_told, if_neg (by decide), if_neg (by decide), if_neg (by decide), if_neg (by decide), if_neg (by decide), if_neg (by decide), if_neg (by decide), if_neg (by decide), if_neg (by decide), if_pos rfl, show gI σ 3 = nI n from hc], by rw [e_X7_toldOf, if_neg (by decide), if_neg (by decide), if_neg (by decide), if_neg (by decide), if_neg (by decide), if_neg (by decide), if_neg (by decide), if_neg (by decide), if_neg (by decide), if_pos rfl, show gI μ 0 = nI n from hd]⟩
  | j + 10, hj => omega
theorem sim_told : Sim1 TieZ f_X6_told f_X7_told := by
  intro x σ μ h
  by_cases hx : (nI 0 ≤ x ∧ x ≤ nI 9)
  · obtain ⟨j, hj, rfl⟩ := in_nI (b := 9) (by decide) hx
    obtain ⟨r, e1, e2⟩ := told_in h hj
    refine ⟨r, σ, μ, e1, ?_, h⟩
    rw [e_X7_told, bnd_of (in7_t hx), if_neg (by decide), bnd_of e2]
  · obtain ⟨r, σ', μ', e1, e2, h'⟩ := ref_bnd h (-2) (by decide)
    refine ⟨r, σ', μ', ?_, ?_, h'⟩
    · have ne : ∀ j : Nat, j ≤ 9 → ¬ x = nI j := fun j hj e => hx (by rw [e]; exact ⟨nI_le (Nat.zero_le _) (by omega), nI_le hj (by decide)⟩)
      rw [e_X6_told, if_neg (ne 0 (by decide)), if_neg (ne 1 (by decide)), if_neg (ne 2 (by decide)), if_neg (ne 3 (by decide)), if_neg (ne 4 (by decide)), if_neg (ne 5 (by decide)), if_neg (ne 6 (by decide)), if_neg (ne 7 (by decide)), if_neg (ne 8 (by decide)), if_neg (ne 9 (by decide))]
      exact e1
    · rw [e_X7_told, bnd_of (in7_f hx), if_pos rfl]
      exact e2
