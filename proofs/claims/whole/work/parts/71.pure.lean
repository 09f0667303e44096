/-! ===== PURE 33: the text, byte by byte; the class's fault and tell ===== -/
theorem rngQ {x : Int32} {a b : Nat} (hb : b < 2 ^ 31) (h : nI a ≤ x ∧ x ≤ nI b) (ha : a < 2 ^ 31) : ∃ j, a ≤ j ∧ j ≤ b ∧ x = nI j := by
  obtain ⟨h0, h1⟩ := h
  rw [Int32.le_iff_toInt_le, nI_toInt ha] at h0
  rw [Int32.le_iff_toInt_le, nI_toInt hb] at h1
  obtain ⟨j, hj, e⟩ := nI_of (x := x) (by
    rw [Int32.lt_iff_toInt_lt]
    have h2 : (0 : Int32).toInt = 0 := by decide
    omega)
  refine ⟨j, ?_, ?_, e⟩ <;> rw [e, nI_toInt hj] at h0 h1 <;> omega
def sgB (c : Int32) : Bool := decide (nI 48 ≤ c ∧ c ≤ nI 57) || (decide (c = nI 35) || decide (c = nI 46))
theorem isSign_eq (c : Int32) : f_X4_isSign c = some (if sgB c then nI 1 else nI 0) := by
  have j12 : ¬ (nI 48 ≤ c ∧ c ≤ nI 57) → f_X4_isSign_J12 c = some (if sgB c then nI 1 else nI 0) := by
    intro h
    unfold sgB
    rw [e_X4_isSign_J12, e_X4_isSign_J24, decide_eq_false h, Bool.false_or]
    by_cases q1 : c = nI 35
    · rw [if_pos q1, decide_eq_true q1, Bool.true_or, bT]
    · rw [if_neg q1, decide_eq_false q1, Bool.false_or]
      by_cases q2 : c = nI 46
      · rw [if_pos q2, decide_eq_true q2, bT]
      · rw [if_neg q2, decide_eq_false q2, bF]
  rw [e_X4_isSign]
  by_cases q1 : c < nI 48
  · rw [if_pos q1]
    exact j12 (fun z => (fa_of_lt q1).2.1 z.1)
  · rw [if_neg q1]
    by_cases q2 : c ≤ nI 57
    · rw [if_pos q2, e_X4_isSign_J24]
      unfold sgB
      rw [decide_eq_true ⟨fa_of_nlt q1, q2⟩, Bool.true_or, bT]
    · rw [if_neg q2]
      exact j12 (fun z => q2 z.2)
theorem sgB_59 : sgB (nI 59) = false := by decide
theorem sgB_dig {c : Int32} (h : sgB c = true) (h1 : ¬ c = nI 35) (h2 : ¬ c = nI 46) : ∃ d, d ≤ 9 ∧ c = nI (48 + d) := by
  unfold sgB at h
  rw [decide_eq_false h1, decide_eq_false h2, Bool.or_false, Bool.or_false] at h
  obtain ⟨j, j1, j2, e⟩ := rngQ (a := 48) (b := 57) (by decide) (of_decide_eq_true h) (by decide)
  exact ⟨j - 48, by omega, by rw [e]; exact congrArg nI (by omega)⟩
/-- a cell becomes what a sign tells -/
def becF (F : FF) (cell : Nat) (c : Int32) : FF := if c = nI 35 then setF F 1 cell 1 else if c = nI 46 then F else setF (setF F 1 cell 0) 0 cell (c - nI 48).toNatClampNeg
theorem digQ {d : Nat} (hd : d ≤ 9) : (nI (48 + d) - nI 48) = nI d := by
  rw [pk_sub (by omega)]
  exact congrArg nI (by omega)
theorem becF_ok {F : FF} (hF : FbOk F) {cell : Nat} {c : Int32} (hs : sgB c = true) : FbOk (becF F cell c) := by
  unfold becF
  by_cases q1 : c = nI 35
  · rw [if_pos q1]; exact setF_ok (by decide) (by decide) hF
  · rw [if_neg q1]
    by_cases q2 : c = nI 46
    · rw [if_pos q2]; exact hF
    · rw [if_neg q2]
      obtain ⟨d, hd, e⟩ := sgB_dig hs q1 q2
      rw [e, digQ hd, nI_clamp (by omega)]
      exact setF_ok (w := 0) (by decide) hd (setF_ok (w := 1) (by decide) (by decide) hF)
theorem CF.setQ {σ : St} {F : FF} (h : CF σ F) {w c v : Nat} (hw : w < 5) (hc : c < 80) : CF (sA σ w (nI c) (nI v)) (setF F w c v) := by
  refine CF.ofU (fun k j hk hj => ?_)
  unfold setF
  by_cases q : k = w
  · subst q
    rw [sA_at _ _ (by omega)]
    unfold upd
    by_cases z : j = c
    · rw [if_pos z, if_pos ⟨rfl, z⟩]
    · rw [if_neg z, if_neg (fun y => z y.2)]
      exact h.uni k j hk hj
  · rw [sA_no _ _ _ q, if_neg (fun y => q y.1)]
    exact h.uni k j hk hj
theorem MFd.setQ {μ : St} {F : FF} (h : MFd μ F) {w c v : Nat} (hw : w < 5) (hc : c < 80) : MFd (sA μ 0 (nI (80 * w + c)) (nI v)) (setF F w c v) := by
  refine MFd.ofU (fun k j hk hj => ?_)
  unfold setF
  rw [sA_at _ _ (by omega)]
  unfold upd
  by_cases q : k = w ∧ j = c
  · rw [if_pos q, if_pos (by omega)]
  · rw [if_neg q, if_neg (by omega)]
    exact h.uni k j hk hj
/-- where reading stands: in a row or not, which one, how many signs, how many rows, the field -/
abbrev AuS : Type := Bool × Nat × Nat × Nat × FF
def auStep (s : AuS) (c : Int32) (i : Nat) : AuS ⊕ Nat :=
  if c = nI 32 then .inl s
  else if s.1 = true then
    (if c = nI 59 ∧ 0 < s.2.2.1 then .inl (false, s.2.1, s.2.2.1, s.2.2.2.1 + 1, s.2.2.2.2)
     else if sgB c = true ∧ s.2.2.1 < 10 then .inl (true, s.2.1, s.2.2.1 + 1, s.2.2.2.1, becF s.2.2.2.2 (10 * s.2.1 + s.2.2.1) c)
     else .inr i)
  else (if nI 48 ≤ c ∧ c ≤ nI 55 then .inl (true, (c - nI 48).toNatClampNeg, 0, s.2.2.2.1, s.2.2.2.2) else .inr i)
def auQ (B : Nat → Int32) (F : FF) : Nat → AuS ⊕ Nat
  | 0 => .inl (false, 0, 0, 0, F)
  | i + 1 => match auQ B F i with
    | .inl s => auStep s (B i) i
    | .inr p => .inr p
theorem au_l {B : Nat → Int32} {F : FF} {i : Nat} {s : AuS} (h : auQ B F i = .inl s) : auQ B F (i + 1) = auStep s (B i) i := by
  show (match auQ B F i with | .inl s => auStep s (B i) i | .inr p => .inr p) = _
  rw [h]
theorem au_r {B : Nat → Int32} {F : FF} {i p : Nat} (h : auQ B F i = .inr p) : auQ B F (i + 1) = .inr p := by
  show (match auQ B F i with | .inl s => auStep s (B i) i | .inr p => .inr p) = _
  rw [h]
theorem au_pers {B : Nat → Int32} {F : FF} {i p : Nat} (h : auQ B F i = .inr p) : ∀ k, auQ B F (i + k) = .inr p
  | 0 => h
  | k + 1 => au_r (au_pers h k)
theorem au_back {B : Nat → Int32} {F : FF} {n : Nat} {s : AuS} (h : auQ B F n = .inl s) {i : Nat} (hi : i ≤ n) : ∃ s', auQ B F i = .inl s' := by
  cases e : auQ B F i with
  | inl s' => exact ⟨s', rfl⟩
  | inr p =>
    have := au_pers e (n - i)
    rw [show i + (n - i) = n from by omega, h] at this
    cases this
def AuOk (s : AuS) (i : Nat) : Prop := s.2.1 ≤ 7 ∧ s.2.2.1 ≤ 10 ∧ s.2.2.2.1 ≤ i ∧ FbOk s.2.2.2.2
theorem auStep_ok {s s' : AuS} {c : Int32} {i : Nat} (h : AuOk s i) (e : auStep s c i = .inl s') : AuOk s' (i + 1) := by
  obtain ⟨h1, h2, h3, h4⟩ := h
  unfold auStep at e
  by_cases q1 : c = nI 32
  · rw [if_pos q1] at e
    have e := Sum.inl.inj e
    subst e
    exact ⟨h1, h2, by omega, h4⟩
  · rw [if_neg q1] at e
    by_cases q2 : s.1 = true
    · rw [if_pos q2] at e
      by_cases q3 : c = nI 59 ∧ 0 < s.2.2.1
      · rw [if_pos q3] at e
        have e := Sum.inl.inj e
        subst e
        exact ⟨h1, h2, by show s.2.2.2.1 + 1 ≤ i + 1; omega, h4⟩
      · rw [if_neg q3] at e
        by_cases q4 : sgB c = true ∧ s.2.2.1 < 10
        · rw [if_pos q4] at e
          have e := Sum.inl.inj e
          subst e
          exact ⟨h1, q4.2, by show s.2.2.2.1 ≤ i + 1; omega, becF_ok h4 q4.1⟩
        · rw [if_neg q4] at e
          cases e
    · rw [if_neg q2] at e
      by_cases q3 : nI 48 ≤ c ∧ c ≤ nI 55
      · rw [if_pos q3] at e
        have e := Sum.inl.inj e
        subst e
        obtain ⟨j, j1, j2, ej⟩ := rngQ (a := 48) (b := 55) (by decide) q3 (by decide)
        refine ⟨?_, Nat.zero_le _, by show s.2.2.2.1 ≤ i + 1; omega, h4⟩
        show (c - nI 48).toNatClampNeg ≤ 7
        rw [ej, pk_sub (by omega), nI_clamp (by omega)]
        omega
      · rw [if_neg q3] at e
        cases e
theorem au_ok {B : Nat → Int32} {F : FF} (hF : FbOk F) : ∀ i s, auQ B F i = .inl s → AuOk s i
  | 0, s, h => by
    have h := Sum.inl.inj h
    subst h
    exact ⟨Nat.zero_le _, Nat.zero_le _, Nat.le_refl _, hF⟩
  | i + 1, s, h => by
    obtain ⟨s0, e0⟩ := au_back h (i := i) (by omega)
    rw [au_l e0] at h
    exact auStep_ok (au_ok hF i s0 e0) h
/-- a fault; none -/
def FtAt (B : Nat → Int32) (F : FF) (n p : Nat) : Prop := auQ B F n = .inr p ∨ (p = n ∧ ∃ s, auQ B F n = .inl s ∧ (s.1 = true ∨ s.2.2.2.1 = 0))
def OkAt (B : Nat → Int32) (F : FF) (n : Nat) (s : AuS) : Prop := auQ B F n = .inl s ∧ s.1 = false ∧ s.2.2.2.1 ≠ 0
theorem ft_uni {B : Nat → Int32} {F : FF} {n p p' : Nat} (h : FtAt B F n p) (h' : FtAt B F n p') : p = p' := by
  rcases h with h | ⟨h1, s, h2, h3⟩ <;> rcases h' with h' | ⟨h1', s', h2', h3'⟩
  · rw [h] at h'; exact Sum.inr.inj h'
  · rw [h] at h2'; cases h2'
  · rw [h2] at h'; cases h'
  · rw [h1, h1']
theorem ok_ft {B : Nat → Int32} {F : FF} {n p : Nat} {s : AuS} (h : OkAt B F n s) (h' : FtAt B F n p) : False := by
  rcases h' with h' | ⟨-, s', h2, h3⟩
  · rw [h.1] at h'; cases h'
  · rw [h.1] at h2
    have h2 := Sum.inl.inj h2
    subst h2
    rcases h3 with z | z
    · rw [h.2.1] at z; cases z
    · exact h.2.2 z
theorem ft_pos {B : Nat → Int32} {F : FF} {n p : Nat} (hp : p < n) (h : auQ B F (p + 1) = .inr p) : FtAt B F n p := by
  have := au_pers h (n - (p + 1))
  rw [show p + 1 + (n - (p + 1)) = n from by omega] at this
  exact Or.inl this
theorem fault_ok {σ : St} {B : Nat → Int32} {F : FF} (hF : FbOk F) {n : Nat} (hn : n ≤ 120) (h5 : σ.2 5 = nI n) (h16 : ∀ i, i < n → σ.1 16 i = B i) : (∃ p, p ≤ n ∧ FtAt B F n p ∧ f_X4_fault σ = some (nI p)) ∨ (∃ s, OkAt B F n s ∧ f_X4_fault σ = some (-nI 1)) := by
  have g5 : gI σ 5 = nI n := h5
  have hm : ∃ y, loopN (f_X4_fault_L9 σ) 4096 (nI 0, nI 0, nI 0, nI 0) = some y ∧ ((∃ p, p < n ∧ auQ B F (p + 1) = .inr p ∧ y = .inl (nI p)) ∨ ∃ s, auQ B F n = .inl s ∧ y = .inr (if s.1 then nI 1 else nI 0, nI s.2.2.2.1)) := by
    refine loop_inv (Inv := fun i v => ∃ s, auQ B F i = .inl s ∧ v = (if s.1 then nI 1 else nI 0, nI s.2.2.2.1, nI s.2.2.1, nI i)) n ?_ ?_ (by omega) ⟨_, rfl, rfl⟩
    · rintro i v hi ⟨s, hs, rfl⟩
      obtain ⟨o1, o2, o3, o4⟩ := au_ok hF i s hs
      have e1 := au_l hs
      obtain ⟨rw_, r, sg, rows, G⟩ := s
      dsimp only at o1 o2 o3 o4 e1 ⊢
      rw [e_X4_fault_L9, g5, if_neg (nI_ge hi (by omega)), gd_nI (by omega) (by decide), rd_nI _ 16 (by omega), h16 i hi]
      unfold auStep at e1
      dsimp only at e1
      generalize B i = c at e1
      rw [e_X4_fault_J84, bnd_of (isSign_eq c), nI_add, nI_add, nI_add]
      by_cases q1 : c = nI 32
      · rw [if_pos q1] at e1 ⊢
        exact Or.inl ⟨_, rfl, _, e1, rfl⟩
      · rw [if_neg q1] at e1 ⊢
        cases rw_
        · rw [if_neg (by decide)] at e1
          rw [bF, if_pos rfl]
          by_cases q2 : c < nI 48
          · rw [if_neg (fun z => (fa_of_lt q2).2.1 z.1)] at e1
            rw [if_pos q2]
            exact Or.inr ⟨_, rfl, Or.inl ⟨i, hi, e1, rfl⟩⟩
          · rw [if_neg q2]
            by_cases q3 : c ≤ nI 55
            · rw [if_pos ⟨fa_of_nlt q2, q3⟩] at e1
              rw [if_pos q3]
              exact Or.inl ⟨_, rfl, _, e1, rfl⟩
            · rw [if_neg (fun z => q3 z.2)] at e1
              rw [if_neg q3]
              exact Or.inr ⟨_, rfl, Or.inl ⟨i, hi, e1, rfl⟩⟩
        · rw [if_pos rfl] at e1
          rw [bT, if_neg (by decide)]
          have sign : ¬ (c = nI 59 ∧ 0 < sg) → (∃ v', (if (if sgB c = true then nI 1 else nI 0) = nI 0 then some (Sum.inl (Sum.inl (nI i))) else if nI 10 ≤ nI sg then some (Sum.inl (Sum.inl (nI i))) else some (Sum.inr (nI 1, nI rows, nI (sg + 1), nI (i + 1)))) = (some (.inr v') : Option ((Int32 ⊕ (Int32 × Int32)) ⊕ (Int32 × Int32 × Int32 × Int32))) ∧ ∃ s, auQ B F (i + 1) = .inl s ∧ v' = (if s.1 then nI 1 else nI 0, nI s.2.2.2.1, nI s.2.2.1, nI (i + 1))) ∨ ∃ y, (if (if sgB c = true then nI 1 else nI 0) = nI 0 then some (Sum.inl (Sum.inl (nI i))) else if nI 10 ≤ nI sg then some (Sum.inl (Sum.inl (nI i))) else some (Sum.inr (nI 1, nI rows, nI (sg + 1), nI (i + 1)))) = (some (.inl y) : Option ((Int32 ⊕ (Int32 × Int32)) ⊕ (Int32 × Int32 × Int32 × Int32))) ∧ ((∃ p, p < n ∧ auQ B F (p + 1) = .inr p ∧ y = .inl (nI p)) ∨ ∃ s, auQ B F n = .inl s ∧ y = .inr (if s.1 then nI 1 else nI 0, nI s.2.2.2.1)) := by
            intro hne
            rw [if_neg hne] at e1
            cases hb : sgB c
            · rw [if_neg (by rw [hb]; rintro ⟨z, -⟩; cases z)] at e1
              rw [bF, if_pos rfl]
              exact Or.inr ⟨_, rfl, Or.inl ⟨i, hi, e1, rfl⟩⟩
            · rw [bT, if_neg (by decide)]
              by_cases q4 : sg < 10
              · rw [if_pos ⟨hb, q4⟩] at e1
                rw [if_neg (nI_ge q4 (by decide))]
                exact Or.inl ⟨_, rfl, _, e1, rfl⟩
              · rw [if_neg (fun z => q4 z.2)] at e1
                rw [if_pos (nI_le (by omega) (by omega))]
                exact Or.inr ⟨_, rfl, Or.inl ⟨i, hi, e1, rfl⟩⟩
          by_cases q2 : c = nI 59
          · rw [if_pos q2]
            by_cases q3 : 0 < sg
            · rw [if_pos ⟨q2, q3⟩] at e1
              rw [if_neg (nI_ge q3 (by omega))]
              exact Or.inl ⟨_, rfl, _, e1, rfl⟩
            · rw [if_pos (nI_le (by omega) (by omega))]
              exact sign (fun z => q3 z.2)
          · rw [if_neg q2]
            exact sign (fun z => q2 z.1)
    · rintro v ⟨s, hs, rfl⟩
      exact ⟨_, by rw [e_X4_fault_L9, g5, if_pos (nI_le (Nat.le_refl _) (by omega))], Or.inr ⟨s, hs, rfl⟩⟩
  obtain ⟨y, e, hy⟩ := hm
  rw [e_X4_fault, e_X4_fault_J9, bnd_of e]
  rcases hy with ⟨p, hp, h1, rfl⟩ | ⟨s, hs, rfl⟩
  · exact Or.inl ⟨p, by omega, ft_pos hp h1, rfl⟩
  · show (∃ p, p ≤ n ∧ FtAt B F n p ∧ f_X4_fault_J113 (if s.1 then nI 1 else nI 0) (nI s.2.2.2.1) σ = some (nI p)) ∨ (∃ s', OkAt B F n s' ∧ f_X4_fault_J113 (if s.1 then nI 1 else nI 0) (nI s.2.2.2.1) σ = some (-nI 1))
    obtain ⟨o1, o2, o3, o4⟩ := au_ok hF n s hs
    rw [e_X4_fault_J113, e_X4_fault_J121, g5]
    cases hr : s.1
    · rw [bF, if_pos rfl]
      by_cases z : s.2.2.2.1 = 0
      · rw [if_pos (by rw [z])]
        exact Or.inl ⟨n, Nat.le_refl _, Or.inr ⟨rfl, s, hs, Or.inr z⟩, rfl⟩
      · rw [if_neg (neq_f (b := 0) z (by omega) (by decide) rfl rfl)]
        exact Or.inr ⟨s, ⟨hs, hr, z⟩, rfl⟩
    · rw [bT, if_neg (by decide)]
      exact Or.inl ⟨n, Nat.le_refl _, Or.inr ⟨rfl, s, hs, Or.inl hr⟩, rfl⟩
theorem tellCell_ok {σ : St} {F : FF} (h : CF σ F) {cell : Nat} (hc : cell < 80) {c : Int32} (hs : sgB c = true) : ∃ σ', f_X4_tellCell (nI cell) c σ = some σ' ∧ FmZ [0, 1] [] σ σ' ∧ CF σ' (becF F cell c) := by
  unfold becF
  rw [e_X4_tellCell, bnd_of (isCell_t hc), if_neg (by decide : ¬ nI 1 = nI 0), gd_nI hc (by decide), gd_nI hc (by decide), gd_nI hc (by decide)]
  by_cases q1 : c = nI 35
  · rw [if_neg (by rw [q1]; decide), if_pos q1, if_pos q1]
    exact ⟨_, rfl, FmZ.sA FmZ.rfl' (by decide) _ _, h.setQ (w := 1) (by decide) hc⟩
  · by_cases q2 : c = nI 46
    · rw [if_pos q2, if_neg q1, if_pos q2]
      exact ⟨_, rfl, FmZ.rfl', h⟩
    · rw [if_neg q2, if_neg q1, if_neg q1, if_neg q2]
      obtain ⟨d, hd, e⟩ := sgB_dig hs q1 q2
      refine ⟨_, rfl, FmZ.sA (FmZ.sA FmZ.rfl' (by decide) _ _) (by decide) _ _, ?_⟩
      rw [e, digQ hd, nI_clamp (by omega)]
      exact (h.setQ (w := 1) (v := 0) (by decide) hc).setQ (w := 0) (by decide) hc
theorem tell_ok {σ : St} {B : Nat → Int32} {F : FF} (hF : FbOk F) (hC : CF σ F) {n : Nat} (hn : n ≤ 120) (h5 : σ.2 5 = nI n) (h16 : ∀ i, i < n → σ.1 16 i = B i) {sn : AuS} (hs : auQ B F n = .inl sn) : ∃ σ', f_X4_tell σ = some (nI sn.2.2.2.1, σ') ∧ FmZ [0, 1] [] σ σ' ∧ CF σ' sn.2.2.2.2 := by
  have hm : ∃ y, loopN f_X4_tell_L7 4096 (nI 0, -nI 1, nI 0, σ) = some y ∧ y.1 = nI sn.2.2.2.1 ∧ FmZ [0, 1] [] σ y.2 ∧ CF y.2 sn.2.2.2.2 := by
    refine loop_for (Inv := fun i v => ∃ s, auQ B F i = .inl s ∧ v.1 = nI s.2.2.2.1 ∧ v.2.1 = (if s.1 then nI (10 * s.2.1 + s.2.2.1) else -nI 1) ∧ v.2.2.1 = nI i ∧ FmZ [0, 1] [] σ v.2.2.2 ∧ CF v.2.2.2 s.2.2.2.2) n ?_ ?_ (by omega) ⟨_, rfl, rfl, rfl, rfl, FmZ.rfl', hC⟩
    · rintro i ⟨a, b, d, st⟩ hi ⟨s, hs0, c1, c2, c3, c4, c5⟩
      dsimp only at c1 c2 c3 c4 c5
      subst c1 c2 c3
      obtain ⟨o1, o2, o3, o4⟩ := au_ok hF i s hs0
      have e1 := au_l hs0
      obtain ⟨s', hs'⟩ := au_back hs (i := i + 1) (by omega)
      rw [hs'] at e1
      obtain ⟨rw_, r, sg, rows, G⟩ := s
      dsimp only at o1 o2 o3 o4 e1 c5 ⊢
      have g5 : gI st 5 = nI n := by show st.2 5 = _; rw [c4.2 5 (by decide)]; exact h5
      have gb : rd st 16 (nI i) = B i := by rw [rd_nI _ 16 (by omega), c4.1 16 (by decide)]; exact h16 i hi
      rw [e_X4_tell_L7, g5, if_neg (nI_ge hi (by omega)), gd_nI (by omega) (by decide), gb]
      unfold auStep at e1
      dsimp only at e1
      generalize B i = c at e1
      by_cases q1 : c = nI 32
      · rw [if_pos q1] at e1 ⊢
        have e1 := Sum.inl.inj e1
        subst e1
        exact ⟨_, rfl, _, hs', rfl, rfl, nI_add i 1, c4, c5⟩
      · rw [if_neg q1] at e1 ⊢
        cases rw_
        · rw [if_neg (by decide)] at e1
          by_cases q2 : nI 48 ≤ c ∧ c ≤ nI 55
          · rw [if_pos q2] at e1
            have e1 := Sum.inl.inj e1
            subst e1
            obtain ⟨j, j1, j2, ej⟩ := rngQ (a := 48) (b := 55) (by decide) q2 (by decide)
            have en : c - nI 48 = nI (j - 48) := by rw [ej, pk_sub (by omega)]
            rw [if_neg (by rw [ej, nI_eq (by omega) (by decide)]; omega), bF, if_pos rfl]
            refine ⟨_, rfl, _, hs', rfl, ?_, nI_add i 1, c4, c5⟩
            dsimp only
            rw [en, pk_mul, nI_clamp (by omega), if_pos rfl]
            rfl
          · rw [if_neg q2] at e1
            cases e1
        · rw [if_pos rfl] at e1
          by_cases q2 : c = nI 59
          · rw [if_pos q2]
            by_cases q3 : 0 < sg
            · rw [if_pos ⟨q2, q3⟩] at e1
              have e1 := Sum.inl.inj e1
              subst e1
              exact ⟨_, rfl, _, hs', nI_add rows 1, rfl, nI_add i 1, c4, c5⟩
            · rw [if_neg (fun z => q3 z.2), if_neg (by rw [q2, sgB_59]; rintro ⟨z, -⟩; cases z)] at e1
              cases e1
          · rw [if_neg (fun z => q2 z.1)] at e1
            by_cases q4 : sgB c = true ∧ sg < 10
            · rw [if_pos q4] at e1
              have e1 := Sum.inl.inj e1
              subst e1
              obtain ⟨st2, e2, f2, hC2⟩ := tellCell_ok c5 (cell := 10 * r + sg) (by omega) q4.1
              rw [if_neg q2, bT, if_neg (m1_ne (by omega)), bnd_of e2]
              refine ⟨_, rfl, _, hs', rfl, ?_, nI_add i 1, c4.trans f2, hC2⟩
              dsimp only
              rw [nI_add, if_pos rfl]
              rfl
            · rw [if_neg q4] at e1
              cases e1
    · rintro ⟨a, b, d, st⟩ ⟨s, hs0, c1, c2, c3, c4, c5⟩
      dsimp only at c1 c2 c3 c4 c5
      subst c1 c2 c3
      rw [hs] at hs0
      have hs0 := Sum.inl.inj hs0
      subst hs0
      have g5 : gI st 5 = nI n := by show st.2 5 = _; rw [c4.2 5 (by decide)]; exact h5
      exact ⟨_, by rw [e_X4_tell_L7, g5, if_pos (nI_le (Nat.le_refl _) (by omega))], rfl, c4, c5⟩
  obtain ⟨⟨y1, y2⟩, e, k1, k2, k3⟩ := hm
  dsimp only at k1 k2 k3
  subst k1
  exact ⟨y2, by rw [e_X4_tell, e_X4_tell_J7, bnd_of e], k2, k3⟩
