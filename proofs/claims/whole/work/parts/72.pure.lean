/-! ===== PURE 34: the reference's reading; reads ===== -/
theorem sI_idQ (s : St) (k : Nat) : sI s k (s.2 k) = s := by
  unfold sI
  refine Prod.ext rfl (funext fun j => ?_)
  dsimp only
  cases h : Nat.beq j k
  · rfl
  · rw [Nat.beq_eq] at h; subst h; rfl
theorem setF_swap {F : FF} {w w' c c' v v' : Nat} (h : w ≠ w') : setF (setF F w c v) w' c' v' = setF (setF F w' c' v') w c v := by
  funext k j
  unfold setF
  by_cases q : k = w ∧ j = c
  · rw [if_neg (by omega), if_pos q, if_pos q]
  · rw [if_neg q, if_neg q]
theorem becomes_ok {μ : St} {F : FF} (h : MFd μ F) {cell : Nat} (hc : cell < 80) {c : Int32} (hs : sgB c = true) : ∃ μ', f_X7_becomes (nI cell) c μ = some μ' ∧ FmZ [0] [] μ μ' ∧ MFd μ' (becF F cell c) := by
  unfold becF
  rw [e_X7_becomes, nI_add, gd_nI (by omega) (by decide), gd_nI (by omega) (by decide), gd_nI (by omega) (by decide)]
  by_cases q1 : c = nI 35
  · rw [if_pos q1, if_pos q1]
    exact ⟨_, rfl, FmZ.sA FmZ.rfl' (by decide) _ _, h.setQ (w := 1) (by decide) hc⟩
  · by_cases q2 : c = nI 46
    · rw [if_neg q1, if_pos q2, if_neg q1, if_pos q2]
      exact ⟨_, rfl, FmZ.rfl', h⟩
    · rw [if_neg q1, if_neg q2, if_neg q1, if_neg q2]
      obtain ⟨d, hd, e⟩ := sgB_dig hs q1 q2
      refine ⟨_, rfl, FmZ.sA (FmZ.sA FmZ.rfl' (by decide) _ _) (by decide) _ _, ?_⟩
      rw [e, digQ hd, nI_clamp (by omega), setF_swap (by decide)]
      have h1 := h.setQ (w := 0) (v := d) (by decide) hc
      rw [show 80 * 0 + cell = cell from by omega] at h1
      exact h1.setQ (w := 1) (v := 0) (by decide) hc
theorem byteAt_y {st : St} {B : Nat → Int32} {n p : Nat} (hn : n ≤ 120) (h1 : st.2 1 = nI n) (h5 : ∀ i, i < n → st.1 5 i = B i) (hp : p < n) : f_X7_byteAt (nI p) st = some (B p) := by
  rw [e_X7_byteAt, show gI st 1 = nI n from h1, if_neg (nI_ge hp (by omega)), gd_nI (by omega) (by decide), rd_nI _ 5 (by omega), h5 p hp]
theorem byteAt_n {st : St} {n : Nat} (hn : n ≤ 120) (h1 : st.2 1 = nI n) : f_X7_byteAt (nI n) st = some (-nI 1) := by
  rw [e_X7_byteAt, show gI st 1 = nI n from h1, if_pos (nI_le (Nat.le_refl _) (by omega))]
theorem skips_ok {st : St} {B : Nat → Int32} {n p : Nat} (hn : n ≤ 120) (h1 : st.2 1 = nI n) (h5 : ∀ i, i < n → st.1 5 i = B i) (hp : p ≤ n) (h2 : st.2 2 = nI p) : ∃ p', f_X7_skips st = some (sI st 2 (nI p')) ∧ p ≤ p' ∧ p' ≤ n ∧ (∀ q, p ≤ q → q < p' → B q = nI 32) ∧ (p' < n → B p' ≠ nI 32) := by
  have hm : ∃ y, loopN f_X7_skips_L0 4096 st = some y ∧ ∃ p', y = sI st 2 (nI p') ∧ p ≤ p' ∧ p' ≤ n ∧ (∀ q, p ≤ q → q < p' → B q = nI 32) ∧ (p' < n → B p' ≠ nI 32) := by
    refine loop_inv (Inv := fun j v => v = sI st 2 (nI (p + j)) ∧ p + j ≤ n ∧ ∀ q, p ≤ q → q < p + j → B q = nI 32) (n - p) ?_ ?_ (by omega) ⟨?_, by omega, fun q a b => by omega⟩
    · rintro j v hj ⟨rfl, z1, z2⟩
      have g2 : gI (sI st 2 (nI (p + j))) 2 = nI (p + j) := rfl
      rw [e_X7_skips_L0, g2, bnd_of (byteAt_y (st := sI st 2 (nI (p + j))) hn h1 h5 (by omega))]
      by_cases q : B (p + j) = nI 32
      · left
        rw [if_pos q, sI_sI, nI_add]
        refine ⟨_, rfl, rfl, by omega, fun x a b => ?_⟩
        by_cases y : x = p + j
        · rw [y]; exact q
        · exact z2 x a (by omega)
      · right
        rw [if_neg q]
        exact ⟨_, rfl, p + j, rfl, by omega, z1, z2, fun _ => q⟩
    · rintro v ⟨rfl, z1, z2⟩
      rw [show p + (n - p) = n from by omega] at z2 ⊢
      have g2 : gI (sI st 2 (nI n)) 2 = nI n := rfl
      refine ⟨_, by rw [e_X7_skips_L0, g2, bnd_of (byteAt_n (st := sI st 2 (nI n)) hn h1), if_neg (by decide)], n, rfl, hp, Nat.le_refl _, z2, fun z => absurd z (Nat.lt_irrefl _)⟩
    · rw [Nat.add_zero, ← h2, sI_idQ]
  obtain ⟨y, e, p', rfl, h⟩ := hm
  exact ⟨p', by rw [e_X7_skips, e_X7_skips_J0, bnd_of e], h⟩
theorem au_blank {B : Nat → Int32} {F : FF} {p : Nat} {s : AuS} (h : auQ B F p = .inl s) : ∀ k, (∀ q, p ≤ q → q < p + k → B q = nI 32) → auQ B F (p + k) = .inl s
  | 0, _ => h
  | k + 1, hb => by
    have ih := au_blank h k (fun q a b => hb q a (by omega))
    have e := au_l ih
    unfold auStep at e
    rw [if_pos (hb (p + k) (by omega) (by omega))] at e
    exact e
theorem au_skip {B : Nat → Int32} {F : FF} {p p' : Nat} {s : AuS} (h : auQ B F p = .inl s) (hp : p ≤ p') (hb : ∀ q, p ≤ q → q < p' → B q = nI 32) : auQ B F p' = .inl s := by
  have := au_blank h (p' - p) (fun q a b => hb q a (by omega))
  rw [show p + (p' - p) = p' from by omega] at this
  exact this
theorem j71_eq (x1 c : Int32) (st : St) {j : Nat} (hj : j ≤ 10) : f_X7_isRow_J71 x1 (nI j) c st = if j < 10 ∧ sgB c = true then f_X7_isRow_J102 x1 (nI j) c st else some (.inl (.inr st)) := by
  rw [e_X7_isRow_J71]
  by_cases q : j = 10
  · rw [if_pos (by rw [q]), if_neg (by omega)]
  · rw [if_neg (neq_f (b := 10) q (by omega) (by decide) rfl rfl)]
    unfold sgB
    by_cases q1 : nI 48 ≤ c ∧ c ≤ nI 57
    · rw [bnd_of (in7_t q1), if_neg (by decide), if_pos ⟨by omega, by rw [decide_eq_true q1, Bool.true_or]⟩]
    · rw [bnd_of (in7_f q1), if_pos rfl, decide_eq_false q1, Bool.false_or]
      by_cases q2 : c = nI 35
      · rw [if_pos q2, if_pos ⟨by omega, by rw [decide_eq_true q2, Bool.true_or]⟩]
      · rw [if_neg q2, decide_eq_false q2, Bool.false_or]
        by_cases q3 : c = nI 46
        · rw [if_pos q3, if_pos ⟨by omega, decide_eq_true q3⟩]
        · rw [if_neg q3, if_neg (fun z => q3 (of_decide_eq_true z.2))]
/-- how the reading of a row ends: at p', having begun at p -/
def RwEnd (B : Nat → Int32) (F : FF) (n p rows : Nat) (st : St) (r : Int32) (st' : St) : Prop := ∃ p', FmZ [0] [2] st st' ∧ st'.2 2 = nI p' ∧ p' ≤ n ∧ ((r = nI 1 ∧ p < p' ∧ ∃ s', auQ B F p' = .inl s' ∧ s'.1 = false ∧ s'.2.2.2.1 = rows + 1 ∧ MFd st' s'.2.2.2.2) ∨ (r = nI 0 ∧ ((p' < n ∧ auQ B F (p' + 1) = .inr p') ∨ (p' = n ∧ ((∃ s', auQ B F n = .inl s' ∧ s'.1 = true) ∨ p = n)))))
theorem isRow_ok {B : Nat → Int32} {F : FF} (hF : FbOk F) {n : Nat} (hn : n ≤ 120) {st : St} (h1 : st.2 1 = nI n) (h5 : ∀ i, i < n → st.1 5 i = B i) {p : Nat} (hp : p ≤ n) (h2 : st.2 2 = nI p) (hb : p < n → B p ≠ nI 32) {s : AuS} (hs : auQ B F p = .inl s) (hr : s.1 = false) (hM : MFd st s.2.2.2.2) : ∃ r st', f_X7_isRow st = some (r, st') ∧ RwEnd B F n p s.2.2.2.1 st r st' := by
  have g2 : gI st 2 = nI p := h2
  rw [e_X7_isRow, g2]
  rcases Nat.lt_or_ge p n with hpn | hpn
  · rw [bnd_of (byteAt_y hn h1 h5 hpn)]
    have e1 := au_l hs
    unfold auStep at e1
    rw [if_neg (hb hpn), if_neg (by rw [hr]; decide)] at e1
    by_cases q : nI 48 ≤ B p ∧ B p ≤ nI 55
    · rw [if_pos q] at e1
      obtain ⟨j, j1, j2, ej⟩ := rngQ (a := 48) (b := 55) (by decide) q (by decide)
      obtain ⟨v, hv⟩ : ∃ v, v = j - 48 := ⟨_, rfl⟩
      have en : B p - nI 48 = nI v := by rw [ej, pk_sub (by omega), hv]
      rw [en, nI_clamp (by omega)] at e1
      rw [en, bnd_of (in7_nI (by omega) (by decide)), if_neg (by decide), e_X7_isRow_J36, nI_add]
      -- a sign, or the end
      have turn : ∀ i (w : Int32 × St), i ≤ 10 → (w.1 = nI i ∧ ∃ q s', w.2.2 2 = nI q ∧ p < q ∧ q ≤ n ∧ FmZ [0] [2] st w.2 ∧ auQ B F q = .inl s' ∧ s'.1 = true ∧ s'.2.1 = v ∧ s'.2.2.1 = i ∧ s'.2.2.2.1 = s.2.2.2.1 ∧ MFd w.2 s'.2.2.2.2) →
          (i < 10 ∧ ∃ w', f_X7_isRow_L36 (nI v) w = some (.inr w') ∧ (w'.1 = nI (i + 1) ∧ ∃ q s', w'.2.2 2 = nI q ∧ p < q ∧ q ≤ n ∧ FmZ [0] [2] st w'.2 ∧ auQ B F q = .inl s' ∧ s'.1 = true ∧ s'.2.1 = v ∧ s'.2.2.1 = i + 1 ∧ s'.2.2.2.1 = s.2.2.2.1 ∧ MFd w'.2 s'.2.2.2.2)) ∨ ∃ y, f_X7_isRow_L36 (nI v) w = some (.inl y) ∧ ∃ r st', (y = .inl (r, st') ∨ (y = .inr st' ∧ r = nI 0)) ∧ RwEnd B F n p s.2.2.2.1 st r st' := by
        rintro i ⟨a, w⟩ hi ⟨c1, q, s', c2, c3, c4, c5, c6, c7, c8, c9, c10, c11⟩
        dsimp only at c1 c2 c5 c11
        subst c1
        have w1 : w.2 1 = nI n := by rw [c5.2 1 (by decide)]; exact h1
        have w5 : ∀ i, i < n → w.1 5 i = B i := by rw [c5.1 5 (by decide)]; exact h5
        obtain ⟨q', es, q1, q2, q3, q4⟩ := skips_ok hn w1 w5 c4 c2
        have hs' := au_skip c6 q1 q3
        obtain ⟨o1, o2, o3, o4⟩ := au_ok hF q' s' hs'
        have f0 : FmZ [0] [2] st (sI w 2 (nI q')) := FmZ.sI c5 (by decide) _
        have gq : gI (sI w 2 (nI q')) 2 = nI q' := rfl
        rw [e_X7_isRow_L36, bnd_of es, gq]
        rcases Nat.lt_or_ge q' n with hqn | hqn
        · rw [bnd_of (byteAt_y (st := sI w 2 (nI q')) hn w1 w5 hqn)]
          have e2 := au_l hs'
          unfold auStep at e2
          rw [if_neg (q4 hqn), if_pos c7, c8, c9] at e2
          generalize B q' = c at e2
          have bad : auQ B F (q' + 1) = .inr q' → ∃ y, (some (Sum.inl (Sum.inr (sI w 2 (nI q')))) : Option ((((Int32 × St) ⊕ St)) ⊕ (Int32 × St))) = some (.inl y) ∧ ∃ r st', (y = .inl (r, st') ∨ (y = .inr st' ∧ r = nI 0)) ∧ RwEnd B F n p s.2.2.2.1 st r st' := fun ez => ⟨_, rfl, nI 0, _, Or.inr ⟨rfl, rfl⟩, q', f0, rfl, q2, Or.inr ⟨rfl, Or.inl ⟨hqn, ez⟩⟩⟩
          rw [j71_eq _ _ _ hi]
          have sign : ¬ (c = nI 59 ∧ 0 < i) → ((i < 10 ∧ ∃ w', (if i < 10 ∧ sgB c = true then f_X7_isRow_J102 (nI v) (nI i) c (sI w 2 (nI q')) else some (.inl (.inr (sI w 2 (nI q'))))) = some (.inr w') ∧ (w'.1 = nI (i + 1) ∧ ∃ q s', w'.2.2 2 = nI q ∧ p < q ∧ q ≤ n ∧ FmZ [0] [2] st w'.2 ∧ auQ B F q = .inl s' ∧ s'.1 = true ∧ s'.2.1 = v ∧ s'.2.2.1 = i + 1 ∧ s'.2.2.2.1 = s.2.2.2.1 ∧ MFd w'.2 s'.2.2.2.2)) ∨ ∃ y, (if i < 10 ∧ sgB c = true then f_X7_isRow_J102 (nI v) (nI i) c (sI w 2 (nI q')) else some (.inl (.inr (sI w 2 (nI q'))))) = some (.inl y) ∧ ∃ r st', (y = .inl (r, st') ∨ (y = .inr st' ∧ r = nI 0)) ∧ RwEnd B F n p s.2.2.2.1 st r st') := by
            intro hne
            rw [if_neg hne] at e2
            by_cases z : sgB c = true ∧ i < 10
            · rw [if_pos z] at e2
              left
              have hM1 : MFd (sI w 2 (nI q')) s'.2.2.2.2 := c11
              obtain ⟨w2, eb, fb, hM2⟩ := becomes_ok hM1 (cell := 10 * v + i) (by omega) z.1
              refine ⟨z.2, (nI (i + 1), sI w2 2 (nI (q' + 1))), ?_, rfl, q' + 1, _, rfl, by omega, by omega, FmZ.sI (f0.trans (fb.mono (by decide) (by decide))) (by decide) _, e2, rfl, rfl, rfl, c10, hM2⟩
              have g3 : gI w2 2 = nI q' := by show w2.2 2 = _; rw [fb.2 2 (by decide)]; rfl
              rw [if_pos ⟨z.2, z.1⟩, e_X7_isRow_J102, pk_mul, nI_add, bnd_of eb, g3, nI_add, nI_add]
            · rw [if_neg z] at e2
              right
              rw [if_neg (fun y => z ⟨y.2, y.1⟩)]
              exact bad e2
          by_cases z1 : c = nI 59
          · rw [if_pos z1]
            by_cases z2 : 0 < i
            · rw [if_pos ⟨z1, z2⟩] at e2
              right
              rw [if_neg (nI_ge z2 (by omega)), sI_sI, nI_add]
              exact ⟨_, rfl, nI 1, _, Or.inl rfl, q' + 1, FmZ.sI c5 (by decide) _, rfl, by omega, Or.inl ⟨rfl, by omega, _, e2, rfl, by show s'.2.2.2.1 + 1 = _; rw [c10], c11⟩⟩
            · rw [if_pos (nI_le (by omega) (by omega))]
              exact sign (fun y => z2 y.2)
          · rw [if_neg z1]
            exact sign (fun y => z1 y.1)
        · have eq : q' = n := by omega
          subst eq
          right
          rw [bnd_of (byteAt_n (st := sI w 2 (nI q')) hn w1), if_neg (by decide), j71_eq _ _ _ hi, if_neg (fun y => absurd y.2 (by decide))]
          exact ⟨_, rfl, nI 0, _, Or.inr ⟨rfl, rfl⟩, q', f0, rfl, q2, Or.inr ⟨rfl, Or.inr ⟨rfl, Or.inl ⟨s', hs', c7⟩⟩⟩⟩
      have hm : ∃ y, loopN (f_X7_isRow_L36 (nI v)) 4096 (nI 0, sI st 2 (nI (p + 1))) = some y ∧ ∃ r st', (y = .inl (r, st') ∨ (y = .inr st' ∧ r = nI 0)) ∧ RwEnd B F n p s.2.2.2.1 st r st' := by
        refine loop_inv (Inv := fun i w => (w.1 = nI i ∧ ∃ q s', w.2.2 2 = nI q ∧ p < q ∧ q ≤ n ∧ FmZ [0] [2] st w.2 ∧ auQ B F q = .inl s' ∧ s'.1 = true ∧ s'.2.1 = v ∧ s'.2.2.1 = i ∧ s'.2.2.2.1 = s.2.2.2.1 ∧ MFd w.2 s'.2.2.2.2)) 10 ?_ ?_ (by decide) ⟨rfl, p + 1, _, rfl, by omega, by omega, FmZ.sI FmZ.rfl' (by decide) _, e1, rfl, rfl, rfl, rfl, hM⟩
        · intro i w hi hw
          rcases turn i w (by omega) hw with ⟨-, w', e, hw'⟩ | ⟨y, e, hy⟩
          · exact Or.inl ⟨w', e, hw'⟩
          · exact Or.inr ⟨y, e, hy⟩
        · intro w hw
          rcases turn 10 w (by omega) hw with ⟨z, -⟩ | ⟨y, e, hy⟩
          · exact absurd z (by decide)
          · exact ⟨y, e, hy⟩
      obtain ⟨y, e, r, st', hy, hR⟩ := hm
      refine ⟨r, st', ?_, hR⟩
      rw [bnd_of e]
      rcases hy with rfl | ⟨rfl, rfl⟩
      · rfl
      · rfl
    · rw [if_neg q] at e1
      have ei : f_X7_in (B p - nI 48) (nI 0) (nI 7) = some (nI 0) := by
        refine in7_f (fun z => q ?_)
        obtain ⟨j, j1, j2, ej⟩ := rngQ (a := 0) (b := 7) (by decide) z (by decide)
        have ec : B p = nI (j + 48) := by rw [← nI_add]; exact Int32.sub_eq_iff_eq_add.mp ej
        rw [ec]
        exact ⟨nI_le (by omega) (by omega), nI_le (by omega) (by decide)⟩
      rw [bnd_of ei, if_pos rfl]
      exact ⟨_, _, rfl, p, FmZ.rfl', h2, hp, Or.inr ⟨rfl, Or.inl ⟨hpn, e1⟩⟩⟩
  · have eq : p = n := by omega
    subst eq
    rw [bnd_of (byteAt_n hn h1), bnd_of (x := nI 0) (in7_f (by decide)), if_pos rfl]
    exact ⟨_, _, rfl, p, FmZ.rfl', h2, hp, Or.inr ⟨rfl, Or.inr ⟨rfl, Or.inr rfl⟩⟩⟩
/-- all rows -/
theorem reads7_ok {B : Nat → Int32} {F : FF} (hF : FbOk F) {n : Nat} (hn : n ≤ 120) {m st0 : St} (h1 : m.2 1 = nI n) (h5 : ∀ i, i < n → m.1 5 i = B i) (hf : FmZ [0] [2] m st0) {p0 : Nat} (hp : p0 ≤ n) (h2 : st0.2 2 = nI p0) (hb : p0 < n → B p0 ≠ nI 32) (hs : auQ B F p0 = .inl (false, 0, 0, 0, F)) (hM : MFd st0 F) :
    ∃ y, loopN f_X7_reads_L17 4096 (nI 0, nI 1, st0) = some y ∧ FmZ [0] [2] m y.2.2 ∧ ((y.2.1 = nI 1 ∧ ∃ s, OkAt B F n s ∧ y.1 = nI s.2.2.2.1 ∧ MFd y.2.2 s.2.2.2.2) ∨ (y.2.1 = nI 0 ∧ ∃ p, p ≤ n ∧ FtAt B F n p ∧ y.2.2.2 2 = nI p)) := by
  refine loop_inv (Inv := fun i v => FmZ [0] [2] m v.2.2 ∧ ((v.2.1 = nI 1 ∧ ∃ p s, v.2.2.2 2 = nI p ∧ i ≤ p ∧ p ≤ n ∧ (p < n → B p ≠ nI 32) ∧ auQ B F p = .inl s ∧ s.1 = false ∧ v.1 = nI s.2.2.2.1 ∧ MFd v.2.2 s.2.2.2.2) ∨ (v.2.1 = nI 0 ∧ ∃ p, p ≤ n ∧ FtAt B F n p ∧ v.2.2.2 2 = nI p))) (n + 1) ?_ ?_ (by omega) ⟨hf, Or.inl ⟨rfl, p0, _, h2, Nat.zero_le _, hp, hb, hs, rfl, rfl, hM⟩⟩
  · rintro i ⟨b0, b1, st⟩ hi ⟨c0, hA | hB⟩
    · obtain ⟨c1, p, s, c2, c3, c4, c5, c6, c7, c8, c9⟩ := hA
      dsimp only at c0 c1 c2 c8 c9
      subst c1 c8
      obtain ⟨o1, o2, o3, o4⟩ := au_ok hF p s c6
      have w1 : st.2 1 = nI n := by rw [c0.2 1 (by decide)]; exact h1
      have w5 : ∀ i, i < n → st.1 5 i = B i := by rw [c0.1 5 (by decide)]; exact h5
      have go : (p = n → s.2.2.2.1 = 0) → ∃ v', f_X7_reads_J36 (nI s.2.2.2.1) st = some (.inr v') ∧ FmZ [0] [2] m v'.2.2 ∧ ((v'.2.1 = nI 1 ∧ ∃ p s, v'.2.2.2 2 = nI p ∧ i + 1 ≤ p ∧ p ≤ n ∧ (p < n → B p ≠ nI 32) ∧ auQ B F p = .inl s ∧ s.1 = false ∧ v'.1 = nI s.2.2.2.1 ∧ MFd v'.2.2 s.2.2.2.2) ∨ (v'.2.1 = nI 0 ∧ ∃ p, p ≤ n ∧ FtAt B F n p ∧ v'.2.2.2 2 = nI p)) := by
        intro hz
        obtain ⟨r, st', e, p', f1, d2, d3, d4⟩ := isRow_ok hF hn w1 w5 c4 c2 c5 c6 c7 c9
        have x1 : st'.2 1 = nI n := by rw [f1.2 1 (by decide)]; exact w1
        have x5 : ∀ i, i < n → st'.1 5 i = B i := by rw [f1.1 5 (by decide)]; exact w5
        obtain ⟨q', es, q1, q2, q3, q4⟩ := skips_ok hn x1 x5 d3 d2
        refine ⟨(nI (s.2.2.2.1 + 1), r, sI st' 2 (nI q')), by rw [e_X7_reads_J36, bnd_of e, bnd_of es, nI_add], FmZ.sI (c0.trans f1) (by decide) _, ?_⟩
        rcases d4 with ⟨rfl, k1, s', k2, k3, k4, k5⟩ | ⟨rfl, d4⟩
        · left
          exact ⟨rfl, q', s', rfl, by omega, q2, q4, au_skip k2 q1 q3, k3, by rw [k4], k5⟩
        · right
          refine ⟨rfl, p', d3, ?_, ?_⟩
          · rcases d4 with ⟨k1, k2⟩ | ⟨k1, k2 | k2⟩
            · exact ft_pos k1 k2
            · obtain ⟨s', k3, k4⟩ := k2
              exact Or.inr ⟨k1, s', k3, Or.inl k4⟩
            · exact Or.inr ⟨k1, s, by rw [← k2]; exact c6, Or.inr (hz k2)⟩
          · show nI q' = nI p'
            rcases Nat.lt_or_ge p' q' with y | y
            · exfalso
              have yb := q3 p' (Nat.le_refl _) y
              rcases d4 with ⟨k1, k2⟩ | ⟨k1, -⟩
              · cases ea : auQ B F p' with
                | inl s2 =>
                  have e2 := au_l ea
                  unfold auStep at e2
                  rw [if_pos yb, k2] at e2
                  cases e2
                | inr p2 =>
                  -- the fault would have been found ahead
                  have : ∀ k z, auQ B F k = .inr z → z < k := by
                    intro k
                    induction k with
                    | zero => intro z h; cases h
                    | succ k ih =>
                      intro z h
                      cases ek : auQ B F k with
                      | inl s3 =>
                        rw [au_l ek] at h
                        unfold auStep at h
                        repeat' split at h
                        all_goals first | (cases h; done) | (have h := Sum.inr.inj h; omega)
                      | inr z2 =>
                        rw [au_r ek] at h
                        have h := Sum.inr.inj h
                        have := ih z2 ek
                        omega
                  have h3 := this p' p2 ea
                  rw [au_r ea] at k2
                  have := Sum.inr.inj k2
                  omega
              · omega
            · rw [show q' = p' from by omega]
      rw [e_X7_reads_L17, if_neg (by decide), show gI st 2 = nI p from c2, show gI st 1 = nI n from w1]
      rcases Nat.lt_or_ge p n with hpn | hpn
      · left
        rw [if_pos (nI_lt hpn (by omega))]
        exact go (fun z => by omega)
      · rw [if_neg (nI_nlt hpn (by omega))]
        have ep : p = n := by omega
        by_cases z : s.2.2.2.1 = 0
        · left
          rw [if_pos (by rw [z])]
          exact go (fun _ => z)
        · right
          rw [if_neg (neq_f (b := 0) z (by omega) (by decide) rfl rfl)]
          exact ⟨_, rfl, c0, Or.inl ⟨rfl, s, ⟨by rw [← ep]; exact c6, c7, z⟩, rfl, c9⟩⟩
    · right
      obtain ⟨c1, p, c2, c3, c4⟩ := hB
      dsimp only at c0 c1 c4
      subst c1
      rw [e_X7_reads_L17, if_pos rfl]
      exact ⟨_, rfl, c0, Or.inr ⟨rfl, p, c2, c3, c4⟩⟩
  · rintro ⟨b0, b1, st⟩ ⟨c0, hA | hB⟩
    · obtain ⟨c1, p, s, c2, c3, c4, -⟩ := hA
      omega
    · obtain ⟨c1, p, c2, c3, c4⟩ := hB
      dsimp only at c0 c1 c4
      subst c1
      rw [e_X7_reads_L17, if_pos rfl]
      exact ⟨_, rfl, c0, Or.inr ⟨rfl, p, c2, c3, c4⟩⟩
theorem sim_reads : Sim0 TieZ f_X6_reads f_X7_reads := by
  intro σ μ h
  obtain ⟨F, Q, n, t, o, P, h1, h2, h3, h4, h5, h6, h7, h8, h9, h10⟩ := id h
  obtain ⟨ht, t1, t2, t3⟩ := id h9
  obtain ⟨hn, ho, hk, hk2, hol, hP1, hP2, hP3⟩ := id h10
  obtain ⟨r2, a1, a2⟩ := aside_ok μ
  have x1 : (sAA μ 2 r2).2 1 = nI t := t2
  have x5 : ∀ i, i < t → (sAA μ 2 r2).1 5 i = σ.1 16 i := fun i hi => (t3 i hi).symm
  obtain ⟨p0, es, z1, z2, z3, z4⟩ := skips_ok (st := sI (sAA μ 2 r2) 2 (nI 0)) (p := 0) ht x1 x5 (Nat.zero_le _) rfl
  have hM0 : MFd (sI (sI (sAA μ 2 r2) 2 (nI 0)) 2 (nI p0)) F := h6
  obtain ⟨⟨b0, b1, st⟩, el, fl, hl⟩ := reads7_ok (B := σ.1 16) (F := F) h1.1 ht x1 x5 (FmZ.sI (FmZ.sI FmZ.rfl' (by decide) _) (by decide) _) z2 rfl z4 (au_skip rfl z1 z3) hM0
  dsimp only at fl hl
  rw [e_X6_reads, e_X7_reads, bnd_of a1, bnd_of es, e_X7_reads_J17, bnd_of el]
  dsimp only
  rcases hl with ⟨rfl, s, hok, rfl, hMs⟩ | ⟨rfl, p, hp, hft, c2⟩
  · -- no fault
    have hfa : f_X4_fault σ = some (-nI 1) := by
      rcases fault_ok (σ := σ) (B := σ.1 16) h1.1 ht t1 (fun i _ => rfl) with ⟨p, -, y1, -⟩ | ⟨s', -, y2⟩
      · exact (ok_ft hok y1).elim
      · exact y2
    obtain ⟨r, e1, hr, hr2⟩ := note_ok h3 h1.1 hol ho hk hn
    obtain ⟨o1, o2, o3, o4⟩ := au_ok h1.1 t s hok.1
    obtain ⟨σ2, e2, f2, hC2⟩ := tell_ok (σ := sAA σ 15 r) (B := σ.1 16) (F := F) h1.1 h3 ht t1 (fun i _ => rfl) hok.1
    obtain ⟨rs, e3, hrs⟩ := settle_ok σ2 s.2.2.2.2 hC2 o4
    have hF' := settle_ff o4
    have hC3 : CF (sAA σ2 4 rs) (withFill s.2.2.2.2 (settle4 s.2.2.2.2)) := ⟨hC2.1, hC2.2.1, hC2.2.2.1, hC2.2.2.2.1, hrs⟩
    have hq2 : CQ σ2 Q := CQ.fm (σ := sAA σ 15 r) h4 f2 (by decide) (by decide) (by decide) (by decide) (by decide) (by decide)
    obtain ⟨σ3, e4, d1, d2, d3, d4, d5⟩ := measure_ok (sAA σ2 4 rs) _ Q hC3 hF'.1 hq2 h2
    have ci : σ3.2 = σ.2 := by rw [d5]; exact f2.intsQ
    have ek := keep_eq (σ := σ3) (o := o) (n := n) (by rw [ci]; exact hol) ho (by rw [ci]; exact hk) hn
    obtain ⟨r1, em, h1m⟩ := keeps_ok st n hn (by rw [fl.2 0 (by decide)]; exact hk2) P F (by rw [fl.1 1 (by decide)]; exact hP2) (fun k c hk5 hc => by
      rw [fl.1 2 (by decide)]
      show r2 (80 * k + c) = _
      rw [a2 _ (by omega)]
      exact h6.uni k c hk5 hc)
    obtain ⟨ry, ey, hy1, hy2⟩ := settles_ok (sI (sAA st 1 r1) 0 (nI (min (n + 1) 8))) s.2.2.2.2 hMs o4
    have hqs : MQs st Q := MQs.fm (μ := sAA μ 2 r2) h7 fl (by decide)
    refine ⟨nI s.2.2.2.1, _, sAA (sI (sAA st 1 r1) 0 (nI (min (n + 1) 8))) 0 ry, ?_, ?_, tie_push (F' := withFill s.2.2.2.2 (settle4 s.2.2.2.2)) h1 h2 h8 h9 h10 hr hr2 hF' d1 d2 d3 ?_ ?_ ci ek ⟨?_, ?_, ?_, ?_, fun c hc => hy1 c hc⟩ hqs (fl.1 4 (by decide)) (fl.1 5 (by decide)) (fl.2 1 (by decide)) rfl h1m⟩
    · rw [bnd_of hfa, if_pos rfl, bnd_of e1, bnd_of e2, bnd_of e3, bnd_of e4, bnd_of ek]
    · rw [e_X7_reads_J51, if_neg (by decide), bnd_of em, bnd_of ey]
    · rw [d4 15 (by decide)]; show σ2.1 15 = _; rw [f2.1 15 (by decide)]; exact sAA_self _ _ _
    · rw [d4 16 (by decide)]; show σ2.1 16 = _; rw [f2.1 16 (by decide)]; rfl
    · intro c hc; show ry c = _; rw [hy2 c (by omega)]; exact hMs.1 c hc
    · intro c hc; show ry (80 + c) = _; rw [hy2 _ (by omega)]; exact hMs.2.1 c hc
    · intro c hc; show ry (160 + c) = _; rw [hy2 _ (by omega)]; exact hMs.2.2.1 c hc
    · intro c hc; show ry (240 + c) = _; rw [hy2 _ (by omega)]; exact hMs.2.2.2.1 c hc
  · -- a fault
    have hfa : f_X4_fault σ = some (nI p) := by
      rcases fault_ok (σ := σ) (B := σ.1 16) h1.1 ht t1 (fun i _ => rfl) with ⟨p', -, y1, y2⟩ | ⟨s', y1, -⟩
      · rw [ft_uni hft y1]; exact y2
      · exact (ok_ft y1 hft).elim
    obtain ⟨rb, eb, hb⟩ := back_ok st
    refine ⟨-nI 10 - nI p, σ, sAA st 0 rb, ?_, ?_, F, Q, n, t, o, P, h1, h2, h3, h4, h5, ?_, ?_, ?_, ?_, ?_⟩
    · rw [bnd_of hfa, if_neg (m1_ne (by omega))]
    · rw [e_X7_reads_J51, if_pos rfl, bnd_of eb, show gI (sAA st 0 rb) 2 = nI p from c2]
    · refine MFd.ofU (fun k c hk5 hc => ?_)
      show rb (80 * k + c) = _
      rw [hb _ (by omega), fl.1 2 (by decide)]
      show r2 (80 * k + c) = _
      rw [a2 _ (by omega)]
      exact h6.uni k c hk5 hc
    · exact MQs.fm (μ := sAA μ 2 r2) (μ' := st) h7 fl (by decide)
    · unfold Cts at h8 ⊢
      show _ = st.1 4 0 ∧ _ = st.1 4 1 ∧ _ = st.1 4 2
      rw [fl.1 4 (by decide)]
      exact h8
    · unfold Txz at h9 ⊢
      show _ ∧ _ ∧ st.2 1 = _ ∧ ∀ i, i < t → _ = st.1 5 i
      rw [fl.2 1 (by decide), fl.1 5 (by decide)]
      exact h9
    · unfold Hst at h10 ⊢
      show _ ∧ _ ∧ _ ∧ st.2 0 = _ ∧ _ ∧ _ ∧ (∀ a k c, a < n → k < 5 → c < 80 → st.1 1 (400 * a + 80 * k + c) = _) ∧ _
      rw [fl.2 0 (by decide), fl.1 1 (by decide)]
      exact h10
