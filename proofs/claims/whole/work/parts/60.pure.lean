/-! ===== PURE 22: what a call leaves as it was; thin windows, families, on the reference's side ===== -/
def FmZ (L LI : List Nat) (μ μ' : St) : Prop := (∀ k, k ∉ L → μ'.1 k = μ.1 k) ∧ ∀ k, k ∉ LI → μ'.2 k = μ.2 k
theorem FmZ.rfl' {L LI : List Nat} {μ : St} : FmZ L LI μ μ := ⟨fun _ _ => rfl, fun _ _ => rfl⟩
theorem FmZ.sAA {L LI : List Nat} {μ s : St} (h : FmZ L LI μ s) {k : Nat} (hk : k ∈ L) (g : Nat → Int32) : FmZ L LI μ (sAA s k g) := ⟨fun j hj => by rw [sAA_ne _ _ (fun z => hj (by rw [z]; exact hk))]; exact h.1 j hj, h.2⟩
theorem FmZ.sA {L LI : List Nat} {μ s : St} (h : FmZ L LI μ s) {k : Nat} (hk : k ∈ L) (i x : Int32) : FmZ L LI μ (sA s k i x) := FmZ.sAA h hk _
theorem FmZ.sI {L LI : List Nat} {μ s : St} (h : FmZ L LI μ s) {k : Nat} (hk : k ∈ LI) (x : Int32) : FmZ L LI μ (sI s k x) := ⟨h.1, fun j hj => by rw [sI_ne _ _ (fun z => hj (by rw [z]; exact hk))]; exact h.2 j hj⟩
theorem FmZ.trans {L LI : List Nat} {a b c : St} (h : FmZ L LI a b) (h2 : FmZ L LI b c) : FmZ L LI a c := ⟨fun k hk => (h2.1 k hk).trans (h.1 k hk), fun k hk => (h2.2 k hk).trans (h.2 k hk)⟩
theorem FmZ.mono {L LI L' LI' : List Nat} {a b : St} (h : FmZ L LI a b) (h1 : ∀ k, k ∈ L → k ∈ L') (h2 : ∀ k, k ∈ LI → k ∈ LI') : FmZ L' LI' a b := ⟨fun k hk => h.1 k (fun z => hk (h1 k z)), fun k hk => h.2 k (fun z => hk (h2 k z))⟩
theorem sA_at (s : St) (k : Nat) {i : Nat} (h : i < 2 ^ 31) (x : Int32) : (sA s k (nI i) x).1 k = upd (s.1 k) i x := by
  rw [sA_nI _ _ _ h, sAA_self]
theorem sA_no (s : St) {k j : Nat} (i x : Int32) (h : j ≠ k) : (sA s k i x).1 j = s.1 j := sAA_ne _ _ h
/-- the reference's scratch rows -/
abbrev ScM (μ μ' : St) : Prop := FmZ [6, 7, 8, 9, 10, 11, 12] [2, 3] μ μ'
abbrev ScC (σ σ' : St) : Prop := FmZ [13, 14, 18] [0, 1, 2] σ σ'
theorem MFd.fm {L LI : List Nat} {μ μ' : St} {F : FF} (h : MFd μ F) (hf : FmZ L LI μ μ') (h0 : 0 ∉ L) : MFd μ' F := by
  unfold MFd at h ⊢
  rw [hf.1 0 h0]
  exact h
theorem MQs.fm {L LI : List Nat} {μ μ' : St} {Q : Nat → Nat} (h : MQs μ Q) (hf : FmZ L LI μ μ') (h0 : 3 ∉ L) : MQs μ' Q := by
  unfold MQs at h ⊢
  rw [hf.1 3 h0]
  exact h
theorem TieZ.scM {σ μ μ' : St} (h : TieZ σ μ) (hf : ScM μ μ') : TieZ σ μ' := h.scratch (hf.1 0 (by decide)) (hf.1 1 (by decide)) (hf.1 3 (by decide)) (hf.1 4 (by decide)) (hf.1 5 (by decide)) (hf.2 0 (by decide)) (hf.2 1 (by decide))
/-! quotients and remainders -/
theorem dm_succ {W : Nat} (hW : 0 < W) (i : Nat) : (i % W + 1 < W ∧ (i + 1) / W = i / W ∧ (i + 1) % W = i % W + 1) ∨ (i % W + 1 = W ∧ (i + 1) / W = i / W + 1 ∧ (i + 1) % W = 0) := by
  have e := Nat.div_add_mod i W
  have l := Nat.mod_lt i hW
  have e1 : i + 1 = W * (i / W) + (i % W + 1) := by omega
  rcases Nat.lt_or_ge (i % W + 1) W with q | q
  · refine Or.inl ⟨q, ?_, ?_⟩
    · conv => lhs; rw [e1]
      rw [Nat.mul_add_div hW, Nat.div_eq_of_lt q, Nat.add_zero]
    · conv => lhs; rw [e1]
      rw [Nat.mul_add_mod, Nat.mod_eq_of_lt q]
  · have e2 : i % W + 1 = W := by omega
    refine Or.inr ⟨e2, ?_, ?_⟩
    · conv => lhs; rw [e1, e2]
      rw [Nat.mul_add_div hW, Nat.div_self hW]
    · conv => lhs; rw [e1, e2]
      rw [Nat.mul_add_mod, Nat.mod_self]
theorem sumZ_flat (f : Nat → Nat → Nat) {W : Nat} (hW : 0 < W) (H : Nat) : sumZ (fun k => f (k / W) (k % W)) (H * W) = sumZ (fun d => sumZ (f d) W) H := by
  induction H with
  | zero => rw [Nat.zero_mul]; rfl
  | succ H ih =>
    rw [Nat.succ_mul, sumZ_split, ih]
    show _ = sumZ (fun d => sumZ (f d) W) H + sumZ (f H) W
    congr 1
    refine sumZ_congr fun k hk => ?_
    rw [Nat.mul_comm H W, Nat.mul_add_div hW, Nat.mul_add_mod, Nat.div_eq_of_lt hk, Nat.mod_eq_of_lt hk, Nat.add_zero]
theorem div_ltZ {k H W : Nat} (hk : k < H * W) : k / W < H := Nat.div_lt_of_lt_mul (by rw [Nat.mul_comm]; exact hk)
/-! thin windows over each cell -/
theorem laysThin_ok {μ : St} {Q s : Nat → Nat} (h6 : ∀ a, a < 80 → μ.1 6 a = smOf Q s a) (hs : ∀ a, s a < 2 ^ 30) (hM : MQs μ Q) (hQ : QOk Q) : ∃ r, f_X7_laysThin μ = some (sAA μ 7 r) ∧ ∀ c, c < 80 → r c = nI (thinOver Q s c) := by
  obtain ⟨qa, qb, qc, qd, qe, -⟩ := hQ
  have g0 : ∀ r, rd (sAA μ 7 r) 3 (nI 0) = nI (Q 0) := fun r => by rw [rd_nI _ 3 (by decide), sAA_ne μ _ (by decide : (3 : Nat) ≠ 7)]; exact hM 0 (by decide)
  have g1 : ∀ r, rd (sAA μ 7 r) 3 (nI 1) = nI (Q 1) := fun r => by rw [rd_nI _ 3 (by decide), sAA_ne μ _ (by decide : (3 : Nat) ≠ 7)]; exact hM 1 (by decide)
  have hHW : 1 ≤ Q 0 * Q 1 := Nat.mul_pos qa qc
  have hHW2 : Q 0 * Q 1 ≤ 80 := Nat.mul_le_mul qb qd
  have th : ∀ r w, w < 80 → f_X7_isThin (nI w) (sAA μ 7 r) = some (if thinB Q s w then nI 1 else nI 0) := fun r w hw => isThin7_eq hw (h6 w hw) hM qe (hs w)
  have win : ∀ w, w < 80 → ∀ r : Nat → Int32, ∃ r', f_X7_laysThin_J31 (nI w) (nI 0) (sAA μ 7 r) = some (.inr (nI (w + 1), sAA μ 7 r')) ∧ ∀ c, c < 80 → r' c = if thinB Q s w && inW Q w c then r c + nI 1 else r c := by
    intro w hw r
    rw [e_X7_laysThin_J31]
    cases ht : thinB Q s w
    · have e : loopN (f_X7_laysThin_L31 (nI w)) 4096 (nI 0, sAA μ 7 r) = some (sAA μ 7 r) := by
        refine loop_l (n := 4095) ?_
        rw [e_X7_laysThin_L31, gd_nI (by decide) (by decide), gd_nI (by decide) (by decide), g0, g1, pk_mul, if_neg (nI_ge (by omega) (by omega)), bnd_of (th r w hw), ht, bF, if_pos rfl]
      exact ⟨r, by rw [bnd_of e, e_X7_laysThin_J93, nI_add], fun c hc => by rw [Bool.false_and, bF]⟩
    · have hl : lies Q w = true := by
        unfold thinB at ht
        rw [Bool.and_eq_true] at ht
        exact ht.1
      have hm : ∃ y, loopN (f_X7_laysThin_L31 (nI w)) 4096 (nI 0, sAA μ 7 r) = some y ∧ ∃ r', y = sAA μ 7 r' ∧ ∀ c, c < 80 → r' c = if inW Q w c then r c + nI 1 else r c := by
        refine loop_for (Inv := fun i v => ∃ r', v = (nI i, sAA μ 7 r') ∧ ∀ c, c < 80 → r' c = if inW Q w c = true ∧ (c / 10 - w / 10 < i / Q 1 ∨ (c / 10 - w / 10 = i / Q 1 ∧ c % 10 - w % 10 < i % Q 1)) then r c + nI 1 else r c) (Q 0 * Q 1) ?_ ?_ (by omega) ⟨r, rfl, fun c hc => by rw [if_neg]; rintro ⟨z1, z2⟩; rw [Nat.zero_div, Nat.zero_mod] at z2; omega⟩
        · rintro i v hi ⟨r', rfl, q⟩
          have hd : i / Q 1 < Q 0 := div_ltZ hi
          have hk : i % Q 1 < Q 1 := Nat.mod_lt _ qc
          obtain ⟨hlt, hin⟩ := cell_lt hw hl hd hk
          have e1 : (nI w + nI 10 * (nI i / nI (Q 1))) + jrem (nI i) (nI (Q 1)) = nI (w + 10 * (i / Q 1) + i % Q 1) := by
            rw [pk_div (by omega) qc (by omega), jrem_nI (by omega) qc (by omega), pk_mul, nI_add, nI_add]
          refine ⟨_, ?_, upd r' (w + 10 * (i / Q 1) + i % Q 1) (r' (w + 10 * (i / Q 1) + i % Q 1) + nI 1), rfl, ?_⟩
          · rw [e_X7_laysThin_L31, gd_nI (by decide) (by decide), gd_nI (by decide) (by decide), gd_nI (by decide) (by decide), gd_nI (by decide) (by decide), g0, g1, pk_mul, if_neg (nI_ge hi (by omega)), bnd_of (th r' w hw), ht, bT, if_neg (by decide), dz_ne (neq_f (b := 0) (by omega) (by omega) (by decide) rfl rfl), dz_ne (neq_f (b := 0) (by omega) (by omega) (by decide) rfl rfl), e1, gd_nI hlt (by decide), gd_nI hlt (by decide), rd_nI _ 7 (by omega), sA_nI _ _ _ (by omega), sAA_self, sAA_sAA, nI_add]
          · intro c hc
            unfold upd
            have lw := lies_iff.mp hl
            by_cases z : c = w + 10 * (i / Q 1) + i % Q 1
            · rw [if_pos z, ← z, q c hc, if_neg, if_pos]
              · refine ⟨by rw [z]; exact hin, ?_⟩
                have a1 : c / 10 - w / 10 = i / Q 1 := by omega
                have a2 : c % 10 - w % 10 = i % Q 1 := by omega
                rcases dm_succ qc i with ⟨_, b2, b3⟩ | ⟨_, b2, b3⟩
                · right; exact ⟨by omega, by omega⟩
                · left; omega
              · rintro ⟨z1, z2⟩
                have a1 : c / 10 - w / 10 = i / Q 1 := by omega
                have a2 : c % 10 - w % 10 = i % Q 1 := by omega
                omega
            · rw [if_neg z, q c hc]
              by_cases p : inW Q w c = true ∧ (c / 10 - w / 10 < i / Q 1 ∨ (c / 10 - w / 10 = i / Q 1 ∧ c % 10 - w % 10 < i % Q 1))
              · rw [if_pos p, if_pos]
                refine ⟨p.1, ?_⟩
                rcases dm_succ qc i with ⟨_, b2, b3⟩ | ⟨_, b2, b3⟩ <;> omega
              · rw [if_neg p, if_neg]
                rintro ⟨z1, z2⟩
                refine p ⟨z1, ?_⟩
                have iw := inW_iff.mp z1
                rcases dm_succ qc i with ⟨b1, b2, b3⟩ | ⟨b1, b2, b3⟩ <;> omega
        · rintro v ⟨r', rfl, q⟩
          refine ⟨_, ?_, r', rfl, fun c hc => ?_⟩
          · rw [e_X7_laysThin_L31, gd_nI (by decide) (by decide), gd_nI (by decide) (by decide), g0, g1, pk_mul, if_pos (nI_le (Nat.le_refl _) (by omega))]
          · rw [q c hc, Nat.mul_div_cancel _ qc, Nat.mul_mod_left]
            by_cases z : inW Q w c = true
            · rw [if_pos z, if_pos]
              have iw := inW_iff.mp z
              exact ⟨z, Or.inl (by omega)⟩
            · rw [if_neg z, if_neg (fun y => z y.1)]
      obtain ⟨y, e, r', rfl, q⟩ := hm
      exact ⟨r', by rw [bnd_of e, e_X7_laysThin_J93, nI_add], fun c hc => by rw [Bool.true_and]; exact q c hc⟩
  obtain ⟨r0, e0, hz, -⟩ := loop_store (σ := μ) (k := 7) (off := 0) (N := 80) (new := fun _ => nI 0) (body := f_X7_laysThin_L2) (fuel := 4096) (by decide) (fun i q hi _ _ => by
    rw [e_X7_laysThin_L2, if_neg (nI_ge hi (by decide)), gd_nI hi (by decide), sA_nI _ _ _ (by omega), sAA_self, sAA_sAA, nI_add, Nat.zero_add]) (fun q => by
    rw [e_X7_laysThin_L2, if_pos (nI_le (Nat.le_refl 80) (by decide))])
  have hm : ∃ y, loopN f_X7_laysThin_L23 4096 (nI 0, sAA μ 7 r0) = some y ∧ ∃ r, y = sAA μ 7 r ∧ ∀ c, c < 80 → r c = nI (thinOver Q s c) := by
    refine loop_for (Inv := fun i v => ∃ r, v = (nI i, sAA μ 7 r) ∧ ∀ c, c < 80 → r c = nI (cntZ (fun a => thinB Q s a && inW Q a c) i)) 80 ?_ ?_ (by decide) ⟨r0, rfl, fun c hc => by have := hz c hc; rw [Nat.zero_add] at this; exact this⟩
    · rintro i v hi ⟨r, rfl, q⟩
      obtain ⟨r', e, hr⟩ := win i hi r
      refine ⟨_, by rw [e_X7_laysThin_L23, if_neg (nI_ge hi (by decide)), e], r', rfl, fun c hc => ?_⟩
      rw [hr c hc, q c hc, cntZ_succ]
      cases (thinB Q s i && inW Q i c)
      · rfl
      · rw [bT, bT, nI_add]
    · rintro v ⟨r, rfl, q⟩
      exact ⟨_, by rw [e_X7_laysThin_L23, if_pos (nI_le (Nat.le_refl 80) (by decide))], r, rfl, q⟩
  obtain ⟨y, e, r, rfl, h⟩ := hm
  exact ⟨r, by rw [e_X7_laysThin, e_X7_laysThin_J2, bnd_of e0, e_X7_laysThin_J21, e_X7_laysThin_J23, bnd_of e], h⟩
/-! families -/
def famB (F : FF) (cell c : Nat) : Bool := (c == cell) || (decide (F 3 cell ≠ 0) && (F 3 c == F 3 cell))
/-- the members of a row of marks, in order -/
def mbS (p : Nat → Bool) : Nat → Nat → Nat
  | 0 => fun _ => 0
  | n + 1 => if p n then (fun k => if k = cntZ p n then n else mbS p n k) else mbS p n
theorem mbS_t {p : Nat → Bool} {n : Nat} (h : p n = true) (k : Nat) : mbS p (n + 1) k = if k = cntZ p n then n else mbS p n k := by
  show (if p n then (fun k => if k = cntZ p n then n else mbS p n k) else mbS p n) k = _
  rw [h, bT]
theorem mbS_f {p : Nat → Bool} {n : Nat} (h : p n = false) (k : Nat) : mbS p (n + 1) k = mbS p n k := by
  show (if p n then (fun k => if k = cntZ p n then n else mbS p n k) else mbS p n) k = _
  rw [h, bF]
theorem mbS_in {p : Nat → Bool} : ∀ n k, k < cntZ p n → p (mbS p n k) = true ∧ mbS p n k < n
  | 0, k, h => absurd h (Nat.not_lt_zero _)
  | n + 1, k, h => by
    rw [cntZ_succ] at h
    cases hp : p n
    · rw [hp, bF] at h
      rw [mbS_f hp]
      have := mbS_in n k h
      exact ⟨this.1, by omega⟩
    · rw [hp, bT] at h
      rw [mbS_t hp]
      by_cases q : k = cntZ p n
      · rw [if_pos q]; exact ⟨hp, by omega⟩
      · rw [if_neg q]
        have := mbS_in (p := p) n k (by omega)
        exact ⟨this.1, by omega⟩
theorem mbS_sum {p : Nat → Bool} (g : Nat → Nat) : ∀ n, sumZ (fun k => g (mbS p n k)) (cntZ p n) = sumZ (fun c => if p c then g c else 0) n
  | 0 => rfl
  | n + 1 => by
    show _ = sumZ (fun c => if p c then g c else 0) n + (if p n then g n else 0)
    rw [cntZ_succ, ← mbS_sum g n]
    cases hp : p n
    · rw [bF, bF, Nat.add_zero, Nat.add_zero]
      exact sumZ_congr fun k _ => by rw [mbS_f hp]
    · rw [bT, bT]
      show sumZ (fun k => g (mbS p (n + 1) k)) (cntZ p n) + g (mbS p (n + 1) (cntZ p n)) = _
      rw [mbS_t hp, if_pos rfl]
      congr 1
      exact sumZ_congr fun k hk => by rw [mbS_t hp, if_neg (by omega)]
theorem mbS_on {p : Nat → Bool} : ∀ n c, c < n → p c = true → ∃ k, k < cntZ p n ∧ mbS p n k = c
  | 0, c, h, _ => absurd h (Nat.not_lt_zero _)
  | n + 1, c, h, hc => by
    rw [cntZ_succ]
    by_cases q : c = n
    · subst q
      exact ⟨cntZ p c, by rw [hc, bT]; omega, by rw [mbS_t hc, if_pos rfl]⟩
    · obtain ⟨k, h1, h2⟩ := mbS_on n c (by omega) hc
      refine ⟨k, by omega, ?_⟩
      cases hp : p n
      · rw [mbS_f hp]; exact h2
      · rw [mbS_t hp, if_neg (by omega)]; exact h2
/-- a family is marked -/
def MkOk (μ : St) (F : FF) (cell : Nat) : Prop := (∀ c, c < 80 → μ.1 8 c = nI (if famB F cell c then 1 else 0)) ∧ μ.2 3 = nI (cntZ (famB F cell) 80) ∧ ∀ k, k < cntZ (famB F cell) 80 → μ.1 9 k = nI (mbS (famB F cell) 80 k)
theorem marks_ok {μ : St} {F : FF} (h3 : ∀ c, c < 80 → μ.1 0 (240 + c) = nI (F 3 c)) (hF : ∀ c, c < 80 → F 3 c ≤ 3) {cell : Nat} (hc : cell < 80) : ∃ μ', f_X7_marks (nI cell) μ = some μ' ∧ FmZ [8, 9] [3] μ μ' ∧ MkOk μ' F cell := by
  have bt := hF cell hc
  rw [e_X7_marks, nI_add, gd_nI (by omega) (by decide), rd_nI _ 0 (by omega), h3 cell hc, e_X7_marks_J18]
  have hm : ∃ y, loopN (f_X7_marks_L18 (nI cell) (nI (F 3 cell))) 4096 (nI 0, sI μ 3 (nI 0)) = some y ∧ FmZ [8, 9] [3] μ y ∧ MkOk y F cell := by
    refine loop_for (Inv := fun i v => v.1 = nI i ∧ FmZ [8, 9] [3] μ v.2 ∧ (∀ c, c < i → v.2.1 8 c = nI (if famB F cell c then 1 else 0)) ∧ v.2.2 3 = nI (cntZ (famB F cell) i) ∧ ∀ k, k < cntZ (famB F cell) i → v.2.1 9 k = nI (mbS (famB F cell) i k)) 80 ?_ ?_ (by decide) ⟨rfl, FmZ.sI FmZ.rfl' (by decide) _, fun c hc => by omega, rfl, fun k hk => absurd hk (Nat.not_lt_zero _)⟩
    · rintro i ⟨a, s⟩ hi ⟨h1, h2, q1, q2, q3⟩
      dsimp only at h1 h2 q1 q2 q3
      subst h1
      have bi := hF i hi
      have cl : cntZ (famB F cell) i ≤ i := cntZ_le
      have rt : rd (sA s 8 (nI i) (nI 0)) 0 (nI (240 + i)) = nI (F 3 i) := by
        rw [rd_nI _ 0 (by omega), sA_no _ _ _ (by decide), h2.1 0 (by decide)]; exact h3 i hi
      have yes : famB F cell i = true → ∃ v', f_X7_marks_J54 (nI cell) (nI (F 3 cell)) (nI i) (sA s 8 (nI i) (nI 0)) = some (.inr v') ∧ v'.1 = nI (i + 1) ∧ FmZ [8, 9] [3] μ v'.2 ∧ (∀ c, c < i + 1 → v'.2.1 8 c = nI (if famB F cell c then 1 else 0)) ∧ v'.2.2 3 = nI (cntZ (famB F cell) (i + 1)) ∧ ∀ k, k < cntZ (famB F cell) (i + 1) → v'.2.1 9 k = nI (mbS (famB F cell) (i + 1) k) := by
        intro hf
        have z3 : gI (sA (sA s 8 (nI i) (nI 0)) 8 (nI i) (nI 1)) 3 = nI (cntZ (famB F cell) i) := q2
        have z4 : gI (sA (sA (sA s 8 (nI i) (nI 0)) 8 (nI i) (nI 1)) 9 (nI (cntZ (famB F cell) i)) (nI i)) 3 = nI (cntZ (famB F cell) i) := q2
        refine ⟨(nI (i + 1), sI (sA (sA (sA s 8 (nI i) (nI 0)) 8 (nI i) (nI 1)) 9 (nI (cntZ (famB F cell) i)) (nI i)) 3 (nI (cntZ (famB F cell) i + 1))), ?_, rfl, ?_, ?_, ?_, ?_⟩
        · rw [e_X7_marks_J54, gd_nI hi (by decide), z3, gd_nI (by omega) (by decide), z4, nI_add, nI_add]
        · exact FmZ.sI (FmZ.sA (FmZ.sA (FmZ.sA h2 (by decide) _ _) (by decide) _ _) (by decide) _ _) (by decide) _
        · intro c hc1
          show (sA (sA (sA s 8 (nI i) (nI 0)) 8 (nI i) (nI 1)) 9 (nI (cntZ (famB F cell) i)) (nI i)).1 8 c = _
          rw [sA_no _ _ _ (by decide), sA_at _ _ (by omega), sA_at _ _ (by omega), upd_upd]
          unfold upd
          by_cases q : c = i
          · rw [if_pos q, q, hf, bT]
          · rw [if_neg q]; exact q1 c (by omega)
        · show (sI _ 3 (nI (cntZ (famB F cell) i + 1))).2 3 = _
          rw [sI_self, cntZ_succ, hf, bT]
        · intro k hk
          show (sA (sA (sA s 8 (nI i) (nI 0)) 8 (nI i) (nI 1)) 9 (nI (cntZ (famB F cell) i)) (nI i)).1 9 k = _
          rw [cntZ_succ, hf, bT] at hk
          rw [sA_at _ _ (by omega), sA_no _ _ _ (by decide), sA_no _ _ _ (by decide), mbS_t hf]
          unfold upd
          by_cases q : k = cntZ (famB F cell) i
          · rw [if_pos q, if_pos q]
          · rw [if_neg q, if_neg q]; exact q3 k (by omega)
      have no : famB F cell i = false → (nI (i + 1), sA s 8 (nI i) (nI 0)).1 = nI (i + 1) ∧ FmZ [8, 9] [3] μ (sA s 8 (nI i) (nI 0)) ∧ (∀ c, c < i + 1 → (sA s 8 (nI i) (nI 0)).1 8 c = nI (if famB F cell c then 1 else 0)) ∧ (sA s 8 (nI i) (nI 0)).2 3 = nI (cntZ (famB F cell) (i + 1)) ∧ ∀ k, k < cntZ (famB F cell) (i + 1) → (sA s 8 (nI i) (nI 0)).1 9 k = nI (mbS (famB F cell) (i + 1) k) := by
        intro hf
        refine ⟨rfl, FmZ.sA h2 (by decide) _ _, ?_, ?_, ?_⟩
        · intro c hc1
          rw [sA_at _ _ (by omega)]
          unfold upd
          by_cases q : c = i
          · rw [if_pos q, q, hf, bF]
          · rw [if_neg q]; exact q1 c (by omega)
        · rw [cntZ_succ, hf, bF]; exact q2
        · intro k hk
          rw [cntZ_succ, hf, bF] at hk
          rw [sA_no _ _ _ (by decide), mbS_f hf]
          exact q3 k hk
      rw [e_X7_marks_L18, if_neg (nI_ge hi (by decide)), gd_nI hi (by decide), nI_add, nI_add, gd_nI (by omega) (by decide), rt]
      by_cases c1 : i = cell
      · rw [if_pos (by rw [c1])]
        exact yes (by unfold famB; rw [c1]; simp)
      · rw [if_neg (by rw [nI_eq (by omega) (by omega)]; exact c1)]
        have e1 : famB F cell i = (decide (F 3 cell ≠ 0) && (F 3 i == F 3 cell)) := by
          unfold famB
          rw [show (i == cell) = false from by simpa using c1, Bool.false_or]
        by_cases c2 : F 3 cell = 0
        · rw [if_pos (by rw [c2]; decide)]
          exact ⟨_, rfl, no (by rw [e1, c2]; rfl)⟩
        · rw [if_neg (nI_ge (by omega) (by omega))]
          by_cases c3 : F 3 i = F 3 cell
          · rw [if_pos (by rw [c3])]
            exact yes (by rw [e1, decide_eq_true c2, c3]; simp)
          · rw [if_neg (by rw [nI_eq (by omega) (by omega)]; exact c3)]
            exact ⟨_, rfl, no (by rw [e1, show (F 3 i == F 3 cell) = false from by simpa using c3, Bool.and_false])⟩
    · rintro ⟨a, s⟩ ⟨h1, h2, q1, q2, q3⟩
      dsimp only at h1 h2 q1 q2 q3
      subst h1
      exact ⟨s, by rw [e_X7_marks_L18, if_pos (nI_le (Nat.le_refl 80) (by decide))], h2, q1, q2, q3⟩
  obtain ⟨y, e, h⟩ := hm
  exact ⟨y, by rw [bnd_of e], h⟩
/-- how many of a family a window has -/
def shareN (Q : Nat → Nat) (F : FF) (cell a : Nat) : Nat := wsum Q (fun c => if famB F cell c then 1 else 0) a
theorem shareN_le {Q : Nat → Nat} {F : FF} {cell a : Nat} (hl : lies Q a = true) : shareN Q F cell a ≤ Q 0 * Q 1 := by
  unfold shareN
  rw [wsum_eq hl, Nat.mul_comm]
  refine sumZ_le fun d hd => ?_
  have := sumZ_le (f := fun k => if famB F cell (a + 10 * d + k) = true then 1 else 0) (b := 1) (n := Q 1) (fun k hk => by show (if famB F cell (a + 10 * d + k) = true then 1 else 0) ≤ 1; split <;> omega)
  omega
theorem manyIn_eq {μ : St} {F : FF} {Q : Nat → Nat} (hM : MQs μ Q) (hQ : QOk Q) {cell a : Nat} (h8 : ∀ c, c < 80 → μ.1 8 c = nI (if famB F cell c then 1 else 0)) (ha : a < 80) (hl : lies Q a = true) : f_X7_manyIn (nI a) μ = some (nI (shareN Q F cell a)) := by
  obtain ⟨qa, qb, qc, qd, qe, -⟩ := hQ
  have g0 : rd μ 3 (nI 0) = nI (Q 0) := by rw [rd_nI _ 3 (by decide)]; exact hM 0 (by decide)
  have g1 : rd μ 3 (nI 1) = nI (Q 1) := by rw [rd_nI _ 3 (by decide)]; exact hM 1 (by decide)
  have hHW2 : Q 0 * Q 1 ≤ 80 := Nat.mul_le_mul qb qd
  have e : loopN (f_X7_manyIn_L4 (nI a) μ) 4096 (nI 0, nI 0) = some (nI (shareN Q F cell a)) := by
    refine loopN_run (tr := fun i => (nI (sumZ (fun k => if famB F cell (a + 10 * (k / Q 1) + k % Q 1) then 1 else 0) i), nI i)) (Q 0 * Q 1) _ ?_ ?_ (by omega)
    · intro i hi
      have hd : i / Q 1 < Q 0 := div_ltZ hi
      have hk : i % Q 1 < Q 1 := Nat.mod_lt _ qc
      obtain ⟨hlt, hin⟩ := cell_lt ha hl hd hk
      have e1 : (nI a + nI 10 * (nI i / nI (Q 1))) + jrem (nI i) (nI (Q 1)) = nI (a + 10 * (i / Q 1) + i % Q 1) := by
        rw [pk_div (by omega) qc (by omega), jrem_nI (by omega) qc (by omega), pk_mul, nI_add, nI_add]
      rw [e_X7_manyIn_L4, gd_nI (by decide) (by decide), gd_nI (by decide) (by decide), gd_nI (by decide) (by decide), gd_nI (by decide) (by decide), g0, g1, pk_mul, if_neg (nI_ge hi (by omega)), dz_ne (neq_f (b := 0) (by omega) (by omega) (by decide) rfl rfl), dz_ne (neq_f (b := 0) (by omega) (by omega) (by decide) rfl rfl), e1, gd_nI hlt (by decide), rd_nI _ 8 (by omega), h8 _ hlt, nI_add, nI_add]
      rfl
    · rw [e_X7_manyIn_L4, gd_nI (by decide) (by decide), gd_nI (by decide) (by decide), g0, g1, pk_mul, if_pos (nI_le (Nat.le_refl _) (by omega))]
      unfold shareN
      rw [wsum_eq hl, ← sumZ_flat (fun d k => if famB F cell (a + 10 * d + k) = true then 1 else 0) qc (Q 0)]
  rw [e_X7_manyIn, e_X7_manyIn_J4, bnd_of e]
