/-! ===== PURE 24: may, on the class's side; of ===== -/
theorem fam_tw {F : FF} {cell g : Nat} (h : F 3 cell = g) (hg : g ≠ 0) : ∀ c, c < 80 → famB F cell c = (F 3 c == g) := by
  intro c _
  unfold famB
  rw [h, decide_eq_true hg, Bool.true_and]
  by_cases q : c = cell
  · rw [q, h]; simp
  · rw [show (c == cell) = false from by simpa using q, Bool.false_or]
theorem fam_lone {F : FF} {cell : Nat} (h : F 3 cell = 0) : ∀ c, c < 80 → famB F cell c = (c == cell) := by
  intro c _
  unfold famB
  rw [h, decide_eq_false (by omega), Bool.false_and, Bool.or_false]
theorem gn_lone {F : FF} {cell n : Nat} (hc : cell < 80) : gnP F (fun c => c == cell) n = if bor F n cell then 1 else 0 := by
  unfold gnP
  refine Eq.trans (sumZ_congr fun c hc2 => ?_) (sumZ_one hc (if bor F n cell = true then 1 else 0))
  by_cases q : c = cell
  · rw [q]; simp
  · show (if (c == cell) = true then (if bor F n c = true then 1 else 0) else 0) = if c = cell then (if bor F n cell = true then 1 else 0) else 0
    rw [show (c == cell) = false from by simpa using q, bF, if_neg q]
theorem gn_tw {F : FF} {g n : Nat} : gnP F (fun c => F 3 c == g) n = twinsBor F g n := by
  unfold gnP twinsBor cntZ
  refine sumZ_congr fun c hc => ?_
  show (if (F 3 c == g) = true then (if bor F n c = true then 1 else 0) else 0) = if ((F 3 c == g) && bor F n c) = true then 1 else 0
  cases (F 3 c == g) <;> cases bor F n c <;> rfl
theorem sh_lone {Q : Nat → Nat} {cell a : Nat} (hc : cell < 80) : shWn Q (fun c => c == cell) a = if inW Q a cell then 1 else 0 := by
  unfold shWn wsum
  refine Eq.trans (sumZ_congr fun c hc2 => ?_) (sumZ_one hc (if inW Q a cell = true then 1 else 0))
  by_cases q : c = cell
  · rw [q]; simp
  · show (if inW Q a c = true then (if (c == cell) = true then 1 else 0) else 0) = if c = cell then (if inW Q a cell = true then 1 else 0) else 0
    rw [show (c == cell) = false from by simpa using q, bF, if_neg q]
    split <;> rfl
theorem sh_tw {Q : Nat → Nat} {F : FF} {g a : Nat} (hl : lies Q a = true) : sharesOf Q F g a = shWn Q (fun c => F 3 c == g) a := by
  unfold sharesOf shWn
  rw [hl, bT]
  exact cntZ_inW
theorem gain_lone {σ : St} {F : FF} {b : Nat → Nat} (h : CNz σ F b) {cell n : Nat} (hc : cell < 80) (h1 : 1 ≤ n) (h4 : n < 4) : f_X3_gain (nI cell) (nI 0) (nI n) σ = some (nI (gnP F (fun c => c == cell) n)) := by
  rw [e_X3_gain, if_pos rfl, gd_nI hc (by decide), rd_nI _ 11 (by omega), h.2.1 cell hc, bitsN_bit h1 h4, gn_lone hc]
theorem gain_tw {σ : St} {F : FF} {b : Nat → Nat} (h : CNz σ F b) (cell : Int32) {g n : Nat} (hg1 : 1 ≤ g) (hg : g < 4) (h1 : 1 ≤ n) (h4 : n < 4) : f_X3_gain cell (nI g) (nI n) σ = some (nI (gnP F (fun c => F 3 c == g) n)) := by
  rw [e_X3_gain, if_neg (neq_f (b := 0) (by omega) (by omega) (by decide) rfl rfl), pk_mul, nI_add, gd_nI (by omega) (by decide), rd_nI _ 12 (by omega), h.2.2 g n hg h1 h4, gn_tw]
theorem lim_le {Q : Nat → Nat} (hQ : QOk Q) : ∀ n, 1 ≤ n → n < 4 → Q (3 + n) ≤ 99 := by
  intro n h1 h4
  obtain ⟨-, -, -, -, -, -, a, b, c, -⟩ := hQ
  match n, h1, h4 with
  | 1, _, _ => exact a
  | 2, _, _ => exact b
  | 3, _, _ => exact c
  | 0, h1, _ => omega
  | n + 4, _, h4 => omega
theorem bear_ok {σ : St} {F : FF} {Q : Nat → Nat} (hF : ∀ c, c < 80 → F 0 c ≤ 9 ∧ F 1 c ≤ 1 ∧ F 2 c ≤ 3 ∧ F 3 c ≤ 3 ∧ F 4 c ≤ 9) (hQ : QOk Q) (hC : CQ σ Q) (hN : CNz σ F (burdenOf F)) {x y : Int32} {p : Nat → Bool} (hg : ∀ n, 1 ≤ n → n < 4 → f_X3_gain x y (nI n) σ = some (nI (gnP F p n))) : ∃ r, f_X3_bear x y σ = some r ∧ BitOf r (∀ n, 1 ≤ n → n < 4 → gnP F p n = 0 ∨ burdenOf F n + gnP F p n ≤ Q (3 + n)) := by
  have hm : ∃ z, loopN (f_X3_bear_L2 x y σ) 4096 (nI 1) = some z ∧ ((z = .inr () ∧ ∀ n, 1 ≤ n → n < 4 → gnP F p n = 0 ∨ burdenOf F n + gnP F p n ≤ Q (3 + n)) ∨ (z = .inl (nI 0) ∧ ¬ ∀ n, 1 ≤ n → n < 4 → gnP F p n = 0 ∨ burdenOf F n + gnP F p n ≤ Q (3 + n))) := by
    refine loop_inv (Inv := fun i v => v = nI (1 + i) ∧ ∀ n, 1 ≤ n → n < 1 + i → gnP F p n = 0 ∨ burdenOf F n + gnP F p n ≤ Q (3 + n)) 3 ?_ ?_ (by decide) ⟨rfl, fun n a b => by omega⟩
    · rintro i v hi ⟨rfl, h2⟩
      have bg : gnP F p (1 + i) ≤ 80 := gnP_le
      have bb := burden_le hF (1 + i)
      have bl := lim_le hQ (1 + i) (by omega) (by omega)
      have ext : (gnP F p (1 + i) = 0 ∨ burdenOf F (1 + i) + gnP F p (1 + i) ≤ Q (3 + (1 + i))) → ∀ n, 1 ≤ n → n < 1 + (i + 1) → gnP F p n = 0 ∨ burdenOf F n + gnP F p n ≤ Q (3 + n) := by
        intro b n c d
        by_cases q3 : n = 1 + i
        · subst q3; exact b
        · exact h2 n c (by omega)
      rw [e_X3_bear_L2, if_neg (nI_ge (by omega) (by decide)), bnd_of (hg (1 + i) (by omega) (by omega)), nI_add]
      by_cases z1 : gnP F p (1 + i) = 0
      · rw [if_pos (by rw [z1]; decide)]
        exact Or.inl ⟨_, rfl, rfl, ext (Or.inl z1)⟩
      · rw [if_neg (nI_ge (by omega) (by omega)), gd_nI (by omega) (by decide), gd_nI (by omega) (by decide), rd_nI _ 10 (by omega), rd_nI _ 9 (by omega), hN.1 (1 + i) (by omega) (by omega), hC.2.2.2.2.2 (1 + i) (by omega) (by omega), nI_add]
        by_cases z2 : burdenOf F (1 + i) + gnP F p (1 + i) ≤ Q (3 + (1 + i))
        · rw [if_pos (nI_le z2 (by omega))]
          exact Or.inl ⟨_, rfl, rfl, ext (Or.inr z2)⟩
        · rw [if_neg (nI_ge (by omega) (by omega))]
          refine Or.inr ⟨_, rfl, Or.inr ⟨rfl, fun z => ?_⟩⟩
          rcases z (1 + i) (by omega) (by omega) with y | y
          · exact z1 y
          · exact z2 y
    · rintro v ⟨rfl, h2⟩
      exact ⟨_, by rw [e_X3_bear_L2, if_pos (nI_le (by decide) (by decide))], Or.inl ⟨rfl, h2⟩⟩
  obtain ⟨z, e, h⟩ := hm
  rw [e_X3_bear, e_X3_bear_J2, bnd_of e]
  rcases h with ⟨rfl, h⟩ | ⟨rfl, h⟩
  · exact ⟨_, rfl, Or.inl ⟨rfl, h⟩⟩
  · exact ⟨_, rfl, Or.inr ⟨rfl, h⟩⟩
theorem roomN_lt {F : FF} {c : Nat} (h : F 0 c ≤ 9) : F 4 c < roomN F c ↔ F 1 c = 0 ∧ cellSum F c < 9 := by
  unfold roomN cellSum
  by_cases q : F 1 c = 0
  · rw [if_pos q]
    exact ⟨fun z => ⟨q, by omega⟩, fun z => by omega⟩
  · rw [if_neg q]
    exact ⟨fun z => by omega, fun z => absurd z.1 q⟩
theorem roomN_le {F : FF} {c : Nat} : roomN F c ≤ 9 := by
  unfold roomN
  split <;> omega
theorem fullOver_0 {Q s : Nat → Nat} {c : Nat} : fullOver Q s c = 0 ↔ ∀ a, a < 80 → lies Q a = true → inW Q a c = true → s a < Q 3 := by
  unfold fullOver
  constructor
  · intro h a ha la ia
    rcases Nat.lt_or_ge (s a) (Q 3) with q | q
    · exact q
    · have := cntZ_ltn (p := fun a => fullB Q s a && inW Q a c) ha (by show (fullB Q s a && inW Q a c) = true; unfold fullB; rw [la, ia, decide_eq_true q]; rfl)
      omega
  · intro h
    refine cntZ_0 fun a ha => ?_
    cases hp : (fullB Q s a && inW Q a c)
    · rfl
    · unfold fullB at hp
      rw [Bool.and_eq_true, Bool.and_eq_true] at hp
      have := h a ha hp.1.1 hp.2
      have := of_decide_eq_true hp.1.2
      omega
theorem loneMay_ok {σ : St} {F : FF} {Q : Nat → Nat} (hF : ∀ c, c < 80 → F 0 c ≤ 9 ∧ F 1 c ≤ 1 ∧ F 2 c ≤ 3 ∧ F 3 c ≤ 3 ∧ F 4 c ≤ 9) (hQ : QOk Q) (hC : CF σ F) (hq : CQ σ Q) (hD : CDz σ Q F) {cell : Nat} (hc : cell < 80) : ∃ r, f_X1_loneMay (nI cell) σ = some r ∧ BitOf r (MayG F Q (fun c => c == cell)) := by
  obtain ⟨rb, eb, hb⟩ := bear_ok (σ := σ) (x := nI cell) (y := nI 0) hF hQ hq hD.2.2 (fun n h1 h4 => gain_lone hD.2.2 hc h1 h4)
  have b0 := hF cell hc
  have br := roomN_le (F := F) (c := cell)
  have bo : fullOver Q (wsum Q (cellSum F)) cell ≤ 80 := cntZ_le
  rw [e_X1_loneMay, gd_nI hc (by decide), bnd_of (room_eq hC.1 hC.2.1 (fun c hc => ⟨(hF c hc).1, (hF c hc).2.1⟩) hc), rd_nI _ 4 (by omega), hC.2.2.2.2 cell hc]
  have hroom : (∀ c, c < 80 → (c == cell) = true → F 1 c = 0 ∧ cellSum F c < 9) ↔ F 4 cell < roomN F cell := by
    rw [roomN_lt b0.1]
    exact ⟨fun z => z cell hc (by simp), fun z c _ h => by rw [show c = cell from by simpa using h]; exact z⟩
  have hwin : (∀ a, a < 80 → lies Q a = true → shWn Q (fun c => c == cell) a = 0 ∨ wsum Q (cellSum F) a + shWn Q (fun c => c == cell) a ≤ Q 3) ↔ fullOver Q (wsum Q (cellSum F)) cell = 0 := by
    rw [fullOver_0]
    constructor
    · intro z a ha la ia
      have := z a ha la
      rw [sh_lone hc, ia, bT] at this
      omega
    · intro z a ha la
      rw [sh_lone hc]
      cases ia : inW Q a cell
      · left; rfl
      · have := z a ha la ia
        right; rw [bT]; omega
  by_cases z1 : F 4 cell < roomN F cell
  · rw [if_neg (nI_ge z1 (by omega)), gd_nI hc (by decide), rd_nI _ 7 (by omega), hD.1.2.2 cell hc]
    by_cases z2 : fullOver Q (wsum Q (cellSum F)) cell = 0
    · rw [if_pos (by rw [z2]), bnd_of eb]
      rcases hb with ⟨rfl, hb⟩ | ⟨rfl, hb⟩
      · exact ⟨_, if_neg (by decide), Or.inl ⟨rfl, hb, hroom.mpr z1, hwin.mpr z2⟩⟩
      · exact ⟨_, if_pos rfl, Or.inr ⟨rfl, fun z => hb z.1⟩⟩
    · rw [if_neg (neq_f (b := 0) z2 (by omega) (by decide) rfl rfl)]
      exact ⟨_, rfl, Or.inr ⟨rfl, fun z => z2 (hwin.mp z.2.2)⟩⟩
  · rw [if_pos (nI_le (by omega) (by omega))]
    exact ⟨_, rfl, Or.inr ⟨rfl, fun z => z1 (hroom.mp z.2.1)⟩⟩
theorem bearTwins_ok {σ : St} {F : FF} {Q : Nat → Nat} (hF : ∀ c, c < 80 → F 0 c ≤ 9 ∧ F 1 c ≤ 1 ∧ F 2 c ≤ 3 ∧ F 3 c ≤ 3 ∧ F 4 c ≤ 9) (hQ : QOk Q) (hq : CQ σ Q) (hD : CDz σ Q F) {g : Nat} (hg1 : 1 ≤ g) (hg : g < 4) : ∃ r, f_X5_bearTwins (nI g) σ = some r ∧ BitOf r (∀ a, a < 80 → lies Q a = true → shWn Q (fun c => F 3 c == g) a = 0 ∨ wsum Q (cellSum F) a + shWn Q (fun c => F 3 c == g) a ≤ Q 3) := by
  have g9 : gI σ 9 = nI (Q 3) := hq.2.2.2.2.1
  obtain ⟨-, -, -, -, -, q3, -⟩ := id hQ
  have hm : ∃ z, loopN (f_X5_bearTwins_L2 (nI g) σ) 4096 (nI 0) = some z ∧ ((z = .inr () ∧ ∀ a, a < 80 → lies Q a = true → shWn Q (fun c => F 3 c == g) a = 0 ∨ wsum Q (cellSum F) a + shWn Q (fun c => F 3 c == g) a ≤ Q 3) ∨ (z = .inl (nI 0) ∧ ¬ ∀ a, a < 80 → lies Q a = true → shWn Q (fun c => F 3 c == g) a = 0 ∨ wsum Q (cellSum F) a + shWn Q (fun c => F 3 c == g) a ≤ Q 3)) := by
    refine loop_inv (Inv := fun i v => v = nI i ∧ ∀ a, a < i → lies Q a = true → shWn Q (fun c => F 3 c == g) a = 0 ∨ wsum Q (cellSum F) a + shWn Q (fun c => F 3 c == g) a ≤ Q 3) 80 ?_ ?_ (by decide) ⟨rfl, fun n a b => by omega⟩
    · rintro i v hi ⟨rfl, h2⟩
      have bs := wsum_lt (Q := Q) hF i
      have bsh : shWn Q (fun c => F 3 c == g) i ≤ 80 := shWn_le
      have ext : (lies Q i = true → shWn Q (fun c => F 3 c == g) i = 0 ∨ wsum Q (cellSum F) i + shWn Q (fun c => F 3 c == g) i ≤ Q 3) → ∀ a, a < i + 1 → lies Q a = true → shWn Q (fun c => F 3 c == g) a = 0 ∨ wsum Q (cellSum F) a + shWn Q (fun c => F 3 c == g) a ≤ Q 3 := by
        intro x a ha la
        by_cases q3 : a = i
        · subst q3; exact x la
        · exact h2 a (by omega) la
      rw [e_X5_bearTwins_L2, if_neg (nI_ge hi (by decide)), pk_mul, nI_add, gd_nI (by omega) (by decide), rd_nI _ 8 (by omega), hD.2.1 g i hg1 hg hi, nI_add, g9, gd_nI hi (by decide), rd_nI _ 5 (by omega), hD.1.1 i hi]
      cases hl : lies Q i
      · rw [show sharesOf Q F g i = 0 from by unfold sharesOf; rw [hl, bF], if_pos (by decide)]
        exact Or.inl ⟨_, rfl, rfl, ext (fun z => absurd (hl.symm.trans z) (by decide))⟩
      · rw [sh_tw hl, sm_y hl]
        by_cases z1 : shWn Q (fun c => F 3 c == g) i = 0
        · rw [if_pos (by rw [z1]; decide)]
          exact Or.inl ⟨_, rfl, rfl, ext (fun _ => Or.inl z1)⟩
        · rw [if_neg (nI_ge (by omega) (by omega)), nI_add]
          by_cases z2 : wsum Q (cellSum F) i + shWn Q (fun c => F 3 c == g) i ≤ Q 3
          · rw [if_pos (nI_le z2 (by omega))]
            exact Or.inl ⟨_, rfl, rfl, ext (fun _ => Or.inr z2)⟩
          · rw [if_neg (nI_ge (by omega) (by omega))]
            refine Or.inr ⟨_, rfl, Or.inr ⟨rfl, fun z => ?_⟩⟩
            rcases z i hi hl with y | y
            · exact z1 y
            · exact z2 y
    · rintro v ⟨rfl, h2⟩
      exact ⟨_, by rw [e_X5_bearTwins_L2, if_pos (nI_le (by decide) (by decide))], Or.inl ⟨rfl, h2⟩⟩
  obtain ⟨z, e, h⟩ := hm
  rw [e_X5_bearTwins, e_X5_bearTwins_J2, bnd_of e]
  rcases h with ⟨rfl, h⟩ | ⟨rfl, h⟩
  · exact ⟨_, rfl, Or.inl ⟨rfl, h⟩⟩
  · exact ⟨_, rfl, Or.inr ⟨rfl, h⟩⟩
theorem twinsMay_ok {σ : St} {F : FF} {Q : Nat → Nat} (hF : ∀ c, c < 80 → F 0 c ≤ 9 ∧ F 1 c ≤ 1 ∧ F 2 c ≤ 3 ∧ F 3 c ≤ 3 ∧ F 4 c ≤ 9) (hQ : QOk Q) (hC : CF σ F) (hq : CQ σ Q) (hD : CDz σ Q F) {g : Nat} (hg1 : 1 ≤ g) (hg : g < 4) (one : Int32) : ∃ r, f_X1_twinsMay (nI g) one σ = some r ∧ BitOf r (MayG F Q (fun c => F 3 c == g)) := by
  obtain ⟨rb, eb, hb⟩ := bear_ok (σ := σ) (x := one) (y := nI g) hF hQ hq hD.2.2 (fun n h1 h4 => gain_tw hD.2.2 one hg1 hg h1 h4)
  obtain ⟨rw_, ew, hw⟩ := bearTwins_ok (σ := σ) hF hQ hq hD hg1 hg
  have hm : ∃ z, loopN (f_X1_twinsMay_L2 (nI g) one σ) 4096 (nI 0) = some z ∧ ((z = .inr () ∧ ∀ c, c < 80 → (F 3 c == g) = true → F 1 c = 0 ∧ cellSum F c < 9) ∨ (z = .inl (nI 0) ∧ ¬ ∀ c, c < 80 → (F 3 c == g) = true → F 1 c = 0 ∧ cellSum F c < 9)) := by
    refine loop_inv (Inv := fun i v => v = nI i ∧ ∀ c, c < i → (F 3 c == g) = true → F 1 c = 0 ∧ cellSum F c < 9) 80 ?_ ?_ (by decide) ⟨rfl, fun n a b => by omega⟩
    · rintro i v hi ⟨rfl, h2⟩
      have b0 := hF i hi
      have br := roomN_le (F := F) (c := i)
      have ext : ((F 3 i == g) = true → F 1 i = 0 ∧ cellSum F i < 9) → ∀ c, c < i + 1 → (F 3 c == g) = true → F 1 c = 0 ∧ cellSum F c < 9 := by
        intro x c hc hf
        by_cases q3 : c = i
        · subst q3; exact x hf
        · exact h2 c (by omega) hf
      rw [e_X1_twinsMay_L2, if_neg (nI_ge hi (by decide)), gd_nI hi (by decide), gd_nI hi (by decide), rd_nI _ 3 (by omega), rd_nI _ 4 (by omega), hC.2.2.2.1 i hi, hC.2.2.2.2 i hi, bnd_of (room_eq hC.1 hC.2.1 (fun c hc => ⟨(hF c hc).1, (hF c hc).2.1⟩) hi), nI_add]
      by_cases z0 : F 3 i = g
      · rw [if_pos (by rw [z0])]
        by_cases z1 : F 4 i < roomN F i
        · rw [if_pos (nI_lt z1 (by omega))]
          exact Or.inl ⟨_, rfl, rfl, ext (fun _ => (roomN_lt b0.1).mp z1)⟩
        · rw [if_neg (nI_nlt (by omega) (by omega))]
          exact Or.inr ⟨_, rfl, Or.inr ⟨rfl, fun z => z1 ((roomN_lt b0.1).mpr (z i hi (by simpa using z0)))⟩⟩
      · rw [if_neg (by rw [nI_eq (by omega) (by omega)]; exact z0)]
        exact Or.inl ⟨_, rfl, rfl, ext (fun z => absurd (by simpa using z) z0)⟩
    · rintro v ⟨rfl, h2⟩
      exact ⟨_, by rw [e_X1_twinsMay_L2, if_pos (nI_le (by decide) (by decide))], Or.inl ⟨rfl, h2⟩⟩
  obtain ⟨z, e, h⟩ := hm
  rw [e_X1_twinsMay, e_X1_twinsMay_J2, bnd_of e]
  rcases h with ⟨rfl, h⟩ | ⟨rfl, h⟩
  · show ∃ r, f_X1_twinsMay_J49 (nI g) one σ = some r ∧ _
    rw [e_X1_twinsMay_J49, bnd_of ew]
    rcases hw with ⟨rfl, hw⟩ | ⟨rfl, hw⟩
    · rw [if_neg (by decide), bnd_of eb]
      rcases hb with ⟨rfl, hb⟩ | ⟨rfl, hb⟩
      · exact ⟨_, if_neg (by decide), Or.inl ⟨rfl, hb, h, hw⟩⟩
      · exact ⟨_, if_pos rfl, Or.inr ⟨rfl, fun z => hb z.1⟩⟩
    · rw [if_pos rfl]
      exact ⟨_, rfl, Or.inr ⟨rfl, fun z => hw z.2.2⟩⟩
  · exact ⟨_, rfl, Or.inr ⟨rfl, fun z => h z.2.1⟩⟩
theorem may6_ok {σ : St} {F : FF} {Q : Nat → Nat} (hF : ∀ c, c < 80 → F 0 c ≤ 9 ∧ F 1 c ≤ 1 ∧ F 2 c ≤ 3 ∧ F 3 c ≤ 3 ∧ F 4 c ≤ 9) (hQ : QOk Q) (hC : CF σ F) (hq : CQ σ Q) (hD : CDz σ Q F) {cell : Nat} (hc : cell < 80) : ∃ r, f_X1_may (nI cell) σ = some r ∧ BitOf r (MayG F Q (famB F cell)) := by
  have b3 := (hF cell hc).2.2.2.1
  rw [e_X1_may, gd_nI hc (by decide), rd_nI _ 3 (by omega), hC.2.2.2.1 cell hc]
  by_cases q : F 3 cell = 0
  · obtain ⟨r, e, h⟩ := loneMay_ok hF hQ hC hq hD hc
    rw [if_pos (by rw [q]), bnd_of e, h.gb]
    exact ⟨r, rfl, h.iff ⟨fun z => z.congr (fun c hc => (fam_lone q c hc).symm), fun z => z.congr (fam_lone q)⟩⟩
  · obtain ⟨r, e, h⟩ := twinsMay_ok hF hQ hC hq hD (g := F 3 cell) (by omega) (by omega) (nI cell)
    rw [if_neg (neq_f (b := 0) q (by omega) (by decide) rfl rfl), bnd_of e, h.gb]
    exact ⟨r, rfl, h.iff ⟨fun z => z.congr (fun c hc => (fam_tw rfl q c hc).symm), fun z => z.congr (fam_tw rfl q)⟩⟩
theorem sim_of : Sim2 TieZ f_X6_of f_X7_of := by
  intro x y σ μ h
  obtain ⟨F, Q, n, t, o, P, h1, h2, h3, h4, h5, h6, h7, h8, h9, h10⟩ := id h
  have bad : ∃ r σ' μ', f_X6_of_J17 σ = some (r, σ') ∧ f_X7_of_J17 μ = some (r, μ') ∧ TieZ σ' μ' := by
    rw [e_X6_of_J17, e_X7_of_J17]
    exact ref_bnd h (-2) (by decide)
  rw [e_X6_of, e_X7_of]
  by_cases hx : (0 ≤ x ∧ x ≤ 79)
  · obtain ⟨c, hc, rfl⟩ := in_nI (b := 79) (by decide) hx
    have hc : c < 80 := by omega
    rw [bnd_of (isCell_t hc), bnd_of (isCell7_t hc), if_neg (by decide : ¬ nI 1 = nI 0), if_neg (by decide : ¬ nI 1 = nI 0)]
    by_cases hy : (0 ≤ y ∧ y ≤ nI 6)
    · obtain ⟨j, hj, rfl⟩ := in_nI (b := 6) (by decide) hy
      rw [bnd_of (isIn_nI hj (by decide)), bnd_of (in7_nI hj (by decide)), if_neg (by decide : ¬ nI 1 = nI 0), if_neg (by decide : ¬ nI 1 = nI 0)]
      by_cases hj5 : j < 5
      · rw [if_neg (neq_f (b := 5) (by omega) (by omega) (by decide) rfl rfl), if_neg (neq_f (b := 6) (by omega) (by omega) (by decide) rfl rfl), if_neg (nI_ge hj5 (by decide)), bnd_of (part_eq σ hj5), gq_ok (by omega), lnC_5 hj5, gd_nI hc (by decide), rd_nI _ j (by omega), h3.uni j c hj5 hc, pk_mul, nI_add, gd_nI (by omega) (by decide), rd_nI _ 0 (by omega), h6.uni j c hj5 hc]
        exact ⟨_, σ, μ, rfl, rfl, h⟩
      · obtain ⟨m1, em, hf, hL⟩ := lays_ok h6 h1.1 h7 h2
        have hT1 : TieZ σ m1 := h.scM (hf.mono (by decide) (by decide))
        rw [if_pos (nI_le (by omega) (by omega)), bnd_of em]
        by_cases j5 : j = 5
        · subst j5
          obtain ⟨r, er, hr⟩ := may6_ok h1.1 h2 h3 h4 h5 hc
          obtain ⟨r', m2, er', hf2, -, hr', -⟩ := may7_ok (h6.fm hf (by decide)) h1.1 (h7.fm hf (by decide)) h2 hL hc
          have hT2 : TieZ σ m2 := hT1.scM (hf2.mono (by decide) (by decide))
          rw [if_pos rfl, if_pos rfl, bnd_of er, bnd_of er', hr'.uni hr]
          dsimp only
          rcases hr with ⟨rfl, _⟩ | ⟨rfl, _⟩
          · exact ⟨_, σ, _, if_neg (by decide), if_neg (by decide), hT2⟩
          · exact ⟨_, σ, _, if_pos rfl, if_pos rfl, hT2⟩
        · have j6 : j = 6 := by omega
          subst j6
          rw [if_neg (by decide), if_pos rfl, if_neg (by decide), gd_nI hc (by decide), gd_nI hc (by decide), rd_nI _ 6 (by omega), rd_nI _ 7 (by omega), h5.1.2.1 c hc, hL.2.1 c hc]
          exact ⟨_, σ, _, rfl, rfl, hT1⟩
    · rw [bnd_of (isIn_n hy), bnd_of (in7_n hy), if_pos (rfl : nI 0 = nI 0), if_pos (rfl : nI 0 = nI 0)]
      exact bad
  · rw [bnd_of (isCell_f hx), bnd_of (isCell7_f hx), if_pos (rfl : nI 0 = nI 0), if_pos (rfl : nI 0 = nI 0)]
    exact bad
