/-! ===== PURE 23: may: whether one more may be put ===== -/
def BitOf (r : Int32) (p : Prop) : Prop := (r = nI 1 ∧ p) ∨ (r = nI 0 ∧ ¬ p)
theorem BitOf.uni {r r' : Int32} {p : Prop} (h : BitOf r p) (h' : BitOf r' p) : r = r' := by
  rcases h with ⟨a, b⟩ | ⟨a, b⟩ <;> rcases h' with ⟨c, d⟩ | ⟨c, d⟩
  · rw [a, c]
  · exact absurd b d
  · exact absurd d b
  · rw [a, c]
theorem BitOf.iff {r : Int32} {p q : Prop} (h : BitOf r p) (hq : p ↔ q) : BitOf r q := by
  rcases h with ⟨a, b⟩ | ⟨a, b⟩
  · exact Or.inl ⟨a, hq.mp b⟩
  · exact Or.inr ⟨a, fun z => b (hq.mpr z)⟩
theorem BitOf.gb {α : Type} {r : Int32} {p : Prop} (h : BitOf r p) (e : Option α) : gb r e = e := by
  rcases h with ⟨a, b⟩ | ⟨a, b⟩
  · rw [a]; exact gb_1
  · rw [a]; exact gb_0
def gnP (F : FF) (p : Nat → Bool) (n : Nat) : Nat := sumZ (fun c => if p c then (if bor F n c then 1 else 0) else 0) 80
def shWn (Q : Nat → Nat) (p : Nat → Bool) (a : Nat) : Nat := wsum Q (fun c => if p c then 1 else 0) a
def MayG (F : FF) (Q : Nat → Nat) (p : Nat → Bool) : Prop := (∀ n, 1 ≤ n → n < 4 → gnP F p n = 0 ∨ burdenOf F n + gnP F p n ≤ Q (3 + n)) ∧ (∀ c, c < 80 → p c = true → F 1 c = 0 ∧ cellSum F c < 9) ∧ ∀ a, a < 80 → lies Q a = true → shWn Q p a = 0 ∨ wsum Q (cellSum F) a + shWn Q p a ≤ Q 3
theorem gnP_congr {F : FF} {p q : Nat → Bool} (h : ∀ c, c < 80 → p c = q c) (n : Nat) : gnP F p n = gnP F q n := sumZ_congr fun c hc => by rw [h c hc]
theorem shWn_congr {Q : Nat → Nat} {p q : Nat → Bool} (h : ∀ c, c < 80 → p c = q c) (a : Nat) : shWn Q p a = shWn Q q a := by
  unfold shWn wsum
  exact sumZ_congr fun c hc => by dsimp only; rw [h c hc]
theorem MayG.congr {F : FF} {Q : Nat → Nat} {p q : Nat → Bool} (h : ∀ c, c < 80 → p c = q c) (hm : MayG F Q p) : MayG F Q q := by
  refine ⟨fun n h1 h2 => ?_, fun c hc z => hm.2.1 c hc (by rw [h c hc]; exact z), fun a ha la => ?_⟩
  · rw [← gnP_congr h n]; exact hm.1 n h1 h2
  · rw [← shWn_congr h a]; exact hm.2.2 a ha la
theorem gnP_le {F : FF} {p : Nat → Bool} {n : Nat} : gnP F p n ≤ 80 := by
  have := sumZ_le (f := fun c => if p c = true then (if bor F n c then 1 else 0) else 0) (b := 1) (n := 80) (fun i _ => by
    show (if p i = true then (if bor F n i = true then 1 else 0) else 0) ≤ 1
    split
    · split <;> omega
    · omega)
  unfold gnP
  omega
theorem shWn_le {Q : Nat → Nat} {p : Nat → Bool} {a : Nat} : shWn Q p a ≤ 80 := by
  have := wsum_le (Q := Q) (g := fun c => if p c = true then 1 else 0) (b := 1) (a := a) (fun c _ => by show (if p c = true then 1 else 0) ≤ 1; split <;> omega)
  unfold shWn
  omega
theorem burden_le {F : FF} (hF : ∀ c, c < 80 → F 0 c ≤ 9 ∧ F 1 c ≤ 1 ∧ F 2 c ≤ 3 ∧ F 3 c ≤ 3 ∧ F 4 c ≤ 9) (n : Nat) : burdenOf F n ≤ 720 := by
  have := sumZ_le (f := fun c => if bor F n c then F 4 c else 0) (b := 9) (n := 80) (fun i hi => by
    have := (hF i hi).2.2.2.2
    show (if bor F n i = true then F 4 i else 0) ≤ 9
    split <;> omega)
  unfold burdenOf
  omega
/-- what the reference has laid of a field -/
def LdOk (μ : St) (F : FF) (Q : Nat → Nat) : Prop := (∀ a, a < 80 → μ.1 6 a = smOf Q (wsum Q (cellSum F)) a) ∧ (∀ c, c < 80 → μ.1 7 c = nI (thinOver Q (wsum Q (cellSum F)) c)) ∧ ∀ n, 1 ≤ n → n < 4 → μ.1 10 n = nI (burdenOf F n)
theorem lays_ok {μ : St} {F : FF} {Q : Nat → Nat} (hM : MFd μ F) (hF : ∀ c, c < 80 → F 0 c ≤ 9 ∧ F 1 c ≤ 1 ∧ F 2 c ≤ 3 ∧ F 3 c ≤ 3 ∧ F 4 c ≤ 9) (h : MQs μ Q) (hQ : QOk Q) : ∃ μ', f_X7_lays μ = some μ' ∧ FmZ [6, 7, 10] [] μ μ' ∧ LdOk μ' F Q := by
  obtain ⟨r, e1, hr⟩ := laysSums_ok hM hF h hQ
  have hs : ∀ a, wsum Q (cellSum F) a < 2 ^ 30 := fun a => wsum_l30 hF a
  obtain ⟨r2, e2, hr2⟩ := laysThin_ok (μ := sAA μ 6 r) (Q := Q) (s := wsum Q (cellSum F)) (fun a ha => by rw [sAA_self]; exact hr a ha) hs h hQ
  obtain ⟨r3, e3, hr3⟩ := laysBurdens_ok (μ := sAA (sAA μ 6 r) 7 r2) (F := F) hM hF
  refine ⟨_, by rw [e_X7_lays, bnd_of e1, bnd_of e2, bnd_of e3], FmZ.sAA (FmZ.sAA (FmZ.sAA FmZ.rfl' (by decide) _) (by decide) _) (by decide) _, ?_, ?_, ?_⟩
  · exact hr
  · exact hr2
  · exact hr3
theorem LdOk.fm {L LI : List Nat} {μ μ' : St} {F : FF} {Q : Nat → Nat} (h : LdOk μ F Q) (hf : FmZ L LI μ μ') (h6 : 6 ∉ L) (h7 : 7 ∉ L) (h10 : 10 ∉ L) : LdOk μ' F Q := by
  unfold LdOk at h ⊢
  rw [hf.1 6 h6, hf.1 7 h7, hf.1 10 h10]
  exact h
theorem may7_ok {μ : St} {F : FF} {Q : Nat → Nat} (hM : MFd μ F) (hF : ∀ c, c < 80 → F 0 c ≤ 9 ∧ F 1 c ≤ 1 ∧ F 2 c ≤ 3 ∧ F 3 c ≤ 3 ∧ F 4 c ≤ 9) (h : MQs μ Q) (hQ : QOk Q) (hL : LdOk μ F Q) {cell : Nat} (hc : cell < 80) :
    ∃ r μ', f_X7_may (nI cell) μ = some (r, μ') ∧ FmZ [8, 9, 11] [3] μ μ' ∧ MkOk μ' F cell ∧ BitOf r (MayG F Q (famB F cell)) ∧ ∀ n, 1 ≤ n → n < 4 → μ'.1 11 n = nI (gnP F (famB F cell) n) := by
  obtain ⟨m1, e1, hf1, hk⟩ := marks_ok hM.2.2.2.1 (fun c hc => (hF c hc).2.2.2.1) hc
  have hM1 : MFd m1 F := hM.fm hf1 (by decide)
  have hQ1 : MQs m1 Q := h.fm hf1 (by decide)
  have hL1 : LdOk m1 F Q := hL.fm hf1 (by decide) (by decide) (by decide)
  obtain ⟨qa, qb, qc, qd, qe, qf, -⟩ := id hQ
  have hF2 : ∀ c, c < 80 → F 2 c ≤ 3 := fun c hc => (hF c hc).2.2.1
  have hs : ∀ a, wsum Q (cellSum F) a ≤ 1440 := fun a => wsum_lt hF a
  have hsz : cntZ (famB F cell) 80 ≤ 80 := cntZ_le
  have hmb := mbS_in (p := famB F cell) 80
  have hlim : ∀ n, 1 ≤ n → n < 4 → Q (3 + n) ≤ 99 := by
    intro n h1 h4
    obtain ⟨-, -, -, -, -, -, a, b, c, -⟩ := hQ
    match n, h1, h4 with
    | 1, _, _ => exact a
    | 2, _, _ => exact b
    | 3, _, _ => exact c
    | 0, h1, _ => omega
    | n + 4, _, h4 => omega
  -- how much more a net bears
  have row : ∀ n (x2 : Int32) (r0 : Nat → Int32), 1 ≤ n → n < 4 → f_X7_may_J24 x2 (nI n) (nI 0) (sAA m1 11 (upd r0 n (nI 0))) = f_X7_may_J68 x2 (nI n) (sAA m1 11 (upd r0 n (nI (gnP F (famB F cell) n)))) := by
    intro n x2 r0 hn1 hn
    have e : loopN (f_X7_may_L24 x2 (nI n)) 4096 (nI 0, sAA m1 11 (upd r0 n (nI 0))) = some (sAA m1 11 (upd r0 n (nI (gnP F (famB F cell) n)))) := by
      refine loopN_run (tr := fun i => (nI i, sAA m1 11 (upd r0 n (nI (sumZ (fun k => if bor F n (mbS (famB F cell) 80 k) then 1 else 0) i))))) (cntZ (famB F cell) 80) _ ?_ ?_ (by omega)
      · intro i hi
        have g3 : ∀ r, gI (sAA m1 11 r) 3 = nI (cntZ (famB F cell) 80) := fun r => hk.2.1
        have g9 : ∀ r, rd (sAA m1 11 r) 9 (nI i) = nI (mbS (famB F cell) 80 i) := fun r => by rw [rd_nI _ 9 (by omega), sAA_ne _ _ (by decide : (9 : Nat) ≠ 11)]; exact hk.2.2 i hi
        have g11 : ∀ v, rd (sAA m1 11 (upd r0 n (nI v))) 11 (nI n) = nI v := fun v => by rw [rd_nI _ 11 (by omega), sAA_self, upd_at]
        have st : ∀ v w : Nat, sA (sAA m1 11 (upd r0 n (nI v))) 11 (nI n) (nI w) = sAA m1 11 (upd r0 n (nI w)) := fun v w => by rw [sA_nI _ _ _ (by omega), sAA_self, sAA_sAA, upd_upd]
        have e2 : sumZ (fun k => if bor F n (mbS (famB F cell) 80 k) then 1 else 0) (i + 1) = sumZ (fun k => if bor F n (mbS (famB F cell) 80 k) then 1 else 0) i + (if bor F n (mbS (famB F cell) 80 i) then 1 else 0) := rfl
        rw [e_X7_may_L24, g3, if_neg (nI_ge hi (by omega)), gd_nI hn (by decide), gd_nI (by omega) (by decide), g9, bnd_of (isBurden_eq (μ := sAA m1 11 _) hM1.2.2.1 hF2 (hmb i hi).2 hn), bit_if, e_X7_may_J60, e_X7_may_J60, gd_nI hn (by decide), gd_nI hn (by decide), g11, nI_add, nI_add, nI_add, st, st, e2]
        cases bor F n (mbS (famB F cell) 80 i) <;> rfl
      · have g3 : ∀ r, gI (sAA m1 11 r) 3 = nI (cntZ (famB F cell) 80) := fun r => hk.2.1
        rw [e_X7_may_L24, g3, if_pos (nI_le (Nat.le_refl _) (by omega)), mbS_sum (fun c => if bor F n c = true then 1 else 0) 80]
        rfl
    rw [e_X7_may_J24, bnd_of e]
  have nets : ∃ y, loopN f_X7_may_L9 4096 (nI 1, nI 1, m1) = some y ∧ ∃ r, y.2 = sAA m1 11 r ∧ (∀ n, 1 ≤ n → n < 4 → r n = nI (gnP F (famB F cell) n)) ∧ BitOf y.1 (∀ n, 1 ≤ n → n < 4 → gnP F (famB F cell) n = 0 ∨ burdenOf F n + gnP F (famB F cell) n ≤ Q (3 + n)) := by
    refine loop_for (Inv := fun i v => v.2.1 = nI (1 + i) ∧ ∃ r, v.2.2 = sAA m1 11 r ∧ (∀ n, 1 ≤ n → n < 1 + i → r n = nI (gnP F (famB F cell) n)) ∧ BitOf v.1 (∀ n, 1 ≤ n → n < 1 + i → gnP F (famB F cell) n = 0 ∨ burdenOf F n + gnP F (famB F cell) n ≤ Q (3 + n))) 3 ?_ ?_ (by decide) ⟨rfl, m1.1 11, (sAA_id _ _).symm, fun n a b => by omega, Or.inl ⟨rfl, fun n a b => by omega⟩⟩
    · rintro i ⟨b, c, s⟩ hi ⟨h1, r, h2, q1, q2⟩
      dsimp only at h1 h2 q2
      subst h1 h2
      have bg : gnP F (famB F cell) (1 + i) ≤ 80 := gnP_le
      have bb := burden_le hF (1 + i)
      have bl := hlim (1 + i) (by omega) (by omega)
      have rows : ∀ n, 1 ≤ n → n < 1 + (i + 1) → upd r (1 + i) (nI (gnP F (famB F cell) (1 + i))) n = nI (gnP F (famB F cell) n) := by
        intro n a b
        unfold upd
        by_cases q3 : n = 1 + i
        · subst q3; rw [if_pos rfl]
        · rw [if_neg q3]; exact q1 n a (by omega)
      have g11 : rd (sAA m1 11 (upd r (1 + i) (nI (gnP F (famB F cell) (1 + i))))) 11 (nI (1 + i)) = nI (gnP F (famB F cell) (1 + i)) := by rw [rd_nI _ 11 (by omega), sAA_self, upd_at]
      have g10 : rd (sAA m1 11 (upd r (1 + i) (nI (gnP F (famB F cell) (1 + i))))) 10 (nI (1 + i)) = nI (burdenOf F (1 + i)) := by rw [rd_nI _ 10 (by omega), sAA_ne _ _ (by decide : (10 : Nat) ≠ 11)]; exact hL1.2.2 _ (by omega) (by omega)
      have g3 : rd (sAA m1 11 (upd r (1 + i) (nI (gnP F (famB F cell) (1 + i))))) 3 (nI (3 + (1 + i))) = nI (Q (3 + (1 + i))) := by rw [rd_nI _ 3 (by omega), sAA_ne _ _ (by decide : (3 : Nat) ≠ 11)]; exact hQ1 _ (by omega)
      rw [e_X7_may_L9, if_neg (nI_ge (by omega) (by decide)), gd_nI (by omega) (by decide), sA_nI _ _ _ (by omega), sAA_self, sAA_sAA, row (1 + i) b r (by omega) (by omega), e_X7_may_J68, g11, g10, nI_add, pk_sub (by omega), show 4 + (1 + i) - 1 = 3 + (1 + i) from by omega, g3, e_X7_may_J111, e_X7_may_J107, nI_add, gd_nI (by omega) (by decide), gd_nI (by omega) (by decide), gd_nI (by omega) (by decide), gd_nI (by omega) (by decide), nI_add]
      have ext : (∀ n, 1 ≤ n → n < 1 + i → gnP F (famB F cell) n = 0 ∨ burdenOf F n + gnP F (famB F cell) n ≤ Q (3 + n)) → (gnP F (famB F cell) (1 + i) = 0 ∨ burdenOf F (1 + i) + gnP F (famB F cell) (1 + i) ≤ Q (3 + (1 + i))) → ∀ n, 1 ≤ n → n < 1 + (i + 1) → gnP F (famB F cell) n = 0 ∨ burdenOf F n + gnP F (famB F cell) n ≤ Q (3 + n) := by
        intro a b n c d
        by_cases q3 : n = 1 + i
        · subst q3; exact b
        · exact a n c (by omega)
      rcases q2 with ⟨rfl, q2⟩ | ⟨rfl, q2⟩
      · rw [if_neg (by decide)]
        by_cases z1 : gnP F (famB F cell) (1 + i) = 0
        · rw [if_pos (by rw [z1])]
          exact ⟨_, rfl, rfl, _, rfl, rows, Or.inl ⟨rfl, ext q2 (Or.inl z1)⟩⟩
        · rw [if_neg (neq_f (b := 0) z1 (by omega) (by decide) rfl rfl)]
          by_cases z2 : burdenOf F (1 + i) + gnP F (famB F cell) (1 + i) ≤ Q (3 + (1 + i))
          · rw [if_neg (nI_nlt z2 (by omega))]
            exact ⟨_, rfl, rfl, _, rfl, rows, Or.inl ⟨rfl, ext q2 (Or.inr z2)⟩⟩
          · rw [if_pos (nI_lt (by omega) (by omega))]
            refine ⟨_, rfl, rfl, _, rfl, rows, Or.inr ⟨rfl, fun z => ?_⟩⟩
            rcases z (1 + i) (by omega) (by omega) with y | y
            · exact z1 y
            · exact z2 y
      · rw [if_pos rfl]
        exact ⟨_, rfl, rfl, _, rfl, rows, Or.inr ⟨rfl, fun z => q2 (fun n a b => z n a (by omega))⟩⟩
    · rintro ⟨b, c, s⟩ ⟨h1, r, h2, q1, q2⟩
      dsimp only at h1 h2 q2
      subst h1 h2
      exact ⟨(b, sAA m1 11 r), by rw [e_X7_may_L9, if_pos (nI_le (by decide) (by decide))], r, rfl, q1, q2⟩
  obtain ⟨⟨b1, s1⟩, en, r, hr0, hr, hb1⟩ := nets
  dsimp only at hr0 hb1
  subst hr0
  -- room of each of the family
  have rooms : ∃ y, loopN (f_X7_may_L121 (sAA m1 11 r)) 4096 (b1, nI 0) = some y ∧ BitOf y ((∀ n, 1 ≤ n → n < 4 → gnP F (famB F cell) n = 0 ∨ burdenOf F n + gnP F (famB F cell) n ≤ Q (3 + n)) ∧ ∀ k, k < cntZ (famB F cell) 80 → F 1 (mbS (famB F cell) 80 k) = 0 ∧ cellSum F (mbS (famB F cell) 80 k) < 9) := by
    have g3 : gI (sAA m1 11 r) 3 = nI (cntZ (famB F cell) 80) := hk.2.1
    refine loop_inv (Inv := fun i v => v.2 = nI i ∧ BitOf v.1 ((∀ n, 1 ≤ n → n < 4 → gnP F (famB F cell) n = 0 ∨ burdenOf F n + gnP F (famB F cell) n ≤ Q (3 + n)) ∧ ∀ k, k < i → F 1 (mbS (famB F cell) 80 k) = 0 ∧ cellSum F (mbS (famB F cell) 80 k) < 9)) (cntZ (famB F cell) 80) ?_ ?_ (by omega) ⟨rfl, hb1.iff ⟨fun z => ⟨z, fun k hk => by omega⟩, fun z => z.1⟩⟩
    · rintro i ⟨b, c⟩ hi ⟨h1, h2⟩
      dsimp only at h1 h2
      subst h1
      have hmi := (hmb i hi).2
      have bs := cellSum_le hF hmi
      have b1 := (hF _ hmi).2.1
      rw [e_X7_may_L121, g3, if_neg (nI_ge hi (by omega))]
      rcases h2 with ⟨rfl, h2⟩ | ⟨rfl, h2⟩
      · left
        have g9 : rd (sAA m1 11 r) 9 (nI i) = nI (mbS (famB F cell) 80 i) := by rw [rd_nI _ 9 (by omega), sAA_ne _ _ (by decide : (9 : Nat) ≠ 11)]; exact hk.2.2 i hi
        rw [if_neg (by decide), gd_nI (by omega) (by decide), g9, nI_add, gd_nI (by omega) (by decide), rd_nI _ 0 (by omega), sAA_ne _ _ (by decide : (0 : Nat) ≠ 11), hM1.2.1 _ hmi, gd_nI (by omega) (by decide), bnd_of (sumOf7_eq (μ := sAA m1 11 r) (F := F) hM1.1 hM1.2.2.2.2 hmi), e_X7_may_J169, nI_add]
        have ext : F 1 (mbS (famB F cell) 80 i) = 0 → cellSum F (mbS (famB F cell) 80 i) < 9 → ∀ k, k < i + 1 → F 1 (mbS (famB F cell) 80 k) = 0 ∧ cellSum F (mbS (famB F cell) 80 k) < 9 := by
          intro a b k c
          by_cases q3 : k = i
          · subst q3; exact ⟨a, b⟩
          · exact h2.2 k (by omega)
        by_cases z1 : F 1 (mbS (famB F cell) 80 i) = 0
        · rw [if_pos (by rw [z1])]
          by_cases z2 : cellSum F (mbS (famB F cell) 80 i) < 9
          · rw [if_neg (nI_ge z2 (by omega))]
            exact ⟨_, rfl, rfl, Or.inl ⟨rfl, h2.1, ext z1 z2⟩⟩
          · rw [if_pos (nI_le (by omega) (by omega))]
            exact ⟨_, rfl, rfl, Or.inr ⟨rfl, fun z => z2 (z.2 i (by omega)).2⟩⟩
        · rw [if_neg (neq_f (b := 0) z1 (by omega) (by decide) rfl rfl)]
          exact ⟨_, rfl, rfl, Or.inr ⟨rfl, fun z => z1 (z.2 i (by omega)).1⟩⟩
      · right
        rw [if_pos rfl]
        exact ⟨_, rfl, Or.inr ⟨rfl, fun z => h2 ⟨z.1, fun k hk => z.2 k (by omega)⟩⟩⟩
    · rintro ⟨b, c⟩ ⟨h1, h2⟩
      dsimp only at h1 h2
      subst h1
      exact ⟨b, by rw [e_X7_may_L121, g3, if_pos (nI_le (Nat.le_refl _) (by omega))], h2⟩
  obtain ⟨b2, er, hb2⟩ := rooms
  have hb2' := hb2.iff (q := (∀ n, 1 ≤ n → n < 4 → gnP F (famB F cell) n = 0 ∨ burdenOf F n + gnP F (famB F cell) n ≤ Q (3 + n)) ∧ ∀ c, c < 80 → famB F cell c = true → F 1 c = 0 ∧ cellSum F c < 9) ⟨fun z => ⟨z.1, fun c hc hf => by
    obtain ⟨k, k1, k2⟩ := mbS_on (p := famB F cell) 80 c hc hf
    rw [← k2]; exact z.2 k k1⟩, fun z => ⟨z.1, fun k hk => z.2 _ (hmb k hk).2 (hmb k hk).1⟩⟩
  -- windows
  have wins : ∃ y, loopN (f_X7_may_L179 (sAA m1 11 r)) 4096 (b2, nI 0) = some y ∧ BitOf y (MayG F Q (famB F cell)) := by
    have g0 : rd (sAA m1 11 r) 3 (nI 0) = nI (Q 0) := by rw [rd_nI _ 3 (by decide), sAA_ne _ _ (by decide : (3 : Nat) ≠ 11)]; exact hQ1 0 (by decide)
    have g1 : rd (sAA m1 11 r) 3 (nI 1) = nI (Q 1) := by rw [rd_nI _ 3 (by decide), sAA_ne _ _ (by decide : (3 : Nat) ≠ 11)]; exact hQ1 1 (by decide)
    have g3 : rd (sAA m1 11 r) 3 (nI 3) = nI (Q 3) := by rw [rd_nI _ 3 (by decide), sAA_ne _ _ (by decide : (3 : Nat) ≠ 11)]; exact hQ1 3 (by decide)
    have hHW2 : Q 0 * Q 1 ≤ 80 := Nat.mul_le_mul qb qd
    refine loop_inv (Inv := fun i v => v.2 = nI i ∧ BitOf v.1 (((∀ n, 1 ≤ n → n < 4 → gnP F (famB F cell) n = 0 ∨ burdenOf F n + gnP F (famB F cell) n ≤ Q (3 + n)) ∧ ∀ c, c < 80 → famB F cell c = true → F 1 c = 0 ∧ cellSum F c < 9) ∧ ∀ a, a < i → lies Q a = true → shWn Q (famB F cell) a = 0 ∨ wsum Q (cellSum F) a + shWn Q (famB F cell) a ≤ Q 3)) 80 ?_ ?_ (by decide) ⟨rfl, hb2'.iff ⟨fun z => ⟨z, fun k hk => by omega⟩, fun z => z.1⟩⟩
    · rintro i ⟨b, c⟩ hi ⟨h1, h2⟩
      dsimp only at h1 h2
      subst h1
      have bs := hs i
      rw [e_X7_may_L179, if_neg (nI_ge hi (by decide))]
      rcases h2 with ⟨rfl, h2⟩ | ⟨rfl, h2⟩
      · left
        have ext : (lies Q i = true → shWn Q (famB F cell) i = 0 ∨ wsum Q (cellSum F) i + shWn Q (famB F cell) i ≤ Q 3) → ∀ a, a < i + 1 → lies Q a = true → shWn Q (famB F cell) a = 0 ∨ wsum Q (cellSum F) a + shWn Q (famB F cell) a ≤ Q 3 := by
          intro x a ha la
          by_cases q3 : a = i
          · subst q3; exact x la
          · exact h2.2 a (by omega) la
        have g6 : rd (sAA m1 11 r) 6 (nI i) = smOf Q (wsum Q (cellSum F)) i := by rw [rd_nI _ 6 (by omega), sAA_ne _ _ (by decide : (6 : Nat) ≠ 11)]; exact hL1.1 i hi
        rw [if_neg (by decide), gd_nI hi (by decide), g6, nI_add]
        cases hl : lies Q i
        · rw [sm_n hl, if_pos m1_lt0]
          exact ⟨_, rfl, rfl, Or.inl ⟨rfl, h2.1, ext (fun z => absurd (hl.symm.trans z) (by decide))⟩⟩
        · have bsh : shWn Q (famB F cell) i ≤ 80 := shWn_le
          have bsh2 : shWn Q (famB F cell) i ≤ Q 0 * Q 1 := shareN_le hl
          have em : f_X7_manyIn (nI i) (sAA m1 11 r) = some (nI (shWn Q (famB F cell) i)) := manyIn_eq (μ := sAA m1 11 r) hQ1 hQ (F := F) (cell := cell) hk.1 hi hl
          rw [sm_y hl, if_neg (nI_nn (by omega)), gd_nI hi (by decide), gd_nI (by decide) (by decide), gd_nI (by decide) (by decide), gd_nI (by decide) (by decide), g0, g1, g3, pk_mul, nI_add]
          by_cases z0 : wsum Q (cellSum F) i + Q 0 * Q 1 ≤ Q 3
          · rw [if_pos (nI_le z0 (by omega))]
            exact ⟨_, rfl, rfl, Or.inl ⟨rfl, h2.1, ext (fun _ => Or.inr (by omega))⟩⟩
          · rw [if_neg (nI_ge (by omega) (by omega)), bnd_of em, e_X7_may_J257, nI_add]
            by_cases z1 : shWn Q (famB F cell) i = 0
            · rw [if_pos (by rw [z1])]
              exact ⟨_, rfl, rfl, Or.inl ⟨rfl, h2.1, ext (fun _ => Or.inl z1)⟩⟩
            · rw [if_neg (neq_f (b := 0) z1 (by omega) (by decide) rfl rfl), gd_nI hi (by decide), gd_nI (by decide) (by decide), nI_add]
              by_cases z2 : wsum Q (cellSum F) i + shWn Q (famB F cell) i ≤ Q 3
              · rw [if_neg (nI_nlt z2 (by omega))]
                exact ⟨_, rfl, rfl, Or.inl ⟨rfl, h2.1, ext (fun _ => Or.inr z2)⟩⟩
              · rw [if_pos (nI_lt (by omega) (by omega))]
                refine ⟨_, rfl, rfl, Or.inr ⟨rfl, fun z => ?_⟩⟩
                rcases z.2 i (by omega) hl with y | y
                · exact z1 y
                · exact z2 y
      · right
        rw [if_pos rfl]
        exact ⟨_, rfl, Or.inr ⟨rfl, fun z => h2 ⟨⟨z.1, z.2.1⟩, fun a ha la => z.2.2 a (by omega) la⟩⟩⟩
    · rintro ⟨b, c⟩ ⟨h1, h2⟩
      dsimp only at h1 h2
      subst h1
      exact ⟨b, by rw [e_X7_may_L179, if_pos (nI_le (Nat.le_refl _) (by decide))], h2.iff ⟨fun z => ⟨z.1.1, z.1.2, z.2⟩, fun z => ⟨⟨z.1, z.2.1⟩, z.2.2⟩⟩⟩
  obtain ⟨b3, ew, hb3⟩ := wins
  refine ⟨b3, sAA m1 11 r, ?_, ?_, ?_, hb3, ?_⟩
  · rw [e_X7_may, bnd_of e1, e_X7_may_J9, bnd_of en, e_X7_may_J119, e_X7_may_J121, bnd_of er, e_X7_may_J177, e_X7_may_J179, bnd_of ew, hb3.gb]
  · exact FmZ.sAA (hf1.mono (by decide) (by decide)) (by decide) _
  · exact hk
  · exact hr
