/-! ===== PURE 27: the cell that a step fills, in numbers; the class's choice ===== -/
noncomputable def pBq (p : Prop) : Bool := @decide p (Classical.propDecidable p)
theorem pBq_t {p : Prop} (h : p) : pBq p = true := @decide_eq_true p (Classical.propDecidable p) h
theorem pBq_f {p : Prop} (h : ¬ p) : pBq p = false := @decide_eq_false p (Classical.propDecidable p) h
theorem pBq_of {p : Prop} (h : pBq p = true) : p := @of_decide_eq_true p (Classical.propDecidable p) h
theorem pBq_iff {p q : Prop} (h : p ↔ q) : pBq p = pBq q := by rw [propext h]
theorem BitOf.pqQ {r : Int32} {p : Prop} (h : BitOf r p) : r = if pBq p then nI 1 else nI 0 := by
  rcases h with ⟨a, b⟩ | ⟨a, b⟩
  · rw [pBq_t b, bT, a]
  · rw [pBq_f b, bF, a]
def homeQ (Q : Nat → Nat) (F : FF) : Nat := lstZ Q (wsum Q (cellSum F)) 79
def wantQ (Q : Nat → Nat) (F : FF) (R c : Nat) : Bool := if R = 4 then inW Q (homeQ Q F) c else decide (0 < thinOver Q (wsum Q (cellSum F)) c)
def anyQ (Q : Nat → Nat) (F : FF) : Bool := thinB Q (wsum Q (cellSum F)) (homeQ Q F)
def RchQ (Q : Nat → Nat) (F : FF) (R : Nat) (p : Nat → Bool) : Prop := MayG F Q p ∧ ∃ d, d < 80 ∧ p d = true ∧ wantQ Q F R d = true
noncomputable def chQ (Q : Nat → Nat) (F : FF) (R c : Nat) : Bool := anyQ Q F && pBq (RchQ Q F R (famB F c))
def keyQ (Q : Nat → Nat) (F : FF) (R c : Nat) : Int32 := if R = 1 then nI (cellSum F c) else if R = 2 then -(nI (thinOver Q (wsum Q (cellSum F)) c)) else if R = 3 then nI (sumZ (fun j => gnP F (famB F c) (1 + j)) 3) else nI 0
def selQ (B : Nat → Bool) (key : Nat → Int32) : Nat → Nat × Int32
  | 0 => (80, nI 0)
  | n + 1 => if B n && (decide ((selQ B key n).1 = 80) || !decide ((selQ B key n).2 ≤ key n)) then (n, key n) else selQ B key n
noncomputable def nxQ (Q : Nat → Nat) (F : FF) (R : Nat) : Nat := (selQ (chQ Q F R) (keyQ Q F R) 80).1
def cellI (c : Nat) : Int32 := if c < 80 then nI c else -nI 1
theorem RchQ.congr {Q : Nat → Nat} {F : FF} {R : Nat} {p q : Nat → Bool} (h : ∀ c, c < 80 → p c = q c) (hr : RchQ Q F R p) : RchQ Q F R q := by
  obtain ⟨h1, d, hd, h2, h3⟩ := hr
  exact ⟨h1.congr h, d, hd, by rw [← h d hd]; exact h2, h3⟩
theorem selQ_succ (B : Nat → Bool) (key : Nat → Int32) (n : Nat) : selQ B key (n + 1) = if B n && (decide ((selQ B key n).1 = 80) || !decide ((selQ B key n).2 ≤ key n)) then (n, key n) else selQ B key n := rfl
theorem selQ_in {B : Nat → Bool} {key : Nat → Int32} : ∀ n, (selQ B key n).1 = 80 ∨ ((selQ B key n).1 < n ∧ B (selQ B key n).1 = true)
  | 0 => Or.inl rfl
  | n + 1 => by
    rw [selQ_succ]
    split
    · rename_i h
      rw [Bool.and_eq_true] at h
      exact Or.inr ⟨Nat.lt_succ_self n, h.1⟩
    · rcases selQ_in (B := B) (key := key) n with h | h
      · exact Or.inl h
      · exact Or.inr ⟨by omega, h.2⟩
theorem selQ_no {B : Nat → Bool} {key : Nat → Int32} (h : ∀ i, B i = false) : ∀ n, selQ B key n = (80, nI 0)
  | 0 => rfl
  | n + 1 => by rw [selQ_succ, h n, Bool.false_and, bF]; exact selQ_no h n
theorem nxQ_in {Q : Nat → Nat} {F : FF} {R : Nat} : nxQ Q F R = 80 ∨ (nxQ Q F R < 80 ∧ MayG F Q (famB F (nxQ Q F R))) := by
  rcases selQ_in (B := chQ Q F R) (key := keyQ Q F R) 80 with h | ⟨h1, h2⟩
  · exact Or.inl h
  · refine Or.inr ⟨h1, ?_⟩
    unfold chQ at h2
    rw [Bool.and_eq_true] at h2
    exact (pBq_of h2.2).1
theorem cellI_y {c : Nat} (h : c < 80) : cellI c = nI c := if_pos h
theorem cellI_n : cellI 80 = -nI 1 := if_neg (by decide)
theorem cellI_ne {c : Nat} (h : c < 80) : ¬ cellI c = -nI 1 := by rw [cellI_y h]; exact m1_ne (by omega)
/-! the first of the least windows -/
theorem lst_min {Q s : Nat → Nat} : ∀ n a, a ≤ n → lies Q a = true → s (lstZ Q s n) ≤ s a
  | 0, a, h, _ => by have : a = 0 := by omega
                     subst this; exact Nat.le_refl _
  | n + 1, a, h, hl => by
    have ih := lst_min (Q := Q) (s := s) n
    unfold lstZ
    by_cases q : a = n + 1
    · subst q
      rw [hl, Bool.true_and]
      by_cases z : s (n + 1) < s (lstZ Q s n)
      · rw [if_pos (decide_eq_true z)]; exact Nat.le_refl _
      · rw [if_neg (by simpa using z)]; omega
    · have := ih a (by omega) hl
      split
      · rename_i z
        rw [Bool.and_eq_true] at z
        have := of_decide_eq_true z.2
        omega
      · exact this
theorem lst_fst {Q s : Nat → Nat} : ∀ n a, a < lstZ Q s n → lies Q a = true → s (lstZ Q s n) < s a
  | 0, a, h, _ => absurd h (Nat.not_lt_zero _)
  | n + 1, a, h, hl => by
    have ih := lst_fst (Q := Q) (s := s) n
    unfold lstZ at h ⊢
    by_cases z : (lies Q (n + 1) && decide (s (n + 1) < s (lstZ Q s n))) = true
    · rw [if_pos z] at h ⊢
      rw [Bool.and_eq_true] at z
      have := of_decide_eq_true z.2
      have := lst_min (s := s) n a (by omega) hl
      omega
    · rw [if_neg z] at h ⊢
      exact ih a h hl
theorem any_of {Q : Nat → Nat} {F : FF} (hQ : QOk Q) {a : Nat} (ha : a < 80) (h : thinB Q (wsum Q (cellSum F)) a = true) : anyQ Q F = true := by
  unfold thinB at h
  rw [Bool.and_eq_true] at h
  have h2 := of_decide_eq_true h.2
  have := lst_min (s := wsum Q (cellSum F)) 79 a (by omega) h.1
  unfold anyQ thinB homeQ
  rw [(lst_ok (s := wsum Q (cellSum F)) (lies0 hQ) 79).2, Bool.true_and]
  exact decide_eq_true (by omega)
theorem chQ_ne4 {Q : Nat → Nat} {F : FF} (hQ : QOk Q) {R : Nat} (hR : R ≠ 4) (c : Nat) : chQ Q F R c = pBq (RchQ Q F R (famB F c)) := by
  unfold chQ
  cases hp : pBq (RchQ Q F R (famB F c))
  · rw [Bool.and_false]
  · obtain ⟨-, d, hd, -, hw⟩ := pBq_of hp
    unfold wantQ at hw
    rw [if_neg hR] at hw
    have hw := of_decide_eq_true hw
    obtain ⟨a, ha, hz⟩ := cntZ_ex (p := fun a => thinB Q (wsum Q (cellSum F)) a && inW Q a d) (n := 80) (by unfold thinOver at hw; omega)
    rw [Bool.and_eq_true] at hz
    rw [any_of hQ ha hz.1]
    rfl
theorem chQ_any {Q : Nat → Nat} {F : FF} {R : Nat} (h : anyQ Q F = true) (c : Nat) : chQ Q F R c = pBq (RchQ Q F R (famB F c)) := by
  unfold chQ
  rw [h, Bool.true_and]
/-! a cell in a window -/
theorem subneg {a b : Nat} (ha : a < 2 ^ 29) (hb : b < 2 ^ 29) (h : a < b) : nI a - nI b < nI 0 := by
  rw [Int32.lt_iff_toInt_lt, pk_sub_toInt (by omega) (by omega), nI_toInt (by decide)]
  omega
theorem has_eq {σ : St} {Q : Nat → Nat} (h : CQ σ Q) (hQ : QOk Q) {a c : Nat} (ha : a < 80) (hc : c < 80) : f_X5_has (nI a) (nI c) σ = some (if inW Q a c then nI 1 else nI 0) := by
  have g6 : gI σ 6 = nI (Q 0) := h.2.1
  have g7 : gI σ 7 = nI (Q 1) := h.2.2.1
  obtain ⟨qa, qb, qc, qd, -⟩ := hQ
  rw [e_X5_has, g6, g7, pk_div (by omega) (by decide) (by decide), pk_div (by omega) (by decide) (by decide), jrem_nI (by omega) (by decide) (by decide), jrem_nI (by omega) (by decide) (by decide)]
  by_cases z1 : a / 10 ≤ c / 10
  · rw [pk_sub z1, if_neg (nI_nlt (Nat.zero_le _) (by omega))]
    by_cases z2 : c / 10 < a / 10 + Q 0
    · rw [if_neg (nI_ge (by omega) (by omega))]
      by_cases z3 : a % 10 ≤ c % 10
      · rw [pk_sub z3, if_neg (nI_nlt (Nat.zero_le _) (by omega))]
        by_cases z4 : c % 10 < a % 10 + Q 1
        · rw [if_neg (nI_ge (by omega) (by omega)), if_pos (inW_iff.mpr ⟨⟨z1, z2⟩, z3, z4⟩)]
        · rw [if_pos (nI_le (by omega) (by omega)), if_neg (fun y => z4 (inW_iff.mp y).2.2)]
      · rw [if_pos (subneg (by omega) (by omega) (by omega)), if_neg (fun y => z3 (inW_iff.mp y).2.1)]
    · rw [if_pos (nI_le (by omega) (by omega)), if_neg (fun y => z2 (inW_iff.mp y).1.2)]
  · rw [if_pos (subneg (by omega) (by omega) (by omega)), if_neg (fun y => z1 (inW_iff.mp y).1.1)]
theorem in7_neg {a b : Nat} (ha : a < 2 ^ 29) (hb : b < 2 ^ 29) (h : a < b) (y : Int32) : f_X7_in (nI a - nI b) (nI 0) y = some (nI 0) := by
  refine in7_f (fun z => ?_)
  have := subneg ha hb h
  have z1 := z.1
  rw [Int32.lt_iff_toInt_lt] at this
  rw [Int32.le_iff_toInt_le] at z1
  omega
theorem has7_eq {μ : St} {Q : Nat → Nat} (h : MQs μ Q) (hQ : QOk Q) {a c : Nat} (ha : a < 80) (hc : c < 80) : f_X7_has (nI a) (nI c) μ = some (if inW Q a c then nI 1 else nI 0) := by
  obtain ⟨qa, qb, qc, qd, -⟩ := hQ
  rw [e_X7_has, gd_nI (by decide) (by decide), rd_nI _ 3 (by decide), rd_nI _ 3 (by decide), h 0 (by decide), h 1 (by decide), pk_div (by omega) (by decide) (by decide), pk_div (by omega) (by decide) (by decide), jrem_nI (by omega) (by decide) (by decide), jrem_nI (by omega) (by decide) (by decide), pk_sub (a := Q 0) (b := 1) qa, pk_sub (a := Q 1) (b := 1) qc]
  by_cases z1 : a / 10 ≤ c / 10
  · rw [pk_sub z1]
    by_cases z2 : c / 10 < a / 10 + Q 0
    · rw [bnd_of (in7_nI (by omega) (by omega)), if_neg (by decide : ¬ nI 1 = nI 0), gd_nI (by decide) (by decide)]
      by_cases z3 : a % 10 ≤ c % 10
      · rw [pk_sub z3]
        by_cases z4 : c % 10 < a % 10 + Q 1
        · rw [bnd_of (in7_nI (by omega) (by omega)), if_neg (by decide : ¬ nI 1 = nI 0), if_pos (inW_iff.mpr ⟨⟨z1, z2⟩, z3, z4⟩)]
        · rw [bnd_of (in7_f (fun y => absurd y.2 (nI_ge (by omega) (by omega)))), if_pos rfl, if_neg (fun y => z4 (inW_iff.mp y).2.2)]
      · rw [bnd_of (in7_neg (by omega) (by omega) (by omega) _), if_pos rfl, if_neg (fun y => z3 (inW_iff.mp y).2.1)]
    · rw [bnd_of (in7_f (fun y => absurd y.2 (nI_ge (by omega) (by omega)))), if_pos rfl, if_neg (fun y => z2 (inW_iff.mp y).1.2)]
  · rw [bnd_of (in7_neg (by omega) (by omega) (by omega) _), if_pos rfl, if_neg (fun y => z1 (inW_iff.mp y).1.1)]
/-! the class's side -/
def hvQ (Q : Nat → Nat) (F : FF) (R : Nat) : Int32 := if R = 4 then nI (homeQ Q F) else -nI 1
theorem home_lt {Q : Nat → Nat} {F : FF} (hQ : QOk Q) : homeQ Q F < 80 := by
  have := (lst_ok (s := wsum Q (cellSum F)) (lies0 hQ) 79).1
  unfold homeQ
  omega
theorem isWanted_ok {σ : St} {F : FF} {Q : Nat → Nat} (hQ : QOk Q) (h : CSt σ F Q) {R c : Nat} (hc : c < 80) : f_X1_isWanted (nI c) (hvQ Q F R) σ = some (if wantQ Q F R c then nI 1 else nI 0) := by
  have hh := home_lt (F := F) hQ
  unfold hvQ wantQ
  by_cases q : R = 4
  · rw [if_pos q, if_pos q, e_X1_isWanted, if_neg (m1_ne (by omega)), bnd_of (has_eq h.2.1 hQ hh hc)]
    cases inW Q (homeQ Q F) c
    · rw [bF]; exact gb_0
    · rw [bT]; exact gb_1
  · have bo : thinOver Q (wsum Q (cellSum F)) c ≤ 80 := cntZ_le
    rw [if_neg q, if_neg q, e_X1_isWanted, if_pos rfl, gd_nI hc (by decide), rd_nI _ 6 (by omega), h.2.2.1.2.1 c hc]
    by_cases z : 0 < thinOver Q (wsum Q (cellSum F)) c
    · rw [if_neg (nI_ge z (by omega)), if_pos (decide_eq_true z)]
    · rw [if_pos (nI_le (by omega) (by omega)), if_neg (by simpa using z)]
theorem wantedTwin_ok {σ : St} {F : FF} {Q : Nat → Nat} (hF : FbOk F) (hQ : QOk Q) (h : CSt σ F Q) {R g : Nat} (hg : g < 4) : ∃ r, f_X1_wantedTwin (nI g) (hvQ Q F R) σ = some r ∧ ((r = -nI 1 ∧ ∀ d, d < 80 → F 3 d = g → wantQ Q F R d = false) ∨ ∃ d, d < 80 ∧ r = nI d ∧ F 3 d = g ∧ wantQ Q F R d = true) := by
  have hm : ∃ z, loopN (f_X1_wantedTwin_L2 (nI g) (hvQ Q F R) σ) 4096 (nI 0) = some z ∧ ((z = .inr () ∧ ∀ d, d < 80 → F 3 d = g → wantQ Q F R d = false) ∨ ∃ d, d < 80 ∧ z = .inl (nI d) ∧ F 3 d = g ∧ wantQ Q F R d = true) := by
    refine loop_inv (Inv := fun i v => v = nI i ∧ ∀ d, d < i → F 3 d = g → wantQ Q F R d = false) 80 ?_ ?_ (by decide) ⟨rfl, fun d hd => by omega⟩
    · rintro i v hi ⟨rfl, h2⟩
      have bi := (hF i hi).2.2.2.1
      have ext : (F 3 i = g → wantQ Q F R i = false) → ∀ d, d < i + 1 → F 3 d = g → wantQ Q F R d = false := by
        intro x d hd e
        by_cases z : d = i
        · subst z; exact x e
        · exact h2 d (by omega) e
      rw [e_X1_wantedTwin_L2, if_neg (nI_ge hi (by decide)), gd_nI hi (by decide), rd_nI _ 3 (by omega), h.1.2.2.2.1 i hi, bnd_of (isWanted_ok hQ h hi), nI_add]
      by_cases z0 : F 3 i = g
      · rw [if_pos (by rw [z0])]
        cases hw : wantQ Q F R i
        · rw [bF, if_pos rfl]
          exact Or.inl ⟨_, rfl, rfl, ext (fun _ => hw)⟩
        · rw [bT, if_neg (by decide)]
          exact Or.inr ⟨_, rfl, Or.inr ⟨i, hi, rfl, z0, hw⟩⟩
      · rw [if_neg (by rw [nI_eq (by omega) (by omega)]; exact z0)]
        exact Or.inl ⟨_, rfl, rfl, ext (fun z => absurd z z0)⟩
    · rintro v ⟨rfl, h2⟩
      exact ⟨_, by rw [e_X1_wantedTwin_L2, if_pos (nI_le (Nat.le_refl 80) (by decide))], Or.inl ⟨rfl, h2⟩⟩
  obtain ⟨z, e, h⟩ := hm
  rw [e_X1_wantedTwin, e_X1_wantedTwin_J2, bnd_of e]
  rcases h with ⟨rfl, h⟩ | ⟨d, hd, rfl, h1, h2⟩
  · exact ⟨_, rfl, Or.inl ⟨rfl, h⟩⟩
  · exact ⟨_, rfl, Or.inr ⟨d, hd, rfl, h1, h2⟩⟩
theorem CSt.fm {L LI : List Nat} {σ σ' : St} {F : FF} {Q : Nat → Nat} (h : CSt σ F Q) (hf : FmZ L LI σ σ') (hL : ∀ k, k < 13 → k ∉ L) (h17 : 17 ∉ L) (i6 : 6 ∉ LI) (i7 : 7 ∉ LI) (i8 : 8 ∉ LI) (i9 : 9 ∉ LI) : CSt σ' F Q := by
  refine ⟨h.1.fm hf (fun k hk => hL k (by omega)), h.2.1.fm hf (hL 9 (by decide)) h17 i6 i7 i8 i9, ?_⟩
  have h3 := h.2.2
  unfold CDz CW CSh CNz at h3 ⊢
  rw [hf.1 5 (hL 5 (by decide)), hf.1 6 (hL 6 (by decide)), hf.1 7 (hL 7 (by decide)), hf.1 8 (hL 8 (by decide)), hf.1 10 (hL 10 (by decide)), hf.1 11 (hL 11 (by decide)), hf.1 12 (hL 12 (by decide))]
  exact h3
theorem chooseTwins_ok {σ : St} {F : FF} {Q : Nat → Nat} (hF : FbOk F) (hQ : QOk Q) (h : CSt σ F Q) {R : Nat} : ∃ σ', f_X1_chooseTwins (hvQ Q F R) σ = some σ' ∧ FmZ [18] [] σ σ' ∧ ∀ g, 1 ≤ g → g < 4 → σ'.1 18 g = if pBq (RchQ Q F R (fun c => F 3 c == g)) then nI 1 else nI 0 := by
  have hm : ∃ y, loopN (f_X1_chooseTwins_L2 (hvQ Q F R)) 4096 (nI 1, σ) = some y ∧ FmZ [18] [] σ y ∧ ∀ g, 1 ≤ g → g < 4 → y.1 18 g = if pBq (RchQ Q F R (fun c => F 3 c == g)) then nI 1 else nI 0 := by
    refine loop_for (Inv := fun i v => v.1 = nI (1 + i) ∧ FmZ [18] [] σ v.2 ∧ ∀ g, 1 ≤ g → g < 1 + i → v.2.1 18 g = if pBq (RchQ Q F R (fun c => F 3 c == g)) then nI 1 else nI 0) 3 ?_ ?_ (by decide) ⟨rfl, FmZ.rfl', fun g a b => by omega⟩
    · rintro i ⟨b, st⟩ hi ⟨q1, q2, q3⟩
      dsimp only at q1 q2 q3
      subst q1
      have hS : CSt st F Q := h.fm q2 (by decide) (by decide) (by decide) (by decide) (by decide) (by decide)
      obtain ⟨r, er, hr⟩ := wantedTwin_ok (σ := st) (R := R) hF hQ hS (g := 1 + i) (by omega)
      obtain ⟨r2, er2, hr2⟩ := twinsMay_ok hF hQ hS.1 hS.2.1 hS.2.2 (g := 1 + i) (by omega) (by omega) r
      have fin : ∀ x : Int32, x = (if pBq (RchQ Q F R (fun c => F 3 c == 1 + i)) then nI 1 else nI 0) → ∃ v', f_X1_chooseTwins_J38 (hvQ Q F R) (nI (1 + i)) x (nI (1 + i)) st = some (.inr v') ∧ v'.1 = nI (1 + (i + 1)) ∧ FmZ [18] [] σ v'.2 ∧ ∀ g, 1 ≤ g → g < 1 + (i + 1) → v'.2.1 18 g = if pBq (RchQ Q F R (fun c => F 3 c == g)) then nI 1 else nI 0 := by
        intro x hx
        have hn : vp_nar .boolean x = x := by
          rw [hx]
          split <;> decide
        rw [e_X1_chooseTwins_J38, gd_nI (by omega) (by decide), hn]
        refine ⟨_, rfl, by rw [nI_add]; rfl, FmZ.sA q2 (by decide) _ _, fun g g1 g2 => ?_⟩
        show (sA st 18 (nI (1 + i)) x).1 18 g = _
        rw [sA_at _ _ (by omega)]
        unfold upd
        by_cases z : g = 1 + i
        · rw [if_pos z, hx, z]
        · rw [if_neg z]; exact q3 g g1 (by omega)
      rw [e_X1_chooseTwins_L2, if_neg (nI_ge (by omega) (by decide)), bnd_of er, e_X1_chooseTwins_J37]
      rcases hr with ⟨rfl, hr⟩ | ⟨d, hd, rfl, hr1, hr3⟩
      · rw [if_pos rfl]
        refine fin (nI 0) ?_
        rw [pBq_f, bF]
        rintro ⟨-, d, hd, z1, z2⟩
        have := hr d hd (by simpa using z1)
        rw [this] at z2
        cases z2
      · rw [if_neg (m1_ne (by omega)), bnd_of er2]
        rcases hr2 with ⟨rfl, hr2⟩ | ⟨rfl, hr2⟩
        · rw [if_neg (by decide)]
          refine fin (nI 1) ?_
          rw [pBq_t ⟨hr2, d, hd, by simpa using hr1, hr3⟩, bT]
        · rw [if_pos rfl]
          refine fin (nI 0) ?_
          rw [pBq_f (fun z => hr2 z.1), bF]
    · rintro ⟨b, st⟩ ⟨q1, q2, q3⟩
      dsimp only at q1 q2 q3
      subst q1
      exact ⟨st, by rw [e_X1_chooseTwins_L2, if_pos (by decide)], q2, q3⟩
  obtain ⟨y, e, h⟩ := hm
  exact ⟨y, by rw [e_X1_chooseTwins, e_X1_chooseTwins_J2, bnd_of e], h⟩
theorem isChosen_ok {σ : St} {F : FF} {Q : Nat → Nat} (hF : FbOk F) (hQ : QOk Q) (h : CSt σ F Q) {R : Nat} (h18 : ∀ g, 1 ≤ g → g < 4 → σ.1 18 g = if pBq (RchQ Q F R (fun c => F 3 c == g)) then nI 1 else nI 0) {c : Nat} (hc : c < 80) : f_X1_isChosen (nI c) (hvQ Q F R) σ = some (if pBq (RchQ Q F R (famB F c)) then nI 1 else nI 0) := by
  have b3 := (hF c hc).2.2.2.1
  rw [e_X1_isChosen, gd_nI hc (by decide), rd_nI _ 3 (by omega), h.1.2.2.2.1 c hc]
  by_cases q : F 3 c = 0
  · obtain ⟨r, er, hr⟩ := loneMay_ok hF hQ h.1 h.2.1 h.2.2 hc
    rw [if_pos (by rw [q]), bnd_of (isWanted_ok hQ h hc), e_X1_isChosen_J35]
    cases hw : wantQ Q F R c
    · rw [bF, if_pos rfl, pBq_f, bF]
      rintro ⟨-, d, hd, z1, z2⟩
      rw [fam_lone q d hd] at z1
      rw [show d = c from by simpa using z1, hw] at z2
      cases z2
    · rw [bT, if_neg (by decide), bnd_of er]
      rcases hr with ⟨rfl, hr⟩ | ⟨rfl, hr⟩
      · rw [if_neg (by decide), pBq_t, bT]
        exact ⟨hr.congr (fun x hx => (fam_lone q x hx).symm), c, hc, fam_self, hw⟩
      · rw [if_pos rfl, pBq_f, bF]
        exact fun z => hr (z.1.congr (fam_lone q))
  · have e : pBq (RchQ Q F R (fun x => F 3 x == F 3 c)) = pBq (RchQ Q F R (famB F c)) := pBq_iff ⟨fun z => z.congr (fun x hx => (fam_tw rfl q x hx).symm), fun z => z.congr (fam_tw rfl q)⟩
    rw [if_neg (neq_f (b := 0) q (by omega) (by decide) rfl rfl), gd_nI (by omega) (by decide), rd_nI _ 18 (by omega), h18 (F 3 c) (by omega) (by omega), e]
    cases pBq (RchQ Q F R (famB F c))
    · rw [bF]; exact gb_0
    · rw [bT]; exact gb_1
theorem gainOfAll_ok {σ : St} {F : FF} {x y : Int32} {p : Nat → Bool} (hg : ∀ n, 1 ≤ n → n < 4 → f_X3_gain x y (nI n) σ = some (nI (gnP F p n))) : f_X3_gainOfAll x y σ = some (nI (sumZ (fun j => gnP F p (1 + j)) 3)) := by
  rw [e_X3_gainOfAll, e_X3_gainOfAll_J5]
  have e : loopN (f_X3_gainOfAll_L5 x y σ) 4096 (nI 0, nI 1) = some (nI (sumZ (fun j => gnP F p (1 + j)) 3)) := by
    refine loopN_run (tr := fun i => (nI (sumZ (fun j => gnP F p (1 + j)) i), nI (1 + i))) 3 _ ?_ ?_ (by decide)
    · intro i hi
      rw [e_X3_gainOfAll_L5, if_neg (nI_ge (by omega) (by decide)), bnd_of (hg (1 + i) (by omega) (by omega)), nI_add, nI_add]
      rfl
    · rw [e_X3_gainOfAll_L5, if_pos (by decide)]
  rw [bnd_of e]
theorem rank_ok {σ : St} {F : FF} {Q : Nat → Nat} (hF : FbOk F) (h : CSt σ F Q) {R c : Nat} (hR : R ≤ 4) (hc : c < 80) : f_X1_rank (nI R) (nI c) σ = some (keyQ Q F R c) := by
  have b3 := (hF c hc).2.2.2.1
  rw [e_X1_rank]
  unfold keyQ
  by_cases r1 : R = 1
  · rw [if_pos (by rw [r1]), if_pos r1, bnd_of (sumOf_eq h.1.1 h.1.2.2.2.2 hc)]
  · rw [if_neg (neq_f (b := 1) r1 (by omega) (by decide) rfl rfl), if_neg r1]
    by_cases r2 : R = 2
    · rw [if_pos (by rw [r2]), if_pos r2, gd_nI hc (by decide), rd_nI _ 6 (by omega), h.2.2.1.2.1 c hc]
    · rw [if_neg (neq_f (b := 2) r2 (by omega) (by decide) rfl rfl), if_neg r2]
      by_cases r3 : R = 3
      · rw [if_pos (by rw [r3]), if_pos r3, gd_nI hc (by decide), rd_nI _ 3 (by omega), h.1.2.2.2.1 c hc]
        by_cases q : F 3 c = 0
        · rw [q, bnd_of (gainOfAll_ok (F := F) (p := fun x => x == c) (fun n h1 h4 => gain_lone h.2.2.2.2 hc h1 h4))]
          exact congrArg some (congrArg nI (sumZ_congr fun j _ => (gnP_congr (fam_lone q) _).symm))
        · rw [bnd_of (gainOfAll_ok (F := F) (p := fun x => F 3 x == F 3 c) (fun n h1 h4 => gain_tw h.2.2.2.2 (nI c) (by omega) (by omega) h1 h4))]
          exact congrArg some (congrArg nI (sumZ_congr fun j _ => (gnP_congr (fam_tw rfl q) _).symm))
      · rw [if_neg (neq_f (b := 3) r3 (by omega) (by decide) rfl rfl), if_neg r3]
theorem choice_ok {σ : St} {F : FF} {Q : Nat → Nat} (hF : FbOk F) (hQ : QOk Q) (h : CSt σ F Q) {R : Nat} (hR : R ≤ 4) : ∃ σ', f_X1_choice (nI R) σ = some (cellI (nxQ Q F R), σ') ∧ FmZ [18] [] σ σ' := by
  have main : (∀ c, chQ Q F R c = pBq (RchQ Q F R (famB F c))) → ∃ σ', f_X1_choice_J28 (nI R) (hvQ Q F R) σ = some (cellI (nxQ Q F R), σ') ∧ FmZ [18] [] σ σ' := by
    intro hB
    obtain ⟨st, e, hf, h18⟩ := chooseTwins_ok (R := R) hF hQ h
    have hS : CSt st F Q := h.fm hf (by decide) (by decide) (by decide) (by decide) (by decide) (by decide)
    refine ⟨st, ?_, hf⟩
    have el : loopN (f_X1_choice_L41 (nI R) (hvQ Q F R) st) 4096 (-nI 1, nI 0, nI 0) = some (cellI (nxQ Q F R)) := by
      refine loopN_run (tr := fun i => (cellI (selQ (chQ Q F R) (keyQ Q F R) i).1, (selQ (chQ Q F R) (keyQ Q F R) i).2, nI i)) 80 _ ?_ ?_ (by decide)
      · intro i hi
        rw [e_X1_choice_L41, if_neg (nI_ge hi (by decide)), bnd_of (isChosen_ok hF hQ hS h18 hi), ← hB i, selQ_succ, bnd_of (rank_ok hF hS hR hi), e_X1_choice_J79, nI_add]
        cases hb : chQ Q F R i
        · rw [bF, if_pos rfl, Bool.false_and, bF]
        · rw [bT, if_neg (by decide), Bool.true_and]
          rcases selQ_in (B := chQ Q F R) (key := keyQ Q F R) i with z | ⟨z1, z2⟩
          · rw [z, cellI_n, if_pos rfl, decide_eq_true rfl, Bool.true_or, bT, cellI_y hi]
          · rw [if_neg (cellI_ne (by omega)), decide_eq_false (by omega : ¬ (selQ (chQ Q F R) (keyQ Q F R) i).1 = 80), Bool.false_or]
            by_cases z3 : (selQ (chQ Q F R) (keyQ Q F R) i).2 ≤ keyQ Q F R i
            · rw [if_pos z3, decide_eq_true z3]
              rfl
            · rw [if_neg z3, decide_eq_false z3]
              show _ = some (Sum.inr (cellI i, keyQ Q F R i, nI (i + 1)))
              rw [cellI_y hi]
      · rw [e_X1_choice_L41, if_pos (nI_le (Nat.le_refl 80) (by decide))]
        rfl
    rw [e_X1_choice_J28, bnd_of e, e_X1_choice_J41, bnd_of el]
  rw [e_X1_choice]
  by_cases q : R = 4
  · have hh := home_lt (F := F) hQ
    obtain ⟨-, -, -, -, q2, q3, -⟩ := id hQ
    have hs : ∀ a, wsum Q (cellSum F) a < 2 ^ 30 := fun a => wsum_l30 hF a
    have ev : hvQ Q F R = nI (homeQ Q F) := if_pos q
    have et : f_X5_isThin (nI (homeQ Q F)) σ = some (if anyQ Q F then nI 1 else nI 0) := isThin_eq hh (h.2.2.1.1 _ hh) h.2.1.2.2.2.1 q2 (hs _)
    have ea : f_X5_atLeast σ = some (nI (homeQ Q F)) := atLeast_eq h.2.2.1.1 (lies0 hQ) hs
    rw [if_pos (by rw [q]), bnd_of ea, bnd_of et]
    cases ha : anyQ Q F
    · rw [bF, if_pos rfl]
      refine ⟨σ, ?_, FmZ.rfl'⟩
      have : nxQ Q F R = 80 := by
        unfold nxQ
        rw [selQ_no (fun i => by unfold chQ; rw [ha, Bool.false_and]) 80]
      rw [this, cellI_n]
    · rw [bT, if_neg (by decide), ← ev]
      exact main (fun c => chQ_any ha c)
  · have ev : hvQ Q F R = -nI 1 := if_neg q
    rw [if_neg (neq_f (b := 4) q (by omega) (by decide) rfl rfl), ← ev]
    exact main (fun c => chQ_ne4 hQ q c)
