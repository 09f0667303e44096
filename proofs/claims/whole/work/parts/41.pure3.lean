/-! ===== PURE 3: the field as numbers; windows; what the two states hold ===== -/
/-- a field: SHAPES (0), SHUT (1), NET (2), TWINS (3), FILL (4) of the cells -/
abbrev FF : Type := Nat → Nat → Nat
def FfOk (F : FF) : Prop := (∀ c, c < 80 → F 0 c ≤ 9 ∧ F 1 c ≤ 1 ∧ F 2 c ≤ 3 ∧ F 3 c ≤ 3 ∧ F 4 c ≤ 9) ∧ ∀ c d, c < 80 → d < 80 → F 3 c = F 3 d → F 3 c ≠ 0 → F 4 c = F 4 d
/-- the settings: H, W, LOW, HIGH, three LIMITS, THE RULE -/
def QOk (Q : Nat → Nat) : Prop := 1 ≤ Q 0 ∧ Q 0 ≤ 8 ∧ 1 ≤ Q 1 ∧ Q 1 ≤ 10 ∧ Q 2 ≤ 720 ∧ Q 3 ≤ 720 ∧ Q 4 ≤ 99 ∧ Q 5 ≤ 99 ∧ Q 6 ≤ 99 ∧ Q 7 ≤ 4
def lies (Q : Nat → Nat) (a : Nat) : Bool := decide (a / 10 + Q 0 ≤ 8) && decide (a % 10 + Q 1 ≤ 10)
def inW (Q : Nat → Nat) (a c : Nat) : Bool := (decide (a / 10 ≤ c / 10) && decide (c / 10 < a / 10 + Q 0)) && (decide (a % 10 ≤ c % 10) && decide (c % 10 < a % 10 + Q 1))
/-- the sum of a window, cell by cell of the field -/
def wsum (Q : Nat → Nat) (g : Nat → Nat) (a : Nat) : Nat := sumZ (fun c => if inW Q a c then g c else 0) 80
def cellSum (F : FF) (c : Nat) : Nat := F 0 c + F 4 c
/-- what a row of sums holds: of a window its sum, elsewhere NONE -/
def smOf (Q : Nat → Nat) (s : Nat → Nat) (a : Nat) : Int32 := if lies Q a then nI (s a) else -nI 1
def thinB (Q : Nat → Nat) (s : Nat → Nat) (a : Nat) : Bool := lies Q a && decide (s a < Q 2)
def fullB (Q : Nat → Nat) (s : Nat → Nat) (a : Nat) : Bool := lies Q a && decide (Q 3 ≤ s a)
def thinOver (Q : Nat → Nat) (s : Nat → Nat) (c : Nat) : Nat := cntZ (fun a => thinB Q s a && inW Q a c) 80
def fullOver (Q : Nat → Nat) (s : Nat → Nat) (c : Nat) : Nat := cntZ (fun a => fullB Q s a && inW Q a c) 80
def sharesOf (Q : Nat → Nat) (F : FF) (g a : Nat) : Nat := if lies Q a then cntZ (fun c => inW Q a c && (F 3 c == g)) 80 else 0
/-- a cell lies beside one of a net -/
def beside (F : FF) (n c : Nat) : Bool := (decide (10 ≤ c) && (F 2 (c - 10) == n)) || (decide (c + 10 < 80) && (F 2 (c + 10) == n)) || (decide (0 < c % 10) && (F 2 (c - 1) == n)) || (decide (c % 10 + 1 < 10) && (F 2 (c + 1) == n))
def bor (F : FF) (n c : Nat) : Bool := !(F 2 c == n) && beside F n c
def burdenOf (F : FF) (n : Nat) : Nat := sumZ (fun c => if bor F n c then F 4 c else 0) 80
def twinsBor (F : FF) (g n : Nat) : Nat := cntZ (fun c => (F 3 c == g) && bor F n c) 80
def bitsN (F : FF) (c : Nat) : Nat := (if bor F 1 c then 2 else 0) + (if bor F 2 c then 4 else 0) + (if bor F 3 c then 8 else 0)
/-- the class's field and settings -/
def CF (σ : St) (F : FF) : Prop := (∀ c, c < 80 → σ.1 0 c = nI (F 0 c)) ∧ (∀ c, c < 80 → σ.1 1 c = nI (F 1 c)) ∧ (∀ c, c < 80 → σ.1 2 c = nI (F 2 c)) ∧ (∀ c, c < 80 → σ.1 3 c = nI (F 3 c)) ∧ ∀ c, c < 80 → σ.1 4 c = nI (F 4 c)
def CQ (σ : St) (Q : Nat → Nat) : Prop := (∀ k, k < 8 → σ.1 17 k = nI (Q k)) ∧ σ.2 6 = nI (Q 0) ∧ σ.2 7 = nI (Q 1) ∧ σ.2 8 = nI (Q 2) ∧ σ.2 9 = nI (Q 3) ∧ ∀ n, 1 ≤ n → n < 4 → σ.1 9 n = nI (Q (3 + n))
/-- what the class holds of windows, for sums s -/
def CW (σ : St) (Q : Nat → Nat) (s : Nat → Nat) : Prop := (∀ a, a < 80 → σ.1 5 a = smOf Q s a) ∧ (∀ c, c < 80 → σ.1 6 c = nI (thinOver Q s c)) ∧ ∀ c, c < 80 → σ.1 7 c = nI (fullOver Q s c)
def CSh (σ : St) (Q : Nat → Nat) (F : FF) : Prop := ∀ g a, 1 ≤ g → g < 4 → a < 80 → σ.1 8 (80 * g + a) = nI (sharesOf Q F g a)
/-- what the class holds of nets -/
def CNz (σ : St) (F : FF) (b : Nat → Nat) : Prop := (∀ n, 1 ≤ n → n < 4 → σ.1 10 n = nI (b n)) ∧ (∀ c, c < 80 → σ.1 11 c = nI (bitsN F c)) ∧ ∀ g n, g < 4 → 1 ≤ n → n < 4 → σ.1 12 (4 * g + n) = nI (twinsBor F g n)
def CDz (σ : St) (Q : Nat → Nat) (F : FF) : Prop := CW σ Q (wsum Q (cellSum F)) ∧ CSh σ Q F ∧ CNz σ F (burdenOf F)
/-- the reference's field and settings -/
def MFd (μ : St) (F : FF) : Prop := (∀ c, c < 80 → μ.1 0 c = nI (F 0 c)) ∧ (∀ c, c < 80 → μ.1 0 (80 + c) = nI (F 1 c)) ∧ (∀ c, c < 80 → μ.1 0 (160 + c) = nI (F 2 c)) ∧ (∀ c, c < 80 → μ.1 0 (240 + c) = nI (F 3 c)) ∧ ∀ c, c < 80 → μ.1 0 (320 + c) = nI (F 4 c)
def MQs (μ : St) (Q : Nat → Nat) : Prop := ∀ k, k < 8 → μ.1 3 k = nI (Q k)
/-- how often refused; the text; what can be undone -/
def Cts (σ μ : St) : Prop := σ.2 10 = μ.1 4 0 ∧ σ.2 11 = μ.1 4 1 ∧ σ.2 12 = μ.1 4 2
def Txz (σ μ : St) (n : Nat) : Prop := n ≤ 120 ∧ σ.2 5 = nI n ∧ μ.2 1 = nI n ∧ ∀ i, i < n → σ.1 16 i = μ.1 5 i
def packZ (F : FF) (c : Nat) : Nat := F 0 c + 16 * F 4 c + 256 * F 1 c + 512 * F 2 c + 2048 * F 3 c
def Hst (σ μ : St) (n o : Nat) (P : Nat → FF) : Prop := n ≤ 8 ∧ o < 9 ∧ σ.2 3 = nI n ∧ μ.2 0 = nI n ∧ σ.2 4 = nI o ∧ (∀ a, a < n → FfOk (P a)) ∧ (∀ a k c, a < n → k < 5 → c < 80 → μ.1 1 (400 * a + 80 * k + c) = nI (P a k c)) ∧ ∀ a c, a < n → c < 80 → σ.1 15 (80 * ((o + a) % 9) + c) = nI (packZ (P a) c)
/-- THE TIE between the class and the reference -/
def TieZ (σ μ : St) : Prop := ∃ (F : FF) (Q : Nat → Nat) (n t o : Nat) (P : Nat → FF), FfOk F ∧ QOk Q ∧ CF σ F ∧ CQ σ Q ∧ CDz σ Q F ∧ MFd μ F ∧ MQs μ Q ∧ Cts σ μ ∧ Txz σ μ t ∧ Hst σ μ n o P
/-! a refusal: only how often changes, on both sides alike -/
theorem ref_ok {σ μ : St} (h : TieZ σ μ) (x : Int32) (hx : x = -2 ∨ x = -3 ∨ x = -4) : ∃ σ' μ', f_X6_refuse x σ = some (x, σ') ∧ f_X7_refuses x μ = some (x, μ') ∧ TieZ σ' μ' := by
  obtain ⟨F, Q, n, t, o, P, h1, h2, h3, h4, h5, h6, h7, ⟨h8a, h8b, h8c⟩, h9, h10⟩ := h
  rcases hx with rfl | rfl | rfl
  · refine ⟨sI σ 10 (gI σ 10 + 1), sA μ 4 ((-2) - (-2)) (rd μ 4 ((-2) - (-2)) + 1), ?_, ?_, F, Q, n, t, o, P, h1, h2, h3, h4, h5, h6, h7, ⟨?_, h8b, h8c⟩, h9, h10⟩
    · unfold f_X6_refuse; rw [if_pos rfl]
    · unfold f_X7_refuses; rw [gd_in (by unfold vp_in; decide), gd_in (by unfold vp_in; decide)]
    · show σ.2 10 + 1 = μ.1 4 0 + 1
      rw [h8a]
  · refine ⟨sI σ 11 (gI σ 11 + 1), sA μ 4 ((-2) - (-3)) (rd μ 4 ((-2) - (-3)) + 1), ?_, ?_, F, Q, n, t, o, P, h1, h2, h3, h4, h5, h6, h7, ⟨h8a, ?_, h8c⟩, h9, h10⟩
    · unfold f_X6_refuse; rw [if_neg (by decide), if_pos rfl]
    · unfold f_X7_refuses; rw [gd_in (by unfold vp_in; decide), gd_in (by unfold vp_in; decide)]
    · show σ.2 11 + 1 = μ.1 4 1 + 1
      rw [h8b]
  · refine ⟨sI σ 12 (gI σ 12 + 1), sA μ 4 ((-2) - (-4)) (rd μ 4 ((-2) - (-4)) + 1), ?_, ?_, F, Q, n, t, o, P, h1, h2, h3, h4, h5, h6, h7, ⟨h8a, h8b, ?_⟩, h9, h10⟩
    · unfold f_X6_refuse; rw [if_neg (by decide), if_neg (by decide)]
    · unfold f_X7_refuses; rw [gd_in (by unfold vp_in; decide), gd_in (by unfold vp_in; decide)]
    · show σ.2 12 + 1 = μ.1 4 2 + 1
      rw [h8c]
/-- .. as the calls write it -/
theorem ref_bnd {σ μ : St} (h : TieZ σ μ) (x : Int32) (hx : x = -2 ∨ x = -3 ∨ x = -4) : ∃ r σ' μ', bnd (f_X6_refuse x σ) (fun q => some (q.1, q.2)) = some (r, σ') ∧ bnd (f_X7_refuses x μ) (fun q => some (q.1, q.2)) = some (r, μ') ∧ TieZ σ' μ' := by
  obtain ⟨σ', μ', e1, e2, h'⟩ := ref_ok h x hx
  exact ⟨x, σ', μ', by rw [e1]; rfl, by rw [e2]; rfl, h'⟩
