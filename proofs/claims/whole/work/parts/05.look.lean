/-! Y's search over all cuts, as pure steps -/
def wl_YL (f : Nat → Option Nat) (i : Nat) (best many chosen : Int32) : Prop :=
  (best = -1 ∧ many = 0 ∧ chosen = 0 ∧ ∀ d, d < i → f d = none) ∨ (∃ B W C, best = nI B ∧ many = nI W ∧ chosen = nI C ∧ wl_Sm f 0 i B W C)
theorem wl_YL0 (f : Nat → Option Nat) : wl_YL f 0 (-1) 0 0 := Or.inl ⟨rfl, rfl, rfl, fun d hd => absurd hd (Nat.not_lt_zero d)⟩
theorem wl_YL_n {f : Nat → Option Nat} {i : Nat} {best many chosen : Int32} (h : wl_YL f i best many chosen) (e : f i = none) : wl_YL f (i + 1) best many chosen := by
  rcases h with ⟨h1, h2, h3, h4⟩ | ⟨B, W, C, h1, h2, h3, h4⟩
  · refine Or.inl ⟨h1, h2, h3, fun d hd => ?_⟩
    by_cases z : d < i
    · exact h4 d z
    · rw [show d = i by omega]; exact e
  · refine Or.inr ⟨B, W, C, h1, h2, h3, wl_Sm_none2 h4 (fun d a b => ?_)⟩
    rw [show d = i by omega]; exact e
theorem wl_YL_first {f : Nat → Option Nat} {i x : Nat} (h : ∀ d, d < i → f d = none) (e : f i = some x) : wl_YL f (i + 1) (nI x) (nI 1) (nI i) := by
  refine Or.inr ⟨x, 1, i, rfl, rfl, rfl, ?_⟩
  refine wl_Sm_none (lo := 0) ?_ (fun d _ hd => h d (by omega))
  rw [Nat.zero_add]
  exact wl_Sm_one e
theorem wl_YL_less {f : Nat → Option Nat} {i x B W C : Nat} (h : wl_Sm f 0 i B W C) (e : f i = some x) (hx : x < B) : wl_YL f (i + 1) (nI x) (nI 1) (nI i) := by
  refine Or.inr ⟨x, 1, i, rfl, rfl, rfl, ?_⟩
  refine wl_Sm_gt (lo := 0) ?_ h hx
  rw [Nat.zero_add]
  exact wl_Sm_one e
theorem wl_YL_same {f : Nat → Option Nat} {i x W C : Nat} (h : wl_Sm f 0 i x W C) (e : f i = some x) : wl_YL f (i + 1) (nI x) (nI (W + 1)) (nI C) := by
  refine Or.inr ⟨x, W + 1, C, rfl, rfl, rfl, ?_⟩
  refine wl_Sm_eq2 (lo := 0) h (C' := i) ?_
  rw [Nat.zero_add]
  exact wl_Sm_one e
theorem wl_YL_more {f : Nat → Option Nat} {i x B W C : Nat} (h : wl_Sm f 0 i B W C) (e : f i = some x) (hx : B < x) : wl_YL f (i + 1) (nI B) (nI W) (nI C) := by
  refine Or.inr ⟨B, W, C, rfl, rfl, rfl, ?_⟩
  refine wl_Sm_lt (lo := 0) (W := 1) (C := i) (B := x) ?_ h hx
  rw [Nat.zero_add]
  exact wl_Sm_one e
theorem wl_YL_end {f : Nat → Option Nat} {i B W C : Nat} {best many chosen : Int32} (h : wl_YL f i best many chosen) (hS : wl_Sm f 0 i B W C) : best = nI B ∧ many = nI W ∧ chosen = nI C := by
  rcases h with ⟨h1, h2, h3, h4⟩ | ⟨B', W', C', h1, h2, h3, h4⟩
  · have e := h4 C (by have := hS.2.2.1; omega)
    rw [hS.1] at e
    exact absurd e (by simp)
  · obtain ⟨e1, e2, e3⟩ := wl_Sm_uniq h4 hS
    rw [h1, h2, h3, e1, e2, e3]
    exact ⟨rfl, rfl, rfl⟩
theorem wl_Sm_W {f : Nat → Option Nat} {lo m B W C : Nat} (h : wl_Sm f lo m B W C) : W ≤ m := by
  rw [h.2.2.2.2.2]
  exact wl_cn_le f B lo m
/-- X's tables when the text is cut -/
def wl_Tab (n : Nat) (pc : Nat → Nat → Option (Nat × Nat)) (lk : Nat → Nat) (RC RW CE CK : Nat → Nat) : Prop := ∀ p b, p ≤ n → b < 5 → wl_Dn n pc lk p b RC RW CE CK
/-- a border of the cut d -/
def wl_bo (n d z : Nat) : Prop := z = 0 ∨ z = n ∨ d.testBit (n - 1 - z) = true
/-- the chosen cut C0 goes on behind p as the cut c -/
def wl_Go (n p C0 c : Nat) : Prop := ∀ i, i + 1 < n - p → C0.testBit i = c.testBit i
theorem wl_Go_next {n p e C0 c c' : Nat} (hp : p < e) (he : e ≤ n) (hc : c' < wl_hi n e) (e1 : c = wl_lo n e + c') (h : wl_Go n p C0 c) : wl_Go n e C0 c' ∧ wl_bo n C0 e ∧ ∀ z, p < z → z < e → ¬ wl_bo n C0 z := by
  obtain ⟨q, rfl⟩ : ∃ q, e = q + 1 := ⟨e - 1, by omega⟩
  obtain ⟨h1, h2, h3⟩ := wl_bits he hc
  rw [← e1] at h1 h2 h3
  refine ⟨fun i hi => ?_, ?_, fun z hz1 hz2 hb => ?_⟩
  · rw [h i (by omega)]
    exact h3 i hi
  · rcases h2 with h2 | h2
    · exact Or.inr (Or.inl (by omega))
    · by_cases hn : q + 1 = n
      · exact Or.inr (Or.inl hn)
      · refine Or.inr (Or.inr ?_)
        rw [h _ (by omega), show n - 1 - (q + 1) = n - (q + 1) - 1 by omega]
        exact h2
  · rcases hb with hb | hb | hb
    · omega
    · omega
    · rw [h _ (by omega)] at hb
      have h4 : 2 ^ (n - q - 1) ≤ 2 ^ (n - 1 - z) := Nat.pow_le_pow_right (by decide) (by omega)
      rw [Nat.testBit_lt_two_pow (by omega)] at hb
      exact absurd hb (by decide)
