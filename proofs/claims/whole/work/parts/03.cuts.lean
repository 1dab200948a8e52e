/-! the cost of a cut, read as Y reads it: r places are left, the piece began at fr, b stood before it, d holds the borders as bits -/
def wl_G (n : Nat) (pc : Nat → Nat → Option (Nat × Nat)) (lk : Nat → Nat) : Nat → Nat → Nat → Nat → Option Nat
  | 0, _, _, _ => some 0
  | r + 1, fr, b, d =>
    if r = 0 ∨ d.testBit (r - 1) = true then
      match pc fr (n - r) with
      | none => none
      | some ck => (wl_G n pc lk r (n - r) ck.2 d).map (fun x => lk (4 * b + ck.2) + ck.1 + x)
    else wl_G n pc lk r fr b d
def wl_hi (n p : Nat) : Nat := 2 ^ (n - 1 - p)
def wl_lo (n q : Nat) : Nat := if q < n then 2 ^ (n - 1 - q) else 0
theorem wl_lo_lt {n q : Nat} (h : q < n) : wl_lo n q = wl_hi n q := if_pos h
theorem wl_lo_n (n : Nat) : wl_lo n n = 0 := if_neg (Nat.lt_irrefl n)
theorem wl_hi_n (n : Nat) : wl_hi n n = 1 := by
  unfold wl_hi
  rw [show n - 1 - n = 0 by omega]
theorem wl_hi_pos (n p : Nat) : 0 < wl_hi n p := Nat.two_pow_pos _
theorem wl_lo_step {n q : Nat} (h : q < n) : wl_lo n q = wl_lo n (q + 1) + wl_hi n (q + 1) := by
  by_cases h1 : q + 1 < n
  · rw [wl_lo_lt h, wl_lo_lt h1]
    unfold wl_hi
    rw [show n - 1 - q = (n - 1 - (q + 1)) + 1 by omega, Nat.pow_succ]
    omega
  · have e : q + 1 = n := by omega
    rw [e, wl_lo_n, wl_hi_n, wl_lo_lt h]
    unfold wl_hi
    rw [show n - 1 - q = 0 by omega]
theorem wl_hi_le (n p : Nat) : wl_hi n p ≤ 2 ^ (n - 1) := Nat.pow_le_pow_right (by decide) (by omega)
theorem wl_hi_2048 {n : Nat} (h : n ≤ 12) (p : Nat) : wl_hi n p ≤ 2048 := by
  have h1 := wl_hi_le n p
  have h2 : 2 ^ (n - 1) ≤ 2 ^ 11 := Nat.pow_le_pow_right (by decide) (by omega)
  have h3 : 2 ^ 11 = 2048 := by decide
  omega
section
variable {n : Nat} {pc : Nat → Nat → Option (Nat × Nat)} {lk : Nat → Nat}
theorem wl_G_0 (fr b d : Nat) : wl_G n pc lk 0 fr b d = some 0 := rfl
theorem wl_G_b {r fr b d c k : Nat} (hb : r = 0 ∨ d.testBit (r - 1) = true) (e : pc fr (n - r) = some (c, k)) : wl_G n pc lk (r + 1) fr b d = (wl_G n pc lk r (n - r) k d).map (fun x => lk (4 * b + k) + c + x) := by
  rw [wl_G, if_pos hb, e]
theorem wl_G_bn {r fr b d : Nat} (hb : r = 0 ∨ d.testBit (r - 1) = true) (e : pc fr (n - r) = none) : wl_G n pc lk (r + 1) fr b d = none := by
  rw [wl_G, if_pos hb, e]
theorem wl_G_n {r fr b d : Nat} (hb : ¬ (r = 0 ∨ d.testBit (r - 1) = true)) : wl_G n pc lk (r + 1) fr b d = wl_G n pc lk r fr b d := by
  rw [wl_G, if_neg hb]
theorem wl_G_mod : ∀ r fr b d d' : Nat, (∀ i, i + 1 < r → d.testBit i = d'.testBit i) → wl_G n pc lk r fr b d = wl_G n pc lk r fr b d' := by
  intro r
  induction r with
  | zero => intro fr b d d' _; rfl
  | succ r ih =>
    intro fr b d d' h
    have q : (r = 0 ∨ d.testBit (r - 1) = true) ↔ (r = 0 ∨ d'.testBit (r - 1) = true) := by
      by_cases r0 : r = 0
      · exact ⟨fun _ => Or.inl r0, fun _ => Or.inl r0⟩
      · rw [h (r - 1) (by omega)]
    by_cases hb : r = 0 ∨ d.testBit (r - 1) = true
    · cases e : pc fr (n - r) with
      | none => rw [wl_G_bn hb e, wl_G_bn (q.mp hb) e]
      | some ck => rw [wl_G_b hb e, wl_G_b (q.mp hb) e, ih _ _ d d' (fun i hi => h i (by omega))]
    · rw [wl_G_n hb, wl_G_n (fun z => hb (q.mpr z)), ih _ _ d d' (fun i hi => h i (by omega))]
theorem wl_G_bd (hlk : ∀ j, lk j ≤ 99) (hpc : ∀ p q c k, pc p q = some (c, k) → c ≤ 99) : ∀ r fr b d x : Nat, wl_G n pc lk r fr b d = some x → x ≤ 198 * r := by
  intro r
  induction r with
  | zero =>
    intro fr b d x h
    rw [wl_G_0] at h
    have : 0 = x := by simpa using h
    omega
  | succ r ih =>
    intro fr b d x h
    by_cases hb : r = 0 ∨ d.testBit (r - 1) = true
    · cases e : pc fr (n - r) with
      | none => rw [wl_G_bn hb e] at h; exact absurd h (by simp)
      | some ck =>
        obtain ⟨c, k⟩ := ck
        rw [wl_G_b hb e] at h
        cases z : wl_G n pc lk r (n - r) k d with
        | none => rw [z] at h; simp at h
        | some y =>
          rw [z] at h
          have h1 := ih _ _ _ _ z
          have h2 := hlk (4 * b + k)
          have h3 := hpc _ _ _ _ e
          simp only [Option.map_some, Option.some.injEq] at h
          omega
    · rw [wl_G_n hb] at h
      have h1 := ih _ _ _ _ h
      omega
theorem wl_G_skip {r' fr b d : Nat} (hr : 1 ≤ r') (hd : d < 2 ^ (r' - 1)) : ∀ m, wl_G n pc lk (r' + m) fr b d = wl_G n pc lk r' fr b d := by
  intro m
  induction m with
  | zero => rfl
  | succ m ih =>
    rw [← ih]
    show wl_G n pc lk (r' + m + 1) fr b d = _
    refine wl_G_n (r := r' + m) ?_
    intro z
    rcases z with z | z
    · omega
    · have h1 : 2 ^ (r' - 1) ≤ 2 ^ (r' + m - 1) := Nat.pow_le_pow_right (by decide) (by omega)
      rw [Nat.testBit_lt_two_pow (by omega)] at z
      exact absurd z (by decide)
theorem wl_bits {q d : Nat} (hq : q + 1 ≤ n) (hd : d < wl_hi n (q + 1)) : wl_lo n (q + 1) + d < 2 ^ (n - q - 1) ∧ (n - (q + 1) = 0 ∨ (wl_lo n (q + 1) + d).testBit (n - (q + 1) - 1) = true) ∧ (∀ i, i + 1 < n - (q + 1) → (wl_lo n (q + 1) + d).testBit i = d.testBit i) := by
  refine ⟨?_, ?_, ?_⟩
  · have h1 := wl_lo_step (n := n) (q := q) (by omega)
    have h2 : wl_lo n q = 2 ^ (n - q - 1) := by
      rw [wl_lo_lt (by omega)]
      unfold wl_hi
      rw [show n - 1 - q = n - q - 1 by omega]
    omega
  · by_cases h1 : q + 1 < n
    · right
      rw [wl_lo_lt h1]
      unfold wl_hi at hd ⊢
      rw [show n - (q + 1) - 1 = n - 1 - (q + 1) by omega, Nat.testBit_two_pow_add_eq, Nat.testBit_lt_two_pow hd]
      rfl
    · left; omega
  · intro i hi
    rw [wl_lo_lt (by omega)]
    unfold wl_hi
    exact Nat.testBit_two_pow_add_gt (by omega) d
theorem wl_H_step {p q b c k d : Nat} (hpq : p ≤ q) (hq : q + 1 ≤ n) (hd : d < wl_hi n (q + 1)) (e : pc p (q + 1) = some (c, k)) : wl_G n pc lk (n - p) p b (wl_lo n (q + 1) + d) = (wl_G n pc lk (n - (q + 1)) (q + 1) k d).map (fun x => lk (4 * b + k) + c + x) := by
  obtain ⟨h1, h2, h3⟩ := wl_bits hq hd
  rw [show n - p = (n - q) + (q - p) by omega, wl_G_skip (by omega) h1, show n - q = (n - (q + 1)) + 1 by omega]
  rw [wl_G_b h2 (c := c) (k := k) (by rw [show n - (n - (q + 1)) = q + 1 by omega]; exact e), show n - (n - (q + 1)) = q + 1 by omega]
  rw [wl_G_mod _ _ _ _ d h3]
theorem wl_H_stepn {p q b d : Nat} (hpq : p ≤ q) (hq : q + 1 ≤ n) (hd : d < wl_hi n (q + 1)) (e : pc p (q + 1) = none) : wl_G n pc lk (n - p) p b (wl_lo n (q + 1) + d) = none := by
  obtain ⟨h1, h2, h3⟩ := wl_bits hq hd
  rw [show n - p = (n - q) + (q - p) by omega, wl_G_skip (by omega) h1, show n - q = (n - (q + 1)) + 1 by omega]
  rw [wl_G_bn h2 (by rw [show n - (n - (q + 1)) = q + 1 by omega]; exact e)]
theorem wl_G_far {p b d : Nat} : ∀ r, (∀ i, i ≤ r → pc p (n - i) = none) → wl_G n pc lk (r + 1) p b d = none := by
  intro r
  induction r with
  | zero => intro h; exact wl_G_bn (Or.inl rfl) (h 0 (by omega))
  | succ r ih =>
    intro h
    by_cases hb : r + 1 = 0 ∨ d.testBit (r + 1 - 1) = true
    · exact wl_G_bn hb (h (r + 1) (by omega))
    · rw [wl_G_n hb]
      exact ih (fun i hi => h i (by omega))
theorem wl_H_far {p q b d : Nat} (hpq : p ≤ q) (hq : q < n) (hd : d < wl_lo n q) (e : ∀ q', q < q' → pc p q' = none) : wl_G n pc lk (n - p) p b d = none := by
  have h1 : d < 2 ^ (n - q - 1) := by
    rw [wl_lo_lt hq] at hd
    unfold wl_hi at hd
    rw [show n - q - 1 = n - 1 - q by omega]
    exact hd
  rw [show n - p = (n - q) + (q - p) by omega, wl_G_skip (by omega) h1, show n - q = (n - (q + 1)) + 1 by omega]
  exact wl_G_far _ (fun i hi => e _ (by omega))
/-- what X holds for a state (p, b) when the pieces of length up to q - p have been offered: nothing yet, or the summary of the cuts whose first border is at most q -/
def wl_St (n : Nat) (pc : Nat → Nat → Option (Nat × Nat)) (lk : Nat → Nat) (p q b : Nat) (RC RW CE CK : Nat → Nat) : Prop :=
  (q = p → RC (5 * p + b) = 3000) ∧
  (p < q → ∃ m C c', wl_lo n q + m = wl_hi n p ∧ wl_Sm (wl_G n pc lk (n - p) p b) (wl_lo n q) m (RC (5 * p + b)) (RW (5 * p + b)) C ∧
    p < CE (5 * p + b) ∧ CE (5 * p + b) ≤ n ∧ CK (5 * p + b) < 4 ∧ C = wl_lo n (CE (5 * p + b)) + c' ∧
    wl_Sm (wl_G n pc lk (n - CE (5 * p + b)) (CE (5 * p + b)) (CK (5 * p + b))) 0 (wl_hi n (CE (5 * p + b))) (RC (5 * CE (5 * p + b) + CK (5 * p + b))) (RW (5 * CE (5 * p + b) + CK (5 * p + b))) c')
/-- what X holds for a state (p, b) whose place is done -/
def wl_Dn (n : Nat) (pc : Nat → Nat → Option (Nat × Nat)) (lk : Nat → Nat) (p b : Nat) (RC RW CE CK : Nat → Nat) : Prop :=
  ∃ C, wl_Sm (wl_G n pc lk (n - p) p b) 0 (wl_hi n p) (RC (5 * p + b)) (RW (5 * p + b)) C ∧
    (p < n → ∃ c', p < CE (5 * p + b) ∧ CE (5 * p + b) ≤ n ∧ CK (5 * p + b) < 4 ∧ C = wl_lo n (CE (5 * p + b)) + c' ∧
    wl_Sm (wl_G n pc lk (n - CE (5 * p + b)) (CE (5 * p + b)) (CK (5 * p + b))) 0 (wl_hi n (CE (5 * p + b))) (RC (5 * CE (5 * p + b) + CK (5 * p + b))) (RW (5 * CE (5 * p + b) + CK (5 * p + b))) c')
/-- the tables agree on the rows of the places above p -/
def wl_Ab (p : Nat) (F F' : Nat → Nat) : Prop := ∀ j, 5 * p + 5 ≤ j → F' j = F j
theorem wl_Dn_ab {p p' b : Nat} {RC RW CE CK RC' RW' CE' CK' : Nat → Nat} (h : wl_Dn n pc lk p' b RC RW CE CK) (hp : p < p') (h1 : wl_Ab p RC RC') (h2 : wl_Ab p RW RW') (h3 : wl_Ab p CE CE') (h4 : wl_Ab p CK CK') : wl_Dn n pc lk p' b RC' RW' CE' CK' := by
  obtain ⟨C, s, t⟩ := h
  refine ⟨C, ?_, fun hn => ?_⟩
  · rw [h1 _ (by omega), h2 _ (by omega)]; exact s
  · obtain ⟨c', t1, t2, t3, t4, t5⟩ := t hn
    refine ⟨c', ?_⟩
    rw [h3 (5 * p' + b) (by omega), h4 (5 * p' + b) (by omega), h1 _ (by omega), h2 _ (by omega)]
    exact ⟨t1, t2, t3, t4, t5⟩
theorem wl_Dn_n (b : Nat) {RC RW CE CK : Nat → Nat} (h1 : RC (5 * n + b) = 0) (h2 : RW (5 * n + b) = 1) : wl_Dn n pc lk n b RC RW CE CK := by
  refine ⟨0, ?_, fun z => absurd z (Nat.lt_irrefl n)⟩
  rw [h1, h2, wl_hi_n, Nat.sub_self]
  exact wl_Sm_one rfl
/-- one offer, of the piece (p, q + 1), at one state -/
def wl_Of (p e c k b : Nat) (lk : Nat → Nat) (RC RW CE CK RC' RW' CE' CK' : Nat → Nat) : Prop :=
  (RC (5 * p + b) < lk (4 * b + k) + c + RC (5 * e + k) → RC' (5 * p + b) = RC (5 * p + b) ∧ RW' (5 * p + b) = RW (5 * p + b) ∧ CE' (5 * p + b) = CE (5 * p + b) ∧ CK' (5 * p + b) = CK (5 * p + b)) ∧
  (¬ RC (5 * p + b) < lk (4 * b + k) + c + RC (5 * e + k) → RC' (5 * p + b) = lk (4 * b + k) + c + RC (5 * e + k) ∧ CE' (5 * p + b) = e ∧ CK' (5 * p + b) = k ∧
    RW' (5 * p + b) = if lk (4 * b + k) + c + RC (5 * e + k) < RC (5 * p + b) then RW (5 * e + k) else RW (5 * p + b) + RW (5 * e + k))
theorem wl_St_offer {p q b c k : Nat} {RC RW CE CK RC' RW' CE' CK' : Nat → Nat} (hn : n ≤ 12) (hlk : ∀ j, lk j ≤ 99) (hpc : ∀ p q c k, pc p q = some (c, k) → c ≤ 99 ∧ k < 4)
    (hpq : p ≤ q) (hq : q + 1 ≤ n) (e : pc p (q + 1) = some (c, k)) (hb : b < 5) (hS : wl_St n pc lk p q b RC RW CE CK) (hD : ∀ p' b', p < p' → p' ≤ n → b' < 5 → wl_Dn n pc lk p' b' RC RW CE CK)
    (h1 : wl_Ab p RC RC') (h2 : wl_Ab p RW RW') (hO : wl_Of p (q + 1) c k b lk RC RW CE CK RC' RW' CE' CK') : wl_St n pc lk p (q + 1) b RC' RW' CE' CK' := by
  refine ⟨fun z => by omega, fun _ => ?_⟩
  have hk := (hpc _ _ _ _ e).2
  obtain ⟨C1, s1, _⟩ := hD (q + 1) k (by omega) hq (by omega)
  have s2 : wl_Sm (wl_G n pc lk (n - p) p b) (wl_lo n (q + 1)) (wl_hi n (q + 1)) (lk (4 * b + k) + c + RC (5 * (q + 1) + k)) (RW (5 * (q + 1) + k)) (wl_lo n (q + 1) + C1) :=
    wl_Sm_shift s1 (fun d hd => wl_H_step hpq hq hd e)
  have hl := wl_lo_step (n := n) (q := q) (by omega)
  have hbd : lk (4 * b + k) + c + RC (5 * (q + 1) + k) ≤ 198 * (n - p) := wl_G_bd hlk (fun p q c k z => (hpc p q c k z).1) _ _ _ _ _ s2.1
  by_cases g : RC (5 * p + b) < lk (4 * b + k) + c + RC (5 * (q + 1) + k)
  · obtain ⟨o1, o2, o3, o4⟩ := hO.1 g
    have hpq2 : p < q := by
      have : q ≠ p := fun z => by have := hS.1 z; omega
      omega
    obtain ⟨m, C, c', t1, t2, t3, t4, t5, t6, t7⟩ := hS.2 hpq2
    refine ⟨wl_hi n (q + 1) + m, C, c', by omega, ?_, ?_⟩
    · rw [o1, o2]
      rw [hl] at t2
      exact wl_Sm_gt t2 s2 g
    · rw [o3, o4, h1 _ (by omega), h2 _ (by omega)]
      exact ⟨t3, t4, t5, t6, t7⟩
  · obtain ⟨o1, o3, o4, o2⟩ := hO.2 g
    have fin : ∀ m W, wl_lo n (q + 1) + m = wl_hi n p → wl_Sm (wl_G n pc lk (n - p) p b) (wl_lo n (q + 1)) m (lk (4 * b + k) + c + RC (5 * (q + 1) + k)) W (wl_lo n (q + 1) + C1) → RW' (5 * p + b) = W →
        ∃ m C c', wl_lo n (q + 1) + m = wl_hi n p ∧ wl_Sm (wl_G n pc lk (n - p) p b) (wl_lo n (q + 1)) m (RC' (5 * p + b)) (RW' (5 * p + b)) C ∧
          p < CE' (5 * p + b) ∧ CE' (5 * p + b) ≤ n ∧ CK' (5 * p + b) < 4 ∧ C = wl_lo n (CE' (5 * p + b)) + c' ∧
          wl_Sm (wl_G n pc lk (n - CE' (5 * p + b)) (CE' (5 * p + b)) (CK' (5 * p + b))) 0 (wl_hi n (CE' (5 * p + b))) (RC' (5 * CE' (5 * p + b) + CK' (5 * p + b))) (RW' (5 * CE' (5 * p + b) + CK' (5 * p + b))) c' := by
      intro m W e1 e2 e3
      refine ⟨m, wl_lo n (q + 1) + C1, C1, e1, ?_, ?_⟩
      · rw [o1, e3]; exact e2
      · rw [o3, o4, h1 _ (by omega), h2 _ (by omega)]
        exact ⟨by omega, hq, hk, rfl, s1⟩
    by_cases hqp : q = p
    · subst hqp
      have h3 := hS.1 rfl
      rw [if_pos (by omega)] at o2
      exact fin _ _ (by rw [← hl, wl_lo_lt (by omega)]) s2 o2
    · obtain ⟨m, C, c', t1, t2, t3, t4, t5, t6, t7⟩ := hS.2 (by omega)
      rw [hl] at t2
      by_cases l : lk (4 * b + k) + c + RC (5 * (q + 1) + k) < RC (5 * p + b)
      · rw [if_pos l] at o2
        exact fin (wl_hi n (q + 1) + m) _ (by omega) (wl_Sm_lt t2 s2 l) o2
      · rw [if_neg l] at o2
        have e4 : RC (5 * p + b) = lk (4 * b + k) + c + RC (5 * (q + 1) + k) := by omega
        rw [e4] at t2
        exact fin (wl_hi n (q + 1) + m) _ (by omega) (wl_Sm_eq t2 s2) o2
theorem wl_St_no {p q b : Nat} {RC RW CE CK : Nat → Nat} (h1 : pc p (p + 1) ≠ none)
    (hpq : p ≤ q) (hq : q + 1 ≤ n) (e : pc p (q + 1) = none) (hS : wl_St n pc lk p q b RC RW CE CK) : wl_St n pc lk p (q + 1) b RC RW CE CK := by
  refine ⟨fun z => by omega, fun _ => ?_⟩
  have hqp : p ≠ q := fun z => h1 (by rw [← z] at e; exact e)
  obtain ⟨m, C, c', t1, t2, t3⟩ := hS.2 (by omega)
  have hl := wl_lo_step (n := n) (q := q) (by omega)
  rw [hl] at t2
  refine ⟨wl_hi n (q + 1) + m, C, c', by omega, wl_Sm_none t2 (fun d a1 a2 => ?_), t3⟩
  obtain ⟨d', rfl⟩ : ∃ d', d = wl_lo n (q + 1) + d' := ⟨d - wl_lo n (q + 1), by omega⟩
  exact wl_H_stepn hpq hq (by omega) e
theorem wl_St_end {p q b : Nat} {RC RW CE CK : Nat → Nat} (hpq : p < q) (hq : q ≤ n) (h : q = n ∨ ∀ q', q < q' → pc p q' = none) (hS : wl_St n pc lk p q b RC RW CE CK) : wl_Dn n pc lk p b RC RW CE CK := by
  obtain ⟨m, C, c', t1, t2, t3, t4, t5, t6, t7⟩ := hS.2 hpq
  refine ⟨C, ?_, fun _ => ⟨c', t3, t4, t5, t6, t7⟩⟩
  by_cases hqn : q = n
  · rw [hqn, wl_lo_n] at t1 t2
    have e : m = wl_hi n p := by omega
    rw [← e]
    exact t2
  · have hf : ∀ q', q < q' → pc p q' = none := by
      rcases h with h | h
      · exact absurd h hqn
      · exact h
    rw [← t1]
    refine wl_Sm_none (lo := 0) ?_ (fun d _ hd => ?_)
    · rw [Nat.zero_add]; exact t2
    · exact wl_H_far (by omega) (by omega) (by omega) hf
end
