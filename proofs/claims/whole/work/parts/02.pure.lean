/-! the code of a row of letters -/
def wl_cd (f : Nat → Nat) : Nat → Nat
  | 0 => 1
  | n + 1 => 4 * wl_cd f n + f n
theorem wl_cd_s (f : Nat → Nat) (n : Nat) : wl_cd f (n + 1) = 4 * wl_cd f n + f n := rfl
theorem wl_cd_pos (f : Nat → Nat) : ∀ n, 1 ≤ wl_cd f n := by
  intro n
  induction n with
  | zero => exact Nat.le_refl 1
  | succ n ih => rw [wl_cd_s]; omega
theorem wl_cd_inj {f g : Nat → Nat} : ∀ n m, (∀ j, j < n → f j < 4) → (∀ j, j < m → g j < 4) → wl_cd f n = wl_cd g m → n = m ∧ ∀ j, j < n → f j = g j := by
  intro n
  induction n with
  | zero =>
    intro m _ _ h
    cases m with
    | zero => exact ⟨rfl, fun j hj => absurd hj (Nat.not_lt_zero j)⟩
    | succ m =>
      have h1 := wl_cd_pos g m
      rw [wl_cd_s] at h
      have h2 : wl_cd f 0 = 1 := rfl
      omega
  | succ n ih =>
    intro m hf hg h
    cases m with
    | zero =>
      have h1 := wl_cd_pos f n
      rw [wl_cd_s] at h
      have h2 : wl_cd g 0 = 1 := rfl
      omega
    | succ m =>
      rw [wl_cd_s, wl_cd_s] at h
      have h1 := hf n (by omega)
      have h2 := hg m (by omega)
      have e1 : wl_cd f n = wl_cd g m := by omega
      have e2 : f n = g m := by omega
      obtain ⟨e3, hj⟩ := ih m (fun j z => hf j (by omega)) (fun j z => hg j (by omega)) e1
      subst e3
      refine ⟨rfl, fun j z => ?_⟩
      by_cases hjn : j < n
      · exact hj j hjn
      · have e4 : j = n := by omega
        rw [e4]; exact e2
theorem wl_cd_ext {f g : Nat → Nat} : ∀ n, (∀ j, j < n → f j = g j) → wl_cd f n = wl_cd g n := by
  intro n
  induction n with
  | zero => intro _; rfl
  | succ n ih =>
    intro h
    rw [wl_cd_s, wl_cd_s, ih (fun j z => h j (by omega)), h n (by omega)]
theorem wl_cd_lt {f : Nat → Nat} : ∀ n, (∀ j, j < n → f j < 4) → wl_cd f n < 2 * 4 ^ n := by
  intro n
  induction n with
  | zero => intro _; show 1 < 2 * 4 ^ 0; decide
  | succ n ih =>
    intro h
    have h1 := ih (fun j z => h j (by omega))
    have h2 := h n (by omega)
    rw [wl_cd_s, Nat.pow_succ]
    omega
theorem wl_cd_2048 {f : Nat → Nat} {n : Nat} (hn : n ≤ 5) (h : ∀ j, j < n → f j < 4) : wl_cd f n < 2048 := by
  have h1 := wl_cd_lt n h
  have h2 : 4 ^ n ≤ 4 ^ 5 := Nat.pow_le_pow_right (by decide) hn
  have h3 : 4 ^ 5 = 1024 := by decide
  omega
/-! the first of the indices below w -/
def wl_fd (P : Nat → Bool) : Nat → Option Nat
  | 0 => none
  | w + 1 => match wl_fd P w with
    | some i => some i
    | none => if P w = true then some w else none
theorem wl_fd_none {P : Nat → Bool} : ∀ w : Nat, wl_fd P w = none → ∀ j, j < w → P j = false := by
  intro w
  induction w with
  | zero => intro _ j hj; exact absurd hj (Nat.not_lt_zero j)
  | succ w ih =>
    intro h j hj
    rw [wl_fd] at h
    cases e : wl_fd P w with
    | some i => rw [e] at h; exact absurd h (by simp)
    | none =>
      rw [e] at h
      by_cases hp : P w = true
      · simp [hp] at h
      · by_cases hjw : j < w
        · exact ih e j hjw
        · have e1 : j = w := by omega
          rw [e1]
          cases hh : P w
          · rfl
          · exact absurd hh hp
theorem wl_fd_some {P : Nat → Bool} : ∀ w i : Nat, wl_fd P w = some i → i < w ∧ P i = true ∧ ∀ j, j < i → P j = false := by
  intro w
  induction w with
  | zero => intro i h; exact absurd h (by simp [wl_fd])
  | succ w ih =>
    intro i h
    rw [wl_fd] at h
    cases e : wl_fd P w with
    | some i' =>
      rw [e] at h
      have e' : i' = i := by simpa using h
      subst e'
      obtain ⟨a, b, c⟩ := ih i' e
      exact ⟨by omega, b, c⟩
    | none =>
      rw [e] at h
      by_cases hp : P w = true
      · have e' : w = i := by simpa [hp] using h
        subst e'
        exact ⟨by omega, hp, wl_fd_none w e⟩
      · simp [hp] at h
theorem wl_fd_eqn {P : Nat → Bool} {w : Nat} (h : ∀ j, j < w → P j = false) : wl_fd P w = none := by
  cases e : wl_fd P w with
  | none => rfl
  | some i =>
    obtain ⟨a, b, _⟩ := wl_fd_some w i e
    rw [h i a] at b
    exact absurd b (by decide)
theorem wl_fd_eq {P : Nat → Bool} {w i : Nat} (hi : i < w) (hp : P i = true) (hn : ∀ j, j < i → P j = false) : wl_fd P w = some i := by
  cases e : wl_fd P w with
  | none =>
    have h1 := wl_fd_none w e i hi
    rw [hp] at h1
    exact absurd h1 (by decide)
  | some k =>
    obtain ⟨a, b, c⟩ := wl_fd_some w k e
    by_cases h1 : k < i
    · rw [hn k h1] at b; exact absurd b (by decide)
    · by_cases h2 : i < k
      · rw [c i h2] at hp; exact absurd hp (by decide)
      · have e1 : k = i := by omega
        rw [e1]
def wl_ri : Option Nat → Int32
  | none => -1
  | some i => nI i
/-! counts and summaries: the least cost over a range of cuts, how many have it, the first that has it -/
def wl_cn (f : Nat → Option Nat) (B lo : Nat) : Nat → Nat
  | 0 => 0
  | m + 1 => wl_cn f B lo m + (if f (lo + m) = some B then 1 else 0)
theorem wl_cn_add (f : Nat → Option Nat) (B lo m' : Nat) : ∀ m, wl_cn f B lo (m' + m) = wl_cn f B lo m' + wl_cn f B (lo + m') m := by
  intro m
  induction m with
  | zero => rfl
  | succ m ih =>
    show wl_cn f B lo (m' + m) + (if f (lo + (m' + m)) = some B then 1 else 0) = wl_cn f B lo m' + (wl_cn f B (lo + m') m + (if f (lo + m' + m) = some B then 1 else 0))
    rw [ih, Nat.add_assoc lo m' m, Nat.add_assoc]
theorem wl_cn_zero {f : Nat → Option Nat} {B lo : Nat} : ∀ m, (∀ d, lo ≤ d → d < lo + m → f d ≠ some B) → wl_cn f B lo m = 0 := by
  intro m
  induction m with
  | zero => intro _; rfl
  | succ m ih =>
    intro h
    show wl_cn f B lo m + (if f (lo + m) = some B then 1 else 0) = 0
    rw [ih (fun d a b => h d a (by omega)), if_neg (h (lo + m) (by omega) (by omega))]
theorem wl_cn_le (f : Nat → Option Nat) (B lo : Nat) : ∀ m, wl_cn f B lo m ≤ m := by
  intro m
  induction m with
  | zero => exact Nat.le_refl 0
  | succ m ih =>
    show wl_cn f B lo m + (if f (lo + m) = some B then 1 else 0) ≤ m + 1
    by_cases h : f (lo + m) = some B
    · rw [if_pos h]; omega
    · rw [if_neg h]; omega
theorem wl_cn_shift {f g : Nat → Option Nat} {B B' lo : Nat} : ∀ m, (∀ d, d < m → (f (lo + d) = some B' ↔ g d = some B)) → wl_cn f B' lo m = wl_cn g B 0 m := by
  intro m
  induction m with
  | zero => intro _; rfl
  | succ m ih =>
    intro h
    show wl_cn f B' lo m + (if f (lo + m) = some B' then 1 else 0) = wl_cn g B 0 m + (if g (0 + m) = some B then 1 else 0)
    rw [ih (fun d a => h d (by omega)), Nat.zero_add]
    have h1 := h m (by omega)
    by_cases h2 : g m = some B
    · rw [if_pos h2, if_pos (h1.mpr h2)]
    · rw [if_neg h2, if_neg (fun z => h2 (h1.mp z))]
def wl_Sm (f : Nat → Option Nat) (lo m B W C : Nat) : Prop :=
  f C = some B ∧ lo ≤ C ∧ C < lo + m ∧ (∀ d x, lo ≤ d → d < lo + m → f d = some x → B ≤ x) ∧ (∀ d, lo ≤ d → d < C → f d ≠ some B) ∧ W = wl_cn f B lo m
theorem wl_Sm_uniq {f : Nat → Option Nat} {lo m B W C B' W' C' : Nat} (h : wl_Sm f lo m B W C) (h' : wl_Sm f lo m B' W' C') : B = B' ∧ W = W' ∧ C = C' := by
  obtain ⟨a1, a2, a3, a4, a5, a6⟩ := h
  obtain ⟨b1, b2, b3, b4, b5, b6⟩ := h'
  have e : B = B' := Nat.le_antisymm (a4 C' B' b2 b3 b1) (b4 C B a2 a3 a1)
  subst e
  refine ⟨rfl, a6.trans b6.symm, ?_⟩
  have h1 : ¬ C < C' := fun z => b5 C a2 z a1
  have h2 : ¬ C' < C := fun z => a5 C' b2 z b1
  omega
theorem wl_Sm_shift {f g : Nat → Option Nat} {lo m B W C c : Nat} (h : wl_Sm g 0 m B W C) (e : ∀ d, d < m → f (lo + d) = (g d).map (fun x => c + x)) : wl_Sm f lo m (c + B) W (lo + C) := by
  obtain ⟨a1, a2, a3, a4, a5, a6⟩ := h
  have q : ∀ d, d < m → (f (lo + d) = some (c + B) ↔ g d = some B) := by
    intro d hd
    rw [e d hd]
    cases z : g d with
    | none => simp
    | some x =>
      simp only [Option.map_some, Option.some.injEq]
      omega
  refine ⟨(q C (by omega)).mpr a1, by omega, by omega, ?_, ?_, ?_⟩
  · intro d x h1 h2 h3
    obtain ⟨d', rfl⟩ : ∃ d', d = lo + d' := ⟨d - lo, by omega⟩
    rw [e d' (by omega)] at h3
    cases z : g d' with
    | none => rw [z] at h3; simp at h3
    | some y =>
      rw [z] at h3
      have h4 := a4 d' y (by omega) (by omega) z
      simp only [Option.map_some, Option.some.injEq] at h3
      omega
  · intro d h1 h2 h3
    obtain ⟨d', rfl⟩ : ∃ d', d = lo + d' := ⟨d - lo, by omega⟩
    exact a5 d' (by omega) (by omega) ((q d' (by omega)).mp h3)
  · rw [a6]
    exact (wl_cn_shift m q).symm
theorem wl_Sm_gt {f : Nat → Option Nat} {lo m' m B W C B' W' C' : Nat} (h : wl_Sm f (lo + m') m B W C) (h' : wl_Sm f lo m' B' W' C') (hb : B < B') : wl_Sm f lo (m' + m) B W C := by
  obtain ⟨a1, a2, a3, a4, a5, a6⟩ := h
  obtain ⟨b1, b2, b3, b4, b5, b6⟩ := h'
  refine ⟨a1, by omega, by omega, ?_, ?_, ?_⟩
  · intro d x h1 h2 h3
    by_cases z : d < lo + m'
    · have := b4 d x h1 z h3; omega
    · exact a4 d x (by omega) (by omega) h3
  · intro d h1 h2 h3
    by_cases z : d < lo + m'
    · have := b4 d B h1 z h3; omega
    · exact a5 d (by omega) h2 h3
  · rw [wl_cn_add, wl_cn_zero m' (fun d h1 h2 h3 => by have := b4 d B h1 h2 h3; omega), Nat.zero_add]
    exact a6
theorem wl_Sm_eq {f : Nat → Option Nat} {lo m' m B W C W' C' : Nat} (h : wl_Sm f (lo + m') m B W C) (h' : wl_Sm f lo m' B W' C') : wl_Sm f lo (m' + m) B (W + W') C' := by
  obtain ⟨a1, a2, a3, a4, a5, a6⟩ := h
  obtain ⟨b1, b2, b3, b4, b5, b6⟩ := h'
  refine ⟨b1, by omega, by omega, ?_, ?_, ?_⟩
  · intro d x h1 h2 h3
    by_cases z : d < lo + m'
    · exact b4 d x h1 z h3
    · exact a4 d x (by omega) (by omega) h3
  · intro d h1 h2 h3
    exact b5 d h1 h2 h3
  · rw [wl_cn_add, a6, b6, Nat.add_comm]
theorem wl_Sm_lt {f : Nat → Option Nat} {lo m' m B W C B' W' C' : Nat} (h : wl_Sm f (lo + m') m B W C) (h' : wl_Sm f lo m' B' W' C') (hb : B' < B) : wl_Sm f lo (m' + m) B' W' C' := by
  obtain ⟨a1, a2, a3, a4, a5, a6⟩ := h
  obtain ⟨b1, b2, b3, b4, b5, b6⟩ := h'
  refine ⟨b1, by omega, by omega, ?_, ?_, ?_⟩
  · intro d x h1 h2 h3
    by_cases z : d < lo + m'
    · exact b4 d x h1 z h3
    · have := a4 d x (by omega) (by omega) h3; omega
  · intro d h1 h2 h3
    exact b5 d h1 h2 h3
  · rw [wl_cn_add, wl_cn_zero (lo := lo + m') m (fun d h1 h2 h3 => by have := a4 d B' h1 h2 h3; omega), Nat.add_zero]
    exact b6
theorem wl_Sm_none {f : Nat → Option Nat} {lo m' m B W C : Nat} (h : wl_Sm f (lo + m') m B W C) (hn : ∀ d, lo ≤ d → d < lo + m' → f d = none) : wl_Sm f lo (m' + m) B W C := by
  obtain ⟨a1, a2, a3, a4, a5, a6⟩ := h
  refine ⟨a1, by omega, by omega, ?_, ?_, ?_⟩
  · intro d x h1 h2 h3
    by_cases z : d < lo + m'
    · rw [hn d h1 z] at h3; exact absurd h3 (by simp)
    · exact a4 d x (by omega) (by omega) h3
  · intro d h1 h2 h3
    by_cases z : d < lo + m'
    · rw [hn d h1 z] at h3; exact absurd h3 (by simp)
    · exact a5 d (by omega) h2 h3
  · rw [wl_cn_add, wl_cn_zero m' (fun d h1 h2 h3 => by rw [hn d h1 h2] at h3; exact absurd h3 (by simp)), Nat.zero_add]
    exact a6
theorem wl_Sm_one {f : Nat → Option Nat} {lo x : Nat} (h : f lo = some x) : wl_Sm f lo 1 x 1 lo := by
  refine ⟨h, by omega, by omega, ?_, ?_, ?_⟩
  · intro d y h1 h2 h3
    have e : d = lo := by omega
    rw [e, h] at h3
    have : x = y := by simpa using h3
    omega
  · intro d h1 h2
    omega
  · show 1 = 0 + (if f (lo + 0) = some x then 1 else 0)
    rw [Nat.add_zero, if_pos h]
/-! the same with the new range behind -/
theorem wl_Sm_eq2 {f : Nat → Option Nat} {lo m m' B W C W' C' : Nat} (h : wl_Sm f lo m B W C) (h' : wl_Sm f (lo + m) m' B W' C') : wl_Sm f lo (m + m') B (W + W') C := by
  have h1 := wl_Sm_eq h' h
  rw [Nat.add_comm W W']
  exact h1
theorem wl_Sm_none2 {f : Nat → Option Nat} {lo m m' B W C : Nat} (h : wl_Sm f lo m B W C) (hn : ∀ d, lo + m ≤ d → d < lo + m + m' → f d = none) : wl_Sm f lo (m + m') B W C := by
  obtain ⟨a1, a2, a3, a4, a5, a6⟩ := h
  refine ⟨a1, a2, by omega, ?_, a5, ?_⟩
  · intro d x h1 h2 h3
    by_cases z : d < lo + m
    · exact a4 d x h1 z h3
    · rw [hn d (by omega) (by omega)] at h3; exact absurd h3 (by simp)
  · rw [wl_cn_add, wl_cn_zero (lo := lo + m) m' (fun d h1 h2 h3 => by rw [hn d h1 h2] at h3; exact absurd h3 (by simp)), Nat.add_zero]
    exact a6
theorem wl_Sm_none0 {f : Nat → Option Nat} {lo m m' B W C : Nat} (h : wl_Sm f (lo + m) m' B W C) (hn : ∀ d, lo ≤ d → d < lo + m → f d = none) : wl_Sm f lo (m + m') B W C := wl_Sm_none h hn
