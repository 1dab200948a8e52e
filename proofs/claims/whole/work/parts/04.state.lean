/-! what both sides hold: penalty p, w words, s letters spelled, t letters typed; letters A, lengths L, prices P, kinds K, spelled S, text T, links LK, codes C -/
def wl_wd (A : Nat → Nat) (i : Nat) : Nat → Nat := fun j => A (5 * i + j)
def wl_Inv (p w s t : Nat) (A L P K S T LK C : Nat → Nat) : Prop :=
  (p ≤ 99 ∧ w ≤ 16 ∧ s ≤ 5 ∧ t ≤ 12) ∧ ((∀ j, A j < 4) ∧ (∀ j, S j < 4) ∧ (∀ j, T j < 4)) ∧ ((∀ j, LK j ≤ 99) ∧ (∀ j, 16 ≤ j → LK j = 0)) ∧
  ((∀ j, P j ≤ 99) ∧ (∀ j, K j < 3)) ∧ (∀ i, i < w → 1 ≤ L i ∧ L i ≤ 5 ∧ C i = wl_cd (wl_wd A i) (L i))
def wl_Bg (f : Nat → Nat) (n : Nat) (g : Nat → Nat) (s : Nat) : Prop := s ≤ n ∧ ∀ j, j < s → f j = g j
theorem wl_un_lt {F : Nat → Nat} {k x M : Nat} (h : ∀ j, F j < M) (hx : x < M) : ∀ j, wl_un F k x j < M := by
  intro j
  unfold wl_un
  by_cases e : j = k
  · rw [if_pos e]; exact hx
  · rw [if_neg e]; exact h j
theorem wl_un_le {F : Nat → Nat} {k x M : Nat} (h : ∀ j, F j ≤ M) (hx : x ≤ M) : ∀ j, wl_un F k x j ≤ M := by
  intro j
  unfold wl_un
  by_cases e : j = k
  · rw [if_pos e]; exact hx
  · rw [if_neg e]; exact h j
theorem wl_Inv0 {p : Nat} (hp : p ≤ 99) : wl_Inv p 0 0 0 (fun _ => 0) (fun _ => 0) (fun _ => 0) (fun _ => 0) (fun _ => 0) (fun _ => 0) (fun _ => 0) (fun _ => 0) :=
  ⟨⟨hp, by omega, by omega, by omega⟩, ⟨fun _ => Nat.succ_pos 3, fun _ => Nat.succ_pos 3, fun _ => Nat.succ_pos 3⟩, ⟨fun _ => Nat.zero_le 99, fun _ _ => rfl⟩, ⟨fun _ => Nat.zero_le 99, fun _ => Nat.succ_pos 2⟩, fun i hi => absurd hi (Nat.not_lt_zero i)⟩
section
variable {p w s t : Nat} {A L P K S T LK C : Nat → Nat}
theorem wl_cd_spell (S : Nat → Nat) (s c : Nat) : wl_cd (wl_un S s c) (s + 1) = 4 * wl_cd S s + c := by
  rw [wl_cd_s, wl_us, wl_cd_ext s (fun j hj => wl_uo (by omega))]
theorem wl_Inv_spell (h : wl_Inv p w s t A L P K S T LK C) (hs : s < 5) {c : Nat} (hc : c < 4) : wl_Inv p w (s + 1) t A L P K (wl_un S s c) T LK C :=
  ⟨⟨h.1.1, h.1.2.1, by omega, h.1.2.2.2⟩, ⟨h.2.1.1, wl_un_lt h.2.1.2.1 hc, h.2.1.2.2⟩, h.2.2.1, h.2.2.2.1, h.2.2.2.2⟩
theorem wl_Inv_clear (h : wl_Inv p w s t A L P K S T LK C) : wl_Inv p w 0 t A L P K S T LK C :=
  ⟨⟨h.1.1, h.1.2.1, by omega, h.1.2.2.2⟩, h.2.1, h.2.2.1, h.2.2.2.1, h.2.2.2.2⟩
theorem wl_Inv_type (h : wl_Inv p w s t A L P K S T LK C) (ht : t < 12) {c : Nat} (hc : c < 4) : wl_Inv p w s (t + 1) A L P K S (wl_un T t c) LK C :=
  ⟨⟨h.1.1, h.1.2.1, h.1.2.2.1, by omega⟩, ⟨h.2.1.1, h.2.1.2.1, wl_un_lt h.2.1.2.2 hc⟩, h.2.2.1, h.2.2.2.1, h.2.2.2.2⟩
theorem wl_Inv_clearT (h : wl_Inv p w s t A L P K S T LK C) : wl_Inv p w s 0 A L P K S T LK C :=
  ⟨⟨h.1.1, h.1.2.1, h.1.2.2.1, by omega⟩, h.2.1, h.2.2.1, h.2.2.2.1, h.2.2.2.2⟩
theorem wl_Inv_link (h : wl_Inv p w s t A L P K S T LK C) {i c : Nat} (hi : i < 16) (hc : c ≤ 99) : wl_Inv p w s t A L P K S T (wl_un LK i c) C :=
  ⟨h.1, h.2.1, ⟨wl_un_le h.2.2.1.1 hc, fun j hj => by rw [wl_uo (by omega)]; exact h.2.2.1.2 j hj⟩, h.2.2.2.1, h.2.2.2.2⟩
theorem wl_Inv_old (h : wl_Inv p w s t A L P K S T LK C) {i c k : Nat} (hi : i < w) (e : C i = wl_cd S s) (hc : c ≤ 99) (hk : k < 3) : wl_Inv p w 0 t A L (wl_un P i c) (wl_un K i k) S T LK (wl_un C i (wl_cd S s)) := by
  refine ⟨⟨h.1.1, h.1.2.1, by omega, h.1.2.2.2⟩, h.2.1, h.2.2.1, ⟨wl_un_le h.2.2.2.1.1 hc, wl_un_lt h.2.2.2.1.2 hk⟩, fun j hj => ?_⟩
  have e2 : wl_un C i (wl_cd S s) j = C j := by
    by_cases z : j = i
    · rw [z, wl_us, e]
    · exact wl_uo z
  rw [e2]
  exact h.2.2.2.2 j hj
/-- the letters with those of F from the place a on, m of them -/
def wl_cp (A : Nat → Nat) (a m : Nat) (F : Nat → Nat) : Nat → Nat := fun j => if a ≤ j ∧ j < a + m then F (j - a) else A j
theorem wl_cp_0 (A : Nat → Nat) (a : Nat) (F : Nat → Nat) : wl_cp A a 0 F = A := by
  funext j
  unfold wl_cp
  rw [if_neg (by omega)]
theorem wl_cp_s (A : Nat → Nat) (a m : Nat) (F : Nat → Nat) : wl_un (wl_cp A a m F) (a + m) (F m) = wl_cp A a (m + 1) F := by
  funext j
  unfold wl_cp wl_un
  by_cases e : j = a + m
  · rw [if_pos e, if_pos (by omega), e]
    congr 1
    omega
  · rw [if_neg e]
    dsimp only
    by_cases z : a ≤ j ∧ j < a + m
    · rw [if_pos z, if_pos (by omega)]
    · rw [if_neg z, if_neg (by omega)]
theorem wl_cp_in {A F : Nat → Nat} {a m j : Nat} (h : j < m) : wl_cp A a m F (a + j) = F j := by
  unfold wl_cp
  rw [if_pos (by omega)]
  congr 1
  omega
theorem wl_cp_out {A F : Nat → Nat} {a m j : Nat} (h : j < a ∨ a + m ≤ j) : wl_cp A a m F j = A j := by
  unfold wl_cp
  rw [if_neg (by omega)]
theorem wl_cp_lt {A F : Nat → Nat} {a m M : Nat} (h : ∀ j, A j < M) (h' : ∀ j, F j < M) : ∀ j, wl_cp A a m F j < M := by
  intro j
  unfold wl_cp
  by_cases z : a ≤ j ∧ j < a + m
  · rw [if_pos z]; exact h' _
  · rw [if_neg z]; exact h j
theorem wl_Inv_new (h : wl_Inv p w s t A L P K S T LK C) {c k : Nat} (hw : w < 16) (hs : 0 < s) (hc : c ≤ 99) (hk : k < 3) : wl_Inv p (w + 1) 0 t (wl_cp A (5 * w) s S) (wl_un L w s) (wl_un P w c) (wl_un K w k) S T LK (wl_un C w (wl_cd S s)) := by
  have h5 : s ≤ 5 := h.1.2.2.1
  refine ⟨⟨h.1.1, by omega, by omega, h.1.2.2.2⟩, ⟨wl_cp_lt h.2.1.1 h.2.1.2.1, h.2.1.2.1, h.2.1.2.2⟩, h.2.2.1, ⟨wl_un_le h.2.2.2.1.1 hc, wl_un_lt h.2.2.2.1.2 hk⟩, fun j hj => ?_⟩
  by_cases z : j = w
  · subst z
    rw [wl_us, wl_us]
    refine ⟨hs, h5, wl_cd_ext s (fun i hi => ?_)⟩
    unfold wl_wd
    exact (wl_cp_in hi).symm
  · rw [wl_uo z, wl_uo z]
    obtain ⟨a, b, e⟩ := h.2.2.2.2 j (by omega)
    refine ⟨a, b, ?_⟩
    rw [e]
    refine wl_cd_ext _ (fun i hi => ?_)
    unfold wl_wd
    exact (wl_cp_out (Or.inl (by omega))).symm
theorem wl_Inv_forget (h : wl_Inv p (w + 1) s t A L P K S T LK C) {i : Nat} (hi : i < w + 1) : wl_Inv p w 0 t (wl_cp A (5 * i) 5 (wl_wd A w)) (wl_un L i (L w)) (wl_un P i (P w)) (wl_un K i (K w)) S T LK (wl_un C i (C w)) := by
  have hw : w + 1 ≤ 16 := h.1.2.1
  refine ⟨⟨h.1.1, by omega, by omega, h.1.2.2.2⟩, ⟨wl_cp_lt h.2.1.1 (fun j => h.2.1.1 _), h.2.1.2.1, h.2.1.2.2⟩, h.2.2.1, ⟨wl_un_le h.2.2.2.1.1 (h.2.2.2.1.1 _), wl_un_lt h.2.2.2.1.2 (h.2.2.2.1.2 _)⟩, fun j hj => ?_⟩
  by_cases z : j = i
  · subst z
    rw [wl_us, wl_us]
    obtain ⟨a, b, e⟩ := h.2.2.2.2 w (by omega)
    refine ⟨a, b, ?_⟩
    rw [e]
    refine wl_cd_ext _ (fun i' hi' => ?_)
    show A (5 * w + i') = wl_cp A (5 * j) 5 (wl_wd A w) (5 * j + i')
    rw [wl_cp_in (by omega)]
    rfl
  · rw [wl_uo z, wl_uo z]
    obtain ⟨a, b, e⟩ := h.2.2.2.2 j (by omega)
    refine ⟨a, b, ?_⟩
    rw [e]
    refine wl_cd_ext _ (fun i' hi' => ?_)
    unfold wl_wd
    exact (wl_cp_out (by omega)).symm
/-- a word's letters and the spelling's -/
theorem wl_same (h : wl_Inv p w s t A L P K S T LK C) {i n : Nat} {g : Nat → Nat} (hg : ∀ j, g j < 4) (hi : i < w) : C i = wl_cd g n ↔ (L i = n ∧ ∀ j, j < n → A (5 * i + j) = g j) := by
  obtain ⟨a, b, e⟩ := h.2.2.2.2 i hi
  rw [e]
  constructor
  · intro z
    obtain ⟨e1, e2⟩ := wl_cd_inj _ _ (fun j _ => h.2.1.1 _) (fun j _ => hg j) z
    rw [e1] at e2
    exact ⟨e1, e2⟩
  · intro ⟨e1, e2⟩
    rw [e1]
    exact wl_cd_ext n e2
def wl_fr (f : Nat → Nat) (n d : Nat) : Nat := if d ≤ n then wl_cd f (n - d) else 0
theorem wl_fr_0 (f : Nat → Nat) (n : Nat) : wl_fr f n 0 = wl_cd f n := if_pos (Nat.zero_le n)
theorem wl_fr_s {f : Nat → Nat} (hf : ∀ j, f j < 4) (n d : Nat) : wl_fr f n d / 4 = wl_fr f n (d + 1) := by
  unfold wl_fr
  by_cases h : d ≤ n
  · rw [if_pos h]
    by_cases h2 : d + 1 ≤ n
    · rw [if_pos h2, show n - d = (n - (d + 1)) + 1 by omega, wl_cd_s]
      have := hf (n - (d + 1))
      omega
    · rw [if_neg h2, show n - d = 0 by omega]
      show 1 / 4 = 0
      decide
  · rw [if_neg h, if_neg (by omega)]
theorem wl_fr_eq {f g : Nat → Nat} (hf : ∀ j, f j < 4) (hg : ∀ j, g j < 4) (n d s : Nat) : wl_fr f n d = wl_cd g s ↔ (d + s = n ∧ ∀ j, j < s → f j = g j) := by
  unfold wl_fr
  by_cases h : d ≤ n
  · rw [if_pos h]
    constructor
    · intro z
      obtain ⟨e1, e2⟩ := wl_cd_inj _ _ (fun j _ => hf j) (fun j _ => hg j) z
      refine ⟨by omega, fun j hj => e2 j (by omega)⟩
    · intro ⟨e1, e2⟩
      rw [show n - d = s by omega]
      exact wl_cd_ext s e2
  · rw [if_neg h]
    have := wl_cd_pos g s
    constructor
    · intro z; omega
    · intro ⟨e1, _⟩; omega
theorem wl_fr_lt {f : Nat → Nat} (hf : ∀ j, f j < 4) {n : Nat} (hn : n ≤ 5) (d : Nat) : wl_fr f n d < 2048 := by
  unfold wl_fr
  by_cases h : d ≤ n
  · rw [if_pos h]; exact wl_cd_2048 (by omega) (fun j _ => hf j)
  · rw [if_neg h]; decide
/-- the text from fr on -/
def wl_tx (T : Nat → Nat) (fr : Nat) : Nat → Nat := fun j => T (fr + j)
/-- the word that the piece from fr ed to is -/
def wl_ix (w : Nat) (C T : Nat → Nat) (fr ed : Nat) : Option Nat := wl_fd (fun i => decide (C i = wl_cd (wl_tx T fr) (ed - fr))) w
/-- the piece from fr ed to: its cost and its kind -/
def wl_pc (p w : Nat) (C P K T : Nat → Nat) (fr ed : Nat) : Option (Nat × Nat) :=
  match wl_ix w C T fr ed with
  | some i => some (P i, K i)
  | none => if ed = fr + 1 then some (p, 3) else none
theorem wl_pc_w {fr ed i : Nat} (e : wl_ix w C T fr ed = some i) : wl_pc p w C P K T fr ed = some (P i, K i) := by
  unfold wl_pc
  rw [e]
theorem wl_pc_u {fr ed : Nat} (e : wl_ix w C T fr ed = none) (h : ed = fr + 1) : wl_pc p w C P K T fr ed = some (p, 3) := by
  unfold wl_pc
  rw [e]
  exact if_pos h
theorem wl_pc_n {fr ed : Nat} (e : wl_ix w C T fr ed = none) (h : ¬ ed = fr + 1) : wl_pc p w C P K T fr ed = none := by
  unfold wl_pc
  rw [e]
  exact if_neg h
theorem wl_pc_bd (h : wl_Inv p w s t A L P K S T LK C) : ∀ fr ed c k, wl_pc p w C P K T fr ed = some (c, k) → c ≤ 99 ∧ k < 4 := by
  intro fr ed c k z
  cases e : wl_ix w C T fr ed with
  | some i =>
    rw [wl_pc_w e] at z
    have h1 := h.2.2.2.1.1 i
    have h2 := h.2.2.2.1.2 i
    simp only [Option.some.injEq, Prod.mk.injEq] at z
    omega
  | none =>
    by_cases q : ed = fr + 1
    · rw [wl_pc_u e q] at z
      have h1 := h.1.1
      simp only [Option.some.injEq, Prod.mk.injEq] at z
      omega
    · rw [wl_pc_n e q] at z
      exact absurd z (by simp)
theorem wl_pc_1 (fr : Nat) : wl_pc p w C P K T fr (fr + 1) ≠ none := by
  cases e : wl_ix w C T fr (fr + 1) with
  | some i => rw [wl_pc_w e]; simp
  | none => rw [wl_pc_u e rfl]; simp
theorem wl_pc_far (h : wl_Inv p w s t A L P K S T LK C) {fr ed : Nat} (hf : fr + 5 < ed) : wl_pc p w C P K T fr ed = none := by
  refine wl_pc_n ?_ (by omega)
  refine wl_fd_eqn (fun i hi => decide_eq_false (fun z => ?_))
  have h1 := ((wl_same h (fun j => h.2.1.2.2 _) hi).mp z).1
  have h2 := (h.2.2.2.2 i hi).2.1
  omega
end
