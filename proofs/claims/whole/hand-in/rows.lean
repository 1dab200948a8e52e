section
/-! rows of the kit to paste (stores, nI arithmetic, masks, shifts, branches by naturals), and small rows of our own on arrays of naturals -/
theorem pk_us {f : Nat → Int32} {k : Nat} {x : Int32} : upd f k x k = x := if_pos rfl
theorem pk_un {f : Nat → Int32} {k j : Nat} {x : Int32} (h : j ≠ k) : upd f k x j = f j := if_neg h
theorem pk_sub {a b : Nat} (h : b ≤ a) : nI a - nI b = nI (a - b) := by
  obtain ⟨c, rfl⟩ : ∃ c, a = c + b := ⟨a - b, by omega⟩
  rw [← nI_add, Int32.add_sub_cancel, Nat.add_sub_cancel]
theorem pk_m1 (n : Nat) : nI (n + 1) + (-1) = nI n := by
  rw [← nI_1, Int32.add_assoc, show (1 : Int32) + (-1) = 0 from rfl, Int32.add_zero]
theorem pk_mul (a b : Nat) : nI a * nI b = nI (a * b) := (Int32.ofNat_mul a b).symm
theorem pk_sub_toInt {a b : Nat} (ha : a < 2 ^ 30) (hb : b < 2 ^ 30) : (nI a - nI b).toInt = (a : Int) - b := by
  rw [Int32.toInt_sub, nI_toInt (by omega), nI_toInt (by omega)]
  exact Int.bmod_eq_of_le (by omega) (by omega)
theorem pk_sneg {a b : Nat} (hb : b < 2 ^ 30) (h : a < b) : nI a - nI b < 0 := by
  rw [Int32.lt_iff_toInt_lt, pk_sub_toInt (by omega) hb, show (0 : Int32).toInt = 0 from by decide]
  omega
theorem pk_ix (x : Int32) {n : Nat} (hn : n < 2 ^ 31) : x < 0 ∨ nI n ≤ x ∨ ∃ j : Nat, j < n ∧ x = nI j := by
  by_cases h : x < 0
  · exact Or.inl h
  · obtain ⟨j, hj, rfl⟩ := nI_of h
    by_cases h2 : j < n
    · exact Or.inr (Or.inr ⟨j, h2, rfl⟩)
    · exact Or.inr (Or.inl (nI_le (by omega) hj))
theorem pk_le {x y : Int32} {A B : Prop} (a b : Nat) (f : a ≤ b → A) (g : b < a → B) (hx : x = nI a := by rfl) (hy : y = nI b := by rfl) (ha : a < 2 ^ 31 := by omega) (hb : b < 2 ^ 31 := by omega) : (x ≤ y → A) ∧ (¬ x ≤ y → B) := by
  subst hx hy
  rw [nI_leI ha hb]
  exact ⟨f, fun z => g (by omega)⟩
theorem pk_lt {x y : Int32} {A B : Prop} (a b : Nat) (f : a < b → A) (g : b ≤ a → B) (hx : x = nI a := by rfl) (hy : y = nI b := by rfl) (ha : a < 2 ^ 31 := by omega) (hb : b < 2 ^ 31 := by omega) : (x < y → A) ∧ (¬ x < y → B) := by
  subst hx hy
  rw [nI_ltI ha hb]
  exact ⟨f, fun z => g (by omega)⟩
theorem pk_eq {x y : Int32} {A B : Prop} (a b : Nat) (f : a = b → A) (g : a ≠ b → B) (hx : x = nI a := by rfl) (hy : y = nI b := by rfl) (ha : a < 2 ^ 31 := by omega) (hb : b < 2 ^ 31 := by omega) : (x = y → A) ∧ (¬ x = y → B) := by
  subst hx hy
  rw [nI_eq ha hb]
  exact ⟨f, g⟩
theorem pk_in {x : Int32} (n N : Nat) (h : n < N) (hx : x = nI n := by rfl) (hN : N < 2 ^ 31 := by omega) : vp_in x N := by
  subst hx
  exact vp_in_nI h hN
theorem pk_cl {x : Int32} (n : Nat) (hx : x = nI n := by rfl) (h : n < 2 ^ 31 := by omega) : x.toNatClampNeg = n := by
  subst hx
  exact nI_clamp h
theorem pk_tn {n : Nat} (h : n < 2 ^ 32) : (nI n).toBitVec.toNat = n := Nat.mod_eq_of_lt h
theorem pk_and (x : Int32) {m : Int32} (k : Nat) (hm : m.toBitVec.toNat = 2 ^ k - 1) : x &&& m = nI (x.toBitVec.toNat % 2 ^ k) := by
  apply Int32.toBitVec_inj.mp
  apply BitVec.eq_of_toNat_eq
  rw [Int32.toBitVec_and, BitVec.toNat_and, hm, Nat.and_two_pow_sub_one_eq_mod]
  show _ = (BitVec.ofNat 32 _).toNat
  rw [BitVec.toNat_ofNat]
  exact (Nat.mod_eq_of_lt (Nat.lt_of_le_of_lt (Nat.mod_le _ _) x.toBitVec.isLt)).symm
theorem pk_andN {n : Nat} (h : n < 2 ^ 32) {m : Int32} (k : Nat) (hm : m.toBitVec.toNat = 2 ^ k - 1) : nI n &&& m = nI (n % 2 ^ k) := by
  rw [pk_and _ k hm, pk_tn h]
theorem pk_andE (x : Int32) {m : Int32} (k : Nat) (hm : m.toBitVec.toNat = 2 ^ k - 1) : ∃ j : Nat, j < 2 ^ k ∧ x &&& m = nI j := ⟨_, Nat.mod_lt _ (Nat.two_pow_pos k), pk_and x k hm⟩
theorem pk_andIn (x : Int32) {m : Int32} (k : Nat) (hm : m.toBitVec.toNat = 2 ^ k - 1) (hk : k ≤ 30) : vp_in (x &&& m) (2 ^ k) := by
  obtain ⟨j, hj, e⟩ := pk_andE x k hm
  rw [e]
  exact vp_in_nI hj (Nat.lt_of_le_of_lt (Nat.pow_le_pow_right (by decide) hk) (by decide))
theorem pk_shl (a s : Int32) (k : Nat) (hs : (s.toBitVec.smod 32).toNat = k) : (a <<< s).toBitVec.toNat = a.toBitVec.toNat * 2 ^ k % 2 ^ 32 := by
  show (a.toBitVec <<< (s.toBitVec.smod 32).toNat).toNat = _
  rw [hs, BitVec.toNat_shiftLeft, Nat.shiftLeft_eq]
theorem pk_shlN {n : Nat} (s : Int32) (k : Nat) (hs : (s.toBitVec.smod 32).toNat = k) (h : n * 2 ^ k < 2 ^ 32) : nI n <<< s = nI (n * 2 ^ k) := by
  apply Int32.toBitVec_inj.mp
  apply BitVec.eq_of_toNat_eq
  have hn : n < 2 ^ 32 := Nat.lt_of_le_of_lt (Nat.le_mul_of_pos_right n (Nat.two_pow_pos k)) h
  rw [pk_shl _ _ k hs, pk_tn hn, pk_tn h, Nat.mod_eq_of_lt h]
theorem pk_shr (a s : Int32) (k : Nat) (hs : (s.toBitVec.smod 32).toNat = k) : (a >>> s).toInt = a.toInt >>> k := by
  show (a.toBitVec.sshiftRight (s.toBitVec.smod 32).toNat).toInt = _
  rw [hs, BitVec.toInt_sshiftRight]
  rfl
theorem pk_shrN {n : Nat} (h : n < 2 ^ 31) (s : Int32) (k : Nat) (hs : (s.toBitVec.smod 32).toNat = k) : nI n >>> s = nI (n / 2 ^ k) := by
  apply Int32.toInt_inj.mp
  have h2 : n / 2 ^ k ≤ n := Nat.div_le_self _ _
  rw [pk_shr _ _ k hs, nI_toInt h, nI_toInt (by omega), Int.shiftRight_eq_div_pow]
  rfl
theorem s_l : ∀ n, n < 32 → ((nI n &&& 31).toBitVec.smod 32).toNat = n := by decide +kernel
theorem wb_of32 (x : Int32) : ∃ n, n < 2 ^ 32 ∧ x = nI n := ⟨x.toBitVec.toNat, x.toBitVec.isLt, Int32.toBitVec_inj.mp (by show _ = BitVec.ofNat 32 _; simp)⟩
/-! arrays of naturals -/
def wl_un (F : Nat → Nat) (k x : Nat) : Nat → Nat := fun j => if j = k then x else F j
def wl_ar (F : Nat → Nat) : Nat → Int32 := fun j => nI (F j)
theorem wl_us {F : Nat → Nat} {k x : Nat} : wl_un F k x k = x := if_pos rfl
theorem wl_uo {F : Nat → Nat} {k x j : Nat} (h : j ≠ k) : wl_un F k x j = F j := if_neg h
theorem wl_upd (F : Nat → Nat) (k x : Nat) : upd (wl_ar F) k (nI x) = wl_ar (wl_un F k x) := by
  funext j
  show (if j = k then nI x else nI (F j)) = nI (if j = k then x else F j)
  by_cases h : j = k
  · rw [if_pos h, if_pos h]
  · rw [if_neg h, if_neg h]
theorem wl_arOf (f : Nat → Int32) : ∃ F : Nat → Nat, f = wl_ar F := by
  refine ⟨fun j => (f j).toBitVec.toNat, funext fun j => ?_⟩
  apply Int32.toBitVec_inj.mp
  show _ = BitVec.ofNat 32 _
  simp
theorem wl_ar0 : (fun _ => (0 : Int32)) = wl_ar (fun _ => 0) := rfl
theorem wl_or4 {a b : Nat} (hb : b < 4) (ha : a * 4 + b < 2 ^ 31) : (nI a <<< ((2 : Int32) &&& 31)) ||| nI b = nI (4 * a + b) := by
  rw [pk_shlN _ 2 (by decide) (by omega)]
  apply Int32.toBitVec_inj.mp
  apply BitVec.eq_of_toNat_eq
  rw [Int32.toBitVec_or, BitVec.toNat_or, pk_tn (by omega), pk_tn (by omega), pk_tn (by omega)]
  have h := Nat.two_pow_add_eq_or_of_lt (i := 2) hb a
  have e : a * 2 ^ 2 = 2 ^ 2 * a := Nat.mul_comm _ _
  rw [e, ← h]
theorem wl_bit {d k : Nat} (hd : d < 65536) (hk : k < 32) : (nI d >>> (nI k &&& 31)) &&& 1 = nI (if d.testBit k = true then 1 else 0) := by
  rw [pk_shrN (by omega) _ k (s_l k hk)]
  have h2 : d / 2 ^ k ≤ d := Nat.div_le_self _ _
  rw [pk_andN (by omega) 1 (by decide), Nat.testBit_eq_decide_div_mod_eq]
  congr 1
  have h3 : d / 2 ^ k % 2 < 2 := Nat.mod_lt _ (by decide)
  show d / 2 ^ k % 2 ^ 1 = _
  by_cases h : d / 2 ^ k % 2 = 1
  · simp [h]
  · have h0 : d / 2 ^ k % 2 = 0 := by omega
    simp [h0]
end
section
/-! the code of a row of letters -/
def wl_cd (f : Nat → Nat) : Nat → Nat
  | 0 => 1
  | n + 1 => 4 * wl_cd f n + f n
theorem wl_cd_s (f : Nat → Nat) (n : Nat) : wl_cd f (n + 1) = 4 * wl_cd f n + f n := rfl
theorem wl_cd_pos (f : Nat → Nat) : ∀ n, 1 ≤ wl_cd f n := by
  intro n
  induction n with
  | zero => exact Nat.le_refl 1
  | succ n ih => rw [wl_cd_s]; omega
theorem wl_cd_inj {f g : Nat → Nat} : ∀ n m, (∀ j, j < n → f j < 4) → (∀ j, j < m → g j < 4) → wl_cd f n = wl_cd g m → n = m ∧ ∀ j, j < n → f j = g j := by
  intro n
  induction n with
  | zero =>
    intro m _ _ h
    cases m with
    | zero => exact ⟨rfl, fun j hj => absurd hj (Nat.not_lt_zero j)⟩
    | succ m =>
      have h1 := wl_cd_pos g m
      rw [wl_cd_s] at h
      have h2 : wl_cd f 0 = 1 := rfl
      omega
  | succ n ih =>
    intro m hf hg h
    cases m with
    | zero =>
      have h1 := wl_cd_pos f n
      rw [wl_cd_s] at h
      have h2 : wl_cd g 0 = 1 := rfl
      omega
    | succ m =>
      rw [wl_cd_s, wl_cd_s] at h
      have h1 := hf n (by omega)
      have h2 := hg m (by omega)
      have e1 : wl_cd f n = wl_cd g m := by omega
      have e2 : f n = g m := by omega
      obtain ⟨e3, hj⟩ := ih m (fun j z => hf j (by omega)) (fun j z => hg j (by omega)) e1
      subst e3
      refine ⟨rfl, fun j z => ?_⟩
      by_cases hjn : j < n
      · exact hj j hjn
      · have e4 : j = n := by omega
        rw [e4]; exact e2
theorem wl_cd_ext {f g : Nat → Nat} : ∀ n, (∀ j, j < n → f j = g j) → wl_cd f n = wl_cd g n := by
  intro n
  induction n with
  | zero => intro _; rfl
  | succ n ih =>
    intro h
    rw [wl_cd_s, wl_cd_s, ih (fun j z => h j (by omega)), h n (by omega)]
theorem wl_cd_lt {f : Nat → Nat} : ∀ n, (∀ j, j < n → f j < 4) → wl_cd f n < 2 * 4 ^ n := by
  intro n
  induction n with
  | zero => intro _; show 1 < 2 * 4 ^ 0; decide
  | succ n ih =>
    intro h
    have h1 := ih (fun j z => h j (by omega))
    have h2 := h n (by omega)
    rw [wl_cd_s, Nat.pow_succ]
    omega
theorem wl_cd_2048 {f : Nat → Nat} {n : Nat} (hn : n ≤ 5) (h : ∀ j, j < n → f j < 4) : wl_cd f n < 2048 := by
  have h1 := wl_cd_lt n h
  have h2 : 4 ^ n ≤ 4 ^ 5 := Nat.pow_le_pow_right (by decide) hn
  have h3 : 4 ^ 5 = 1024 := by decide
  omega
/-! the first of the indices below w -/
def wl_fd (P : Nat → Bool) : Nat → Option Nat
  | 0 => none
  | w + 1 => match wl_fd P w with
    | some i => some i
    | none => if P w = true then some w else none
theorem wl_fd_none {P : Nat → Bool} : ∀ w : Nat, wl_fd P w = none → ∀ j, j < w → P j = false := by
  intro w
  induction w with
  | zero => intro _ j hj; exact absurd hj (Nat.not_lt_zero j)
  | succ w ih =>
    intro h j hj
    rw [wl_fd] at h
    cases e : wl_fd P w with
    | some i => rw [e] at h; exact absurd h (by simp)
    | none =>
      rw [e] at h
      by_cases hp : P w = true
      · simp [hp] at h
      · by_cases hjw : j < w
        · exact ih e j hjw
        · have e1 : j = w := by omega
          rw [e1]
          cases hh : P w
          · rfl
          · exact absurd hh hp
theorem wl_fd_some {P : Nat → Bool} : ∀ w i : Nat, wl_fd P w = some i → i < w ∧ P i = true ∧ ∀ j, j < i → P j = false := by
  intro w
  induction w with
  | zero => intro i h; exact absurd h (by simp [wl_fd])
  | succ w ih =>
    intro i h
    rw [wl_fd] at h
    cases e : wl_fd P w with
    | some i' =>
      rw [e] at h
      have e' : i' = i := by simpa using h
      subst e'
      obtain ⟨a, b, c⟩ := ih i' e
      exact ⟨by omega, b, c⟩
    | none =>
      rw [e] at h
      by_cases hp : P w = true
      · have e' : w = i := by simpa [hp] using h
        subst e'
        exact ⟨by omega, hp, wl_fd_none w e⟩
      · simp [hp] at h
theorem wl_fd_eqn {P : Nat → Bool} {w : Nat} (h : ∀ j, j < w → P j = false) : wl_fd P w = none := by
  cases e : wl_fd P w with
  | none => rfl
  | some i =>
    obtain ⟨a, b, _⟩ := wl_fd_some w i e
    rw [h i a] at b
    exact absurd b (by decide)
theorem wl_fd_eq {P : Nat → Bool} {w i : Nat} (hi : i < w) (hp : P i = true) (hn : ∀ j, j < i → P j = false) : wl_fd P w = some i := by
  cases e : wl_fd P w with
  | none =>
    have h1 := wl_fd_none w e i hi
    rw [hp] at h1
    exact absurd h1 (by decide)
  | some k =>
    obtain ⟨a, b, c⟩ := wl_fd_some w k e
    by_cases h1 : k < i
    · rw [hn k h1] at b; exact absurd b (by decide)
    · by_cases h2 : i < k
      · rw [c i h2] at hp; exact absurd hp (by decide)
      · have e1 : k = i := by omega
        rw [e1]
def wl_ri : Option Nat → Int32
  | none => -1
  | some i => nI i
/-! counts and summaries: the least cost over a range of cuts, how many have it, the first that has it -/
def wl_cn (f : Nat → Option Nat) (B lo : Nat) : Nat → Nat
  | 0 => 0
  | m + 1 => wl_cn f B lo m + (if f (lo + m) = some B then 1 else 0)
theorem wl_cn_add (f : Nat → Option Nat) (B lo m' : Nat) : ∀ m, wl_cn f B lo (m' + m) = wl_cn f B lo m' + wl_cn f B (lo + m') m := by
  intro m
  induction m with
  | zero => rfl
  | succ m ih =>
    show wl_cn f B lo (m' + m) + (if f (lo + (m' + m)) = some B then 1 else 0) = wl_cn f B lo m' + (wl_cn f B (lo + m') m + (if f (lo + m' + m) = some B then 1 else 0))
    rw [ih, Nat.add_assoc lo m' m, Nat.add_assoc]
theorem wl_cn_zero {f : Nat → Option Nat} {B lo : Nat} : ∀ m, (∀ d, lo ≤ d → d < lo + m → f d ≠ some B) → wl_cn f B lo m = 0 := by
  intro m
  induction m with
  | zero => intro _; rfl
  | succ m ih =>
    intro h
    show wl_cn f B lo m + (if f (lo + m) = some B then 1 else 0) = 0
    rw [ih (fun d a b => h d a (by omega)), if_neg (h (lo + m) (by omega) (by omega))]
theorem wl_cn_le (f : Nat → Option Nat) (B lo : Nat) : ∀ m, wl_cn f B lo m ≤ m := by
  intro m
  induction m with
  | zero => exact Nat.le_refl 0
  | succ m ih =>
    show wl_cn f B lo m + (if f (lo + m) = some B then 1 else 0) ≤ m + 1
    by_cases h : f (lo + m) = some B
    · rw [if_pos h]; omega
    · rw [if_neg h]; omega
theorem wl_cn_shift {f g : Nat → Option Nat} {B B' lo : Nat} : ∀ m, (∀ d, d < m → (f (lo + d) = some B' ↔ g d = some B)) → wl_cn f B' lo m = wl_cn g B 0 m := by
  intro m
  induction m with
  | zero => intro _; rfl
  | succ m ih =>
    intro h
    show wl_cn f B' lo m + (if f (lo + m) = some B' then 1 else 0) = wl_cn g B 0 m + (if g (0 + m) = some B then 1 else 0)
    rw [ih (fun d a => h d (by omega)), Nat.zero_add]
    have h1 := h m (by omega)
    by_cases h2 : g m = some B
    · rw [if_pos h2, if_pos (h1.mpr h2)]
    · rw [if_neg h2, if_neg (fun z => h2 (h1.mp z))]
def wl_Sm (f : Nat → Option Nat) (lo m B W C : Nat) : Prop :=
  f C = some B ∧ lo ≤ C ∧ C < lo + m ∧ (∀ d x, lo ≤ d → d < lo + m → f d = some x → B ≤ x) ∧ (∀ d, lo ≤ d → d < C → f d ≠ some B) ∧ W = wl_cn f B lo m
theorem wl_Sm_uniq {f : Nat → Option Nat} {lo m B W C B' W' C' : Nat} (h : wl_Sm f lo m B W C) (h' : wl_Sm f lo m B' W' C') : B = B' ∧ W = W' ∧ C = C' := by
  obtain ⟨a1, a2, a3, a4, a5, a6⟩ := h
  obtain ⟨b1, b2, b3, b4, b5, b6⟩ := h'
  have e : B = B' := Nat.le_antisymm (a4 C' B' b2 b3 b1) (b4 C B a2 a3 a1)
  subst e
  refine ⟨rfl, a6.trans b6.symm, ?_⟩
  have h1 : ¬ C < C' := fun z => b5 C a2 z a1
  have h2 : ¬ C' < C := fun z => a5 C' b2 z b1
  omega
theorem wl_Sm_shift {f g : Nat → Option Nat} {lo m B W C c : Nat} (h : wl_Sm g 0 m B W C) (e : ∀ d, d < m → f (lo + d) = (g d).map (fun x => c + x)) : wl_Sm f lo m (c + B) W (lo + C) := by
  obtain ⟨a1, a2, a3, a4, a5, a6⟩ := h
  have q : ∀ d, d < m → (f (lo + d) = some (c + B) ↔ g d = some B) := by
    intro d hd
    rw [e d hd]
    cases z : g d with
    | none => simp
    | some x =>
      simp only [Option.map_some, Option.some.injEq]
      omega
  refine ⟨(q C (by omega)).mpr a1, by omega, by omega, ?_, ?_, ?_⟩
  · intro d x h1 h2 h3
    obtain ⟨d', rfl⟩ : ∃ d', d = lo + d' := ⟨d - lo, by omega⟩
    rw [e d' (by omega)] at h3
    cases z : g d' with
    | none => rw [z] at h3; simp at h3
    | some y =>
      rw [z] at h3
      have h4 := a4 d' y (by omega) (by omega) z
      simp only [Option.map_some, Option.some.injEq] at h3
      omega
  · intro d h1 h2 h3
    obtain ⟨d', rfl⟩ : ∃ d', d = lo + d' := ⟨d - lo, by omega⟩
    exact a5 d' (by omega) (by omega) ((q d' (by omega)).mp h3)
  · rw [a6]
    exact (wl_cn_shift m q).symm
theorem wl_Sm_gt {f : Nat → Option Nat} {lo m' m B W C B' W' C' : Nat} (h : wl_Sm f (lo + m') m B W C) (h' : wl_Sm f lo m' B' W' C') (hb : B < B') : wl_Sm f lo (m' + m) B W C := by
  obtain ⟨a1, a2, a3, a4, a5, a6⟩ := h
  obtain ⟨b1, b2, b3, b4, b5, b6⟩ := h'
  refine ⟨a1, by omega, by omega, ?_, ?_, ?_⟩
  · intro d x h1 h2 h3
    by_cases z : d < lo + m'
    · have := b4 d x h1 z h3; omega
    · exact a4 d x (by omega) (by omega) h3
  · intro d h1 h2 h3
    by_cases z : d < lo + m'
    · have := b4 d B h1 z h3; omega
    · exact a5 d (by omega) h2 h3
  · rw [wl_cn_add, wl_cn_zero m' (fun d h1 h2 h3 => by have := b4 d B h1 h2 h3; omega), Nat.zero_add]
    exact a6
theorem wl_Sm_eq {f : Nat → Option Nat} {lo m' m B W C W' C' : Nat} (h : wl_Sm f (lo + m') m B W C) (h' : wl_Sm f lo m' B W' C') : wl_Sm f lo (m' + m) B (W + W') C' := by
  obtain ⟨a1, a2, a3, a4, a5, a6⟩ := h
  obtain ⟨b1, b2, b3, b4, b5, b6⟩ := h'
  refine ⟨b1, by omega, by omega, ?_, ?_, ?_⟩
  · intro d x h1 h2 h3
    by_cases z : d < lo + m'
    · exact b4 d x h1 z h3
    · exact a4 d x (by omega) (by omega) h3
  · intro d h1 h2 h3
    exact b5 d h1 h2 h3
  · rw [wl_cn_add, a6, b6, Nat.add_comm]
theorem wl_Sm_lt {f : Nat → Option Nat} {lo m' m B W C B' W' C' : Nat} (h : wl_Sm f (lo + m') m B W C) (h' : wl_Sm f lo m' B' W' C') (hb : B' < B) : wl_Sm f lo (m' + m) B' W' C' := by
  obtain ⟨a1, a2, a3, a4, a5, a6⟩ := h
  obtain ⟨b1, b2, b3, b4, b5, b6⟩ := h'
  refine ⟨b1, by omega, by omega, ?_, ?_, ?_⟩
  · intro d x h1 h2 h3
    by_cases z : d < lo + m'
    · exact b4 d x h1 z h3
    · have := a4 d x (by omega) (by omega) h3; omega
  · intro d h1 h2 h3
    exact b5 d h1 h2 h3
  · rw [wl_cn_add, wl_cn_zero (lo := lo + m') m (fun d h1 h2 h3 => by have := a4 d B' h1 h2 h3; omega), Nat.add_zero]
    exact b6
theorem wl_Sm_none {f : Nat → Option Nat} {lo m' m B W C : Nat} (h : wl_Sm f (lo + m') m B W C) (hn : ∀ d, lo ≤ d → d < lo + m' → f d = none) : wl_Sm f lo (m' + m) B W C := by
  obtain ⟨a1, a2, a3, a4, a5, a6⟩ := h
  refine ⟨a1, by omega, by omega, ?_, ?_, ?_⟩
  · intro d x h1 h2 h3
    by_cases z : d < lo + m'
    · rw [hn d h1 z] at h3; exact absurd h3 (by simp)
    · exact a4 d x (by omega) (by omega) h3
  · intro d h1 h2 h3
    by_cases z : d < lo + m'
    · rw [hn d h1 z] at h3; exact absurd h3 (by simp)
    · exact a5 d (by omega) h2 h3
  · rw [wl_cn_add, wl_cn_zero m' (fun d h1 h2 h3 => by rw [hn d h1 h2] at h3; exact absurd h3 (by simp)), Nat.zero_add]
    exact a6
theorem wl_Sm_one {f : Nat → Option Nat} {lo x : Nat} (h : f lo = some x) : wl_Sm f lo 1 x 1 lo := by
  refine ⟨h, by omega, by omega, ?_, ?_, ?_⟩
  · intro d y h1 h2 h3
    have e : d = lo := by omega
    rw [e, h] at h3
    have : x = y := by simpa using h3
    omega
  · intro d h1 h2
    omega
  · show 1 = 0 + (if f (lo + 0) = some x then 1 else 0)
    rw [Nat.add_zero, if_pos h]
/-! the same with the new range behind -/
theorem wl_Sm_eq2 {f : Nat → Option Nat} {lo m m' B W C W' C' : Nat} (h : wl_Sm f lo m B W C) (h' : wl_Sm f (lo + m) m' B W' C') : wl_Sm f lo (m + m') B (W + W') C := by
  have h1 := wl_Sm_eq h' h
  rw [Nat.add_comm W W']
  exact h1
theorem wl_Sm_none2 {f : Nat → Option Nat} {lo m m' B W C : Nat} (h : wl_Sm f lo m B W C) (hn : ∀ d, lo + m ≤ d → d < lo + m + m' → f d = none) : wl_Sm f lo (m + m') B W C := by
  obtain ⟨a1, a2, a3, a4, a5, a6⟩ := h
  refine ⟨a1, a2, by omega, ?_, a5, ?_⟩
  · intro d x h1 h2 h3
    by_cases z : d < lo + m
    · exact a4 d x h1 z h3
    · rw [hn d (by omega) (by omega)] at h3; exact absurd h3 (by simp)
  · rw [wl_cn_add, wl_cn_zero (lo := lo + m) m' (fun d h1 h2 h3 => by rw [hn d h1 h2] at h3; exact absurd h3 (by simp)), Nat.add_zero]
    exact a6
theorem wl_Sm_none0 {f : Nat → Option Nat} {lo m m' B W C : Nat} (h : wl_Sm f (lo + m) m' B W C) (hn : ∀ d, lo ≤ d → d < lo + m → f d = none) : wl_Sm f lo (m + m') B W C := wl_Sm_none h hn
end
section
/-! the cost of a cut, read as Y reads it: r places are left, the piece began at fr, b stood before it, d holds the borders as bits -/
def wl_G (n : Nat) (pc : Nat → Nat → Option (Nat × Nat)) (lk : Nat → Nat) : Nat → Nat → Nat → Nat → Option Nat
  | 0, _, _, _ => some 0
  | r + 1, fr, b, d =>
    if r = 0 ∨ d.testBit (r - 1) = true then
      match pc fr (n - r) with
      | none => none
      | some ck => (wl_G n pc lk r (n - r) ck.2 d).map (fun x => lk (4 * b + ck.2) + ck.1 + x)
    else wl_G n pc lk r fr b d
def wl_hi (n p : Nat) : Nat := 2 ^ (n - 1 - p)
def wl_lo (n q : Nat) : Nat := if q < n then 2 ^ (n - 1 - q) else 0
theorem wl_lo_lt {n q : Nat} (h : q < n) : wl_lo n q = wl_hi n q := if_pos h
theorem wl_lo_n (n : Nat) : wl_lo n n = 0 := if_neg (Nat.lt_irrefl n)
theorem wl_hi_n (n : Nat) : wl_hi n n = 1 := by
  unfold wl_hi
  rw [show n - 1 - n = 0 by omega]
theorem wl_hi_pos (n p : Nat) : 0 < wl_hi n p := Nat.two_pow_pos _
theorem wl_lo_step {n q : Nat} (h : q < n) : wl_lo n q = wl_lo n (q + 1) + wl_hi n (q + 1) := by
  by_cases h1 : q + 1 < n
  · rw [wl_lo_lt h, wl_lo_lt h1]
    unfold wl_hi
    rw [show n - 1 - q = (n - 1 - (q + 1)) + 1 by omega, Nat.pow_succ]
    omega
  · have e : q + 1 = n := by omega
    rw [e, wl_lo_n, wl_hi_n, wl_lo_lt h]
    unfold wl_hi
    rw [show n - 1 - q = 0 by omega]
theorem wl_hi_le (n p : Nat) : wl_hi n p ≤ 2 ^ (n - 1) := Nat.pow_le_pow_right (by decide) (by omega)
theorem wl_hi_2048 {n : Nat} (h : n ≤ 12) (p : Nat) : wl_hi n p ≤ 2048 := by
  have h1 := wl_hi_le n p
  have h2 : 2 ^ (n - 1) ≤ 2 ^ 11 := Nat.pow_le_pow_right (by decide) (by omega)
  have h3 : 2 ^ 11 = 2048 := by decide
  omega
section
variable {n : Nat} {pc : Nat → Nat → Option (Nat × Nat)} {lk : Nat → Nat}
theorem wl_G_0 (fr b d : Nat) : wl_G n pc lk 0 fr b d = some 0 := rfl
theorem wl_G_b {r fr b d c k : Nat} (hb : r = 0 ∨ d.testBit (r - 1) = true) (e : pc fr (n - r) = some (c, k)) : wl_G n pc lk (r + 1) fr b d = (wl_G n pc lk r (n - r) k d).map (fun x => lk (4 * b + k) + c + x) := by
  rw [wl_G, if_pos hb, e]
theorem wl_G_bn {r fr b d : Nat} (hb : r = 0 ∨ d.testBit (r - 1) = true) (e : pc fr (n - r) = none) : wl_G n pc lk (r + 1) fr b d = none := by
  rw [wl_G, if_pos hb, e]
theorem wl_G_n {r fr b d : Nat} (hb : ¬ (r = 0 ∨ d.testBit (r - 1) = true)) : wl_G n pc lk (r + 1) fr b d = wl_G n pc lk r fr b d := by
  rw [wl_G, if_neg hb]
theorem wl_G_mod : ∀ r fr b d d' : Nat, (∀ i, i + 1 < r → d.testBit i = d'.testBit i) → wl_G n pc lk r fr b d = wl_G n pc lk r fr b d' := by
  intro r
  induction r with
  | zero => intro fr b d d' _; rfl
  | succ r ih =>
    intro fr b d d' h
    have q : (r = 0 ∨ d.testBit (r - 1) = true) ↔ (r = 0 ∨ d'.testBit (r - 1) = true) := by
      by_cases r0 : r = 0
      · exact ⟨fun _ => Or.inl r0, fun _ => Or.inl r0⟩
      · rw [h (r - 1) (by omega)]
    by_cases hb : r = 0 ∨ d.testBit (r - 1) = true
    · cases e : pc fr (n - r) with
      | none => rw [wl_G_bn hb e, wl_G_bn (q.mp hb) e]
      | some ck => rw [wl_G_b hb e, wl_G_b (q.mp hb) e, ih _ _ d d' (fun i hi => h i (by omega))]
    · rw [wl_G_n hb, wl_G_n (fun z => hb (q.mpr z)), ih _ _ d d' (fun i hi => h i (by omega))]
theorem wl_G_bd (hlk : ∀ j, lk j ≤ 99) (hpc : ∀ p q c k, pc p q = some (c, k) → c ≤ 99) : ∀ r fr b d x : Nat, wl_G n pc lk r fr b d = some x → x ≤ 198 * r := by
  intro r
  induction r with
  | zero =>
    intro fr b d x h
    rw [wl_G_0] at h
    have : 0 = x := by simpa using h
    omega
  | succ r ih =>
    intro fr b d x h
    by_cases hb : r = 0 ∨ d.testBit (r - 1) = true
    · cases e : pc fr (n - r) with
      | none => rw [wl_G_bn hb e] at h; exact absurd h (by simp)
      | some ck =>
        obtain ⟨c, k⟩ := ck
        rw [wl_G_b hb e] at h
        cases z : wl_G n pc lk r (n - r) k d with
        | none => rw [z] at h; simp at h
        | some y =>
          rw [z] at h
          have h1 := ih _ _ _ _ z
          have h2 := hlk (4 * b + k)
          have h3 := hpc _ _ _ _ e
          simp only [Option.map_some, Option.some.injEq] at h
          omega
    · rw [wl_G_n hb] at h
      have h1 := ih _ _ _ _ h
      omega
theorem wl_G_skip {r' fr b d : Nat} (hr : 1 ≤ r') (hd : d < 2 ^ (r' - 1)) : ∀ m, wl_G n pc lk (r' + m) fr b d = wl_G n pc lk r' fr b d := by
  intro m
  induction m with
  | zero => rfl
  | succ m ih =>
    rw [← ih]
    show wl_G n pc lk (r' + m + 1) fr b d = _
    refine wl_G_n (r := r' + m) ?_
    intro z
    rcases z with z | z
    · omega
    · have h1 : 2 ^ (r' - 1) ≤ 2 ^ (r' + m - 1) := Nat.pow_le_pow_right (by decide) (by omega)
      rw [Nat.testBit_lt_two_pow (by omega)] at z
      exact absurd z (by decide)
theorem wl_bits {q d : Nat} (hq : q + 1 ≤ n) (hd : d < wl_hi n (q + 1)) : wl_lo n (q + 1) + d < 2 ^ (n - q - 1) ∧ (n - (q + 1) = 0 ∨ (wl_lo n (q + 1) + d).testBit (n - (q + 1) - 1) = true) ∧ (∀ i, i + 1 < n - (q + 1) → (wl_lo n (q + 1) + d).testBit i = d.testBit i) := by
  refine ⟨?_, ?_, ?_⟩
  · have h1 := wl_lo_step (n := n) (q := q) (by omega)
    have h2 : wl_lo n q = 2 ^ (n - q - 1) := by
      rw [wl_lo_lt (by omega)]
      unfold wl_hi
      rw [show n - 1 - q = n - q - 1 by omega]
    omega
  · by_cases h1 : q + 1 < n
    · right
      rw [wl_lo_lt h1]
      unfold wl_hi at hd ⊢
      rw [show n - (q + 1) - 1 = n - 1 - (q + 1) by omega, Nat.testBit_two_pow_add_eq, Nat.testBit_lt_two_pow hd]
      rfl
    · left; omega
  · intro i hi
    rw [wl_lo_lt (by omega)]
    unfold wl_hi
    exact Nat.testBit_two_pow_add_gt (by omega) d
theorem wl_H_step {p q b c k d : Nat} (hpq : p ≤ q) (hq : q + 1 ≤ n) (hd : d < wl_hi n (q + 1)) (e : pc p (q + 1) = some (c, k)) : wl_G n pc lk (n - p) p b (wl_lo n (q + 1) + d) = (wl_G n pc lk (n - (q + 1)) (q + 1) k d).map (fun x => lk (4 * b + k) + c + x) := by
  obtain ⟨h1, h2, h3⟩ := wl_bits hq hd
  rw [show n - p = (n - q) + (q - p) by omega, wl_G_skip (by omega) h1, show n - q = (n - (q + 1)) + 1 by omega]
  rw [wl_G_b h2 (c := c) (k := k) (by rw [show n - (n - (q + 1)) = q + 1 by omega]; exact e), show n - (n - (q + 1)) = q + 1 by omega]
  rw [wl_G_mod _ _ _ _ d h3]
theorem wl_H_stepn {p q b d : Nat} (hpq : p ≤ q) (hq : q + 1 ≤ n) (hd : d < wl_hi n (q + 1)) (e : pc p (q + 1) = none) : wl_G n pc lk (n - p) p b (wl_lo n (q + 1) + d) = none := by
  obtain ⟨h1, h2, h3⟩ := wl_bits hq hd
  rw [show n - p = (n - q) + (q - p) by omega, wl_G_skip (by omega) h1, show n - q = (n - (q + 1)) + 1 by omega]
  rw [wl_G_bn h2 (by rw [show n - (n - (q + 1)) = q + 1 by omega]; exact e)]
theorem wl_G_far {p b d : Nat} : ∀ r, (∀ i, i ≤ r → pc p (n - i) = none) → wl_G n pc lk (r + 1) p b d = none := by
  intro r
  induction r with
  | zero => intro h; exact wl_G_bn (Or.inl rfl) (h 0 (by omega))
  | succ r ih =>
    intro h
    by_cases hb : r + 1 = 0 ∨ d.testBit (r + 1 - 1) = true
    · exact wl_G_bn hb (h (r + 1) (by omega))
    · rw [wl_G_n hb]
      exact ih (fun i hi => h i (by omega))
theorem wl_H_far {p q b d : Nat} (hpq : p ≤ q) (hq : q < n) (hd : d < wl_lo n q) (e : ∀ q', q < q' → pc p q' = none) : wl_G n pc lk (n - p) p b d = none := by
  have h1 : d < 2 ^ (n - q - 1) := by
    rw [wl_lo_lt hq] at hd
    unfold wl_hi at hd
    rw [show n - q - 1 = n - 1 - q by omega]
    exact hd
  rw [show n - p = (n - q) + (q - p) by omega, wl_G_skip (by omega) h1, show n - q = (n - (q + 1)) + 1 by omega]
  exact wl_G_far _ (fun i hi => e _ (by omega))
/-- what X holds for a state (p, b) when the pieces of length up to q - p have been offered: nothing yet, or the summary of the cuts whose first border is at most q -/
def wl_St (n : Nat) (pc : Nat → Nat → Option (Nat × Nat)) (lk : Nat → Nat) (p q b : Nat) (RC RW CE CK : Nat → Nat) : Prop :=
  (q = p → RC (5 * p + b) = 3000) ∧
  (p < q → ∃ m C c', wl_lo n q + m = wl_hi n p ∧ wl_Sm (wl_G n pc lk (n - p) p b) (wl_lo n q) m (RC (5 * p + b)) (RW (5 * p + b)) C ∧
    p < CE (5 * p + b) ∧ CE (5 * p + b) ≤ n ∧ CK (5 * p + b) < 4 ∧ C = wl_lo n (CE (5 * p + b)) + c' ∧
    wl_Sm (wl_G n pc lk (n - CE (5 * p + b)) (CE (5 * p + b)) (CK (5 * p + b))) 0 (wl_hi n (CE (5 * p + b))) (RC (5 * CE (5 * p + b) + CK (5 * p + b))) (RW (5 * CE (5 * p + b) + CK (5 * p + b))) c')
/-- what X holds for a state (p, b) whose place is done -/
def wl_Dn (n : Nat) (pc : Nat → Nat → Option (Nat × Nat)) (lk : Nat → Nat) (p b : Nat) (RC RW CE CK : Nat → Nat) : Prop :=
  ∃ C, wl_Sm (wl_G n pc lk (n - p) p b) 0 (wl_hi n p) (RC (5 * p + b)) (RW (5 * p + b)) C ∧
    (p < n → ∃ c', p < CE (5 * p + b) ∧ CE (5 * p + b) ≤ n ∧ CK (5 * p + b) < 4 ∧ C = wl_lo n (CE (5 * p + b)) + c' ∧
    wl_Sm (wl_G n pc lk (n - CE (5 * p + b)) (CE (5 * p + b)) (CK (5 * p + b))) 0 (wl_hi n (CE (5 * p + b))) (RC (5 * CE (5 * p + b) + CK (5 * p + b))) (RW (5 * CE (5 * p + b) + CK (5 * p + b))) c')
/-- the tables agree on the rows of the places above p -/
def wl_Ab (p : Nat) (F F' : Nat → Nat) : Prop := ∀ j, 5 * p + 5 ≤ j → F' j = F j
theorem wl_Dn_ab {p p' b : Nat} {RC RW CE CK RC' RW' CE' CK' : Nat → Nat} (h : wl_Dn n pc lk p' b RC RW CE CK) (hp : p < p') (h1 : wl_Ab p RC RC') (h2 : wl_Ab p RW RW') (h3 : wl_Ab p CE CE') (h4 : wl_Ab p CK CK') : wl_Dn n pc lk p' b RC' RW' CE' CK' := by
  obtain ⟨C, s, t⟩ := h
  refine ⟨C, ?_, fun hn => ?_⟩
  · rw [h1 _ (by omega), h2 _ (by omega)]; exact s
  · obtain ⟨c', t1, t2, t3, t4, t5⟩ := t hn
    refine ⟨c', ?_⟩
    rw [h3 (5 * p' + b) (by omega), h4 (5 * p' + b) (by omega), h1 _ (by omega), h2 _ (by omega)]
    exact ⟨t1, t2, t3, t4, t5⟩
theorem wl_Dn_n (b : Nat) {RC RW CE CK : Nat → Nat} (h1 : RC (5 * n + b) = 0) (h2 : RW (5 * n + b) = 1) : wl_Dn n pc lk n b RC RW CE CK := by
  refine ⟨0, ?_, fun z => absurd z (Nat.lt_irrefl n)⟩
  rw [h1, h2, wl_hi_n, Nat.sub_self]
  exact wl_Sm_one rfl
/-- one offer, of the piece (p, q + 1), at one state -/
def wl_Of (p e c k b : Nat) (lk : Nat → Nat) (RC RW CE CK RC' RW' CE' CK' : Nat → Nat) : Prop :=
  (RC (5 * p + b) < lk (4 * b + k) + c + RC (5 * e + k) → RC' (5 * p + b) = RC (5 * p + b) ∧ RW' (5 * p + b) = RW (5 * p + b) ∧ CE' (5 * p + b) = CE (5 * p + b) ∧ CK' (5 * p + b) = CK (5 * p + b)) ∧
  (¬ RC (5 * p + b) < lk (4 * b + k) + c + RC (5 * e + k) → RC' (5 * p + b) = lk (4 * b + k) + c + RC (5 * e + k) ∧ CE' (5 * p + b) = e ∧ CK' (5 * p + b) = k ∧
    RW' (5 * p + b) = if lk (4 * b + k) + c + RC (5 * e + k) < RC (5 * p + b) then RW (5 * e + k) else RW (5 * p + b) + RW (5 * e + k))
theorem wl_St_offer {p q b c k : Nat} {RC RW CE CK RC' RW' CE' CK' : Nat → Nat} (hn : n ≤ 12) (hlk : ∀ j, lk j ≤ 99) (hpc : ∀ p q c k, pc p q = some (c, k) → c ≤ 99 ∧ k < 4)
    (hpq : p ≤ q) (hq : q + 1 ≤ n) (e : pc p (q + 1) = some (c, k)) (hb : b < 5) (hS : wl_St n pc lk p q b RC RW CE CK) (hD : ∀ p' b', p < p' → p' ≤ n → b' < 5 → wl_Dn n pc lk p' b' RC RW CE CK)
    (h1 : wl_Ab p RC RC') (h2 : wl_Ab p RW RW') (hO : wl_Of p (q + 1) c k b lk RC RW CE CK RC' RW' CE' CK') : wl_St n pc lk p (q + 1) b RC' RW' CE' CK' := by
  refine ⟨fun z => by omega, fun _ => ?_⟩
  have hk := (hpc _ _ _ _ e).2
  obtain ⟨C1, s1, _⟩ := hD (q + 1) k (by omega) hq (by omega)
  have s2 : wl_Sm (wl_G n pc lk (n - p) p b) (wl_lo n (q + 1)) (wl_hi n (q + 1)) (lk (4 * b + k) + c + RC (5 * (q + 1) + k)) (RW (5 * (q + 1) + k)) (wl_lo n (q + 1) + C1) :=
    wl_Sm_shift s1 (fun d hd => wl_H_step hpq hq hd e)
  have hl := wl_lo_step (n := n) (q := q) (by omega)
  have hbd : lk (4 * b + k) + c + RC (5 * (q + 1) + k) ≤ 198 * (n - p) := wl_G_bd hlk (fun p q c k z => (hpc p q c k z).1) _ _ _ _ _ s2.1
  by_cases g : RC (5 * p + b) < lk (4 * b + k) + c + RC (5 * (q + 1) + k)
  · obtain ⟨o1, o2, o3, o4⟩ := hO.1 g
    have hpq2 : p < q := by
      have : q ≠ p := fun z => by have := hS.1 z; omega
      omega
    obtain ⟨m, C, c', t1, t2, t3, t4, t5, t6, t7⟩ := hS.2 hpq2
    refine ⟨wl_hi n (q + 1) + m, C, c', by omega, ?_, ?_⟩
    · rw [o1, o2]
      rw [hl] at t2
      exact wl_Sm_gt t2 s2 g
    · rw [o3, o4, h1 _ (by omega), h2 _ (by omega)]
      exact ⟨t3, t4, t5, t6, t7⟩
  · obtain ⟨o1, o3, o4, o2⟩ := hO.2 g
    have fin : ∀ m W, wl_lo n (q + 1) + m = wl_hi n p → wl_Sm (wl_G n pc lk (n - p) p b) (wl_lo n (q + 1)) m (lk (4 * b + k) + c + RC (5 * (q + 1) + k)) W (wl_lo n (q + 1) + C1) → RW' (5 * p + b) = W →
        ∃ m C c', wl_lo n (q + 1) + m = wl_hi n p ∧ wl_Sm (wl_G n pc lk (n - p) p b) (wl_lo n (q + 1)) m (RC' (5 * p + b)) (RW' (5 * p + b)) C ∧
          p < CE' (5 * p + b) ∧ CE' (5 * p + b) ≤ n ∧ CK' (5 * p + b) < 4 ∧ C = wl_lo n (CE' (5 * p + b)) + c' ∧
          wl_Sm (wl_G n pc lk (n - CE' (5 * p + b)) (CE' (5 * p + b)) (CK' (5 * p + b))) 0 (wl_hi n (CE' (5 * p + b))) (RC' (5 * CE' (5 * p + b) + CK' (5 * p + b))) (RW' (5 * CE' (5 * p + b) + CK' (5 * p + b))) c' := by
      intro m W e1 e2 e3
      refine ⟨m, wl_lo n (q + 1) + C1, C1, e1, ?_, ?_⟩
      · rw [o1, e3]; exact e2
      · rw [o3, o4, h1 _ (by omega), h2 _ (by omega)]
        exact ⟨by omega, hq, hk, rfl, s1⟩
    by_cases hqp : q = p
    · subst hqp
      have h3 := hS.1 rfl
      rw [if_pos (by omega)] at o2
      exact fin _ _ (by rw [← hl, wl_lo_lt (by omega)]) s2 o2
    · obtain ⟨m, C, c', t1, t2, t3, t4, t5, t6, t7⟩ := hS.2 (by omega)
      rw [hl] at t2
      by_cases l : lk (4 * b + k) + c + RC (5 * (q + 1) + k) < RC (5 * p + b)
      · rw [if_pos l] at o2
        exact fin (wl_hi n (q + 1) + m) _ (by omega) (wl_Sm_lt t2 s2 l) o2
      · rw [if_neg l] at o2
        have e4 : RC (5 * p + b) = lk (4 * b + k) + c + RC (5 * (q + 1) + k) := by omega
        rw [e4] at t2
        exact fin (wl_hi n (q + 1) + m) _ (by omega) (wl_Sm_eq t2 s2) o2
theorem wl_St_no {p q b : Nat} {RC RW CE CK : Nat → Nat} (h1 : pc p (p + 1) ≠ none)
    (hpq : p ≤ q) (hq : q + 1 ≤ n) (e : pc p (q + 1) = none) (hS : wl_St n pc lk p q b RC RW CE CK) : wl_St n pc lk p (q + 1) b RC RW CE CK := by
  refine ⟨fun z => by omega, fun _ => ?_⟩
  have hqp : p ≠ q := fun z => h1 (by rw [← z] at e; exact e)
  obtain ⟨m, C, c', t1, t2, t3⟩ := hS.2 (by omega)
  have hl := wl_lo_step (n := n) (q := q) (by omega)
  rw [hl] at t2
  refine ⟨wl_hi n (q + 1) + m, C, c', by omega, wl_Sm_none t2 (fun d a1 a2 => ?_), t3⟩
  obtain ⟨d', rfl⟩ : ∃ d', d = wl_lo n (q + 1) + d' := ⟨d - wl_lo n (q + 1), by omega⟩
  exact wl_H_stepn hpq hq (by omega) e
theorem wl_St_end {p q b : Nat} {RC RW CE CK : Nat → Nat} (hpq : p < q) (hq : q ≤ n) (h : q = n ∨ ∀ q', q < q' → pc p q' = none) (hS : wl_St n pc lk p q b RC RW CE CK) : wl_Dn n pc lk p b RC RW CE CK := by
  obtain ⟨m, C, c', t1, t2, t3, t4, t5, t6, t7⟩ := hS.2 hpq
  refine ⟨C, ?_, fun _ => ⟨c', t3, t4, t5, t6, t7⟩⟩
  by_cases hqn : q = n
  · rw [hqn, wl_lo_n] at t1 t2
    have e : m = wl_hi n p := by omega
    rw [← e]
    exact t2
  · have hf : ∀ q', q < q' → pc p q' = none := by
      rcases h with h | h
      · exact absurd h hqn
      · exact h
    rw [← t1]
    refine wl_Sm_none (lo := 0) ?_ (fun d _ hd => ?_)
    · rw [Nat.zero_add]; exact t2
    · exact wl_H_far (by omega) (by omega) (by omega) hf
end
end
section
/-! what both sides hold: penalty p, w words, s letters spelled, t letters typed; letters A, lengths L, prices P, kinds K, spelled S, text T, links LK, codes C -/
def wl_wd (A : Nat → Nat) (i : Nat) : Nat → Nat := fun j => A (5 * i + j)
def wl_Inv (p w s t : Nat) (A L P K S T LK C : Nat → Nat) : Prop :=
  (p ≤ 99 ∧ w ≤ 16 ∧ s ≤ 5 ∧ t ≤ 12) ∧ ((∀ j, A j < 4) ∧ (∀ j, S j < 4) ∧ (∀ j, T j < 4)) ∧ ((∀ j, LK j ≤ 99) ∧ (∀ j, 16 ≤ j → LK j = 0)) ∧
  ((∀ j, P j ≤ 99) ∧ (∀ j, K j < 3)) ∧ (∀ i, i < w → 1 ≤ L i ∧ L i ≤ 5 ∧ C i = wl_cd (wl_wd A i) (L i))
def wl_Bg (f : Nat → Nat) (n : Nat) (g : Nat → Nat) (s : Nat) : Prop := s ≤ n ∧ ∀ j, j < s → f j = g j
theorem wl_un_lt {F : Nat → Nat} {k x M : Nat} (h : ∀ j, F j < M) (hx : x < M) : ∀ j, wl_un F k x j < M := by
  intro j
  unfold wl_un
  by_cases e : j = k
  · rw [if_pos e]; exact hx
  · rw [if_neg e]; exact h j
theorem wl_un_le {F : Nat → Nat} {k x M : Nat} (h : ∀ j, F j ≤ M) (hx : x ≤ M) : ∀ j, wl_un F k x j ≤ M := by
  intro j
  unfold wl_un
  by_cases e : j = k
  · rw [if_pos e]; exact hx
  · rw [if_neg e]; exact h j
theorem wl_Inv0 {p : Nat} (hp : p ≤ 99) : wl_Inv p 0 0 0 (fun _ => 0) (fun _ => 0) (fun _ => 0) (fun _ => 0) (fun _ => 0) (fun _ => 0) (fun _ => 0) (fun _ => 0) :=
  ⟨⟨hp, by omega, by omega, by omega⟩, ⟨fun _ => Nat.succ_pos 3, fun _ => Nat.succ_pos 3, fun _ => Nat.succ_pos 3⟩, ⟨fun _ => Nat.zero_le 99, fun _ _ => rfl⟩, ⟨fun _ => Nat.zero_le 99, fun _ => Nat.succ_pos 2⟩, fun i hi => absurd hi (Nat.not_lt_zero i)⟩
section
variable {p w s t : Nat} {A L P K S T LK C : Nat → Nat}
theorem wl_cd_spell (S : Nat → Nat) (s c : Nat) : wl_cd (wl_un S s c) (s + 1) = 4 * wl_cd S s + c := by
  rw [wl_cd_s, wl_us, wl_cd_ext s (fun j hj => wl_uo (by omega))]
theorem wl_Inv_spell (h : wl_Inv p w s t A L P K S T LK C) (hs : s < 5) {c : Nat} (hc : c < 4) : wl_Inv p w (s + 1) t A L P K (wl_un S s c) T LK C :=
  ⟨⟨h.1.1, h.1.2.1, by omega, h.1.2.2.2⟩, ⟨h.2.1.1, wl_un_lt h.2.1.2.1 hc, h.2.1.2.2⟩, h.2.2.1, h.2.2.2.1, h.2.2.2.2⟩
theorem wl_Inv_clear (h : wl_Inv p w s t A L P K S T LK C) : wl_Inv p w 0 t A L P K S T LK C :=
  ⟨⟨h.1.1, h.1.2.1, by omega, h.1.2.2.2⟩, h.2.1, h.2.2.1, h.2.2.2.1, h.2.2.2.2⟩
theorem wl_Inv_type (h : wl_Inv p w s t A L P K S T LK C) (ht : t < 12) {c : Nat} (hc : c < 4) : wl_Inv p w s (t + 1) A L P K S (wl_un T t c) LK C :=
  ⟨⟨h.1.1, h.1.2.1, h.1.2.2.1, by omega⟩, ⟨h.2.1.1, h.2.1.2.1, wl_un_lt h.2.1.2.2 hc⟩, h.2.2.1, h.2.2.2.1, h.2.2.2.2⟩
theorem wl_Inv_clearT (h : wl_Inv p w s t A L P K S T LK C) : wl_Inv p w s 0 A L P K S T LK C :=
  ⟨⟨h.1.1, h.1.2.1, h.1.2.2.1, by omega⟩, h.2.1, h.2.2.1, h.2.2.2.1, h.2.2.2.2⟩
theorem wl_Inv_link (h : wl_Inv p w s t A L P K S T LK C) {i c : Nat} (hi : i < 16) (hc : c ≤ 99) : wl_Inv p w s t A L P K S T (wl_un LK i c) C :=
  ⟨h.1, h.2.1, ⟨wl_un_le h.2.2.1.1 hc, fun j hj => by rw [wl_uo (by omega)]; exact h.2.2.1.2 j hj⟩, h.2.2.2.1, h.2.2.2.2⟩
theorem wl_Inv_old (h : wl_Inv p w s t A L P K S T LK C) {i c k : Nat} (hi : i < w) (e : C i = wl_cd S s) (hc : c ≤ 99) (hk : k < 3) : wl_Inv p w 0 t A L (wl_un P i c) (wl_un K i k) S T LK (wl_un C i (wl_cd S s)) := by
  refine ⟨⟨h.1.1, h.1.2.1, by omega, h.1.2.2.2⟩, h.2.1, h.2.2.1, ⟨wl_un_le h.2.2.2.1.1 hc, wl_un_lt h.2.2.2.1.2 hk⟩, fun j hj => ?_⟩
  have e2 : wl_un C i (wl_cd S s) j = C j := by
    by_cases z : j = i
    · rw [z, wl_us, e]
    · exact wl_uo z
  rw [e2]
  exact h.2.2.2.2 j hj
/-- the letters with those of F from the place a on, m of them -/
def wl_cp (A : Nat → Nat) (a m : Nat) (F : Nat → Nat) : Nat → Nat := fun j => if a ≤ j ∧ j < a + m then F (j - a) else A j
theorem wl_cp_0 (A : Nat → Nat) (a : Nat) (F : Nat → Nat) : wl_cp A a 0 F = A := by
  funext j
  unfold wl_cp
  rw [if_neg (by omega)]
theorem wl_cp_s (A : Nat → Nat) (a m : Nat) (F : Nat → Nat) : wl_un (wl_cp A a m F) (a + m) (F m) = wl_cp A a (m + 1) F := by
  funext j
  unfold wl_cp wl_un
  by_cases e : j = a + m
  · rw [if_pos e, if_pos (by omega), e]
    congr 1
    omega
  · rw [if_neg e]
    dsimp only
    by_cases z : a ≤ j ∧ j < a + m
    · rw [if_pos z, if_pos (by omega)]
    · rw [if_neg z, if_neg (by omega)]
theorem wl_cp_in {A F : Nat → Nat} {a m j : Nat} (h : j < m) : wl_cp A a m F (a + j) = F j := by
  unfold wl_cp
  rw [if_pos (by omega)]
  congr 1
  omega
theorem wl_cp_out {A F : Nat → Nat} {a m j : Nat} (h : j < a ∨ a + m ≤ j) : wl_cp A a m F j = A j := by
  unfold wl_cp
  rw [if_neg (by omega)]
theorem wl_cp_lt {A F : Nat → Nat} {a m M : Nat} (h : ∀ j, A j < M) (h' : ∀ j, F j < M) : ∀ j, wl_cp A a m F j < M := by
  intro j
  unfold wl_cp
  by_cases z : a ≤ j ∧ j < a + m
  · rw [if_pos z]; exact h' _
  · rw [if_neg z]; exact h j
theorem wl_Inv_new (h : wl_Inv p w s t A L P K S T LK C) {c k : Nat} (hw : w < 16) (hs : 0 < s) (hc : c ≤ 99) (hk : k < 3) : wl_Inv p (w + 1) 0 t (wl_cp A (5 * w) s S) (wl_un L w s) (wl_un P w c) (wl_un K w k) S T LK (wl_un C w (wl_cd S s)) := by
  have h5 : s ≤ 5 := h.1.2.2.1
  refine ⟨⟨h.1.1, by omega, by omega, h.1.2.2.2⟩, ⟨wl_cp_lt h.2.1.1 h.2.1.2.1, h.2.1.2.1, h.2.1.2.2⟩, h.2.2.1, ⟨wl_un_le h.2.2.2.1.1 hc, wl_un_lt h.2.2.2.1.2 hk⟩, fun j hj => ?_⟩
  by_cases z : j = w
  · subst z
    rw [wl_us, wl_us]
    refine ⟨hs, h5, wl_cd_ext s (fun i hi => ?_)⟩
    unfold wl_wd
    exact (wl_cp_in hi).symm
  · rw [wl_uo z, wl_uo z]
    obtain ⟨a, b, e⟩ := h.2.2.2.2 j (by omega)
    refine ⟨a, b, ?_⟩
    rw [e]
    refine wl_cd_ext _ (fun i hi => ?_)
    unfold wl_wd
    exact (wl_cp_out (Or.inl (by omega))).symm
theorem wl_Inv_forget (h : wl_Inv p (w + 1) s t A L P K S T LK C) {i : Nat} (hi : i < w + 1) : wl_Inv p w 0 t (wl_cp A (5 * i) 5 (wl_wd A w)) (wl_un L i (L w)) (wl_un P i (P w)) (wl_un K i (K w)) S T LK (wl_un C i (C w)) := by
  have hw : w + 1 ≤ 16 := h.1.2.1
  refine ⟨⟨h.1.1, by omega, by omega, h.1.2.2.2⟩, ⟨wl_cp_lt h.2.1.1 (fun j => h.2.1.1 _), h.2.1.2.1, h.2.1.2.2⟩, h.2.2.1, ⟨wl_un_le h.2.2.2.1.1 (h.2.2.2.1.1 _), wl_un_lt h.2.2.2.1.2 (h.2.2.2.1.2 _)⟩, fun j hj => ?_⟩
  by_cases z : j = i
  · subst z
    rw [wl_us, wl_us]
    obtain ⟨a, b, e⟩ := h.2.2.2.2 w (by omega)
    refine ⟨a, b, ?_⟩
    rw [e]
    refine wl_cd_ext _ (fun i' hi' => ?_)
    show A (5 * w + i') = wl_cp A (5 * j) 5 (wl_wd A w) (5 * j + i')
    rw [wl_cp_in (by omega)]
    rfl
  · rw [wl_uo z, wl_uo z]
    obtain ⟨a, b, e⟩ := h.2.2.2.2 j (by omega)
    refine ⟨a, b, ?_⟩
    rw [e]
    refine wl_cd_ext _ (fun i' hi' => ?_)
    unfold wl_wd
    exact (wl_cp_out (by omega)).symm
/-- a word's letters and the spelling's -/
theorem wl_same (h : wl_Inv p w s t A L P K S T LK C) {i n : Nat} {g : Nat → Nat} (hg : ∀ j, g j < 4) (hi : i < w) : C i = wl_cd g n ↔ (L i = n ∧ ∀ j, j < n → A (5 * i + j) = g j) := by
  obtain ⟨a, b, e⟩ := h.2.2.2.2 i hi
  rw [e]
  constructor
  · intro z
    obtain ⟨e1, e2⟩ := wl_cd_inj _ _ (fun j _ => h.2.1.1 _) (fun j _ => hg j) z
    rw [e1] at e2
    exact ⟨e1, e2⟩
  · intro ⟨e1, e2⟩
    rw [e1]
    exact wl_cd_ext n e2
def wl_fr (f : Nat → Nat) (n d : Nat) : Nat := if d ≤ n then wl_cd f (n - d) else 0
theorem wl_fr_0 (f : Nat → Nat) (n : Nat) : wl_fr f n 0 = wl_cd f n := if_pos (Nat.zero_le n)
theorem wl_fr_s {f : Nat → Nat} (hf : ∀ j, f j < 4) (n d : Nat) : wl_fr f n d / 4 = wl_fr f n (d + 1) := by
  unfold wl_fr
  by_cases h : d ≤ n
  · rw [if_pos h]
    by_cases h2 : d + 1 ≤ n
    · rw [if_pos h2, show n - d = (n - (d + 1)) + 1 by omega, wl_cd_s]
      have := hf (n - (d + 1))
      omega
    · rw [if_neg h2, show n - d = 0 by omega]
      show 1 / 4 = 0
      decide
  · rw [if_neg h, if_neg (by omega)]
theorem wl_fr_eq {f g : Nat → Nat} (hf : ∀ j, f j < 4) (hg : ∀ j, g j < 4) (n d s : Nat) : wl_fr f n d = wl_cd g s ↔ (d + s = n ∧ ∀ j, j < s → f j = g j) := by
  unfold wl_fr
  by_cases h : d ≤ n
  · rw [if_pos h]
    constructor
    · intro z
      obtain ⟨e1, e2⟩ := wl_cd_inj _ _ (fun j _ => hf j) (fun j _ => hg j) z
      refine ⟨by omega, fun j hj => e2 j (by omega)⟩
    · intro ⟨e1, e2⟩
      rw [show n - d = s by omega]
      exact wl_cd_ext s e2
  · rw [if_neg h]
    have := wl_cd_pos g s
    constructor
    · intro z; omega
    · intro ⟨e1, _⟩; omega
theorem wl_fr_lt {f : Nat → Nat} (hf : ∀ j, f j < 4) {n : Nat} (hn : n ≤ 5) (d : Nat) : wl_fr f n d < 2048 := by
  unfold wl_fr
  by_cases h : d ≤ n
  · rw [if_pos h]; exact wl_cd_2048 (by omega) (fun j _ => hf j)
  · rw [if_neg h]; decide
/-- the text from fr on -/
def wl_tx (T : Nat → Nat) (fr : Nat) : Nat → Nat := fun j => T (fr + j)
/-- the word that the piece from fr ed to is -/
def wl_ix (w : Nat) (C T : Nat → Nat) (fr ed : Nat) : Option Nat := wl_fd (fun i => decide (C i = wl_cd (wl_tx T fr) (ed - fr))) w
/-- the piece from fr ed to: its cost and its kind -/
def wl_pc (p w : Nat) (C P K T : Nat → Nat) (fr ed : Nat) : Option (Nat × Nat) :=
  match wl_ix w C T fr ed with
  | some i => some (P i, K i)
  | none => if ed = fr + 1 then some (p, 3) else none
theorem wl_pc_w {fr ed i : Nat} (e : wl_ix w C T fr ed = some i) : wl_pc p w C P K T fr ed = some (P i, K i) := by
  unfold wl_pc
  rw [e]
theorem wl_pc_u {fr ed : Nat} (e : wl_ix w C T fr ed = none) (h : ed = fr + 1) : wl_pc p w C P K T fr ed = some (p, 3) := by
  unfold wl_pc
  rw [e]
  exact if_pos h
theorem wl_pc_n {fr ed : Nat} (e : wl_ix w C T fr ed = none) (h : ¬ ed = fr + 1) : wl_pc p w C P K T fr ed = none := by
  unfold wl_pc
  rw [e]
  exact if_neg h
theorem wl_pc_bd (h : wl_Inv p w s t A L P K S T LK C) : ∀ fr ed c k, wl_pc p w C P K T fr ed = some (c, k) → c ≤ 99 ∧ k < 4 := by
  intro fr ed c k z
  cases e : wl_ix w C T fr ed with
  | some i =>
    rw [wl_pc_w e] at z
    have h1 := h.2.2.2.1.1 i
    have h2 := h.2.2.2.1.2 i
    simp only [Option.some.injEq, Prod.mk.injEq] at z
    omega
  | none =>
    by_cases q : ed = fr + 1
    · rw [wl_pc_u e q] at z
      have h1 := h.1.1
      simp only [Option.some.injEq, Prod.mk.injEq] at z
      omega
    · rw [wl_pc_n e q] at z
      exact absurd z (by simp)
theorem wl_pc_1 (fr : Nat) : wl_pc p w C P K T fr (fr + 1) ≠ none := by
  cases e : wl_ix w C T fr (fr + 1) with
  | some i => rw [wl_pc_w e]; simp
  | none => rw [wl_pc_u e rfl]; simp
theorem wl_pc_far (h : wl_Inv p w s t A L P K S T LK C) {fr ed : Nat} (hf : fr + 5 < ed) : wl_pc p w C P K T fr ed = none := by
  refine wl_pc_n ?_ (by omega)
  refine wl_fd_eqn (fun i hi => decide_eq_false (fun z => ?_))
  have h1 := ((wl_same h (fun j => h.2.1.2.2 _) hi).mp z).1
  have h2 := (h.2.2.2.2 i hi).2.1
  omega
end
end
section
/-! Y's search over all cuts, as pure steps -/
def wl_YL (f : Nat → Option Nat) (i : Nat) (best many chosen : Int32) : Prop :=
  (best = -1 ∧ many = 0 ∧ chosen = 0 ∧ ∀ d, d < i → f d = none) ∨ (∃ B W C, best = nI B ∧ many = nI W ∧ chosen = nI C ∧ wl_Sm f 0 i B W C)
theorem wl_YL0 (f : Nat → Option Nat) : wl_YL f 0 (-1) 0 0 := Or.inl ⟨rfl, rfl, rfl, fun d hd => absurd hd (Nat.not_lt_zero d)⟩
theorem wl_YL_n {f : Nat → Option Nat} {i : Nat} {best many chosen : Int32} (h : wl_YL f i best many chosen) (e : f i = none) : wl_YL f (i + 1) best many chosen := by
  rcases h with ⟨h1, h2, h3, h4⟩ | ⟨B, W, C, h1, h2, h3, h4⟩
  · refine Or.inl ⟨h1, h2, h3, fun d hd => ?_⟩
    by_cases z : d < i
    · exact h4 d z
    · rw [show d = i by omega]; exact e
  · refine Or.inr ⟨B, W, C, h1, h2, h3, wl_Sm_none2 h4 (fun d a b => ?_)⟩
    rw [show d = i by omega]; exact e
theorem wl_YL_first {f : Nat → Option Nat} {i x : Nat} (h : ∀ d, d < i → f d = none) (e : f i = some x) : wl_YL f (i + 1) (nI x) (nI 1) (nI i) := by
  refine Or.inr ⟨x, 1, i, rfl, rfl, rfl, ?_⟩
  refine wl_Sm_none (lo := 0) ?_ (fun d _ hd => h d (by omega))
  rw [Nat.zero_add]
  exact wl_Sm_one e
theorem wl_YL_less {f : Nat → Option Nat} {i x B W C : Nat} (h : wl_Sm f 0 i B W C) (e : f i = some x) (hx : x < B) : wl_YL f (i + 1) (nI x) (nI 1) (nI i) := by
  refine Or.inr ⟨x, 1, i, rfl, rfl, rfl, ?_⟩
  refine wl_Sm_gt (lo := 0) ?_ h hx
  rw [Nat.zero_add]
  exact wl_Sm_one e
theorem wl_YL_same {f : Nat → Option Nat} {i x W C : Nat} (h : wl_Sm f 0 i x W C) (e : f i = some x) : wl_YL f (i + 1) (nI x) (nI (W + 1)) (nI C) := by
  refine Or.inr ⟨x, W + 1, C, rfl, rfl, rfl, ?_⟩
  refine wl_Sm_eq2 (lo := 0) h (C' := i) ?_
  rw [Nat.zero_add]
  exact wl_Sm_one e
theorem wl_YL_more {f : Nat → Option Nat} {i x B W C : Nat} (h : wl_Sm f 0 i B W C) (e : f i = some x) (hx : B < x) : wl_YL f (i + 1) (nI B) (nI W) (nI C) := by
  refine Or.inr ⟨B, W, C, rfl, rfl, rfl, ?_⟩
  refine wl_Sm_lt (lo := 0) (W := 1) (C := i) (B := x) ?_ h hx
  rw [Nat.zero_add]
  exact wl_Sm_one e
theorem wl_YL_end {f : Nat → Option Nat} {i B W C : Nat} {best many chosen : Int32} (h : wl_YL f i best many chosen) (hS : wl_Sm f 0 i B W C) : best = nI B ∧ many = nI W ∧ chosen = nI C := by
  rcases h with ⟨h1, h2, h3, h4⟩ | ⟨B', W', C', h1, h2, h3, h4⟩
  · have e := h4 C (by have := hS.2.2.1; omega)
    rw [hS.1] at e
    exact absurd e (by simp)
  · obtain ⟨e1, e2, e3⟩ := wl_Sm_uniq h4 hS
    rw [h1, h2, h3, e1, e2, e3]
    exact ⟨rfl, rfl, rfl⟩
theorem wl_Sm_W {f : Nat → Option Nat} {lo m B W C : Nat} (h : wl_Sm f lo m B W C) : W ≤ m := by
  rw [h.2.2.2.2.2]
  exact wl_cn_le f B lo m
/-- X's tables when the text is cut -/
def wl_Tab (n : Nat) (pc : Nat → Nat → Option (Nat × Nat)) (lk : Nat → Nat) (RC RW CE CK : Nat → Nat) : Prop := ∀ p b, p ≤ n → b < 5 → wl_Dn n pc lk p b RC RW CE CK
/-- a border of the cut d -/
def wl_bo (n d z : Nat) : Prop := z = 0 ∨ z = n ∨ d.testBit (n - 1 - z) = true
/-- the chosen cut C0 goes on behind p as the cut c -/
def wl_Go (n p C0 c : Nat) : Prop := ∀ i, i + 1 < n - p → C0.testBit i = c.testBit i
theorem wl_Go_next {n p e C0 c c' : Nat} (hp : p < e) (he : e ≤ n) (hc : c' < wl_hi n e) (e1 : c = wl_lo n e + c') (h : wl_Go n p C0 c) : wl_Go n e C0 c' ∧ wl_bo n C0 e ∧ ∀ z, p < z → z < e → ¬ wl_bo n C0 z := by
  obtain ⟨q, rfl⟩ : ∃ q, e = q + 1 := ⟨e - 1, by omega⟩
  obtain ⟨h1, h2, h3⟩ := wl_bits he hc
  rw [← e1] at h1 h2 h3
  refine ⟨fun i hi => ?_, ?_, fun z hz1 hz2 hb => ?_⟩
  · rw [h i (by omega)]
    exact h3 i hi
  · rcases h2 with h2 | h2
    · exact Or.inr (Or.inl (by omega))
    · by_cases hn : q + 1 = n
      · exact Or.inr (Or.inl hn)
      · refine Or.inr (Or.inr ?_)
        rw [h _ (by omega), show n - 1 - (q + 1) = n - (q + 1) - 1 by omega]
        exact h2
  · rcases hb with hb | hb | hb
    · omega
    · omega
    · rw [h _ (by omega)] at hb
      have h4 : 2 ^ (n - q - 1) ≤ 2 ^ (n - 1 - z) := Nat.pow_le_pow_right (by decide) (by omega)
      rw [Nat.testBit_lt_two_pow (by omega)] at hb
      exact absurd hb (by decide)
end
section
/-! the searches of both sides -/
theorem wl_5 (i j : Nat) : (5 : Int32) * nI i + nI j = nI (5 * i + j) := by rw [← nI_add, ← pk_mul]; rfl
theorem wl_5r (i j : Nat) : nI i * (5 : Int32) + nI j = nI (5 * i + j) := by rw [← nI_add, Nat.mul_comm, ← pk_mul]; rfl
theorem wl_4 (i j : Nat) : (4 : Int32) * nI i + nI j = nI (4 * i + j) := by rw [← nI_add, ← pk_mul]; rfl
theorem wl_4r (i j : Nat) : nI i * (4 : Int32) + nI j = nI (4 * i + j) := by rw [← nI_add, Nat.mul_comm, ← pk_mul]; rfl
section
variable {p w s t : Nat} {A L P K S T LK C : Nat → Nat} {q1 q2 q3 q4 : Nat → Int32} {b1 b2 b3 : Int32}
theorem wl_C_lt (I : wl_Inv p w s t A L P K S T LK C) {i : Nat} (hi : i < w) : C i < 2048 := by
  obtain ⟨a, b, e⟩ := I.2.2.2.2 i hi
  rw [e]
  exact wl_cd_2048 b (fun j _ => I.2.1.1 _)
theorem wl_S_lt (I : wl_Inv p w s t A L P K S T LK C) : wl_cd S s < 2048 := wl_cd_2048 I.1.2.2.1 (fun j _ => I.2.1.2.1 j)
theorem wl_xfind_l {post : Int32 → Prop} {c : Nat} (I : wl_Inv p w s t A L P K S T LK C) (hc : c < 2048) (H : post (wl_ri (wl_fd (fun i => decide (C i = c)) w))) :
    ∀ n i, i ≤ w → w - i < n → (∀ j, j < i → decide (C j = c) = false) → wX_find_2 post (nI c) (nI p) (nI w) (nI (wl_cd S s)) (nI s) (nI t) (wl_ar C) (wl_ar P) (wl_ar K) (wl_ar LK) (wl_ar T) q1 q2 q3 q4 n (nI i) := by
  have hw : w ≤ 16 := I.1.2.1
  intro n
  induction n with
  | zero => intro i _ h; omega
  | succ n ih =>
    intro i hi hn hj
    rw [wX_find_2]
    refine pk_le w i (fun h => ?_) (fun h => ⟨vp_in_nI (by omega) (by omega), ?_⟩)
    · have e : i = w := by omega
      subst e
      rw [wl_fd_eqn hj] at H
      exact H
    · have h1 := wl_C_lt I h
      rw [nI_clamp (by omega)]
      refine pk_eq (C i) c (fun e => ?_) (fun e => nm_r (nI_1 i) (ih (i + 1) (by omega) (by omega) (lt_s hj (decide_eq_false e))))
      rw [wl_fd_eq h (decide_eq_true e) hj] at H
      exact H
theorem wl_xfind {post : Int32 → Prop} {c : Nat} (I : wl_Inv p w s t A L P K S T LK C) (hc : c < 2048) (H : post (wl_ri (wl_fd (fun i => decide (C i = c)) w))) :
    wpX_find post (nI p, nI w, nI (wl_cd S s), nI s, nI t, wl_ar C, wl_ar P, wl_ar K, wl_ar LK, wl_ar T, q1, q2, q3, q4) (nI c) :=
  ⟨w + 1, wl_xfind_l I hc H (w + 1) 0 (Nat.zero_le _) (by omega) (fun j hj => absurd hj (Nat.not_lt_zero j))⟩
theorem wl_ybegins_l {post : Int32 → Prop} {i : Nat} (I : wl_Inv p w s t A L P K S T LK C) (hi : i < 16) (h1 : (∀ j, j < s → A (5 * i + j) = S j) → post 1) (h0 : ¬ (∀ j, j < s → A (5 * i + j) = S j) → post 0) :
    ∀ n j, j ≤ s → s - j < n → (∀ j', j' < j → A (5 * i + j') = S j') → wY_begins_17 post (nI i) (nI p) (nI w) (nI s) (nI t) b1 b2 b3 (wl_ar A) (wl_ar L) (wl_ar P) (wl_ar K) (wl_ar S) (wl_ar T) (wl_ar LK) n (nI j) := by
  have hs : s ≤ 5 := I.1.2.2.1
  intro n
  induction n with
  | zero => intro j _ h; omega
  | succ n ih =>
    intro j hj hn hq
    rw [wY_begins_17]
    refine pk_le s j (fun h => ?_) (fun h => ?_)
    · exact h1 (fun j' hj' => hq j' (by omega))
    · rw [wl_5, nI_clamp (by omega), nI_clamp (by omega)]
      have a1 := I.2.1.1 (5 * i + j)
      have a2 := I.2.1.2.1 j
      refine ⟨vp_in_nI (by omega) (by omega), vp_in_nI (by omega) (by omega), pk_eq (A (5 * i + j)) (S j) (fun e => nm_r (nI_1 j) (ih (j + 1) (by omega) (by omega) (lt_s hq e))) (fun e => h0 (fun z => e (z j h)))⟩
theorem wl_ybegins {post : Int32 → Prop} {i : Nat} (I : wl_Inv p w s t A L P K S T LK C) (hi : i < w) (h1 : wl_Bg (wl_wd A i) (L i) S s → post 1) (h0 : ¬ wl_Bg (wl_wd A i) (L i) S s → post 0) :
    wpY_begins post (nI p, nI w, nI s, nI t, b1, b2, b3, wl_ar A, wl_ar L, wl_ar P, wl_ar K, wl_ar S, wl_ar T, wl_ar LK) (nI i) := by
  have hw : w ≤ 16 := I.1.2.1
  have hs : s ≤ 5 := I.1.2.2.1
  have hL := (I.2.2.2.2 i hi).2.1
  refine ⟨vp_in_nI (by omega) (by omega), ?_⟩
  rw [nI_clamp (by omega)]
  refine pk_le s (L i) (fun h => ⟨s + 1, ?_⟩) (fun h => h0 (fun z => by have := z.1; omega))
  exact wl_ybegins_l I (by omega) (fun z => h1 ⟨h, z⟩) (fun z => h0 (fun y => z y.2)) (s + 1) 0 (Nat.zero_le _) (by omega) (fun j hj => absurd hj (Nat.not_lt_zero j))
theorem wl_ynamed_l {post : Int32 → Prop} (I : wl_Inv p w s t A L P K S T LK C) (H : post (wl_ri (wl_fd (fun i => decide (C i = wl_cd S s)) w))) :
    ∀ n i, i ≤ w → w - i < n → (∀ j, j < i → decide (C j = wl_cd S s) = false) → wY_named_2 post (nI p) (nI w) (nI s) (nI t) b1 b2 b3 (wl_ar A) (wl_ar L) (wl_ar P) (wl_ar K) (wl_ar S) (wl_ar T) (wl_ar LK) n (nI i) := by
  have hw : w ≤ 16 := I.1.2.1
  have hs : s ≤ 5 := I.1.2.2.1
  intro n
  induction n with
  | zero => intro i _ h; omega
  | succ n ih =>
    intro i hi hn hj
    rw [wY_named_2]
    refine pk_le w i (fun h => ?_) (fun h => ⟨vp_in_nI (by omega) (by omega), ?_⟩)
    · have e : i = w := by omega
      subst e
      rw [wl_fd_eqn hj] at H
      exact H
    · have hL := (I.2.2.2.2 i h).2.1
      have hq := wl_same I I.2.1.2.1 h (n := s)
      have go : ¬ C i = wl_cd S s → wY_named_2 post (nI p) (nI w) (nI s) (nI t) b1 b2 b3 (wl_ar A) (wl_ar L) (wl_ar P) (wl_ar K) (wl_ar S) (wl_ar T) (wl_ar LK) n (nI (i + 1)) := fun e => ih (i + 1) (by omega) (by omega) (lt_s hj (decide_eq_false e))
      rw [nI_clamp (by omega)]
      refine pk_eq (L i) s (fun e => ?_) (fun e => nm_r (nI_1 i) (go (fun z => e (hq.mp z).1)))
      refine wl_ybegins I h (fun z => ?_) (fun z => ?_)
      · refine br_f (by decide) ?_
        rw [wl_fd_eq h (decide_eq_true (hq.mpr ⟨e, z.2⟩)) hj] at H
        exact H
      · refine br_t rfl (nm_r (nI_1 i) (go (fun y => z ⟨by omega, (hq.mp y).2⟩)))
theorem wl_ynamed {post : Int32 → Prop} (I : wl_Inv p w s t A L P K S T LK C) (H : post (wl_ri (wl_fd (fun i => decide (C i = wl_cd S s)) w))) :
    wpY_named post (nI p, nI w, nI s, nI t, b1, b2, b3, wl_ar A, wl_ar L, wl_ar P, wl_ar K, wl_ar S, wl_ar T, wl_ar LK) :=
  ⟨w + 1, wl_ynamed_l I H (w + 1) 0 (Nat.zero_le _) (by omega) (fun j hj => absurd hj (Nat.not_lt_zero j))⟩
/-! X's test of a word's beginning -/
theorem wl_xbw_l {post : Int32 → Prop} {i : Nat} (I : wl_Inv p w s t A L P K S T LK C) (hi : i < w) (h1 : wl_Bg (wl_wd A i) (L i) S s → post 1) (h0 : ¬ wl_Bg (wl_wd A i) (L i) S s → post 0) :
    ∀ n d, d ≤ 6 → 6 - d < n → (∀ d', d' < d → ¬ wl_fr (wl_wd A i) (L i) d' = wl_cd S s) → wX_beginsWithSpelling_4 post (nI p) (nI w) (nI (wl_cd S s)) (nI s) (nI t) (wl_ar C) (wl_ar P) (wl_ar K) (wl_ar LK) (wl_ar T) q1 q2 q3 q4 n (nI (wl_fr (wl_wd A i) (L i) d)) (nI d) := by
  have hA : ∀ j, wl_wd A i j < 4 := fun j => I.2.1.1 _
  have hL := (I.2.2.2.2 i hi).2.1
  have hq := fun d => wl_fr_eq hA I.2.1.2.1 (L i) d s
  intro n
  induction n with
  | zero => intro d _ h; omega
  | succ n ih =>
    intro d hd hn hj
    rw [wX_beginsWithSpelling_4]
    refine pk_lt 5 d (fun h => ?_) (fun h => ?_)
    · refine h0 (fun z => ?_)
      have hz := z.1
      exact hj (L i - s) (by omega) ((hq _).mpr ⟨by omega, z.2⟩)
    · have b1 := wl_fr_lt hA hL d
      have b2 := wl_S_lt I
      refine pk_eq _ _ (fun e => ?_) (fun e => ?_)
      · obtain ⟨e1, e2⟩ := (hq d).mp e
        exact h1 ⟨by omega, e2⟩
      · refine nm_r ?_ (nm_r (nI_1 d) (ih (d + 1) (by omega) (by omega) (lt_s hj e)))
        rw [pk_shrN (by omega) _ 2 (by decide)]
        exact congrArg nI (wl_fr_s hA (L i) d)
theorem wl_xbw {post : Int32 → Prop} {i : Nat} (I : wl_Inv p w s t A L P K S T LK C) (hi : i < w) (h1 : wl_Bg (wl_wd A i) (L i) S s → post 1) (h0 : ¬ wl_Bg (wl_wd A i) (L i) S s → post 0) :
    wpX_beginsWithSpelling post (nI p, nI w, nI (wl_cd S s), nI s, nI t, wl_ar C, wl_ar P, wl_ar K, wl_ar LK, wl_ar T, q1, q2, q3, q4) (nI (C i)) := by
  refine ⟨7, ?_⟩
  rw [(I.2.2.2.2 i hi).2.2, ← wl_fr_0]
  exact wl_xbw_l I hi h1 h0 7 0 (by omega) (by omega) (fun j hj => absurd hj (Nat.not_lt_zero j))
/-! counting the words that begin so -/
theorem wl_begin (I : wl_Inv p w s t A L P K S T LK C) : ∀ d i c, i + d = w → c ≤ i → ∃ r : Int32, (∀ post : Int32 → Prop, post r → wX_beginning_4 post (nI p) (nI w) (nI (wl_cd S s)) (nI s) (nI t) (wl_ar C) (wl_ar P) (wl_ar K) (wl_ar LK) (wl_ar T) q1 q2 q3 q4 (d + 1) (nI c) (nI i)) ∧ (∀ post : Int32 → Prop, post r → wY_beginning_4 post (nI p) (nI w) (nI s) (nI t) b1 b2 b3 (wl_ar A) (wl_ar L) (wl_ar P) (wl_ar K) (wl_ar S) (wl_ar T) (wl_ar LK) (d + 1) (nI c) (nI i)) := by
  have hw : w ≤ 16 := I.1.2.1
  intro d
  induction d with
  | zero =>
    intro i c hi hc
    have h : nI w ≤ nI i := nI_le (by omega) (by omega)
    exact ⟨nI c, fun _ hp => br_t h hp, fun _ hp => br_t h hp⟩
  | succ d ih =>
    intro i c hi hc
    have h : ¬ nI w ≤ nI i := nI_ge (by omega) (by omega)
    have hv : vp_in (nI i) 16 := vp_in_nI (by omega) (by omega)
    by_cases g : wl_Bg (wl_wd A i) (L i) S s
    · obtain ⟨r, hX, hY⟩ := ih (i + 1) (c + 1) (by omega) (by omega)
      refine ⟨r, fun post hp => br_f h ⟨hv, ?_⟩, fun post hp => br_f h ?_⟩
      · rw [nI_clamp (by omega)]
        exact wl_xbw I (by omega) (fun _ => br_f (by decide) (nm_r (nI_1 c) (nm_r (nI_1 i) (hX post hp)))) (fun z => absurd g z)
      · exact wl_ybegins I (by omega) (fun _ => br_f (by decide) (nm_r (nI_1 c) (nm_r (nI_1 i) (hY post hp)))) (fun z => absurd g z)
    · obtain ⟨r, hX, hY⟩ := ih (i + 1) c (by omega) (by omega)
      refine ⟨r, fun post hp => br_f h ⟨hv, ?_⟩, fun post hp => br_f h ?_⟩
      · rw [nI_clamp (by omega)]
        exact wl_xbw I (by omega) (fun z => absurd z g) (fun _ => br_t rfl (nm_r (nI_1 i) (hX post hp)))
      · exact wl_ybegins I (by omega) (fun z => absurd z g) (fun _ => br_t rfl (nm_r (nI_1 i) (hY post hp)))
end
end
section
/-! X's cutting of the text -/
def wl_Off (a e c k b : Nat) (lk R1 R2 R3 R4 R1' R2' R3' R4' : Nat → Nat) : Prop :=
  (∀ j, (j < 5 * a ∨ 5 * a + b ≤ j) → R1' j = R1 j ∧ R2' j = R2 j ∧ R3' j = R3 j ∧ R4' j = R4 j) ∧
  (∀ b', b' < b → wl_Of a e c k b' lk R1 R2 R3 R4 R1' R2' R3' R4')
theorem wl_Off_0 (a e c k : Nat) (lk R1 R2 R3 R4 : Nat → Nat) : wl_Off a e c k 0 lk R1 R2 R3 R4 R1 R2 R3 R4 :=
  ⟨fun _ _ => ⟨rfl, rfl, rfl, rfl⟩, fun b' h => absurd h (Nat.not_lt_zero b')⟩
theorem wl_Off_keep {a e c k b : Nat} {lk R1 R2 R3 R4 R1' R2' R3' R4' : Nat → Nat} (h : wl_Off a e c k b lk R1 R2 R3 R4 R1' R2' R3' R4') (g : R1 (5 * a + b) < lk (4 * b + k) + c + R1 (5 * e + k)) : wl_Off a e c k (b + 1) lk R1 R2 R3 R4 R1' R2' R3' R4' := by
  refine ⟨fun j hj => h.1 j (by omega), lt_s h.2 ⟨fun _ => h.1 _ (by omega), fun z => absurd g z⟩⟩
theorem wl_Off_put {a e c k b z : Nat} {lk R1 R2 R3 R4 R1' R2' R3' R4' : Nat → Nat} (h : wl_Off a e c k b lk R1 R2 R3 R4 R1' R2' R3' R4') (g : ¬ R1 (5 * a + b) < lk (4 * b + k) + c + R1 (5 * e + k))
    (hz : z = if lk (4 * b + k) + c + R1 (5 * e + k) < R1 (5 * a + b) then R2 (5 * e + k) else R2 (5 * a + b) + R2 (5 * e + k)) :
    wl_Off a e c k (b + 1) lk R1 R2 R3 R4 (wl_un R1' (5 * a + b) (lk (4 * b + k) + c + R1 (5 * e + k))) (wl_un R2' (5 * a + b) z) (wl_un R3' (5 * a + b) e) (wl_un R4' (5 * a + b) k) := by
  refine ⟨fun j hj => ?_, lt_s (fun b' hb' => ?_) ⟨fun z => absurd z g, fun _ => ?_⟩⟩
  · rw [wl_uo (by omega), wl_uo (by omega), wl_uo (by omega), wl_uo (by omega)]
    exact h.1 j (by omega)
  · have h2 := h.2 b' hb'
    unfold wl_Of at h2 ⊢
    rw [wl_uo (by omega), wl_uo (by omega), wl_uo (by omega), wl_uo (by omega)]
    exact h2
  · rw [wl_us, wl_us, wl_us, wl_us]
    exact ⟨rfl, rfl, rfl, hz⟩
section
variable {p w s t : Nat} {A L P K S T LK C : Nat → Nat} {q1 q2 q3 q4 : Nat → Int32} {b1 b2 b3 : Int32}
variable {R1 R2 R3 R4 R1' R2' R3' R4' : Nat → Nat}
theorem wl_x107 {post : SX → Prop} {J : Int32 → (Nat → Int32) → (Nat → Int32) → (Nat → Int32) → (Nat → Int32) → (Nat → Int32) → (Nat → Int32) → (Nat → Int32) → (Nat → Int32) → (Nat → Int32) → Prop} {x1 x3 x5 : Int32} {e k b j y z : Nat} (hj : j < 65)
    (h : J (nI (b + 1)) (wl_ar C) (wl_ar P) (wl_ar K) (wl_ar LK) (wl_ar T) (wl_ar (wl_un R1' j y)) (wl_ar (wl_un R2' j z)) (wl_ar (wl_un R3' j e)) (wl_ar (wl_un R4' j k))) :
    wX_offerPiece_107 post J x1 (nI e) x3 (nI k) x5 (nI b) (nI j) (nI y) (nI z) (nI j) (nI p) (nI w) (nI (wl_cd S s)) (nI s) (nI t) (wl_ar C) (wl_ar P) (wl_ar K) (wl_ar LK) (wl_ar T) (wl_ar R1') (wl_ar R2') (wl_ar R3') (wl_ar R4') := by
  have v : vp_in (nI j) 65 := vp_in_nI hj (by omega)
  have q : ∀ (F : Nat → Nat) (x : Nat), upd (wl_ar F) (nI j).toNatClampNeg (nI x) = wl_ar (wl_un F j x) := fun F x => by rw [nI_clamp (by omega), wl_upd]
  exact ⟨v, nm_r (q _ _) ⟨v, nm_r (q _ _) ⟨v, nm_r (q _ _) ⟨v, nm_r (q _ _) (nm_r (nI_1 b) h)⟩⟩⟩⟩
theorem wl_xoff_l {post : SX → Prop} {a e c k : Nat} (ha : a < e) (he : e ≤ 12) (hc : c ≤ 99) (hk : k < 4) (hlk : ∀ j, LK j ≤ 99) (hE : R1 (5 * e + k) ≤ 3000) (hA : ∀ b, b < 5 → R1 (5 * a + b) ≤ 3000)
    (H : ∀ R1' R2' R3' R4' : Nat → Nat, wl_Off a e c k 5 LK R1 R2 R3 R4 R1' R2' R3' R4' → post (nI p, nI w, nI (wl_cd S s), nI s, nI t, wl_ar C, wl_ar P, wl_ar K, wl_ar LK, wl_ar T, wl_ar R1', wl_ar R2', wl_ar R3', wl_ar R4')) :
    ∀ n b R1' R2' R3' R4', b ≤ 5 → 5 - b < n → wl_Off a e c k b LK R1 R2 R3 R4 R1' R2' R3' R4' → wX_offerPiece_11 post (nI a) (nI e) (nI c) (nI k) (nI (5 * e + k)) (nI p) (nI w) (nI (wl_cd S s)) (nI s) (nI t) n (nI b) (wl_ar C) (wl_ar P) (wl_ar K) (wl_ar LK) (wl_ar T) (wl_ar R1') (wl_ar R2') (wl_ar R3') (wl_ar R4') := by
  intro n
  induction n with
  | zero => intro b _ _ _ _ _ h; omega
  | succ n ih =>
    intro b R1' R2' R3' R4' hb hn hO
    rw [wX_offerPiece_11]
    refine pk_le 5 b (fun h => ?_) (fun h => nm_r (wl_5r a b) ?_)
    · have e5 : b = 5 := by omega
      subst e5
      exact H _ _ _ _ hO
    · have v1 : vp_in (nI (5 * e + k)) 65 := vp_in_nI (by omega) (by omega)
      have v2 : vp_in (nI (5 * a + b)) 65 := vp_in_nI (by omega) (by omega)
      have l1 := hlk (4 * b + k)
      have l2 := hA b h
      obtain ⟨e1, e2, _, _⟩ := hO.1 (5 * e + k) (by omega)
      obtain ⟨f1, f2, _, _⟩ := hO.1 (5 * a + b) (by omega)
      rw [wl_4r, nI_clamp (n := 4 * b + k) (by omega), nI_clamp (n := 5 * e + k) (by omega)]
      refine ⟨vp_in_nI (by omega) (by omega), v1, nm_r (e' := nI (LK (4 * b + k) + c + R1 (5 * e + k))) ?_ ⟨v2, ?_⟩⟩
      · show nI (LK (4 * b + k)) + nI c + nI (R1' (5 * e + k)) = _
        rw [e1, nI_add, nI_add]
      · rw [nI_clamp (n := 5 * a + b) (by omega)]
        refine pk_le (LK (4 * b + k) + c + R1 (5 * e + k)) (R1 (5 * a + b)) (fun g => ⟨v2, ?_⟩) (fun g => nm_r (nI_1 b) (ih (b + 1) _ _ _ _ (by omega) (by omega) (wl_Off_keep hO g))) rfl (congrArg nI f1)
        refine pk_le (R1 (5 * a + b)) (LK (4 * b + k) + c + R1 (5 * e + k)) (fun g2 => ⟨v2, v1, ?_⟩) (fun g2 => ⟨v1, ?_⟩) (congrArg nI f1) rfl
        · have ez : wl_ar R2' (5 * a + b) + wl_ar R2' (5 * e + k) = nI (R2 (5 * a + b) + R2 (5 * e + k)) := by
            show nI (R2' (5 * a + b)) + nI (R2' (5 * e + k)) = _
            rw [e2, f2, nI_add]
          rw [ez]
          exact wl_x107 (by omega) (ih (b + 1) _ _ _ _ (by omega) (by omega) (wl_Off_put hO (by omega) (by rw [if_neg (by omega)])))
        · have ez : wl_ar R2' (5 * e + k) = nI (R2 (5 * e + k)) := congrArg nI e2
          rw [ez]
          exact wl_x107 (by omega) (ih (b + 1) _ _ _ _ (by omega) (by omega) (wl_Off_put hO (by omega) (by rw [if_pos (by omega)])))
theorem wl_xoff {post : SX → Prop} {a e c k : Nat} (ha : a < e) (he : e ≤ 12) (hc : c ≤ 99) (hk : k < 4) (hlk : ∀ j, LK j ≤ 99) (hE : R1 (5 * e + k) ≤ 3000) (hA : ∀ b, b < 5 → R1 (5 * a + b) ≤ 3000)
    (H : ∀ R1' R2' R3' R4' : Nat → Nat, wl_Off a e c k 5 LK R1 R2 R3 R4 R1' R2' R3' R4' → post (nI p, nI w, nI (wl_cd S s), nI s, nI t, wl_ar C, wl_ar P, wl_ar K, wl_ar LK, wl_ar T, wl_ar R1', wl_ar R2', wl_ar R3', wl_ar R4')) : wpX_offerPiece post (nI p, nI w, nI (wl_cd S s), nI s, nI t, wl_ar C, wl_ar P, wl_ar K, wl_ar LK, wl_ar T, wl_ar R1, wl_ar R2, wl_ar R3, wl_ar R4) (nI a) (nI e) (nI c) (nI k) :=
  nm_r (wl_5r e k) ⟨6, wl_xoff_l ha he hc hk hlk hE hA H 6 0 R1 R2 R3 R4 (by omega) (by omega) (wl_Off_0 ..)⟩
/-! one place -/
theorem wl_Dn_bd {n a b : Nat} {pc : Nat → Nat → Option (Nat × Nat)} (hn : n ≤ 12) (hlk : ∀ j, LK j ≤ 99) (hpc : ∀ p q c k, pc p q = some (c, k) → c ≤ 99 ∧ k < 4) (h : wl_Dn n pc LK a b R1 R2 R3 R4) : R1 (5 * a + b) ≤ 3000 := by
  obtain ⟨C, h1, _⟩ := h
  have := wl_G_bd hlk (fun p q c k z => (hpc p q c k z).1) _ _ _ _ _ h1.1
  omega
theorem wl_St_bd {n a q b : Nat} {pc : Nat → Nat → Option (Nat × Nat)} (hn : n ≤ 12) (hlk : ∀ j, LK j ≤ 99) (hpc : ∀ p q c k, pc p q = some (c, k) → c ≤ 99 ∧ k < 4) (haq : a ≤ q) (h : wl_St n pc LK a q b R1 R2 R3 R4) : R1 (5 * a + b) ≤ 3000 := by
  by_cases e : q = a
  · rw [h.1 e]; omega
  · obtain ⟨m, C, c', _, h1, _⟩ := h.2 (by omega)
    have := wl_G_bd hlk (fun p q c k z => (hpc p q c k z).1) _ _ _ _ _ h1.1
    omega
def wl_CF (n : Nat) (pc : Nat → Nat → Option (Nat × Nat)) (lk : Nat → Nat) (a q : Nat) (R1 R2 R3 R4 : Nat → Nat) : Prop :=
  (∀ b, b < 5 → wl_St n pc lk a q b R1 R2 R3 R4) ∧ (∀ p' b', a < p' → p' ≤ n → b' < 5 → wl_Dn n pc lk p' b' R1 R2 R3 R4)
theorem wl_CF_off {n a q c k : Nat} {pc : Nat → Nat → Option (Nat × Nat)} (hn : n ≤ 12) (hlk : ∀ j, LK j ≤ 99) (hpc : ∀ p q c k, pc p q = some (c, k) → c ≤ 99 ∧ k < 4)
    (haq : a ≤ q) (hq : q + 1 ≤ n) (e : pc a (q + 1) = some (c, k)) (h : wl_CF n pc LK a q R1 R2 R3 R4) (hO : wl_Off a (q + 1) c k 5 LK R1 R2 R3 R4 R1' R2' R3' R4') : wl_CF n pc LK a (q + 1) R1' R2' R3' R4' :=
  ⟨fun b hb => wl_St_offer hn hlk hpc haq hq e hb (h.1 b hb) h.2 (fun j hj => (hO.1 j (Or.inr hj)).1) (fun j hj => (hO.1 j (Or.inr hj)).2.1) (hO.2 b hb),
   fun p' b' h1 h2 h3 => wl_Dn_ab (h.2 p' b' h1 h2 h3) h1 (fun j hj => (hO.1 j (Or.inr hj)).1) (fun j hj => (hO.1 j (Or.inr hj)).2.1) (fun j hj => (hO.1 j (Or.inr hj)).2.2.1) (fun j hj => (hO.1 j (Or.inr hj)).2.2.2)⟩
theorem wl_CF_end {n a q : Nat} {pc : Nat → Nat → Option (Nat × Nat)} (haq : a < q) (hq : q ≤ n) (he : q = n ∨ ∀ q', q < q' → pc a q' = none) (h : wl_CF n pc LK a q R1 R2 R3 R4) : ∀ p' b', a ≤ p' → p' ≤ n → b' < 5 → wl_Dn n pc LK p' b' R1 R2 R3 R4 := by
  intro p' b' h1 h2 h3
  by_cases z : p' = a
  · subst z
    exact wl_St_end haq hq he (h.1 b' h3)
  · exact h.2 p' b' (by omega) h2 h3
theorem wl_xcf30 {post : SX → Prop} {a : Nat} (I : wl_Inv p w s t A L P K S T LK C) (ha : a < t)
    (H : ∀ R1 R2 R3 R4 : Nat → Nat, (∀ p' b', a ≤ p' → p' ≤ t → b' < 5 → wl_Dn t (wl_pc p w C P K T) LK p' b' R1 R2 R3 R4) → post (nI p, nI w, nI (wl_cd S s), nI s, nI t, wl_ar C, wl_ar P, wl_ar K, wl_ar LK, wl_ar T, wl_ar R1, wl_ar R2, wl_ar R3, wl_ar R4)) :
    ∀ n l R1 R2 R3 R4, l ≤ 5 → 5 - l < n → a + l ≤ t → wl_CF t (wl_pc p w C P K T) LK a (a + l) R1 R2 R3 R4 → wX_cutFrom_30 post (nI a) n (nI (wl_cd (wl_tx T a) l)) (nI (l + 1)) (nI p) (nI w) (nI (wl_cd S s)) (nI s) (nI t) (wl_ar C) (wl_ar P) (wl_ar K) (wl_ar LK) (wl_ar T) (wl_ar R1) (wl_ar R2) (wl_ar R3) (wl_ar R4) := by
  have ht : t ≤ 12 := I.1.2.2.2
  have hpc := wl_pc_bd I
  have hT : ∀ j, wl_tx T a j < 4 := fun j => I.2.1.2.2 _
  have hlk := I.2.2.1.1
  have hp := I.1.1
  intro n
  induction n with
  | zero => intro l _ _ _ _ _ h; omega
  | succ n ih =>
    intro l R1 R2 R3 R4 hl hn hal hC
    rw [wX_cutFrom_30]
    refine pk_lt 5 (l + 1) (fun h => H _ _ _ _ (wl_CF_end (by omega) hal (Or.inr (fun q' hq' => wl_pc_far I (by omega))) hC)) (fun h => ?_)
    rw [nI_add]
    refine pk_lt t (a + (l + 1)) (fun h2 => H _ _ _ _ (wl_CF_end (by omega) hal (Or.inl (by omega)) hC)) (fun h2 => nm_e ?_)
    rw [show nI (a + (l + 1)) - 1 = nI (a + l) from nI_pred (a + l), nI_clamp (n := a + l) (by omega)]
    refine ⟨vp_in_nI (by omega) (by omega), ?_⟩
    unfold wpX_withLetter
    have hcd : wl_cd (wl_tx T a) l < 2048 := wl_cd_2048 hl (fun j _ => hT j)
    have er : (nI (wl_cd (wl_tx T a) l) <<< ((2 : Int32) &&& 31)) ||| (wl_ar T (a + l)) = nI (wl_cd (wl_tx T a) (l + 1)) := wl_or4 (hT l) (by have hTl : T (a + l) < 4 := I.2.1.2.2 _; omega)
    rw [er]
    refine wl_xfind I (wl_cd_2048 (by omega) (fun j _ => hT j)) ?_
    have eix : wl_ix w C T a (a + l + 1) = wl_fd (fun i => decide (C i = wl_cd (wl_tx T a) (l + 1))) w := by
      unfold wl_ix
      rw [show a + l + 1 - a = l + 1 by omega]
    rw [← eix]
    cases e : wl_ix w C T a (a + l + 1) with
    | none =>
      refine br_t (show (-1 : Int32) < 0 by decide) ?_
      refine pk_eq (l + 1) 1 (fun z => ?_) (fun z => nm_r (nI_1 (l + 1)) (ih (l + 1) _ _ _ _ (by omega) (by omega) (by omega) ⟨fun b hb => wl_St_no (q := a + l) (wl_pc_1 a) (by omega) (by omega) (wl_pc_n e (by omega)) (hC.1 b hb), hC.2⟩))
      have e3 := wl_pc_u (p := p) (P := P) (K := K) e (by omega)
      refine wl_xoff (a := a) (e := a + l + 1) (c := p) (k := 3) (by omega) (by omega) hp (by omega) hlk (wl_Dn_bd ht hlk hpc (hC.2 _ _ (by omega) (by omega) (by omega))) (fun b hb => wl_St_bd ht hlk hpc (by omega) (hC.1 b hb)) (fun R1' R2' R3' R4' hO => nm_r (nI_1 (l + 1)) (ih (l + 1) _ _ _ _ (by omega) (by omega) (by omega) ?_))
      exact wl_CF_off (q := a + l) ht hlk hpc (by omega) (by omega) e3 hC hO
    | some i =>
      obtain ⟨hi, _, _⟩ := wl_fd_some w i e
      have hw : w ≤ 16 := I.1.2.1
      have v : vp_in (nI i) 16 := vp_in_nI (by omega) (by omega)
      have e3 := wl_pc_w (p := p) (P := P) (K := K) e
      have h3 := hpc _ _ _ _ e3
      refine br_f (nI_pos (by omega)) ⟨v, v, ?_⟩
      rw [show (wl_ri (some i)).toNatClampNeg = i from nI_clamp (by omega)]
      refine wl_xoff (a := a) (e := a + l + 1) (c := P i) (k := K i) (by omega) (by omega) h3.1 h3.2 hlk (wl_Dn_bd ht hlk hpc (hC.2 _ _ (by omega) (by omega) (by omega))) (fun b hb => wl_St_bd ht hlk hpc (by omega) (hC.1 b hb)) (fun R1' R2' R3' R4' hO => nm_r (nI_1 (l + 1)) (ih (l + 1) _ _ _ _ (by omega) (by omega) (by omega) ?_))
      exact wl_CF_off (q := a + l) ht hlk hpc (by omega) (by omega) e3 hC hO
theorem wl_xcf2 {post : SX → Prop} {a : Nat} (I : wl_Inv p w s t A L P K S T LK C) (ha : a < t)
    (H : ∀ R1 R2 R3 R4 : Nat → Nat, (∀ p' b', a ≤ p' → p' ≤ t → b' < 5 → wl_Dn t (wl_pc p w C P K T) LK p' b' R1 R2 R3 R4) → post (nI p, nI w, nI (wl_cd S s), nI s, nI t, wl_ar C, wl_ar P, wl_ar K, wl_ar LK, wl_ar T, wl_ar R1, wl_ar R2, wl_ar R3, wl_ar R4)) :
    ∀ n b R1, b ≤ 5 → 5 - b < n → (∀ b', b' < b → R1 (5 * a + b') = 3000) → (∀ p' b', a < p' → p' ≤ t → b' < 5 → wl_Dn t (wl_pc p w C P K T) LK p' b' R1 R2 R3 R4) → wX_cutFrom_2 post (nI a) (nI p) (nI w) (nI (wl_cd S s)) (nI s) (nI t) n (nI b) (wl_ar C) (wl_ar P) (wl_ar K) (wl_ar LK) (wl_ar T) (wl_ar R1) (wl_ar R2) (wl_ar R3) (wl_ar R4) := by
  have ht : t ≤ 12 := I.1.2.2.2
  intro n
  induction n with
  | zero => intro b _ _ h; omega
  | succ n ih =>
    intro b R1 hb hn h1 h2
    rw [wX_cutFrom_2]
    refine pk_le 5 b (fun h => ⟨6, ?_⟩) (fun h => ?_)
    · exact wl_xcf30 I ha H 6 0 R1 R2 R3 R4 (by omega) (by omega) (by omega) ⟨fun b' hb' => ⟨fun _ => h1 b' (by omega), fun z => absurd z (by omega)⟩, h2⟩
    · rw [wl_5r, nI_clamp (by omega)]
      refine ⟨vp_in_nI (by omega) (by omega), nm_r (wl_upd R1 (5 * a + b) 3000) (nm_r (nI_1 b) (ih (b + 1) _ (by omega) (by omega) (lt_s (fun b' hb' => ?_) wl_us) (fun p' b' z1 z2 z3 => ?_)))⟩
      · rw [wl_uo (by omega)]
        exact h1 b' hb'
      · exact wl_Dn_ab (h2 p' b' z1 z2 z3) z1 (fun j hj => wl_uo (by omega)) (fun _ _ => rfl) (fun _ _ => rfl) (fun _ _ => rfl)
/-! the whole text -/
def wl_pr : Nat → Int32
  | 0 => -1
  | a + 1 => nI a
theorem wl_pr_s (a : Nat) : nI a + (-1) = wl_pr a := by
  cases a with
  | zero => rfl
  | succ a => exact pk_m1 a
theorem wl_pr_t (a : Nat) : nI a - 1 = wl_pr a := by
  cases a with
  | zero => rfl
  | succ a => exact nI_pred a
theorem wl_xct43 {post : SX → Prop} (I : wl_Inv p w s t A L P K S T LK C) (H : ∀ R1 R2 R3 R4 : Nat → Nat, wl_Tab t (wl_pc p w C P K T) LK R1 R2 R3 R4 → post (nI p, nI w, nI (wl_cd S s), nI s, nI t, wl_ar C, wl_ar P, wl_ar K, wl_ar LK, wl_ar T, wl_ar R1, wl_ar R2, wl_ar R3, wl_ar R4)) :
    ∀ a R1 R2 R3 R4, a ≤ t → (∀ p' b', a ≤ p' → p' ≤ t → b' < 5 → wl_Dn t (wl_pc p w C P K T) LK p' b' R1 R2 R3 R4) → wX_cutText_43 post (a + 1) (wl_pr a) (nI p) (nI w) (nI (wl_cd S s)) (nI s) (nI t) (wl_ar C) (wl_ar P) (wl_ar K) (wl_ar LK) (wl_ar T) (wl_ar R1) (wl_ar R2) (wl_ar R3) (wl_ar R4) := by
  have ht : t ≤ 12 := I.1.2.2.2
  intro a
  induction a with
  | zero =>
    intro R1 R2 R3 R4 _ h
    rw [wX_cutText_43]
    exact br_t (show (-1 : Int32) < 0 by decide) (H _ _ _ _ (fun p' b' z1 z2 => h p' b' (Nat.zero_le _) z1 z2))
  | succ a ih =>
    intro R1 R2 R3 R4 ha h
    rw [wX_cutText_43]
    refine br_f (nI_pos (by omega)) ?_
    exact ⟨6, wl_xcf2 I (by omega) (fun R1 R2 R3 R4 h2 => nm_r (wl_pr_s a) (ih R1 R2 R3 R4 (by omega) h2)) 6 0 R1 (by omega) (by omega) (fun b' hb' => absurd hb' (Nat.not_lt_zero b')) (fun p' b' z1 z2 z3 => h p' b' z1 z2 z3)⟩
theorem wl_xct2 {post : SX → Prop} (I : wl_Inv p w s t A L P K S T LK C) (H : ∀ R1 R2 R3 R4 : Nat → Nat, wl_Tab t (wl_pc p w C P K T) LK R1 R2 R3 R4 → post (nI p, nI w, nI (wl_cd S s), nI s, nI t, wl_ar C, wl_ar P, wl_ar K, wl_ar LK, wl_ar T, wl_ar R1, wl_ar R2, wl_ar R3, wl_ar R4)) :
    ∀ n b R1 R2, b ≤ 5 → 5 - b < n → (∀ b', b' < b → R1 (5 * t + b') = 0 ∧ R2 (5 * t + b') = 1) → wX_cutText_2 post (nI p) (nI w) (nI (wl_cd S s)) (nI s) (nI t) n (nI b) (wl_ar C) (wl_ar P) (wl_ar K) (wl_ar LK) (wl_ar T) (wl_ar R1) (wl_ar R2) (wl_ar R3) (wl_ar R4) := by
  have ht : t ≤ 12 := I.1.2.2.2
  intro n
  induction n with
  | zero => intro b _ _ _ h; omega
  | succ n ih =>
    intro b R1 R2 hb hn h1
    rw [wX_cutText_2]
    refine pk_le 5 b (fun h => nm_r (wl_pr_t t) ⟨t + 1, ?_⟩) (fun h => nm_r (wl_5r t b) ?_)
    · refine wl_xct43 I H t R1 R2 R3 R4 (Nat.le_refl _) (fun p' b' z1 z2 z3 => ?_)
      have e : p' = t := by omega
      subst e
      exact wl_Dn_n b' (h1 b' (by omega)).1 (h1 b' (by omega)).2
    · have v : vp_in (nI (5 * t + b)) 65 := vp_in_nI (by omega) (by omega)
      rw [nI_clamp (n := 5 * t + b) (by omega)]
      refine ⟨v, nm_r (wl_upd R1 (5 * t + b) 0) ⟨v, nm_r (wl_upd R2 (5 * t + b) 1) (nm_r (nI_1 b) (ih (b + 1) _ _ (by omega) (by omega) (lt_s (fun b' hb' => ?_) ⟨wl_us, wl_us⟩)))⟩⟩
      rw [wl_uo (by omega), wl_uo (by omega)]
      exact h1 b' hb'
theorem wl_xcut {post : SX → Prop} (I : wl_Inv p w s t A L P K S T LK C) (H : ∀ R1 R2 R3 R4 : Nat → Nat, wl_Tab t (wl_pc p w C P K T) LK R1 R2 R3 R4 → post (nI p, nI w, nI (wl_cd S s), nI s, nI t, wl_ar C, wl_ar P, wl_ar K, wl_ar LK, wl_ar T, wl_ar R1, wl_ar R2, wl_ar R3, wl_ar R4)) : wpX_cutText post (nI p, nI w, nI (wl_cd S s), nI s, nI t, wl_ar C, wl_ar P, wl_ar K, wl_ar LK, wl_ar T, q1, q2, q3, q4) := by
  obtain ⟨R1, rfl⟩ := wl_arOf q1
  obtain ⟨R2, rfl⟩ := wl_arOf q2
  obtain ⟨R3, rfl⟩ := wl_arOf q3
  obtain ⟨R4, rfl⟩ := wl_arOf q4
  exact ⟨6, wl_xct2 I H 6 0 R1 R2 (by omega) (by omega) (fun b' hb' => absurd hb' (Nat.not_lt_zero b'))⟩
end
end
section
/-! Y's look over all cuts -/
section
variable {p w s t : Nat} {A L P K S T LK C : Nat → Nat} {q1 q2 q3 q4 : Nat → Int32} {b1 b2 b3 : Int32}
theorem wl_yborder {post : Int32 → Prop} {d z : Nat} (ht : t ≤ 12) (hz : z ≤ t) (hd : d < 65536) (h1 : wl_bo t d z → post 1) (h0 : ¬ wl_bo t d z → post 0) : wpY_border post (nI p, nI w, nI s, nI t, b1, b2, b3, wl_ar A, wl_ar L, wl_ar P, wl_ar K, wl_ar S, wl_ar T, wl_ar LK) (nI d) (nI z) := by
  refine pk_eq z 0 (fun e => h1 (Or.inl e)) (fun e => pk_eq z t (fun e2 => h1 (Or.inr (Or.inl e2))) (fun e2 => ?_))
  have e3 : nI t - 1 - nI z = nI (t - 1 - z) := by
    rw [show (1 : Int32) = nI 1 from rfl, pk_sub (by omega), pk_sub (by omega)]
  rw [e3, wl_bit hd (by omega)]
  by_cases hb : d.testBit (t - 1 - z) = true
  · rw [if_pos hb]
    exact br_t rfl (h1 (Or.inr (Or.inr hb)))
  · rw [if_neg hb]
    refine br_f (by decide) (h0 (fun y => ?_))
    rcases y with y | y | y
    · exact e y
    · exact e2 y
    · exact hb y
theorem wl_ystands_l {post : Int32 → Prop} {i fr : Nat} (I : wl_Inv p w s t A L P K S T LK C) (hi : i < w) (hf : fr + L i ≤ t) (h1 : (∀ j, j < L i → A (5 * i + j) = T (fr + j)) → post 1) (h0 : ¬ (∀ j, j < L i → A (5 * i + j) = T (fr + j)) → post 0) :
    ∀ n j, j ≤ L i → L i - j < n → (∀ j', j' < j → A (5 * i + j') = T (fr + j')) → wY_stands_2 post (nI i) (nI fr) (nI p) (nI w) (nI s) (nI t) b1 b2 b3 (wl_ar A) (wl_ar L) (wl_ar P) (wl_ar K) (wl_ar S) (wl_ar T) (wl_ar LK) n (nI j) := by
  have ht : t ≤ 12 := I.1.2.2.2
  have hw : w ≤ 16 := I.1.2.1
  have hL := (I.2.2.2.2 i hi).2.1
  intro n
  induction n with
  | zero => intro j _ h; omega
  | succ n ih =>
    intro j hj hn hq
    rw [wY_stands_2, nI_clamp (n := i) (by omega)]
    refine ⟨vp_in_nI (by omega) (by omega), pk_le (L i) j (fun h => h1 (fun j' hj' => hq j' (by omega))) (fun h => ?_)⟩
    rw [nI_add fr j, wl_5 i j, nI_clamp (n := 5 * i + j) (by omega), nI_clamp (n := fr + j) (by omega)]
    have a1 := I.2.1.1 (5 * i + j)
    have a2 := I.2.1.2.2 (fr + j)
    exact pk_le t (fr + j) (fun h2 => absurd h2 (by omega)) (fun h2 => ⟨vp_in_nI (by omega) (by omega), vp_in_nI (by omega) (by omega), pk_eq (A (5 * i + j)) (T (fr + j)) (fun e => nm_r (nI_1 j) (ih (j + 1) (by omega) (by omega) (lt_s hq e))) (fun e => h0 (fun z => e (z j h)))⟩)
theorem wl_yword_l {post : Int32 → Prop} {fr ed : Nat} (I : wl_Inv p w s t A L P K S T LK C) (hf : fr ≤ ed) (he : ed ≤ t) (H : post (wl_ri (wl_ix w C T fr ed))) :
    ∀ n i, i ≤ w → w - i < n → (∀ j, j < i → decide (C j = wl_cd (wl_tx T fr) (ed - fr)) = false) → wY_word_2 post (nI fr) (nI ed) (nI p) (nI w) (nI s) (nI t) b1 b2 b3 (wl_ar A) (wl_ar L) (wl_ar P) (wl_ar K) (wl_ar S) (wl_ar T) (wl_ar LK) n (nI i) := by
  have hw : w ≤ 16 := I.1.2.1
  have ht : t ≤ 12 := I.1.2.2.2
  unfold wl_ix at H
  intro n
  induction n with
  | zero => intro i _ h; omega
  | succ n ih =>
    intro i hi hn hj
    rw [wY_word_2]
    refine pk_le w i (fun h => ?_) (fun h => ⟨vp_in_nI (by omega) (by omega), ?_⟩)
    · have e : i = w := by omega
      subst e
      rw [wl_fd_eqn hj] at H
      exact H
    · have hL := (I.2.2.2.2 i h).2.1
      have hq := wl_same I (g := wl_tx T fr) (fun j => I.2.1.2.2 _) h (n := ed - fr)
      have go : ¬ C i = wl_cd (wl_tx T fr) (ed - fr) → wY_word_2 post (nI fr) (nI ed) (nI p) (nI w) (nI s) (nI t) b1 b2 b3 (wl_ar A) (wl_ar L) (wl_ar P) (wl_ar K) (wl_ar S) (wl_ar T) (wl_ar LK) n (nI (i + 1)) := fun e => ih (i + 1) (by omega) (by omega) (lt_s hj (decide_eq_false e))
      rw [nI_clamp (by omega), pk_sub hf]
      refine pk_eq (L i) (ed - fr) (fun e => ⟨L i + 1, ?_⟩) (fun e => nm_r (nI_1 i) (go (fun z => e (hq.mp z).1)))
      refine wl_ystands_l I h (by omega) (fun z => ?_) (fun z => ?_) (L i + 1) 0 (Nat.zero_le _) (by omega) (fun j hj => absurd hj (Nat.not_lt_zero j))
      · refine br_f (by decide) ?_
        rw [wl_fd_eq h (decide_eq_true (hq.mpr ⟨e, fun j hj => z j (by omega)⟩)) hj] at H
        exact H
      · exact br_t rfl (nm_r (nI_1 i) (go (fun y => z (fun j hj => (hq.mp y).2 j (by omega)))))
theorem wl_yword {post : Int32 → Prop} {fr ed : Nat} (I : wl_Inv p w s t A L P K S T LK C) (hf : fr ≤ ed) (he : ed ≤ t) (H : post (wl_ri (wl_ix w C T fr ed))) : wpY_word post (nI p, nI w, nI s, nI t, b1, b2, b3, wl_ar A, wl_ar L, wl_ar P, wl_ar K, wl_ar S, wl_ar T, wl_ar LK) (nI fr) (nI ed) :=
  ⟨w + 1, wl_yword_l I hf he H (w + 1) 0 (Nat.zero_le _) (by omega) (fun j hj => absurd hj (Nat.not_lt_zero j))⟩
def wl_bI (b : Nat) : Int32 := if b = 4 then -1 else nI b
theorem wl_y91 {post : Int32 → Prop} {J : Int32 → Int32 → Int32 → Int32 → Prop} {x1 : Int32} {b z k c sum : Nat} (I : wl_Inv p w s t A L P K S T LK C) (hb : b < 5) (hk : k < 4)
    (h : J (nI (sum + (LK (4 * b + k) + c))) (nI z) (nI k) (nI (z + 1))) : wY_costOf_91 post J x1 (wl_bI b) (nI z) (nI k) (nI c) (nI sum) (nI p) (nI w) (nI s) (nI t) b1 b2 b3 (wl_ar A) (wl_ar L) (wl_ar P) (wl_ar K) (wl_ar S) (wl_ar T) (wl_ar LK) := by
  refine nm_r (nI_add sum c) ?_
  by_cases e : b = 4
  · subst e
    have e2 : LK (4 * 4 + k) = 0 := I.2.2.1.2 _ (by omega)
    rw [e2, Nat.zero_add] at h
    exact br_t (show (-1 : Int32) < 0 by decide) (nm_r (nI_1 z) h)
  · have e3 : wl_bI b = nI b := if_neg e
    rw [e3, wl_4 b k, nI_clamp (n := 4 * b + k) (by omega)]
    refine br_f (nI_pos (by omega)) ⟨vp_in_nI (by omega) (by omega), nm_r (e' := nI (sum + (LK (4 * b + k) + c))) ?_ (nm_r (nI_1 z) h)⟩
    show nI (sum + c) + nI (LK (4 * b + k)) = _
    rw [nI_add]
    exact congrArg nI (by omega)
theorem wl_ycost_l {post : Int32 → Prop} {d : Nat} (I : wl_Inv p w s t A L P K S T LK C) (hd : d < 65536) :
    ∀ R n fr b sum, R < n → fr + R ≤ t → b < 5 → (wl_G t (wl_pc p w C P K T) LK R fr b d = none → post (-1)) → (∀ x, wl_G t (wl_pc p w C P K T) LK R fr b d = some x → post (nI (sum + x))) →
      wY_costOf_10 post (nI d) (nI p) (nI w) (nI s) (nI t) b1 b2 b3 (wl_ar A) (wl_ar L) (wl_ar P) (wl_ar K) (wl_ar S) (wl_ar T) (wl_ar LK) n (nI sum) (nI fr) (wl_bI b) (nI (t + 1 - R)) := by
  have hw : w ≤ 16 := I.1.2.1
  have ht : t ≤ 12 := I.1.2.2.2
  intro R
  induction R with
  | zero =>
    intro n fr b sum hn hf hb h0 h1
    obtain ⟨n, rfl⟩ : ∃ n', n = n' + 1 := ⟨n - 1, by omega⟩
    rw [wY_costOf_10]
    exact pk_lt t (t + 1 - 0) (fun _ => h1 0 rfl) (fun h => absurd h (by omega))
  | succ R ih =>
    intro n fr b sum hn hf hb h0 h1
    obtain ⟨n, rfl⟩ : ∃ n', n = n' + 1 := ⟨n - 1, by omega⟩
    obtain ⟨z, hz⟩ : ∃ z, z = t - R := ⟨_, rfl⟩
    have hbq : wl_bo t d z ↔ (R = 0 ∨ d.testBit (R - 1) = true) := by
      unfold wl_bo
      rw [show t - 1 - z = R - 1 by omega]
      constructor
      · intro y
        rcases y with y | y | y
        · omega
        · exact Or.inl (by omega)
        · exact Or.inr y
      · intro y
        rcases y with y | y
        · exact Or.inr (Or.inl (by omega))
        · exact Or.inr (Or.inr y)
    have ez : nI (t + 1 - R) = nI (z + 1) := congrArg nI (by omega)
    rw [show nI (t + 1 - (R + 1)) = nI z from congrArg nI (by omega), wY_costOf_10]
    rw [ez] at ih
    refine pk_lt t z (fun h => absurd h (by omega)) (fun _ => ?_)
    refine wl_yborder ht (by omega) hd (fun hB => br_f (by decide) ?_) (fun hB => ?_)
    · have hB2 := hbq.mp hB
      have step : ∀ c k, k < 4 → wl_pc p w C P K T fr z = some (c, k) → wY_costOf_10 post (nI d) (nI p) (nI w) (nI s) (nI t) b1 b2 b3 (wl_ar A) (wl_ar L) (wl_ar P) (wl_ar K) (wl_ar S) (wl_ar T) (wl_ar LK) n (nI (sum + (LK (4 * b + k) + c))) (nI z) (nI k) (nI (z + 1)) := by
        intro c k hk e
        have eG : wl_G t (wl_pc p w C P K T) LK (R + 1) fr b d = (wl_G t (wl_pc p w C P K T) LK R z k d).map (fun x => LK (4 * b + k) + c + x) := by
          have := wl_G_b (n := t) (pc := wl_pc p w C P K T) (lk := LK) (fr := fr) (b := b) (c := c) (k := k) hB2 (by rw [← hz]; exact e)
          rw [this, ← hz]
        have eb : wl_bI k = nI k := if_neg (by omega)
        rw [← eb]
        refine ih n z k _ (by omega) (by omega) (by omega) (fun y => h0 (by rw [eG, y]; rfl)) (fun x y => ?_)
        have := h1 (LK (4 * b + k) + c + x) (by rw [eG, y]; rfl)
        rw [← Nat.add_assoc] at this
        exact this
      refine wl_yword I (by omega) (by omega) ?_
      cases e : wl_ix w C T fr z with
      | some i =>
        obtain ⟨hi, _, _⟩ := wl_fd_some w i e
        have hk := I.2.2.2.1.2 i
        have v : vp_in (nI i) 16 := vp_in_nI (by omega) (by omega)
        have g : (0 : Int32) ≤ nI i := nI_pos' (by omega)
        refine br_t g (br_t g ⟨v, br_t g ⟨v, ?_⟩⟩)
        rw [show (wl_ri (some i)).toNatClampNeg = i from nI_clamp (by omega)]
        exact wl_y91 I hb (by omega) (step _ _ (by omega) (wl_pc_w e))
      | none =>
        have g : ¬ (0 : Int32) ≤ -1 := by decide
        refine br_f g ?_
        rw [pk_sub (by omega)]
        refine pk_le (z - fr) 1 (fun q => br_f g (br_f g ?_)) (fun q => h0 ?_)
        · exact wl_y91 (k := 3) (c := p) I hb (by decide) (step p 3 (by decide) (wl_pc_u e (by omega)))
        · exact wl_G_bn hB2 (by rw [← hz]; exact wl_pc_n e (by omega))
    · have hB2 : ¬ (R = 0 ∨ d.testBit (R - 1) = true) := fun y => hB (hbq.mpr y)
      refine br_t rfl (nm_r (nI_1 z) ?_)
      exact ih n fr b sum (by omega) (by omega) hb (fun y => h0 (by rw [wl_G_n hB2]; exact y)) (fun x y => h1 x (by rw [wl_G_n hB2]; exact y))
theorem wl_ycost {post : Int32 → Prop} {d : Nat} (I : wl_Inv p w s t A L P K S T LK C) (hd : d < 65536) (h0 : wl_G t (wl_pc p w C P K T) LK t 0 4 d = none → post (-1)) (h1 : ∀ x, wl_G t (wl_pc p w C P K T) LK t 0 4 d = some x → post (nI x)) : wpY_costOf post (nI p, nI w, nI s, nI t, b1, b2, b3, wl_ar A, wl_ar L, wl_ar P, wl_ar K, wl_ar S, wl_ar T, wl_ar LK) (nI d) := by
  have h := wl_ycost_l (b1 := b1) (b2 := b2) (b3 := b3) I hd t (t + 1) 0 4 0 (by omega) (by omega) (by omega) h0 (fun x e => by rw [Nat.zero_add]; exact h1 x e)
  rw [show nI (t + 1 - t) = 1 from congrArg nI (show t + 1 - t = 1 by omega)] at h
  exact ⟨t + 1, h⟩
theorem wl_ylook_l {post : SY → Prop} {M : Nat} (I : wl_Inv p w s t A L P K S T LK C) (hM : M ≤ 2048) (H : ∀ b1 b2 b3 : Int32, wl_YL (wl_G t (wl_pc p w C P K T) LK t 0 4) M b1 b2 b3 → post (nI p, nI w, nI s, nI t, b1, b2, b3, wl_ar A, wl_ar L, wl_ar P, wl_ar K, wl_ar S, wl_ar T, wl_ar LK)) :
    ∀ n i (b1 b2 b3 : Int32), i ≤ M → M - i < n → wl_YL (wl_G t (wl_pc p w C P K T) LK t 0 4) i b1 b2 b3 → wY_look_38 post (nI M) (nI p) (nI w) (nI s) (nI t) (wl_ar A) (wl_ar L) (wl_ar P) (wl_ar K) (wl_ar S) (wl_ar T) (wl_ar LK) n (nI i) b1 b2 b3 := by
  have ht : t ≤ 12 := I.1.2.2.2
  have bd : ∀ d x, wl_G t (wl_pc p w C P K T) LK t 0 4 d = some x → x ≤ 3000 := fun d x e => by
    have := wl_G_bd I.2.2.1.1 (fun p' q c k z => (wl_pc_bd I p' q c k z).1) _ _ _ _ _ e
    omega
  intro n
  induction n with
  | zero => intro i _ _ _ _ h; omega
  | succ n ih =>
    intro i b1 b2 b3 hi hn hY
    rw [wY_look_38]
    refine pk_le M i (fun h => ?_) (fun h => ?_)
    · have e : i = M := by omega
      subst e
      exact H _ _ _ hY
    · refine wl_ycost I (by omega) (fun e => ?_) (fun x e => ?_)
      · have g : (-1 : Int32) < 0 := by decide
        exact br_t g (br_t g (nm_r (nI_1 i) (ih (i + 1) _ _ _ (by omega) (by omega) (wl_YL_n hY e))))
      · have bx := bd _ _ e
        have g : ¬ nI x < 0 := nI_pos (by omega)
        refine br_f g ?_
        rcases hY with ⟨rfl, rfl, rfl, h4⟩ | ⟨B, W, Cc, rfl, rfl, rfl, hS⟩
        · exact br_t (show (-1 : Int32) < 0 by decide) (br_f g (br_t rfl (nm_r (show (0 : Int32) + 1 = nI 1 from rfl) (nm_r (nI_1 i) (ih (i + 1) _ _ _ (by omega) (by omega) (wl_YL_first h4 e))))))
        · have bB := bd _ _ hS.1
          refine br_f (nI_pos (by omega)) (pk_le B x (fun q => br_f g ?_) (fun q => ?_))
          · refine pk_eq x B (fun e2 => ?_) (fun e2 => ?_)
            · subst e2
              exact nm_r (nI_1 W) (nm_r (nI_1 i) (ih (i + 1) _ _ _ (by omega) (by omega) (wl_YL_same hS e)))
            · exact nm_r (nI_1 i) (ih (i + 1) _ _ _ (by omega) (by omega) (wl_YL_more hS e (by omega)))
          · exact br_f g (br_t rfl (nm_r (show (0 : Int32) + 1 = nI 1 from rfl) (nm_r (nI_1 i) (ih (i + 1) _ _ _ (by omega) (by omega) (wl_YL_less hS e q)))))
theorem wl_ylook0 {post : SY → Prop} (I : wl_Inv p w s t A L P K S T LK C) (H : ∀ b1 b2 b3 : Int32, wl_YL (wl_G t (wl_pc p w C P K T) LK t 0 4) (wl_hi t 0) b1 b2 b3 → post (nI p, nI w, nI s, nI t, b1, b2, b3, wl_ar A, wl_ar L, wl_ar P, wl_ar K, wl_ar S, wl_ar T, wl_ar LK)) : wpY_look post (nI p, nI w, nI s, nI t, b1, b2, b3, wl_ar A, wl_ar L, wl_ar P, wl_ar K, wl_ar S, wl_ar T, wl_ar LK) := by
  have ht : t ≤ 12 := I.1.2.2.2
  have hM := wl_hi_2048 ht 0
  have h := wl_ylook_l I hM H (wl_hi t 0 + 1) 0 (-1) 0 0 (Nat.zero_le _) (by omega) (wl_YL0 _)
  refine pk_le t 1 (fun g => ⟨wl_hi t 0 + 1, ?_⟩) (fun g => ?_)
  · have e : wl_hi t 0 = 1 := by
      unfold wl_hi
      rw [show t - 1 - 0 = 0 by omega]
    rw [e] at h
    rw [e]
    exact h
  · have e : (1 : Int32) <<< ((nI t - 1) &&& 31) = nI (wl_hi t 0) := by
      rw [show nI t - 1 = nI (t - 1) from pk_sub (b := 1) (by omega)]
      have := pk_shlN (n := 1) (nI (t - 1) &&& 31) (t - 1) (s_l (t - 1) (by omega)) (by unfold wl_hi at hM; rw [show t - 1 - 0 = t - 1 by omega] at hM; omega)
      rw [Nat.one_mul] at this
      exact this
    exact nm_r e ⟨wl_hi t 0 + 1, h⟩
theorem wl_ylook {post : SY → Prop} {B W D : Nat} (I : wl_Inv p w s t A L P K S T LK C) (hS : wl_Sm (wl_G t (wl_pc p w C P K T) LK t 0 4) 0 (wl_hi t 0) B W D)
    (H : post (nI p, nI w, nI s, nI t, nI B, nI W, nI D, wl_ar A, wl_ar L, wl_ar P, wl_ar K, wl_ar S, wl_ar T, wl_ar LK)) : wpY_look post (nI p, nI w, nI s, nI t, b1, b2, b3, wl_ar A, wl_ar L, wl_ar P, wl_ar K, wl_ar S, wl_ar T, wl_ar LK) := by
  refine wl_ylook0 I (fun b1 b2 b3 hY => ?_)
  obtain ⟨e1, e2, e3⟩ := wl_YL_end hY hS
  subst e1 e2 e3
  exact H
end
end
section
/-! the relation, and the methods without a search -/
def i_Rel (_ : Nat) (u : SX) (v : SY) : Prop :=
  ∃ (p w s t : Nat) (A L P K S T LK C : Nat → Nat) (q1 q2 q3 q4 : Nat → Int32) (b1 b2 b3 : Int32), wl_Inv p w s t A L P K S T LK C ∧ u = (nI p, nI w, nI (wl_cd S s), nI s, nI t, wl_ar C, wl_ar P, wl_ar K, wl_ar LK, wl_ar T, q1, q2, q3, q4) ∧ v = (nI p, nI w, nI s, nI t, b1, b2, b3, wl_ar A, wl_ar L, wl_ar P, wl_ar K, wl_ar S, wl_ar T, wl_ar LK)
theorem i_up {k : Nat} {u : SX} {v : SY} (h : i_Rel k u v) : i_Rel (k + 4) u v := h
section
variable {p w s t : Nat} {A L P K S T LK C : Nat → Nat} {q1 q2 q3 q4 : Nat → Int32} {b1 b2 b3 : Int32}
theorem wl_rel {k : Nat} (I : wl_Inv p w s t A L P K S T LK C) : i_Rel k (nI p, nI w, nI (wl_cd S s), nI s, nI t, wl_ar C, wl_ar P, wl_ar K, wl_ar LK, wl_ar T, q1, q2, q3, q4) (nI p, nI w, nI s, nI t, b1, b2, b3, wl_ar A, wl_ar L, wl_ar P, wl_ar K, wl_ar S, wl_ar T, wl_ar LK) := ⟨p, w, s, t, A, L, P, K, S, T, LK, C, q1, q2, q3, q4, b1, b2, b3, I, rfl, rfl⟩
end
theorem wl_rel0 {p : Nat} (hp : p ≤ 99) : i_Rel 1 (nI p, 0, 1, 0, 0, (fun _ => 0), (fun _ => 0), (fun _ => 0), (fun _ => 0), (fun _ => 0), (fun _ => 0), (fun _ => 0), (fun _ => 0), (fun _ => 0)) (nI p, 0, 0, 0, 0, 0, 0, (fun _ => 0), (fun _ => 0), (fun _ => 0), (fun _ => 0), (fun _ => 0), (fun _ => 0), (fun _ => 0)) :=
  wl_rel (wl_Inv0 hp)
theorem i_vc0 (k0 : Int32) : wpX_init (fun u => wpY_init (fun v => i_Rel 1 u v) k0) k0 := by
  by_cases h1 : 1 ≤ k0
  · by_cases h2 : k0 ≤ 99
    · have h3 : ¬ k0 < 0 := fun z => by
        have := Int32.lt_of_lt_of_le z (Int32.le_trans (by decide : (0 : Int32) ≤ 1) h1)
        exact absurd this Int32.lt_irrefl
      obtain ⟨p, hp, rfl⟩ := nI_of2 (M := 99) (n := 99) (by decide) h3 h2
      exact br_t h1 (br_t h2 (br_t h1 (br_t h2 (wl_rel0 hp))))
    · exact br_t h1 (br_f h2 (br_t h1 (br_f h2 (wl_rel0 (p := 99) (by omega)))))
  · exact br_f h1 (br_f h1 (wl_rel0 (p := 1) (by omega)))
theorem i_vc_spell {k : Nat} {u : SX} {v : SY} (I : i_Rel k u v) (hk : k + 4 ≤ 2049) (v1 : Int32) : wpX_spell (fun r u' => wpY_spell (fun r' v' => r' = r ∧ i_Rel (k + 4) u' v') v v1) u v1 := by
  obtain ⟨p, w, s, t, A, L, P, K, S, T, LK, C, q1, q2, q3, q4, b1, b2, b3, I, rfl, rfl⟩ := I
  have hs : s ≤ 5 := I.1.2.2.1
  refine pk_lt s 5 (fun h => ?_) (fun h => ?_)
  · obtain ⟨c, hc, ec⟩ := pk_andE v1 (m := 3) 2 (by decide)
    have hc4 : c < 4 := hc
    have hcd := wl_S_lt I
    unfold wpX_withLetter
    rw [ec, wl_or4 hc4 (by omega), ← wl_cd_spell]
    refine nm_r (nI_1 s) (pk_eq s 5 (fun e => absurd e (by omega)) (fun _ => ⟨vp_in_nI (by omega) (by omega), nm_r (e' := wl_ar (wl_un S s c)) ?_ (nm_r (nI_1 s) ⟨rfl, wl_rel (wl_Inv_spell I h hc4)⟩)⟩))
    rw [ec, nI_clamp (by omega), wl_upd]
  · exact pk_eq s 5 (fun _ => ⟨rfl, wl_rel I⟩) (fun e => absurd (by omega) e)
theorem i_vc_clearSpelling {k : Nat} {u : SX} {v : SY} (I : i_Rel k u v) (hk : k + 4 ≤ 2049) : wpX_clearSpelling (fun u' => wpY_clearSpelling (fun v' => i_Rel (k + 4) u' v') v) u := by
  obtain ⟨p, w, s, t, A, L, P, K, S, T, LK, C, q1, q2, q3, q4, b1, b2, b3, I, rfl, rfl⟩ := I
  exact wl_rel (k := k + 4) (wl_Inv_clear I)
theorem i_vc_clearText {k : Nat} {u : SX} {v : SY} (I : i_Rel k u v) (hk : k + 4 ≤ 2049) : wpX_clearText (fun u' => wpY_clearText (fun v' => i_Rel (k + 4) u' v') v) u := by
  obtain ⟨p, w, s, t, A, L, P, K, S, T, LK, C, q1, q2, q3, q4, b1, b2, b3, I, rfl, rfl⟩ := I
  exact wl_rel (k := k + 4) (wl_Inv_clearT I)
theorem i_vc_type {k : Nat} {u : SX} {v : SY} (I : i_Rel k u v) (hk : k + 4 ≤ 2049) (v1 : Int32) : wpX_type (fun r u' => wpY_type (fun r' v' => r' = r ∧ i_Rel (k + 4) u' v') v v1) u v1 := by
  obtain ⟨p, w, s, t, A, L, P, K, S, T, LK, C, q1, q2, q3, q4, b1, b2, b3, I, rfl, rfl⟩ := I
  have ht : t ≤ 12 := I.1.2.2.2
  refine pk_lt t 12 (fun h => ?_) (fun h => ?_)
  · obtain ⟨c, hc, ec⟩ := pk_andE v1 (m := 3) 2 (by decide)
    have hc4 : c < 4 := hc
    have v : vp_in (nI t) 12 := vp_in_nI (by omega) (by omega)
    have eu : upd (wl_ar T) (nI t).toNatClampNeg (v1 &&& 3) = wl_ar (wl_un T t c) := by rw [ec, nI_clamp (by omega), wl_upd]
    exact ⟨v, nm_r eu (nm_r (nI_1 t) (pk_eq t 12 (fun e => absurd e (by omega)) (fun _ => ⟨v, nm_r eu (nm_r (nI_1 t) ⟨rfl, wl_rel (wl_Inv_type I h hc4)⟩)⟩)))⟩
  · exact pk_eq t 12 (fun _ => ⟨rfl, wl_rel I⟩) (fun e => absurd (by omega) e)
theorem i_vc_link {k : Nat} {u : SX} {v : SY} (I : i_Rel k u v) (hk : k + 4 ≤ 2049) (v1 : Int32) (v2 : Int32) (v3 : Int32) : wpX_link (fun r u' => wpY_link (fun r' v' => r' = r ∧ i_Rel (k + 4) u' v') v v1 v2 v3) u v1 v2 v3 := by
  obtain ⟨p, w, s, t, A, L, P, K, S, T, LK, C, q1, q2, q3, q4, b1, b2, b3, I, rfl, rfl⟩ := I
  unfold wpX_link wpY_link
  have J : (-1 : Int32) = -1 ∧ i_Rel (k + 4) (nI p, nI w, nI (wl_cd S s), nI s, nI t, wl_ar C, wl_ar P, wl_ar K, wl_ar LK, wl_ar T, q1, q2, q3, q4) (nI p, nI w, nI s, nI t, b1, b2, b3, wl_ar A, wl_ar L, wl_ar P, wl_ar K, wl_ar S, wl_ar T, wl_ar LK) := ⟨rfl, wl_rel I⟩
  have n1 : ¬ (1 : Int32) = 0 := by decide
  by_cases a0 : v1 < 0
  · exact br_t a0 (br_t rfl (br_t a0 J))
  obtain ⟨a, ha, rfl⟩ := nI_of a0
  by_cases a4 : a < 4
  · have a4' : ¬ (4 : Int32) ≤ nI a := nI_ge (b := 4) a4 (by decide)
    have a3' : ¬ (3 : Int32) < nI a := nI_nlt (b := a) (a := 3) (by omega) (by decide)
    refine br_f a0 (br_f a4' (br_f n1 ?_))
    by_cases b0 : v2 < 0
    · exact br_t b0 (br_t rfl (br_f a0 (br_f a3' (br_t b0 J))))
    obtain ⟨b, hb, rfl⟩ := nI_of b0
    by_cases b4 : b < 4
    · have b4' : ¬ (4 : Int32) ≤ nI b := nI_ge (b := 4) b4 (by decide)
      have b3' : ¬ (3 : Int32) < nI b := nI_nlt (b := b) (a := 3) (by omega) (by decide)
      refine br_f b0 (br_f b4' (br_f n1 ?_))
      by_cases c0 : v3 < 0
      · exact br_t c0 (br_t rfl (br_f a0 (br_f a3' (br_f b0 (br_f b3' (br_t c0 J))))))
      obtain ⟨c, hc, rfl⟩ := nI_of c0
      by_cases c9 : c ≤ 99
      · have c9' : nI c ≤ 99 := nI_le (b := 99) c9 (by decide)
        have c8' : ¬ (99 : Int32) < nI c := nI_nlt (b := c) (a := 99) c9 (by decide)
        have v20 : vp_in (nI (4 * a + b)) 20 := vp_in_nI (by omega) (by omega)
        have v16 : vp_in (nI (4 * a + b)) 16 := vp_in_nI (by omega) (by omega)
        refine br_f c0 (br_f c8' (br_f n1 (nm_r (wl_4r a b) ?_)))
        rw [wl_4 a b, nI_clamp (n := 4 * a + b) (by omega)]
        exact ⟨v20, nm_e ⟨v20, nm_r (wl_upd LK (4 * a + b) c) (br_f a0 (br_f a3' (br_f b0 (br_f b3' (br_f c0 (br_t c9' ⟨v16, nm_e ⟨v16, nm_r (wl_upd LK (4 * a + b) c) ⟨rfl, wl_rel (wl_Inv_link I (by omega) c9)⟩⟩⟩))))))⟩⟩
      · have c9' : ¬ nI c ≤ 99 := nI_ge (a := 99) (by omega) hc
        have c8' : (99 : Int32) < nI c := nI_lt (a := 99) (by omega) hc
        exact br_f c0 (br_t c8' (br_t rfl (br_f a0 (br_f a3' (br_f b0 (br_f b3' (br_f c0 (br_f c9' J))))))))
    · have b4' : (4 : Int32) ≤ nI b := nI_le (a := 4) (by omega) hb
      have b3' : (3 : Int32) < nI b := nI_lt (a := 3) (by omega) hb
      exact br_f b0 (br_t b4' (br_t rfl (br_f a0 (br_f a3' (br_f b0 (br_t b3' J))))))
  · have a4' : (4 : Int32) ≤ nI a := nI_le (a := 4) (by omega) ha
    have a3' : (3 : Int32) < nI a := nI_lt (a := 3) (by omega) ha
    exact br_f a0 (br_t a4' (br_t rfl (br_f a0 (br_t a3' J))))
theorem i_vc_lookUp {k : Nat} {u : SX} {v : SY} (I : i_Rel k u v) (hk : k + 4 ≤ 2049) : wpX_lookUp (fun r => wpY_lookUp (fun r' => r' = r ∧ i_Rel (k + 4) u v) v) u := by
  obtain ⟨p, w, s, t, A, L, P, K, S, T, LK, C, q1, q2, q3, q4, b1, b2, b3, I, rfl, rfl⟩ := I
  have hw : w ≤ 16 := I.1.2.1
  unfold wpX_lookUp wpY_lookUp
  refine wl_xfind I (wl_S_lt I) ?_
  cases e : wl_fd (fun i => decide (C i = wl_cd S s)) w with
  | none =>
    have g : ¬ (0 : Int32) ≤ wl_ri none := by decide
    refine br_f g (wl_ynamed I ?_)
    rw [e]
    exact br_f g ⟨rfl, wl_rel I⟩
  | some i =>
    obtain ⟨hi, _, _⟩ := wl_fd_some w i e
    have g : (0 : Int32) ≤ wl_ri (some i) := nI_pos' (by omega)
    have v : vp_in (wl_ri (some i)) 16 := vp_in_nI (by omega) (by omega)
    refine br_t g ⟨v, wl_ynamed I ?_⟩
    rw [e]
    exact br_t g ⟨v, rfl, wl_rel I⟩
theorem i_vc_beginning {k : Nat} {u : SX} {v : SY} (I : i_Rel k u v) (hk : k + 4 ≤ 2049) : wpX_beginning (fun r => wpY_beginning (fun r' => r' = r ∧ i_Rel (k + 4) u v) v) u := by
  obtain ⟨p, w, s, t, A, L, P, K, S, T, LK, C, q1, q2, q3, q4, b1, b2, b3, I, rfl, rfl⟩ := I
  obtain ⟨r, hX, hY⟩ := wl_begin (q1 := q1) (q2 := q2) (q3 := q3) (q4 := q4) (b1 := b1) (b2 := b2) (b3 := b3) I w 0 0 (by omega) (by omega)
  exact ⟨w + 1, hX _ ⟨w + 1, hY _ ⟨rfl, wl_rel I⟩⟩⟩
end
section
/-! learn and forget -/
section
variable {p w s t : Nat} {A L P K S T LK C : Nat → Nat} {q1 q2 q3 q4 : Nat → Int32} {b1 b2 b3 : Int32}
theorem wl_x64 {post : Int32 → SX → Prop} {i m c k : Nat} (hi : i < 16)
    (h : post (nI m) (nI p, nI m, nI (wl_cd S 0), nI 0, nI t, wl_ar (wl_un C i (wl_cd S s)), wl_ar (wl_un P i c), wl_ar (wl_un K i k), wl_ar LK, wl_ar T, q1, q2, q3, q4)) :
    wX_learn_64 post (nI c) (nI k) (nI i) (nI p) (nI m) (nI (wl_cd S s)) (nI s) (nI t) (wl_ar C) (wl_ar P) (wl_ar K) (wl_ar LK) (wl_ar T) q1 q2 q3 q4 := by
  have v : vp_in (nI i) 16 := vp_in_nI hi (by omega)
  have q : ∀ (F : Nat → Nat) (x : Nat), upd (wl_ar F) (nI i).toNatClampNeg (nI x) = wl_ar (wl_un F i x) := fun F x => by rw [nI_clamp (by omega), wl_upd]
  exact ⟨v, nm_r (q _ _) ⟨v, nm_r (q _ _) ⟨v, nm_r (q _ _) h⟩⟩⟩
theorem wl_y113 {post : Int32 → SY → Prop} {i m c k : Nat} (hi : i < 16)
    (h : post (nI m) (nI p, nI m, nI 0, nI t, b1, b2, b3, wl_ar A, wl_ar L, wl_ar (wl_un P i c), wl_ar (wl_un K i k), wl_ar S, wl_ar T, wl_ar LK)) :
    wY_learn_113 post (nI c) (nI k) (nI i) (nI p) (nI m) (nI s) (nI t) b1 b2 b3 (wl_ar A) (wl_ar L) (wl_ar P) (wl_ar K) (wl_ar S) (wl_ar T) (wl_ar LK) := by
  have v : vp_in (nI i) 16 := vp_in_nI hi (by omega)
  have q : ∀ (F : Nat → Nat) (x : Nat), upd (wl_ar F) (nI i).toNatClampNeg (nI x) = wl_ar (wl_un F i x) := fun F x => by rw [nI_clamp (by omega), wl_upd]
  exact ⟨v, nm_r (q _ _) ⟨v, nm_r (q _ _) h⟩⟩
theorem wl_y80 {post : Int32 → SY → Prop} {i m c k : Nat} (hi : i < 16) (hs : s ≤ 5)
    (H : wY_learn_113 post (nI c) (nI k) (nI i) (nI p) (nI m) (nI s) (nI t) b1 b2 b3 (wl_ar (wl_cp A (5 * i) s S)) (wl_ar L) (wl_ar P) (wl_ar K) (wl_ar S) (wl_ar T) (wl_ar LK)) :
    ∀ n j, j ≤ s → s - j < n → wY_learn_80 post (nI c) (nI k) (nI i) (nI p) (nI m) (nI s) (nI t) b1 b2 b3 n (nI j) (wl_ar (wl_cp A (5 * i) j S)) (wl_ar L) (wl_ar P) (wl_ar K) (wl_ar S) (wl_ar T) (wl_ar LK) := by
  intro n
  induction n with
  | zero => intro j _ h; omega
  | succ n ih =>
    intro j hj hn
    rw [wY_learn_80]
    refine pk_le s j (fun h => ?_) (fun h => ?_)
    · have e : j = s := by omega
      subst e
      exact H
    · rw [wl_5 i j, nI_clamp (n := 5 * i + j) (by omega), nI_clamp (n := j) (by omega)]
      refine ⟨vp_in_nI (by omega) (by omega), vp_in_nI (by omega) (by omega), nm_r (e' := wl_ar (wl_cp A (5 * i) (j + 1) S)) ?_ (nm_r (nI_1 j) (ih (j + 1) (by omega) (by omega)))⟩
      rw [← wl_cp_s]
      exact wl_upd _ _ _
theorem wl_y68 {post : Int32 → SY → Prop} {i m : Nat} (hi : i ≤ m) (hm : m < 16)
    (H : post (nI m) (nI p, nI m, nI 0, nI t, b1, b2, b3, wl_ar (wl_cp A (5 * i) 5 (wl_wd A m)), wl_ar L, wl_ar P, wl_ar K, wl_ar S, wl_ar T, wl_ar LK)) :
    ∀ n j, j ≤ 5 → 5 - j < n → wY_forget_68 post (nI i) (nI p) (nI m) (nI s) (nI t) b1 b2 b3 n (nI j) (wl_ar (wl_cp A (5 * i) j (wl_wd A m))) (wl_ar L) (wl_ar P) (wl_ar K) (wl_ar S) (wl_ar T) (wl_ar LK) := by
  intro n
  induction n with
  | zero => intro j _ h; omega
  | succ n ih =>
    intro j hj hn
    rw [wY_forget_68]
    refine pk_le 5 j (fun h => ?_) (fun h => ?_)
    · have e : j = 5 := by omega
      subst e
      exact H
    · rw [wl_5 i j, wl_5 m j, nI_clamp (n := 5 * i + j) (by omega), nI_clamp (n := 5 * m + j) (by omega)]
      refine ⟨vp_in_nI (by omega) (by omega), vp_in_nI (by omega) (by omega), nm_r (e' := wl_ar (wl_cp A (5 * i) (j + 1) (wl_wd A m))) ?_ (nm_r (nI_1 j) (ih (j + 1) (by omega) (by omega)))⟩
      rw [← wl_cp_s]
      have e : wl_ar (wl_cp A (5 * i) j (wl_wd A m)) (5 * m + j) = nI (wl_wd A m j) := congrArg nI (wl_cp_out (by omega))
      rw [e]
      exact wl_upd _ _ _
end
theorem i_vc_learn {k : Nat} {u : SX} {v : SY} (I : i_Rel k u v) (hk : k + 4 ≤ 2049) (v1 : Int32) (v2 : Int32) : wpX_learn (fun r u' => wpY_learn (fun r' v' => r' = r ∧ i_Rel (k + 4) u' v') v v1 v2) u v1 v2 := by
  obtain ⟨p, w, s, t, A, L, P, K, S, T, LK, C, q1, q2, q3, q4, b1, b2, b3, I, rfl, rfl⟩ := I
  have hw : w ≤ 16 := I.1.2.1
  have hs5 : s ≤ 5 := I.1.2.2.1
  unfold wpX_learn wpY_learn
  have J : (-1 : Int32) = -1 ∧ i_Rel (k + 4) (nI p, nI w, nI (wl_cd S s), nI s, nI t, wl_ar C, wl_ar P, wl_ar K, wl_ar LK, wl_ar T, q1, q2, q3, q4) (nI p, nI w, nI s, nI t, b1, b2, b3, wl_ar A, wl_ar L, wl_ar P, wl_ar K, wl_ar S, wl_ar T, wl_ar LK) := ⟨rfl, wl_rel I⟩
  have n1 : ¬ (1 : Int32) = 0 := by decide
  by_cases hs : s = 0
  · have ns : nI s = 0 := by rw [hs]; rfl
    exact br_t ns (br_t ns J)
  have ns : ¬ nI s = 0 := nI_ne0 (by omega) (by omega)
  refine br_f ns ?_
  by_cases c0 : v1 < 0
  · exact br_t c0 (br_t rfl (br_f ns (br_t c0 J)))
  obtain ⟨c, hc, rfl⟩ := nI_of c0
  by_cases c9 : c ≤ 99
  · have c8 : ¬ (99 : Int32) < nI c := nI_nlt (b := c) (a := 99) c9 (by decide)
    refine br_f c0 (br_f c8 (br_f n1 ?_))
    by_cases k0 : v2 < 0
    · exact br_t k0 (br_f ns (br_f c0 (br_f c8 (br_t k0 J))))
    obtain ⟨kk, hkk, rfl⟩ := nI_of k0
    by_cases k3 : kk < 3
    · have k3' : nI kk < 3 := nI_lt (b := 3) k3 (by decide)
      have k2' : nI kk ≤ 2 := nI_le (b := 2) (by omega) (by decide)
      refine br_f k0 (br_t k3' (wl_xfind I (wl_S_lt I) ?_))
      cases e : wl_fd (fun i => decide (C i = wl_cd S s)) w with
      | none =>
        have g : ¬ (0 : Int32) ≤ wl_ri none := by decide
        refine br_f g (pk_lt w 16 (fun gw => nm_r (nI_1 w) (wl_x64 gw ?_)) (fun gw => ?_))
        · refine br_f ns (br_f c0 (br_f c8 (br_f k0 (br_t k2' (wl_ynamed I ?_)))))
          rw [e]
          refine br_f g (pk_eq w 16 (fun z => absurd z (by omega)) (fun _ => br_f g (nm_r (nI_1 w) ⟨vp_in_nI gw (by omega), nm_r (e' := wl_ar (wl_un L w s)) ?_ ⟨s + 1, ?_⟩⟩)))
          · rw [nI_clamp (by omega), wl_upd]
          · have h := wl_y80 (p := p) (t := t) (A := A) (L := wl_un L w s) (P := P) (K := K) (S := S) (T := T) (LK := LK) (b1 := b1) (b2 := b2) (b3 := b3) (post := fun r' v' => r' = nI (w + 1) ∧ i_Rel (k + 4) (nI p, nI (w + 1), nI (wl_cd S 0), nI 0, nI t, wl_ar (wl_un C w (wl_cd S s)), wl_ar (wl_un P w c), wl_ar (wl_un K w kk), wl_ar LK, wl_ar T, q1, q2, q3, q4) v') (i := w) (m := w + 1) (c := c) (k := kk) gw hs5
              (wl_y113 gw ⟨rfl, wl_rel (wl_Inv_new I gw (by omega) c9 k3)⟩) (s + 1) 0 (Nat.zero_le _) (by omega)
            rw [wl_cp_0] at h
            exact h
        · refine br_f ns (br_f c0 (br_f c8 (br_f k0 (br_t k2' (wl_ynamed I ?_)))))
          rw [e]
          exact br_f g (pk_eq w 16 (fun _ => J) (fun z => absurd (by omega) z))
      | some i =>
        obtain ⟨hi, hd, _⟩ := wl_fd_some w i e
        have g : (0 : Int32) ≤ wl_ri (some i) := nI_pos' (by omega)
        refine br_t g (wl_x64 (i := i) (by omega) ?_)
        refine br_f ns (br_f c0 (br_f c8 (br_f k0 (br_t k2' (wl_ynamed I ?_)))))
        rw [e]
        exact br_t g (br_t g (wl_y113 (i := i) (by omega) ⟨rfl, wl_rel (wl_Inv_old I hi (of_decide_eq_true hd) c9 k3)⟩))
    · have k3' : ¬ nI kk < 3 := nI_nlt (b := 3) (by omega) hkk
      have k2' : ¬ nI kk ≤ 2 := nI_ge (a := 2) (by omega) hkk
      exact br_f k0 (br_f k3' (br_f ns (br_f c0 (br_f c8 (br_f k0 (br_f k2' J))))))
  · have c8 : (99 : Int32) < nI c := nI_lt (a := 99) (by omega) hc
    exact br_f c0 (br_t c8 (br_t rfl (br_f ns (br_f c0 (br_t c8 J)))))
theorem i_vc_forget {k : Nat} {u : SX} {v : SY} (I : i_Rel k u v) (hk : k + 4 ≤ 2049) : wpX_forget (fun r u' => wpY_forget (fun r' v' => r' = r ∧ i_Rel (k + 4) u' v') v) u := by
  obtain ⟨p, w, s, t, A, L, P, K, S, T, LK, C, q1, q2, q3, q4, b1, b2, b3, I, rfl, rfl⟩ := I
  have hw : w ≤ 16 := I.1.2.1
  unfold wpX_forget wpY_forget
  refine wl_xfind I (wl_S_lt I) ?_
  cases e : wl_fd (fun i => decide (C i = wl_cd S s)) w with
  | none =>
    have g : ¬ (0 : Int32) ≤ wl_ri none := by decide
    refine br_f g (wl_ynamed I ?_)
    rw [e]
    exact br_f g ⟨rfl, wl_rel I⟩
  | some i =>
    obtain ⟨hi, _, _⟩ := wl_fd_some w i e
    obtain ⟨m, rfl⟩ : ∃ m, w = m + 1 := ⟨w - 1, by omega⟩
    have g : (0 : Int32) ≤ wl_ri (some i) := nI_pos' (by omega)
    have vi : vp_in (wl_ri (some i)) 16 := vp_in_nI (by omega) (by omega)
    have vm : vp_in (nI m) 16 := vp_in_nI (by omega) (by omega)
    have q : ∀ F : Nat → Nat, upd (wl_ar F) (wl_ri (some i)).toNatClampNeg (wl_ar F (nI m).toNatClampNeg) = wl_ar (wl_un F i (F m)) := fun F => by
      rw [nI_clamp (n := m) (by omega), show (wl_ri (some i)).toNatClampNeg = i from nI_clamp (by omega)]
      exact wl_upd F i (F m)
    refine br_t g (nm_r (nI_pred m) ⟨vm, vi, nm_r (q C) ⟨vm, vi, nm_r (q P) ⟨vm, vi, nm_r (q K) ?_⟩⟩⟩)
    refine wl_ynamed I ?_
    rw [e]
    refine br_t g (nm_r (nI_pred m) ⟨vm, vi, nm_r (q L) ⟨vm, vi, nm_r (q P) ⟨vm, vi, nm_r (q K) ⟨6, ?_⟩⟩⟩⟩)
    have h := wl_y68 (p := p) (s := s) (t := t) (A := A) (L := wl_un L i (L m)) (P := wl_un P i (P m)) (K := wl_un K i (K m)) (S := S) (T := T) (LK := LK) (b1 := b1) (b2 := b2) (b3 := b3) (post := fun r' v' => r' = nI m ∧ i_Rel (k + 4) (nI p, nI m, nI (wl_cd S 0), nI 0, nI t, wl_ar (wl_un C i (C m)), wl_ar (wl_un P i (P m)), wl_ar (wl_un K i (K m)), wl_ar LK, wl_ar T, q1, q2, q3, q4) v') (i := i) (m := m) (by omega) (by omega)
      ⟨rfl, wl_rel (wl_Inv_forget I hi)⟩ 6 0 (by omega) (by omega)
    rw [wl_cp_0] at h
    exact h
end
section
/-! cost, ways, start -/
section
variable {p w s t : Nat} {A L P K S T LK C : Nat → Nat} {q1 q2 q3 q4 : Nat → Int32} {b1 b2 b3 : Int32}
variable {R1 R2 R3 R4 : Nat → Nat} {B W D m : Nat}
theorem wl_ystart_none {post : Int32 → SY → Prop} {x1 : Int32} (ht : t ≤ 12) (hD : D < 65536) (hx : ∀ j, j ≤ t → ¬ nI j = x1) (hp : post (-1) (nI p, nI w, nI s, nI t, b1, b2, nI D, wl_ar A, wl_ar L, wl_ar P, wl_ar K, wl_ar S, wl_ar T, wl_ar LK)) :
    ∀ n j z, t + 1 - z < n → z ≤ t + 1 → j ≤ z → wY_start_8 post x1 (nI p) (nI w) (nI s) (nI t) b1 b2 (nI D) (wl_ar A) (wl_ar L) (wl_ar P) (wl_ar K) (wl_ar S) (wl_ar T) (wl_ar LK) n (nI j) (nI z) := by
  intro n
  induction n with
  | zero => intro j z h; omega
  | succ n ih =>
    intro j z hn hz hj
    rw [wY_start_8]
    refine pk_lt t z (fun _ => hp) (fun h => ?_)
    refine wl_yborder ht h hD (fun _ => br_f (by decide) (br_f (hx j (by omega)) (nm_r (nI_1 j) (nm_r (nI_1 z) (ih (j + 1) (z + 1) (by omega) (by omega) (by omega)))))) (fun _ => br_t rfl (nm_r (nI_1 z) (ih j (z + 1) (by omega) (by omega) (by omega))))
theorem wl_ystart_skip {post : Int32 → SY → Prop} {x1 y : Int32} {e : Nat} (ht : t ≤ 12) (hD : D < 65536) (he : e ≤ t)
    (hY : ∀ n, t - e + 1 < n → wY_start_8 post x1 (nI p) (nI w) (nI s) (nI t) b1 b2 (nI D) (wl_ar A) (wl_ar L) (wl_ar P) (wl_ar K) (wl_ar S) (wl_ar T) (wl_ar LK) n y (nI e)) :
    ∀ k z, z + k = e → (∀ z', z ≤ z' → z' < e → ¬ wl_bo t D z') → ∀ n, t - z + 1 < n → wY_start_8 post x1 (nI p) (nI w) (nI s) (nI t) b1 b2 (nI D) (wl_ar A) (wl_ar L) (wl_ar P) (wl_ar K) (wl_ar S) (wl_ar T) (wl_ar LK) n y (nI z) := by
  intro k
  induction k with
  | zero =>
    intro z hz _ n hn
    have e1 : z = e := by omega
    subst e1
    exact hY n hn
  | succ k ih =>
    intro z hz hb n hn
    obtain ⟨n, rfl⟩ : ∃ n', n = n' + 1 := ⟨n - 1, by omega⟩
    rw [wY_start_8]
    refine pk_lt t z (fun h => absurd h (by omega)) (fun h => ?_)
    exact wl_yborder ht h hD (fun q => absurd q (hb z (by omega) (by omega))) (fun _ => br_t rfl (nm_r (nI_1 z) (ih (z + 1) (by omega) (fun z' h1 h2 => hb z' (by omega) h2) n (by omega))))
theorem wl_start (I : wl_Inv p w s t A L P K S T LK C) (hT : wl_Tab t (wl_pc p w C P K T) LK R1 R2 R3 R4) (hD : D < 65536) (hm : m ≤ t) :
    ∀ N a b j c, t - a ≤ N → a ≤ t → b < 5 → j ≤ m → j ≤ a → wl_bo t D a → wl_Sm (wl_G t (wl_pc p w C P K T) LK (t - a) a b) 0 (wl_hi t a) (R1 (5 * a + b)) (R2 (5 * a + b)) c → wl_Go t a D c →
      ∃ r : Int32, (∀ post : Int32 → SX → Prop, post r (nI p, nI w, nI (wl_cd S s), nI s, nI t, wl_ar C, wl_ar P, wl_ar K, wl_ar LK, wl_ar T, wl_ar R1, wl_ar R2, wl_ar R3, wl_ar R4) → ∀ n, N < n → wX_start_25 post (nI m) (nI p) (nI w) (nI (wl_cd S s)) (nI s) (nI t) (wl_ar C) (wl_ar P) (wl_ar K) (wl_ar LK) (wl_ar T) (wl_ar R1) (wl_ar R2) (wl_ar R3) (wl_ar R4) n (nI a) (nI b) (nI j)) ∧
        (∀ post : Int32 → SY → Prop, post r (nI p, nI w, nI s, nI t, b1, b2, nI D, wl_ar A, wl_ar L, wl_ar P, wl_ar K, wl_ar S, wl_ar T, wl_ar LK) → ∀ n, t - a + 1 < n → wY_start_8 post (nI m) (nI p) (nI w) (nI s) (nI t) b1 b2 (nI D) (wl_ar A) (wl_ar L) (wl_ar P) (wl_ar K) (wl_ar S) (wl_ar T) (wl_ar LK) n (nI j) (nI a)) := by
  have ht : t ≤ 12 := I.1.2.2.2
  intro N
  induction N with
  | zero =>
    intro a b j c hN ha hb hj hja hbo hS hG
    have ea : a = t := by omega
    by_cases hjm : j = m
    · subst hjm
      refine ⟨nI a, fun post hp n hn => ?_, fun post hp n hn => ?_⟩
      · obtain ⟨n, rfl⟩ : ∃ n', n = n' + 1 := ⟨n - 1, by omega⟩
        rw [wX_start_25]
        exact br_t (nI_le (Nat.le_refl _) (by omega)) hp
      · obtain ⟨n, rfl⟩ : ∃ n', n = n' + 1 := ⟨n - 1, by omega⟩
        rw [wY_start_8]
        exact pk_lt t a (fun h => absurd h (by omega)) (fun h => wl_yborder ht h hD (fun _ => br_f (by decide) (br_t rfl hp)) (fun q => absurd hbo q))
    · refine ⟨-1, fun post hp n hn => ?_, fun post hp n hn => ?_⟩
      · obtain ⟨n, rfl⟩ : ∃ n', n = n' + 1 := ⟨n - 1, by omega⟩
        rw [wX_start_25]
        exact pk_le m j (fun h => absurd h (by omega)) (fun _ => pk_lt a t (fun h => absurd h (by omega)) (fun _ => hp))
      · obtain ⟨n, rfl⟩ : ∃ n', n = n' + 1 + 1 := ⟨n - 2, by omega⟩
        rw [wY_start_8]
        refine pk_lt t a (fun h => absurd h (by omega)) (fun h => wl_yborder ht h hD (fun _ => br_f (by decide) (pk_eq j m (fun z => absurd z hjm) (fun _ => nm_r (nI_1 j) (nm_r (nI_1 a) ?_)))) (fun q => absurd hbo q))
        rw [wY_start_8]
        exact pk_lt t (a + 1) (fun _ => hp) (fun h => absurd h (by omega))
  | succ N ih =>
    intro a b j c hN ha hb hj hja hbo hS hG
    by_cases hjm : j = m
    · subst hjm
      refine ⟨nI a, fun post hp n hn => ?_, fun post hp n hn => ?_⟩
      · obtain ⟨n, rfl⟩ : ∃ n', n = n' + 1 := ⟨n - 1, by omega⟩
        rw [wX_start_25]
        exact br_t (nI_le (Nat.le_refl _) (by omega)) hp
      · obtain ⟨n, rfl⟩ : ∃ n', n = n' + 1 := ⟨n - 1, by omega⟩
        rw [wY_start_8]
        exact pk_lt t a (fun h => absurd h (by omega)) (fun h => wl_yborder ht h hD (fun _ => br_f (by decide) (br_t rfl hp)) (fun q => absurd hbo q))
    by_cases hat : a = t
    · refine ⟨-1, fun post hp n hn => ?_, fun post hp n hn => ?_⟩
      · obtain ⟨n, rfl⟩ : ∃ n', n = n' + 1 := ⟨n - 1, by omega⟩
        rw [wX_start_25]
        exact pk_le m j (fun h => absurd h (by omega)) (fun _ => pk_lt a t (fun h => absurd h (by omega)) (fun _ => hp))
      · obtain ⟨n, rfl⟩ : ∃ n', n = n' + 1 + 1 := ⟨n - 2, by omega⟩
        rw [wY_start_8]
        refine pk_lt t a (fun h => absurd h (by omega)) (fun h => wl_yborder ht h hD (fun _ => br_f (by decide) (pk_eq j m (fun z => absurd z hjm) (fun _ => nm_r (nI_1 j) (nm_r (nI_1 a) ?_)))) (fun q => absurd hbo q))
        rw [wY_start_8]
        exact pk_lt t (a + 1) (fun _ => hp) (fun h => absurd h (by omega))
    · obtain ⟨c2, s2, f2⟩ := hT a b ha hb
      obtain ⟨_, _, ec⟩ := wl_Sm_uniq s2 hS
      subst ec
      obtain ⟨c', t1, t2, t3, t4, t5⟩ := f2 (by omega)
      have hc' : c' < wl_hi t (R3 (5 * a + b)) := by have := t5.2.2.1; omega
      obtain ⟨g1, g2, g3⟩ := wl_Go_next t1 t2 hc' t4 hG
      obtain ⟨r, hX, hY⟩ := ih (R3 (5 * a + b)) (R4 (5 * a + b)) (j + 1) c' (by omega) t2 (by omega) (by omega) (by omega) g2 t5 g1
      refine ⟨r, fun post hp n hn => ?_, fun post hp n hn => ?_⟩
      · obtain ⟨n, rfl⟩ : ∃ n', n = n' + 1 := ⟨n - 1, by omega⟩
        rw [wX_start_25]
        have v : vp_in (nI (5 * a + b)) 65 := vp_in_nI (by omega) (by omega)
        refine pk_le m j (fun h => absurd h (by omega)) (fun _ => pk_lt a t (fun h => nm_r (wl_5r a b) ?_) (fun h => absurd h (by omega)))
        rw [nI_clamp (n := 5 * a + b) (by omega)]
        exact ⟨v, nm_e ⟨v, nm_e (nm_r (nI_1 j) (hX post hp n (by omega)))⟩⟩
      · obtain ⟨n, rfl⟩ : ∃ n', n = n' + 1 := ⟨n - 1, by omega⟩
        rw [wY_start_8]
        refine pk_lt t a (fun h => absurd h (by omega)) (fun h => wl_yborder ht h hD (fun _ => br_f (by decide) (pk_eq j m (fun z => absurd z hjm) (fun _ => nm_r (nI_1 j) (nm_r (nI_1 a) ?_)))) (fun q => absurd hbo q))
        exact wl_ystart_skip ht hD t2 (fun n' hn' => hY post hp n' hn') (R3 (5 * a + b) - (a + 1)) (a + 1) (by omega) (fun z' h1 h2 => g3 z' (by omega) h2) n (by omega)
end
theorem i_vc_cost {k : Nat} {u : SX} {v : SY} (I : i_Rel k u v) (hk : k + 4 ≤ 2049) : wpX_cost (fun r u' => wpY_cost (fun r' v' => r' = r ∧ i_Rel (k + 4) u' v') v) u := by
  obtain ⟨p, w, s, t, A, L, P, K, S, T, LK, C, q1, q2, q3, q4, b1, b2, b3, I, rfl, rfl⟩ := I
  unfold wpX_cost wpY_cost
  refine wl_xcut I (fun R1 R2 R3 R4 hT => ?_)
  obtain ⟨c, hS, _⟩ := hT 0 4 (Nat.zero_le _) (by omega)
  refine wl_ylook I (D := c) hS ?_
  exact ⟨rfl, wl_rel I⟩
theorem i_vc_ways {k : Nat} {u : SX} {v : SY} (I : i_Rel k u v) (hk : k + 4 ≤ 2049) : wpX_ways (fun r u' => wpY_ways (fun r' v' => r' = r ∧ i_Rel (k + 4) u' v') v) u := by
  obtain ⟨p, w, s, t, A, L, P, K, S, T, LK, C, q1, q2, q3, q4, b1, b2, b3, I, rfl, rfl⟩ := I
  unfold wpX_ways wpY_ways
  refine wl_xcut I (fun R1 R2 R3 R4 hT => ?_)
  obtain ⟨c, hS, _⟩ := hT 0 4 (Nat.zero_le _) (by omega)
  refine wl_ylook I (D := c) hS ?_
  exact ⟨rfl, wl_rel I⟩
theorem wl_YL_D {f : Nat → Option Nat} {i : Nat} {x y z : Int32} (hi : i ≤ 2048) (h : wl_YL f i x y z) : ∃ D, D < 65536 ∧ z = nI D := by
  rcases h with ⟨_, _, h3, _⟩ | ⟨B, W, C, _, _, h3, h4⟩
  · exact ⟨0, by omega, h3⟩
  · exact ⟨C, by have := h4.2.2.1; omega, h3⟩
theorem i_vc_start {k : Nat} {u : SX} {v : SY} (I : i_Rel k u v) (hk : k + 4 ≤ 2049) (v1 : Int32) : wpX_start (fun r u' => wpY_start (fun r' v' => r' = r ∧ i_Rel (k + 4) u' v') v v1) u v1 := by
  obtain ⟨p, w, s, t, A, L, P, K, S, T, LK, C, q1, q2, q3, q4, b1, b2, b3, I, rfl, rfl⟩ := I
  have ht : t ≤ 12 := I.1.2.2.2
  have hM := wl_hi_2048 ht 0
  unfold wpX_start wpY_start
  have no : (∀ j, j ≤ t → ¬ nI j = v1) → wpY_look (fun u => match u with | (f_penalty, f_words, f_spelling, f_typed, f_best, f_many, f_chosen, a_letters, a_length, a_price, a_kind, a_spelled, a_text, a_links) => ∃ n8 : Nat, wY_start_8 (fun r' v' => r' = -1 ∧ i_Rel (k + 4) (nI p, nI w, nI (wl_cd S s), nI s, nI t, wl_ar C, wl_ar P, wl_ar K, wl_ar LK, wl_ar T, q1, q2, q3, q4) v') v1 f_penalty f_words f_spelling f_typed f_best f_many f_chosen a_letters a_length a_price a_kind a_spelled a_text a_links n8 0 0) (nI p, nI w, nI s, nI t, b1, b2, b3, wl_ar A, wl_ar L, wl_ar P, wl_ar K, wl_ar S, wl_ar T, wl_ar LK) := by
    intro hx
    refine wl_ylook0 I (fun b1 b2 b3 hY => ?_)
    obtain ⟨D, hD, rfl⟩ := wl_YL_D hM hY
    exact ⟨t + 2, wl_ystart_none ht hD hx ⟨rfl, wl_rel I⟩ (t + 2) 0 0 (by omega) (by omega) (by omega)⟩
  by_cases h0 : v1 < 0
  · refine br_t h0 (no (fun j hj z => ?_))
    rw [← z] at h0
    exact nI_pos (by omega) h0
  obtain ⟨m, hm, rfl⟩ := nI_of h0
  refine br_f h0 (pk_le m t (fun h => ?_) (fun h => no (fun j hj z => ?_)))
  · refine wl_xcut I (fun R1 R2 R3 R4 hT => ⟨t + 1, ?_⟩)
    obtain ⟨c, hS, _⟩ := hT 0 4 (Nat.zero_le _) (by omega)
    have hc : c < 65536 := by have := hS.2.2.1; omega
    obtain ⟨r, hX, hY⟩ := wl_start (b1 := nI (R1 4)) (b2 := nI (R2 4)) I hT hc h t 0 4 0 c (by omega) (by omega) (by omega) (by omega) (by omega) (Or.inl rfl) hS (fun _ _ => rfl)
    refine hX _ ?_ (t + 1) (by omega)
    exact wl_ylook I (D := c) hS ⟨t + 2, hY _ ⟨rfl, wl_rel I⟩ (t + 2) (by omega)⟩
  · rw [nI_eq (by omega) hm] at z
    omega
end
