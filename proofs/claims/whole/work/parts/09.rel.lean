/-! the relation, and the methods without a search -/
def i_Rel (_ : Nat) (u : SX) (v : SY) : Prop :=
  ∃ (p w s t : Nat) (A L P K S T LK C : Nat → Nat) (q1 q2 q3 q4 : Nat → Int32) (b1 b2 b3 : Int32), wl_Inv p w s t A L P K S T LK C ∧ u = (nI p, nI w, nI (wl_cd S s), nI s, nI t, wl_ar C, wl_ar P, wl_ar K, wl_ar LK, wl_ar T, q1, q2, q3, q4) ∧ v = (nI p, nI w, nI s, nI t, b1, b2, b3, wl_ar A, wl_ar L, wl_ar P, wl_ar K, wl_ar S, wl_ar T, wl_ar LK)
theorem i_up {k : Nat} {u : SX} {v : SY} (h : i_Rel k u v) : i_Rel (k + 4) u v := h
section
variable {p w s t : Nat} {A L P K S T LK C : Nat → Nat} {q1 q2 q3 q4 : Nat → Int32} {b1 b2 b3 : Int32}
theorem wl_rel {k : Nat} (I : wl_Inv p w s t A L P K S T LK C) : i_Rel k (nI p, nI w, nI (wl_cd S s), nI s, nI t, wl_ar C, wl_ar P, wl_ar K, wl_ar LK, wl_ar T, q1, q2, q3, q4) (nI p, nI w, nI s, nI t, b1, b2, b3, wl_ar A, wl_ar L, wl_ar P, wl_ar K, wl_ar S, wl_ar T, wl_ar LK) := ⟨p, w, s, t, A, L, P, K, S, T, LK, C, q1, q2, q3, q4, b1, b2, b3, I, rfl, rfl⟩
end
theorem wl_rel0 {p : Nat} (hp : p ≤ 99) : i_Rel 1 (nI p, 0, 1, 0, 0, (fun _ => 0), (fun _ => 0), (fun _ => 0), (fun _ => 0), (fun _ => 0), (fun _ => 0), (fun _ => 0), (fun _ => 0), (fun _ => 0)) (nI p, 0, 0, 0, 0, 0, 0, (fun _ => 0), (fun _ => 0), (fun _ => 0), (fun _ => 0), (fun _ => 0), (fun _ => 0), (fun _ => 0)) :=
  wl_rel (wl_Inv0 hp)
theorem i_vc0 (k0 : Int32) : wpX_init (fun u => wpY_init (fun v => i_Rel 1 u v) k0) k0 := by
  by_cases h1 : 1 ≤ k0
  · by_cases h2 : k0 ≤ 99
    · have h3 : ¬ k0 < 0 := fun z => by
        have := Int32.lt_of_lt_of_le z (Int32.le_trans (by decide : (0 : Int32) ≤ 1) h1)
        exact absurd this Int32.lt_irrefl
      obtain ⟨p, hp, rfl⟩ := nI_of2 (M := 99) (n := 99) (by decide) h3 h2
      exact br_t h1 (br_t h2 (br_t h1 (br_t h2 (wl_rel0 hp))))
    · exact br_t h1 (br_f h2 (br_t h1 (br_f h2 (wl_rel0 (p := 99) (by omega)))))
  · exact br_f h1 (br_f h1 (wl_rel0 (p := 1) (by omega)))
theorem i_vc_spell {k : Nat} {u : SX} {v : SY} (I : i_Rel k u v) (hk : k + 4 ≤ 2049) (v1 : Int32) : wpX_spell (fun r u' => wpY_spell (fun r' v' => r' = r ∧ i_Rel (k + 4) u' v') v v1) u v1 := by
  obtain ⟨p, w, s, t, A, L, P, K, S, T, LK, C, q1, q2, q3, q4, b1, b2, b3, I, rfl, rfl⟩ := I
  have hs : s ≤ 5 := I.1.2.2.1
  refine pk_lt s 5 (fun h => ?_) (fun h => ?_)
  · obtain ⟨c, hc, ec⟩ := pk_andE v1 (m := 3) 2 (by decide)
    have hc4 : c < 4 := hc
    have hcd := wl_S_lt I
    unfold wpX_withLetter
    rw [ec, wl_or4 hc4 (by omega), ← wl_cd_spell]
    refine nm_r (nI_1 s) (pk_eq s 5 (fun e => absurd e (by omega)) (fun _ => ⟨vp_in_nI (by omega) (by omega), nm_r (e' := wl_ar (wl_un S s c)) ?_ (nm_r (nI_1 s) ⟨rfl, wl_rel (wl_Inv_spell I h hc4)⟩)⟩))
    rw [ec, nI_clamp (by omega), wl_upd]
  · exact pk_eq s 5 (fun _ => ⟨rfl, wl_rel I⟩) (fun e => absurd (by omega) e)
theorem i_vc_clearSpelling {k : Nat} {u : SX} {v : SY} (I : i_Rel k u v) (hk : k + 4 ≤ 2049) : wpX_clearSpelling (fun u' => wpY_clearSpelling (fun v' => i_Rel (k + 4) u' v') v) u := by
  obtain ⟨p, w, s, t, A, L, P, K, S, T, LK, C, q1, q2, q3, q4, b1, b2, b3, I, rfl, rfl⟩ := I
  exact wl_rel (k := k + 4) (wl_Inv_clear I)
theorem i_vc_clearText {k : Nat} {u : SX} {v : SY} (I : i_Rel k u v) (hk : k + 4 ≤ 2049) : wpX_clearText (fun u' => wpY_clearText (fun v' => i_Rel (k + 4) u' v') v) u := by
  obtain ⟨p, w, s, t, A, L, P, K, S, T, LK, C, q1, q2, q3, q4, b1, b2, b3, I, rfl, rfl⟩ := I
  exact wl_rel (k := k + 4) (wl_Inv_clearT I)
theorem i_vc_type {k : Nat} {u : SX} {v : SY} (I : i_Rel k u v) (hk : k + 4 ≤ 2049) (v1 : Int32) : wpX_type (fun r u' => wpY_type (fun r' v' => r' = r ∧ i_Rel (k + 4) u' v') v v1) u v1 := by
  obtain ⟨p, w, s, t, A, L, P, K, S, T, LK, C, q1, q2, q3, q4, b1, b2, b3, I, rfl, rfl⟩ := I
  have ht : t ≤ 12 := I.1.2.2.2
  refine pk_lt t 12 (fun h => ?_) (fun h => ?_)
  · obtain ⟨c, hc, ec⟩ := pk_andE v1 (m := 3) 2 (by decide)
    have hc4 : c < 4 := hc
    have v : vp_in (nI t) 12 := vp_in_nI (by omega) (by omega)
    have eu : upd (wl_ar T) (nI t).toNatClampNeg (v1 &&& 3) = wl_ar (wl_un T t c) := by rw [ec, nI_clamp (by omega), wl_upd]
    exact ⟨v, nm_r eu (nm_r (nI_1 t) (pk_eq t 12 (fun e => absurd e (by omega)) (fun _ => ⟨v, nm_r eu (nm_r (nI_1 t) ⟨rfl, wl_rel (wl_Inv_type I h hc4)⟩)⟩)))⟩
  · exact pk_eq t 12 (fun _ => ⟨rfl, wl_rel I⟩) (fun e => absurd (by omega) e)
theorem i_vc_link {k : Nat} {u : SX} {v : SY} (I : i_Rel k u v) (hk : k + 4 ≤ 2049) (v1 : Int32) (v2 : Int32) (v3 : Int32) : wpX_link (fun r u' => wpY_link (fun r' v' => r' = r ∧ i_Rel (k + 4) u' v') v v1 v2 v3) u v1 v2 v3 := by
  obtain ⟨p, w, s, t, A, L, P, K, S, T, LK, C, q1, q2, q3, q4, b1, b2, b3, I, rfl, rfl⟩ := I
  unfold wpX_link wpY_link
  have J : (-1 : Int32) = -1 ∧ i_Rel (k + 4) (nI p, nI w, nI (wl_cd S s), nI s, nI t, wl_ar C, wl_ar P, wl_ar K, wl_ar LK, wl_ar T, q1, q2, q3, q4) (nI p, nI w, nI s, nI t, b1, b2, b3, wl_ar A, wl_ar L, wl_ar P, wl_ar K, wl_ar S, wl_ar T, wl_ar LK) := ⟨rfl, wl_rel I⟩
  have n1 : ¬ (1 : Int32) = 0 := by decide
  by_cases a0 : v1 < 0
  · exact br_t a0 (br_t rfl (br_t a0 J))
  obtain ⟨a, ha, rfl⟩ := nI_of a0
  by_cases a4 : a < 4
  · have a4' : ¬ (4 : Int32) ≤ nI a := nI_ge (b := 4) a4 (by decide)
    have a3' : ¬ (3 : Int32) < nI a := nI_nlt (b := a) (a := 3) (by omega) (by decide)
    refine br_f a0 (br_f a4' (br_f n1 ?_))
    by_cases b0 : v2 < 0
    · exact br_t b0 (br_t rfl (br_f a0 (br_f a3' (br_t b0 J))))
    obtain ⟨b, hb, rfl⟩ := nI_of b0
    by_cases b4 : b < 4
    · have b4' : ¬ (4 : Int32) ≤ nI b := nI_ge (b := 4) b4 (by decide)
      have b3' : ¬ (3 : Int32) < nI b := nI_nlt (b := b) (a := 3) (by omega) (by decide)
      refine br_f b0 (br_f b4' (br_f n1 ?_))
      by_cases c0 : v3 < 0
      · exact br_t c0 (br_t rfl (br_f a0 (br_f a3' (br_f b0 (br_f b3' (br_t c0 J))))))
      obtain ⟨c, hc, rfl⟩ := nI_of c0
      by_cases c9 : c ≤ 99
      · have c9' : nI c ≤ 99 := nI_le (b := 99) c9 (by decide)
        have c8' : ¬ (99 : Int32) < nI c := nI_nlt (b := c) (a := 99) c9 (by decide)
        have v20 : vp_in (nI (4 * a + b)) 20 := vp_in_nI (by omega) (by omega)
        have v16 : vp_in (nI (4 * a + b)) 16 := vp_in_nI (by omega) (by omega)
        refine br_f c0 (br_f c8' (br_f n1 (nm_r (wl_4r a b) ?_)))
        rw [wl_4 a b, nI_clamp (n := 4 * a + b) (by omega)]
        exact ⟨v20, nm_e ⟨v20, nm_r (wl_upd LK (4 * a + b) c) (br_f a0 (br_f a3' (br_f b0 (br_f b3' (br_f c0 (br_t c9' ⟨v16, nm_e ⟨v16, nm_r (wl_upd LK (4 * a + b) c) ⟨rfl, wl_rel (wl_Inv_link I (by omega) c9)⟩⟩⟩))))))⟩⟩
      · have c9' : ¬ nI c ≤ 99 := nI_ge (a := 99) (by omega) hc
        have c8' : (99 : Int32) < nI c := nI_lt (a := 99) (by omega) hc
        exact br_f c0 (br_t c8' (br_t rfl (br_f a0 (br_f a3' (br_f b0 (br_f b3' (br_f c0 (br_f c9' J))))))))
    · have b4' : (4 : Int32) ≤ nI b := nI_le (a := 4) (by omega) hb
      have b3' : (3 : Int32) < nI b := nI_lt (a := 3) (by omega) hb
      exact br_f b0 (br_t b4' (br_t rfl (br_f a0 (br_f a3' (br_f b0 (br_t b3' J))))))
  · have a4' : (4 : Int32) ≤ nI a := nI_le (a := 4) (by omega) ha
    have a3' : (3 : Int32) < nI a := nI_lt (a := 3) (by omega) ha
    exact br_f a0 (br_t a4' (br_t rfl (br_f a0 (br_t a3' J))))
theorem i_vc_lookUp {k : Nat} {u : SX} {v : SY} (I : i_Rel k u v) (hk : k + 4 ≤ 2049) : wpX_lookUp (fun r => wpY_lookUp (fun r' => r' = r ∧ i_Rel (k + 4) u v) v) u := by
  obtain ⟨p, w, s, t, A, L, P, K, S, T, LK, C, q1, q2, q3, q4, b1, b2, b3, I, rfl, rfl⟩ := I
  have hw : w ≤ 16 := I.1.2.1
  unfold wpX_lookUp wpY_lookUp
  refine wl_xfind I (wl_S_lt I) ?_
  cases e : wl_fd (fun i => decide (C i = wl_cd S s)) w with
  | none =>
    have g : ¬ (0 : Int32) ≤ wl_ri none := by decide
    refine br_f g (wl_ynamed I ?_)
    rw [e]
    exact br_f g ⟨rfl, wl_rel I⟩
  | some i =>
    obtain ⟨hi, _, _⟩ := wl_fd_some w i e
    have g : (0 : Int32) ≤ wl_ri (some i) := nI_pos' (by omega)
    have v : vp_in (wl_ri (some i)) 16 := vp_in_nI (by omega) (by omega)
    refine br_t g ⟨v, wl_ynamed I ?_⟩
    rw [e]
    exact br_t g ⟨v, rfl, wl_rel I⟩
theorem i_vc_beginning {k : Nat} {u : SX} {v : SY} (I : i_Rel k u v) (hk : k + 4 ≤ 2049) : wpX_beginning (fun r => wpY_beginning (fun r' => r' = r ∧ i_Rel (k + 4) u v) v) u := by
  obtain ⟨p, w, s, t, A, L, P, K, S, T, LK, C, q1, q2, q3, q4, b1, b2, b3, I, rfl, rfl⟩ := I
  obtain ⟨r, hX, hY⟩ := wl_begin (q1 := q1) (q2 := q2) (q3 := q3) (q4 := q4) (b1 := b1) (b2 := b2) (b3 := b3) I w 0 0 (by omega) (by omega)
  exact ⟨w + 1, hX _ ⟨w + 1, hY _ ⟨rfl, wl_rel I⟩⟩⟩
