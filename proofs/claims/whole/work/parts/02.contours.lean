/-! the contours: F c is the first corner of contour c, F m the end -/
def pg_G (fs bc : Nat → Int32) (n m : Nat) (F : Nat → Nat) : Prop :=
  F 0 = 0 ∧ F m = n ∧ (∀ c, c ≤ m → fs c = nI (F c)) ∧ (∀ c, c < m → F c < F (c + 1)) ∧ (∀ c, c < m → ¬ bc (F c) = 0) ∧ (∀ c i, c < m → F c < i → i < F (c + 1) → bc i = 0)
theorem pg_Fle {F : Nat → Nat} {m : Nat} (h : ∀ c, c < m → F c < F (c + 1)) : ∀ d c, c + d = m → F c ≤ F m := by
  intro d
  induction d with
  | zero =>
    intro c e
    have e' : c = m := by omega
    rw [e']
    exact Nat.le_refl _
  | succ d ih =>
    intro c e
    have h1 := h c (by omega)
    have h2 := ih (c + 1) (by omega)
    omega
theorem pg_Fm {F : Nat → Nat} {m c : Nat} (h : ∀ c, c < m → F c < F (c + 1)) (hc : c ≤ m) : F c ≤ F m := pg_Fle h (m - c) c (by omega)
theorem pg_G_0 (bc : Nat → Int32) : pg_G (fun _ => 0) bc 0 0 (fun _ => 0) :=
  ⟨rfl, rfl, fun _ _ => nI_0.symm, fun _ h => absurd h (Nat.not_lt_zero _), fun _ h => absurd h (Nat.not_lt_zero _), fun _ _ h => absurd h (Nat.not_lt_zero _)⟩
theorem pg_G_clear {fs bc : Nat → Int32} {n m : Nat} {F : Nat → Nat} (h : pg_G fs bc n m F) : pg_G fs bc 0 0 F :=
  ⟨h.1, h.1, fun c hc => h.2.2.1 c (by omega), fun _ h => absurd h (Nat.not_lt_zero _), fun _ h => absurd h (Nat.not_lt_zero _), fun _ _ h => absurd h (Nat.not_lt_zero _)⟩
theorem pg_G_begin {fs bc : Nat → Int32} {n m : Nat} {F : Nat → Nat} (h : pg_G fs bc n m F) {b : Int32} (hb : ¬ b = 0) :
    pg_G (upd (upd fs m (nI n)) (m + 1) (nI (n + 1))) (upd bc n b) (n + 1) (m + 1) (fun c => if c ≤ m then F c else n + 1) := by
  obtain ⟨h0, hm, hf, hs, hb1, hb0⟩ := h
  refine ⟨?_, ?_, ?_, ?_, ?_, ?_⟩
  · show (if 0 ≤ m then F 0 else n + 1) = 0
    rw [if_pos (Nat.zero_le m), h0]
  · show (if m + 1 ≤ m then F (m + 1) else n + 1) = n + 1
    rw [if_neg (by omega)]
  · intro c hc
    show _ = nI (if c ≤ m then F c else n + 1)
    by_cases e : c = m + 1
    · rw [e, pk_us, if_neg (by omega)]
    · rw [pk_un e, if_pos (by omega)]
      by_cases e2 : c = m
      · rw [e2, pk_us, hm]
      · rw [pk_un e2]
        exact hf c (by omega)
  · intro c hc
    show (if c ≤ m then F c else n + 1) < (if c + 1 ≤ m then F (c + 1) else n + 1)
    rw [if_pos (by omega)]
    by_cases e : c = m
    · rw [e, if_neg (by omega), hm]
      omega
    · rw [if_pos (by omega)]
      exact hs c (by omega)
  · intro c hc
    show ¬ upd bc n b (if c ≤ m then F c else n + 1) = 0
    rw [if_pos (by omega)]
    by_cases e : c = m
    · rw [e, hm, pk_us]
      exact hb
    · have h1 := hs c (by omega)
      have h2 := pg_Fm hs (c := c + 1) (by omega)
      rw [pk_un (by omega)]
      exact hb1 c (by omega)
  · intro c i hc h1 h2
    have h1 : (if c ≤ m then F c else n + 1) < i := h1
    have h2 : i < (if c + 1 ≤ m then F (c + 1) else n + 1) := h2
    rw [if_pos (by omega)] at h1
    by_cases e : c = m
    · rw [e, hm] at h1
      rw [e, if_neg (by omega)] at h2
      omega
    · rw [if_pos (by omega)] at h2
      have h3 := pg_Fm hs (c := c + 1) (by omega)
      rw [pk_un (by omega)]
      exact hb0 c i (by omega) h1 h2
theorem pg_G_corner {fs bc : Nat → Int32} {n m : Nat} {F : Nat → Nat} (h : pg_G fs bc n (m + 1) F) {b : Int32} (hb : b = 0) :
    pg_G (upd fs (m + 1) (nI (n + 1))) (upd bc n b) (n + 1) (m + 1) (fun c => if c ≤ m then F c else n + 1) := by
  obtain ⟨h0, hm, hf, hs, hb1, hb0⟩ := h
  refine ⟨?_, ?_, ?_, ?_, ?_, ?_⟩
  · show (if 0 ≤ m then F 0 else n + 1) = 0
    rw [if_pos (Nat.zero_le m), h0]
  · show (if m + 1 ≤ m then F (m + 1) else n + 1) = n + 1
    rw [if_neg (by omega)]
  · intro c hc
    show _ = nI (if c ≤ m then F c else n + 1)
    by_cases e : c = m + 1
    · rw [e, pk_us, if_neg (by omega)]
    · rw [pk_un e, if_pos (by omega)]
      exact hf c (by omega)
  · intro c hc
    show (if c ≤ m then F c else n + 1) < (if c + 1 ≤ m then F (c + 1) else n + 1)
    rw [if_pos (by omega)]
    by_cases e : c = m
    · have h1 := hs m (by omega)
      rw [e, if_neg (by omega)]
      omega
    · rw [if_pos (by omega)]
      exact hs c (by omega)
  · intro c hc
    show ¬ upd bc n b (if c ≤ m then F c else n + 1) = 0
    rw [if_pos (by omega)]
    have h1 := hs c (by omega)
    have h2 := pg_Fm hs (c := c + 1) (by omega)
    rw [pk_un (by omega)]
    exact hb1 c (by omega)
  · intro c i hc h1 h2
    have h1 : (if c ≤ m then F c else n + 1) < i := h1
    have h2 : i < (if c + 1 ≤ m then F (c + 1) else n + 1) := h2
    rw [if_pos (by omega)] at h1
    by_cases e : c = m
    · rw [e] at h1
      rw [e, if_neg (by omega)] at h2
      by_cases e2 : i = n
      · rw [e2, pk_us]
        exact hb
      · rw [pk_un e2]
        exact hb0 m i (by omega) h1 (by omega)
    · rw [if_pos (by omega)] at h2
      have h3 := hs (c + 1) (by omega)
      have h4 := pg_Fm hs (c := c + 1 + 1) (by omega)
      rw [pk_un (by omega)]
      exact hb0 c i (by omega) h1 h2
