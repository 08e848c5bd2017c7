/-! the relation and the owed statements -/
theorem pg_nar1 : ¬ vp_nar .boolean 1 = 0 := by decide
theorem pg_nar0 : vp_nar .boolean 0 = 0 := by decide
theorem pg_putOk {cx cy : Nat → Int32} {n : Nat} {x y : Int32} (hc : ∀ i, i < n → pg_ok (cx i) ∧ pg_ok (cy i)) (hx : pg_ok x) (hy : pg_ok y) : ∀ i, i < n + 1 → pg_ok (upd cx n x i) ∧ pg_ok (upd cy n y i) := by
  intro i hi
  by_cases e : i = n
  · rw [e, pk_us, pk_us]
    exact ⟨hx, hy⟩
  · rw [pk_un e, pk_un e]
    exact hc i (by omega)
/-- a row or a column: 0 to 15 -/
def pg_in (v : Int32) : Prop := 0 ≤ v ∧ v ≤ 15
theorem pg_15 {v : Int32} (h : v ≤ 15) : ¬ 16 ≤ v := by
  intro z
  exact absurd (Int32.le_trans z h) (by decide)
theorem pg_16 {v : Int32} (h : ¬ 16 ≤ v) : v ≤ 15 := by
  have h1 : (16 : Int32).toInt = 16 := by decide
  have h2 : (15 : Int32).toInt = 15 := by decide
  rw [Int32.le_iff_toInt_le, h1] at h
  rw [Int32.le_iff_toInt_le, h2]
  omega
theorem pg_inN {v : Int32} (h : pg_in v) : ∃ a : Nat, a < 16 ∧ v = nI a := by
  obtain ⟨j, hj, e⟩ := nI_of2 (x := v) (M := 15) (n := 15) (by decide) (Int32.not_lt.mpr h.1) h.2
  exact ⟨j, by omega, e⟩
theorem pg_pix (x y : Int32) : (¬ (pg_in x ∧ pg_in y)) ∨ ∃ a b : Nat, a < 16 ∧ b < 16 ∧ x = nI a ∧ y = nI b := by
  by_cases h : pg_in x ∧ pg_in y
  · obtain ⟨a, ha, ea⟩ := pg_inN h.1
    obtain ⟨b, hb, eb⟩ := pg_inN h.2
    exact Or.inr ⟨a, b, ha, hb, ea, eb⟩
  · exact Or.inl h
theorem pg_isPix0 {x y : Int32} {post : Int32 → Prop} (hn : ¬ (pg_in x ∧ pg_in y)) (h : post 0) : wpX_isPixel post x y := by
  by_cases a : x < 0
  · exact br_t a h
  by_cases b : 16 ≤ x
  · exact br_f a (br_t b h)
  by_cases c : y < 0
  · exact br_f a (br_f b (br_t c h))
  by_cases d : 16 ≤ y
  · exact br_f a (br_f b (br_f c (br_t d h)))
  exact absurd ⟨⟨Int32.not_lt.mp a, pg_16 b⟩, ⟨Int32.not_lt.mp c, pg_16 d⟩⟩ hn
theorem pg_isPix1 {a b : Nat} {post : Int32 → Prop} (ha : a < 16) (hb : b < 16) (h : post 1) : wpX_isPixel post (nI a) (nI b) :=
  br_f (nI_pos (by omega)) (br_f (nI_ge (b := 16) ha (by omega)) (br_f (nI_pos (by omega)) (br_f (nI_ge (b := 16) hb (by omega)) h)))
theorem pg_bad1 {st : SY} {x y : Int32} {post : Int32 → Prop} (hn : ¬ (pg_in x ∧ pg_in y)) (h : post 1) : wpY_badPixel post st x y := by
  by_cases a : x < 0
  · exact br_t a h
  by_cases b : 15 < x
  · exact br_f a (br_t b h)
  by_cases c : y < 0
  · exact br_f a (br_f b (br_t c h))
  exact br_f a (br_f b (br_f c (br_f (fun d => hn ⟨⟨Int32.not_lt.mp a, Int32.not_lt.mp b⟩, ⟨Int32.not_lt.mp c, d⟩⟩) h)))
def i_Rel (k : Nat) (u : SX) (v : SY) : Prop :=
  ∃ (n m : Nat) (C cx cy bc fs : Nat → Int32) (F : Nat → Nat), u = (nI m, nI n, C, cx, cy, bc) ∧ v = (nI n, nI m, cx, cy, fs, C) ∧ n ≤ 12 ∧ m ≤ 4 ∧ (∀ i, i < n → pg_ok (cx i) ∧ pg_ok (cy i)) ∧ pg_G fs bc n m F
theorem i_up {k : Nat} {u : SX} {v : SY} (h : i_Rel k u v) : i_Rel (k + 4) u v := h
theorem i_vc0 : wpX_init (fun u => wpY_init (fun v => i_Rel 0 u v)) :=
  ⟨0, 0, fun _ => 0, fun _ => 0, fun _ => 0, fun _ => 0, fun _ => 0, fun _ => 0, rfl, rfl, Nat.zero_le _, Nat.zero_le _, fun _ h => absurd h (Nat.not_lt_zero _), pg_G_0 _⟩
theorem i_vc_begin {k : Nat} {u : SX} {v : SY} (I : i_Rel k u v) (hk : k + 4 ≤ 2048) (v1 : Int32) (v2 : Int32) : wpX_begin (fun r u' => wpY_begin (fun r' v' => r' = r ∧ i_Rel (k + 4) u' v') v v1 v2) u v1 v2 := by
  obtain ⟨n, m, C, cx, cy, bc, fs, F, rfl, rfl, hn, hm, hc, G⟩ := I
  have K : i_Rel (k + 4) (nI m, nI n, C, cx, cy, bc) (nI n, nI m, cx, cy, fs, C) := ⟨n, m, C, cx, cy, bc, fs, F, rfl, rfl, hn, hm, hc, G⟩
  unfold wpX_begin wpY_begin
  dsimp only
  by_cases t1 : pg_ok v1
  · by_cases t2 : pg_ok v2
    · refine pg_pt1 t1 t2 (br_f pg_one ?_)
      by_cases c4 : m = 4
      · refine br_t (nI_le (a := 4) (by omega) (by omega)) (pg_out0 t1 (br_t rfl (pg_out0 t2 (br_t rfl (br_t ?_ ⟨rfl, K⟩)))))
        rw [c4]
        rfl
      · have m4 : ¬ nI m = 4 := fun z => c4 ((nI_eq (b := 4) (by omega) (by omega)).mp z)
        refine br_f (nI_ge (b := 4) (by omega) (by omega)) ?_
        by_cases c12 : n = 12
        · refine br_f (nI_nlt (b := 12) (by omega) (by omega)) (pg_out0 t1 (br_t rfl (pg_out0 t2 (br_t rfl (br_f m4 (br_t ?_ ⟨rfl, K⟩))))))
          rw [c12]
          rfl
        · have n12 : ¬ nI n = 12 := fun z => c12 ((nI_eq (b := 12) (by omega) (by omega)).mp z)
          have vn : vp_in (nI n) 12 := vp_in_nI (by omega) (by omega)
          have vm : vp_in (nI m) 5 := vp_in_nI (by omega) (by omega)
          have vm1 : vp_in (nI (m + 1)) 5 := vp_in_nI (by omega) (by omega)
          have en : (nI n).toNatClampNeg = n := nI_clamp (by omega)
          have em : (nI m).toNatClampNeg = m := nI_clamp (by omega)
          have em1 : (nI (m + 1)).toNatClampNeg = m + 1 := nI_clamp (by omega)
          refine br_t (nI_lt (b := 12) (by omega) (by omega)) ⟨vn, nm_e ⟨vn, nm_e ⟨vn, nm_e (nm_r (nI_1 n) (nm_r (nI_1 m) ?_))⟩⟩⟩
          refine pg_out0 t1 (br_t rfl (pg_out0 t2 (br_t rfl (br_f m4 (br_f n12 ⟨vm, nm_e (nm_r (nI_1 m) ⟨vn, nm_e ⟨vn, nm_e (nm_r (nI_1 n) ⟨vm1, nm_e ⟨rfl, ?_⟩⟩)⟩⟩)⟩)))))
          rw [en, em, em1]
          exact ⟨n + 1, m + 1, C, _, _, _, _, _, rfl, rfl, by omega, by omega, pg_putOk hc t1 t2, pg_G_begin G pg_nar1⟩
    · refine pg_pt0 (fun z => t2 z.2) (br_t rfl ?_)
      exact pg_out0 t1 (br_t rfl (pg_out1 t2 (br_f pg_one ⟨rfl, K⟩)))
  · refine pg_pt0 (fun z => t1 z.1) (br_t rfl ?_)
    exact pg_out1 t1 (br_f pg_one ⟨rfl, K⟩)
theorem i_vc_corner {k : Nat} {u : SX} {v : SY} (I : i_Rel k u v) (hk : k + 4 ≤ 2048) (v1 : Int32) (v2 : Int32) : wpX_corner (fun r u' => wpY_corner (fun r' v' => r' = r ∧ i_Rel (k + 4) u' v') v v1 v2) u v1 v2 := by
  obtain ⟨n, m, C, cx, cy, bc, fs, F, rfl, rfl, hn, hm, hc, G⟩ := I
  have K : i_Rel (k + 4) (nI m, nI n, C, cx, cy, bc) (nI n, nI m, cx, cy, fs, C) := ⟨n, m, C, cx, cy, bc, fs, F, rfl, rfl, hn, hm, hc, G⟩
  unfold wpX_corner wpY_corner
  dsimp only
  by_cases t1 : pg_ok v1
  · by_cases t2 : pg_ok v2
    · refine pg_pt1 t1 t2 (br_f pg_one ?_)
      by_cases c0 : m = 0
      · have m0 : nI m = 0 := by rw [c0]; rfl
        exact br_t m0 (pg_out0 t1 (br_t rfl (pg_out0 t2 (br_t rfl (br_t m0 ⟨rfl, K⟩)))))
      · have m0 : ¬ nI m = 0 := nI_ne0 (by omega) (by omega)
        refine br_f m0 ?_
        by_cases c12 : n = 12
        · refine br_f (nI_nlt (b := 12) (by omega) (by omega)) (pg_out0 t1 (br_t rfl (pg_out0 t2 (br_t rfl (br_f m0 (br_t ?_ ⟨rfl, K⟩))))))
          rw [c12]
          rfl
        · have n12 : ¬ nI n = 12 := fun z => c12 ((nI_eq (b := 12) (by omega) (by omega)).mp z)
          have vn : vp_in (nI n) 12 := vp_in_nI (by omega) (by omega)
          have vm : vp_in (nI m) 5 := vp_in_nI (by omega) (by omega)
          have en : (nI n).toNatClampNeg = n := nI_clamp (by omega)
          have em : (nI m).toNatClampNeg = m := nI_clamp (by omega)
          refine br_t (nI_lt (b := 12) (by omega) (by omega)) ⟨vn, nm_e ⟨vn, nm_e ⟨vn, nm_e (nm_r (nI_1 n) ?_)⟩⟩⟩
          refine pg_out0 t1 (br_t rfl (pg_out0 t2 (br_t rfl (br_f m0 (br_f n12 ⟨vn, nm_e ⟨vn, nm_e (nm_r (nI_1 n) ⟨vm, nm_e ⟨rfl, ?_⟩⟩)⟩⟩)))))
          obtain ⟨q, rfl⟩ : ∃ q, m = q + 1 := ⟨m - 1, by omega⟩
          rw [en, em]
          exact ⟨n + 1, q + 1, C, _, _, _, _, _, rfl, rfl, by omega, by omega, pg_putOk hc t1 t2, pg_G_corner G pg_nar0⟩
    · refine pg_pt0 (fun z => t2 z.2) (br_t rfl ?_)
      exact pg_out0 t1 (br_t rfl (pg_out1 t2 (br_f pg_one ⟨rfl, K⟩)))
  · refine pg_pt0 (fun z => t1 z.1) (br_t rfl ?_)
    exact pg_out1 t1 (br_f pg_one ⟨rfl, K⟩)
theorem i_vc_move {k : Nat} {u : SX} {v : SY} (I : i_Rel k u v) (hk : k + 4 ≤ 2048) (v1 : Int32) (v2 : Int32) : wpX_move (fun r u' => wpY_move (fun r' v' => r' = r ∧ i_Rel (k + 4) u' v') v v1 v2) u v1 v2 := by
  obtain ⟨n, m, C, cx, cy, bc, fs, F, rfl, rfl, hn, hm, hc, G⟩ := I
  rcases pg_move1 (c1 := nI m) (C := C) (bc := bc) (fs := fs) hn hc v1 v2 n 0 (by omega) with ⟨hX, hY⟩ | ⟨h1, hX, hY⟩
  · exact ⟨n + 1, hX _ ⟨n + 1, hY _ ⟨rfl, n, m, C, cx, cy, bc, fs, F, rfl, rfl, hn, hm, hc, G⟩⟩⟩
  · obtain ⟨dx, dy, hd, gX, gY⟩ := pg_move2 (c1 := nI m) (C := C) (bc := bc) (fs := fs) hn v1 v2 n 0 (by omega) cx cy (fun j h => absurd h (Nat.not_lt_zero j)) (fun j h h2 => (h1 j h h2).1) (fun j h => absurd h (Nat.not_lt_zero j)) (fun j h h2 => (h1 j h h2).2)
    exact ⟨n + 1, hX _ ⟨n + 1, gX _ ⟨n + 1, hY _ ⟨n + 1, gY _ ⟨rfl, n, m, C, dx, dy, bc, fs, F, rfl, rfl, hn, hm, hd, G⟩⟩⟩⟩⟩
theorem i_vc_mirror {k : Nat} {u : SX} {v : SY} (I : i_Rel k u v) (hk : k + 4 ≤ 2048) : wpX_mirror (fun u' => wpY_mirror (fun v' => i_Rel (k + 4) u' v') v) u := by
  obtain ⟨n, m, C, cx, cy, bc, fs, F, rfl, rfl, hn, hm, hc, G⟩ := I
  obtain ⟨dx, dy, hd, gX, gY⟩ := pg_mirror hn (c1 := nI m) (C := C) (bc := bc) (fs := fs) n 0 (by omega) cx cy (fun j h => (hc j h).1) (fun j h => (hc j h).2)
  exact ⟨n + 1, gX _ ⟨n + 1, gY _ ⟨n, m, C, dx, dy, bc, fs, F, rfl, rfl, hn, hm, hd, G⟩⟩⟩
theorem i_vc_clear {k : Nat} {u : SX} {v : SY} (I : i_Rel k u v) (hk : k + 4 ≤ 2048) : wpX_clear (fun u' => wpY_clear (fun v' => i_Rel (k + 4) u' v') v) u := by
  obtain ⟨n, m, C, cx, cy, bc, fs, F, rfl, rfl, hn, hm, hc, G⟩ := I
  exact ⟨0, 0, C, cx, cy, bc, fs, F, rfl, rfl, Nat.zero_le _, Nat.zero_le _, fun j h => absurd h (Nat.not_lt_zero j), pg_G_clear G⟩
theorem i_vc_paint {k : Nat} {u : SX} {v : SY} (I : i_Rel k u v) (hk : k + 4 ≤ 2048) (v1 : Int32) (v2 : Int32) : wpX_paint (fun r u' => wpY_paint (fun r' v' => r' = r ∧ i_Rel (k + 4) u' v') v v1 (lw_bz v2)) u v1 (lw_bz v2) := by
  obtain ⟨n, m, C, cx, cy, bc, fs, F, rfl, rfl, hn, hm, hc, G⟩ := I
  have K : i_Rel (k + 4) (nI m, nI n, C, cx, cy, bc) (nI n, nI m, cx, cy, fs, C) := ⟨n, m, C, cx, cy, bc, fs, F, rfl, rfl, hn, hm, hc, G⟩
  unfold wpX_paint
  dsimp only
  by_cases a : v1 < 0
  · exact br_t a (br_t rfl (br_t a ⟨rfl, K⟩))
  by_cases b : v1 ≤ 255
  · obtain ⟨r, D, rX, rY⟩ := pg_paint G hn hm hc v1 (lw_bz v2) 256 0 0 0 (by omega) (by omega) (by omega) (by omega) 0 C
    refine br_f a (br_f (Int32.not_lt.mpr b) (br_f pg_one ⟨17, br_f (by decide) ⟨_, rX _ ?_⟩⟩))
    exact br_f a (br_t b ⟨_, rY _ ⟨rfl, n, m, D, cx, cy, bc, fs, F, rfl, rfl, hn, hm, hc, G⟩⟩)
  · exact br_f a (br_t (Int32.not_le.mp b) (br_t rfl (br_f a (br_f b ⟨rfl, K⟩))))
theorem i_vc_wipe {k : Nat} {u : SX} {v : SY} (I : i_Rel k u v) (hk : k + 4 ≤ 2048) (v1 : Int32) : wpX_wipe (fun r u' => wpY_wipe (fun r' v' => r' = r ∧ i_Rel (k + 4) u' v') v v1) u v1 := by
  obtain ⟨n, m, C, cx, cy, bc, fs, F, rfl, rfl, hn, hm, hc, G⟩ := I
  have K : i_Rel (k + 4) (nI m, nI n, C, cx, cy, bc) (nI n, nI m, cx, cy, fs, C) := ⟨n, m, C, cx, cy, bc, fs, F, rfl, rfl, hn, hm, hc, G⟩
  unfold wpX_wipe
  dsimp only
  by_cases a : v1 < 0
  · exact br_t a (br_t rfl (br_t a ⟨rfl, K⟩))
  by_cases b : v1 ≤ 255
  · obtain ⟨D, hX, hY⟩ := pg_wipe (c1 := nI m) (n1 := nI n) (cx := cx) (cy := cy) (bc := bc) (fs := fs) v1 256 0 (by omega) C
    refine br_f a (br_f (Int32.not_lt.mpr b) (br_f pg_one ⟨_, hX _ ?_⟩))
    exact br_f a (br_t b ⟨_, hY _ ⟨rfl, n, m, D, cx, cy, bc, fs, F, rfl, rfl, hn, hm, hc, G⟩⟩)
  · exact br_f a (br_t (Int32.not_le.mp b) (br_t rfl (br_f a (br_f b ⟨rfl, K⟩))))
theorem i_vc_pixel {k : Nat} {u : SX} {v : SY} (I : i_Rel k u v) (hk : k + 4 ≤ 2048) (v1 : Int32) (v2 : Int32) : wpX_pixel (fun r => wpY_pixel (fun r' => r' = r ∧ i_Rel (k + 4) u v) v v1 v2) u v1 v2 := by
  obtain ⟨n, m, C, cx, cy, bc, fs, F, rfl, rfl, hn, hm, hc, G⟩ := I
  have K : i_Rel (k + 4) (nI m, nI n, C, cx, cy, bc) (nI n, nI m, cx, cy, fs, C) := ⟨n, m, C, cx, cy, bc, fs, F, rfl, rfl, hn, hm, hc, G⟩
  unfold wpX_pixel wpY_pixel
  dsimp only
  rcases pg_pix v1 v2 with h | ⟨a, b, ha, hb, rfl, rfl⟩
  · exact pg_isPix0 h (br_t rfl (pg_bad1 h (br_f pg_one ⟨rfl, K⟩)))
  · have h1 : nI a * 16 = nI (a * 16) := pk_mul a 16
    have v : vp_in (nI a * 16 + nI b) 256 := by
      rw [h1, nI_add]
      exact vp_in_nI (by omega) (by omega)
    exact pg_isPix1 ha hb (br_f pg_one ⟨v, pg_bad0 ha hb (br_t rfl ⟨v, rfl, K⟩)⟩)
theorem i_vc_coverage {k : Nat} {u : SX} {v : SY} (I : i_Rel k u v) (hk : k + 4 ≤ 2048) (v1 : Int32) (v2 : Int32) (v3 : Int32) : wpX_coverage (fun r => wpY_coverage (fun r' => r' = r ∧ i_Rel (k + 4) u v) v v1 v2 (lw_bz v3)) u v1 v2 (lw_bz v3) := by
  obtain ⟨n, m, C, cx, cy, bc, fs, F, rfl, rfl, hn, hm, hc, G⟩ := I
  have K : i_Rel (k + 4) (nI m, nI n, C, cx, cy, bc) (nI n, nI m, cx, cy, fs, C) := ⟨n, m, C, cx, cy, bc, fs, F, rfl, rfl, hn, hm, hc, G⟩
  unfold wpX_coverage
  dsimp only
  rcases pg_pix v1 v2 with h | ⟨a, b, ha, hb, rfl, rfl⟩
  · refine pg_isPix0 h (br_t rfl ?_)
    unfold wpY_coverage
    dsimp only
    exact pg_bad1 h (br_f pg_one ⟨rfl, K⟩)
  · obtain ⟨r, rX, rY⟩ := pg_cov G hn hm hc C (lw_bz v3) ha hb
    exact pg_isPix1 ha hb (br_f pg_one (rX _ (rY _ ⟨rfl, K⟩)))
theorem i_vc_area {k : Nat} {u : SX} {v : SY} (I : i_Rel k u v) (hk : k + 4 ≤ 2048) (v1 : Int32) : wpX_area (fun r => wpY_area (fun r' => r' = r ∧ i_Rel (k + 4) u v) v (lw_bz v1)) u (lw_bz v1) := by
  obtain ⟨n, m, C, cx, cy, bc, fs, F, rfl, rfl, hn, hm, hc, G⟩ := I
  have K : i_Rel (k + 4) (nI m, nI n, C, cx, cy, bc) (nI n, nI m, cx, cy, fs, C) := ⟨n, m, C, cx, cy, bc, fs, F, rfl, rfl, hn, hm, hc, G⟩
  obtain ⟨r, rX, rY⟩ := pg_area G hn hm hc C (lw_bz v1) 256 0 0 0 (by omega) (by omega) (by omega) (by omega) 0
  exact ⟨17, br_f (by decide) ⟨_, rX _ ⟨_, rY _ ⟨rfl, K⟩⟩⟩⟩
theorem i_vc_winding {k : Nat} {u : SX} {v : SY} (I : i_Rel k u v) (hk : k + 4 ≤ 2048) (v1 : Int32) (v2 : Int32) : wpX_winding (fun r => wpY_winding (fun r' => r' = r ∧ i_Rel (k + 4) u v) v v1 v2) u v1 v2 := by
  obtain ⟨n, m, C, cx, cy, bc, fs, F, rfl, rfl, hn, hm, hc, G⟩ := I
  have K : i_Rel (k + 4) (nI m, nI n, C, cx, cy, bc) (nI n, nI m, cx, cy, fs, C) := ⟨n, m, C, cx, cy, bc, fs, F, rfl, rfl, hn, hm, hc, G⟩
  unfold wpX_winding
  dsimp only
  by_cases t1 : pg_ok v1
  · by_cases t2 : pg_ok v2
    · obtain ⟨r, rX, rY⟩ := pg_windAt G hn hm hc C t1 t2
      exact pg_pt1 t1 t2 (br_f pg_one (rX _ (rY _ ⟨rfl, K⟩)))
    · refine pg_pt0 (fun z => t2 z.2) (br_t rfl ?_)
      unfold wpY_winding
      dsimp only
      exact pg_out0 t1 (br_t rfl (pg_out1 t2 (br_f pg_one ⟨rfl, K⟩)))
  · refine pg_pt0 (fun z => t1 z.1) (br_t rfl ?_)
    unfold wpY_winding
    dsimp only
    exact pg_out1 t1 (br_f pg_one ⟨rfl, K⟩)
theorem i_vc_rowSum {k : Nat} {u : SX} {v : SY} (I : i_Rel k u v) (hk : k + 4 ≤ 2048) (v1 : Int32) : wpX_rowSum (fun r => wpY_rowSum (fun r' => r' = r ∧ i_Rel (k + 4) u v) v v1) u v1 := by
  obtain ⟨n, m, C, cx, cy, bc, fs, F, rfl, rfl, hn, hm, hc, G⟩ := I
  have K : i_Rel (k + 4) (nI m, nI n, C, cx, cy, bc) (nI n, nI m, cx, cy, fs, C) := ⟨n, m, C, cx, cy, bc, fs, F, rfl, rfl, hn, hm, hc, G⟩
  unfold wpX_rowSum
  dsimp only
  rcases pg_pix v1 0 with h | ⟨a, b, ha, hb, rfl, _⟩
  · refine pg_isPix0 h (br_t rfl ?_)
    by_cases c : v1 < 0
    · exact br_t c ⟨rfl, K⟩
    · refine br_f c (br_f (fun z => h ⟨⟨Int32.not_lt.mp c, z⟩, ⟨by decide, by decide⟩⟩) ⟨rfl, K⟩)
  · obtain ⟨r, rX, rY⟩ := pg_rowSum (c1 := nI m) (n1 := nI n) (C := C) (cx := cx) (cy := cy) (bc := bc) (fs := fs) ha 16 0 (by omega) 0
    refine pg_isPix1 (b := 0) ha (by omega) (br_f pg_one ⟨_, rX _ ?_⟩)
    exact br_f (nI_pos (by omega)) (br_t (nI_le (b := 15) (by omega) (by omega)) ⟨_, rY _ ⟨rfl, K⟩⟩)
