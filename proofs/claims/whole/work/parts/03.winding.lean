/-! one answer for an edge, for a winding: 'one r such that post r gives both walks' -/
theorem pg_one : ¬ (1 : Int32) = 0 := by decide
theorem pg_m1 : ¬ (-1 : Int32) = 0 := by decide
theorem pg_right {c1 n1 : Int32} {C cx cy bc : Nat → Int32} {p q x y : Int32} (hp : vp_in p 12) (hq : vp_in q 12) (hx : pg_ok x) (hy : pg_ok y)
    (ap : pg_ok (cx p.toNatClampNeg)) (bp : pg_ok (cy p.toNatClampNeg)) (aq : pg_ok (cx q.toNatClampNeg)) (bq : pg_ok (cy q.toNatClampNeg)) {post : Int32 → Prop}
    (h : ((cx q.toNatClampNeg - cx p.toNatClampNeg) * (y - cy p.toNatClampNeg) ≤ (x - cx p.toNatClampNeg) * (cy q.toNatClampNeg - cy p.toNatClampNeg) → post 0) ∧
      (¬ (cx q.toNatClampNeg - cx p.toNatClampNeg) * (y - cy p.toNatClampNeg) ≤ (x - cx p.toNatClampNeg) * (cy q.toNatClampNeg - cy p.toNatClampNeg) → post 1)) :
    wpX_isRightOf post (c1, n1, C, cx, cy, bc) p q x y :=
  ⟨hq, hp, nm_e ⟨hq, hp, nm_e ⟨hp, hp, ek_if (pg_side ap aq bp bq hx hy) h.1 h.2⟩⟩⟩
theorem pg_e27 {c1 n1 : Int32} {C cx cy bc fs : Nat → Int32} {p q x y : Int32} (hp : vp_in p 12) (hq : vp_in q 12) (hx : pg_ok x) (hy : pg_ok y)
    (ap : pg_ok (cx p.toNatClampNeg)) (bp : pg_ok (cy p.toNatClampNeg)) (aq : pg_ok (cx q.toNatClampNeg)) (bq : pg_ok (cy q.toNatClampNeg)) :
    ∃ r : Int32, (∀ post : Int32 → Prop, post r → wX_edgeWinding_27 post p q x y 0 c1 n1 C cx cy bc) ∧ (∀ post : Int32 → Prop, post r → wY_edge_76 post p q x y n1 c1 cx cy fs C) := by
  by_cases a : y < cy q.toNatClampNeg
  · exact ⟨0, fun post h => ⟨hq, br_t a (br_t rfl (br_t rfl h))⟩, fun post h => ⟨hq, br_t a h⟩⟩
  · by_cases b : cy p.toNatClampNeg ≤ y
    · exact ⟨0, fun post h => ⟨hq, br_f a ⟨hp, br_t b (br_t rfl (br_t rfl h))⟩⟩, fun post h => ⟨hq, br_f a ⟨hp, br_t b h⟩⟩⟩
    · by_cases t : (cx p.toNatClampNeg - cx q.toNatClampNeg) * (y - cy q.toNatClampNeg) ≤ (x - cx q.toNatClampNeg) * (cy p.toNatClampNeg - cy q.toNatClampNeg)
      · exact ⟨0, fun post h => ⟨hq, br_f a ⟨hp, br_f b (br_t rfl (br_f pg_one (pg_right hq hp hx hy aq bq ap bp (br_t t (br_t rfl h)))))⟩⟩, fun post h => ⟨hq, br_f a ⟨hp, br_f b ⟨hp, hq, hq, hq, hp, hq, br_t t h⟩⟩⟩⟩
      · exact ⟨-1, fun post h => ⟨hq, br_f a ⟨hp, br_f b (br_t rfl (br_f pg_one (pg_right hq hp hx hy aq bq ap bp (br_f t (br_f pg_one h)))))⟩⟩, fun post h => ⟨hq, br_f a ⟨hp, br_f b ⟨hp, hq, hq, hq, hp, hq, br_f t h⟩⟩⟩⟩
theorem pg_edge {c1 n1 : Int32} {C cx cy bc fs : Nat → Int32} {p q x y : Int32} (hp : vp_in p 12) (hq : vp_in q 12) (hx : pg_ok x) (hy : pg_ok y)
    (ap : pg_ok (cx p.toNatClampNeg)) (bp : pg_ok (cy p.toNatClampNeg)) (aq : pg_ok (cx q.toNatClampNeg)) (bq : pg_ok (cy q.toNatClampNeg)) :
    ∃ r : Int32, (∀ post : Int32 → Prop, post r → wpX_edgeWinding post (c1, n1, C, cx, cy, bc) p q x y) ∧ (∀ post : Int32 → Prop, post r → wpY_edge post (n1, c1, cx, cy, fs, C) p q x y) := by
  obtain ⟨r, rX, rY⟩ := pg_e27 (c1 := c1) (n1 := n1) (C := C) (cx := cx) (cy := cy) (bc := bc) (fs := fs) hp hq hx hy ap bp aq bq
  by_cases a : y < cy p.toNatClampNeg
  · exact ⟨r, fun post h => ⟨hp, br_t a (rX post h)⟩, fun post h => ⟨hp, br_t a (rY post h)⟩⟩
  · by_cases b : cy q.toNatClampNeg ≤ y
    · exact ⟨r, fun post h => ⟨hp, br_f a ⟨hq, br_t b (rX post h)⟩⟩, fun post h => ⟨hp, br_f a ⟨hq, br_t b (rY post h)⟩⟩⟩
    · have b' : y < cy q.toNatClampNeg := Int32.not_le.mp b
      by_cases t : (cx q.toNatClampNeg - cx p.toNatClampNeg) * (y - cy p.toNatClampNeg) ≤ (x - cx p.toNatClampNeg) * (cy q.toNatClampNeg - cy p.toNatClampNeg)
      · exact ⟨0, fun post h => ⟨hp, br_f a ⟨hq, br_f b ⟨hq, br_t b' (br_f pg_one (pg_right hp hq hx hy ap bp aq bq (br_t t (br_t rfl (br_t rfl h)))))⟩⟩⟩, fun post h => ⟨hp, br_f a ⟨hq, br_f b ⟨hq, hp, hp, hp, hq, hp, br_t t h⟩⟩⟩⟩
      · exact ⟨1, fun post h => ⟨hp, br_f a ⟨hq, br_f b ⟨hq, br_t b' (br_f pg_one (pg_right hp hq hx hy ap bp aq bq (br_f t (br_f pg_one h))))⟩⟩⟩, fun post h => ⟨hp, br_f a ⟨hq, br_f b ⟨hq, hp, hp, hp, hq, hp, br_f t h⟩⟩⟩⟩
theorem pg_edgeN {n m : Nat} {C cx cy bc fs : Nat → Int32} (hn : n ≤ 12) (hc : ∀ i, i < n → pg_ok (cx i) ∧ pg_ok (cy i)) {x y : Int32} (hx : pg_ok x) (hy : pg_ok y) {i j : Nat} (hi : i < n) (hj : j < n) :
    ∃ r : Int32, (∀ post : Int32 → Prop, post r → wpX_edgeWinding post (nI m, nI n, C, cx, cy, bc) (nI i) (nI j) x y) ∧ (∀ post : Int32 → Prop, post r → wpY_edge post (nI n, nI m, cx, cy, fs, C) (nI i) (nI j) x y) := by
  have ei : (nI i).toNatClampNeg = i := nI_clamp (by omega)
  have ej : (nI j).toNatClampNeg = j := nI_clamp (by omega)
  exact pg_edge (vp_in_nI (by omega) (by omega)) (vp_in_nI (by omega) (by omega)) hx hy (by rw [ei]; exact (hc i hi).1) (by rw [ei]; exact (hc i hi).2) (by rw [ej]; exact (hc j hj).1) (by rw [ej]; exact (hc j hj).2)
/-- X's head of a turn of the loop: the corner that begins a contour -/
theorem pg_x8 {n m : Nat} {C cx cy bc : Nat → Int32} {x y s f : Int32} {i k N : Nat} {post : Int32 → Prop} (hi : i < n) (hn : n ≤ 12) (hb : (bc i = 0 ∧ f = nI k) ∨ (¬ bc i = 0 ∧ i = k))
    (h : wX_windingAt_31 post (wX_windingAt_8 post x y (nI m) (nI n) C cx cy bc N) x y s (nI k) (nI i) (nI m) (nI n) C cx cy bc) : wX_windingAt_8 post x y (nI m) (nI n) C cx cy bc (N + 1) s f (nI i) := by
  have ei : (nI i).toNatClampNeg = i := nI_clamp (by omega)
  rcases hb with ⟨z, e⟩ | ⟨z, e⟩
  · subst e
    exact br_f (nI_ge hi (by omega)) ⟨vp_in_nI (by omega) (by omega), br_t (by rw [ei]; exact z) h⟩
  · subst e
    exact br_f (nI_ge hi (by omega)) ⟨vp_in_nI (by omega) (by omega), br_f (by rw [ei]; exact z) h⟩
theorem pg_wind {n m : Nat} {cx cy bc fs : Nat → Int32} {F : Nat → Nat} (G : pg_G fs bc n m F) (hn : n ≤ 12) (hm : m ≤ 4) (hc : ∀ i, i < n → pg_ok (cx i) ∧ pg_ok (cy i)) (C : Nat → Int32) {x y : Int32} (hx : pg_ok x) (hy : pg_ok y) :
    ∀ d c i, i + d = n → c < m → F c ≤ i → i < F (c + 1) → ∀ s f : Int32, (f = nI (F c) ∨ i = F c) →
    ∃ r : Int32, (∀ post : Int32 → Prop, post r → wX_windingAt_8 post x y (nI m) (nI n) C cx cy bc (d + 1) s f (nI i)) ∧
      (∀ post : Int32 → Prop, post r → wY_winding_41 post (wY_winding_23 post x y (nI n) (nI m) cx cy fs C (m - c)) x y (nI c) (nI n) (nI m) cx cy fs C (F (c + 1) - i + 1) s (nI i)) := by
  obtain ⟨h0, hF, hf, hs, hb1, hb0⟩ := G
  intro d
  induction d with
  | zero =>
    intro c i e hcm h1 h2
    have := pg_Fm hs (c := c + 1) (by omega)
    omega
  | succ d ih =>
    intro c i e hcm h1 h2 s f hfi
    have hle := pg_Fm hs (c := c + 1) (by omega)
    have hb : (bc i = 0 ∧ f = nI (F c)) ∨ (¬ bc i = 0 ∧ i = F c) := by
      by_cases q : i = F c
      · exact Or.inr ⟨by rw [q]; exact hb1 c hcm, q⟩
      · refine Or.inl ⟨hb0 c i hcm (by omega) h2, ?_⟩
        rcases hfi with z | z
        · exact z
        · exact absurd z q
    have fc : fs (nI c + 1).toNatClampNeg = nI (F (c + 1)) := by
      rw [nI_1, nI_clamp (by omega)]
      exact hf (c + 1) (by omega)
    have v5 : vp_in (nI c + 1) 5 := by
      rw [nI_1]
      exact vp_in_nI (by omega) (by omega)
    have fi : ¬ fs (nI c + 1).toNatClampNeg ≤ nI i := by
      rw [fc]
      exact nI_ge h2 (by omega)
    by_cases a : i + 1 < F (c + 1)
    · obtain ⟨t, tX, tY⟩ := pg_edgeN (m := m) (C := C) (bc := bc) (fs := fs) hn hc hx hy (i := i) (j := i + 1) (by omega) (by omega)
      obtain ⟨r, rX, rY⟩ := ih c (i + 1) (by omega) hcm (by omega) a (s + t) (nI (F c)) (Or.inl rfl)
      refine ⟨r, fun post h => pg_x8 (by omega) hn hb ?_, fun post h => ?_⟩
      · refine br_f ?_ ⟨?_, br_t ?_ (br_t rfl ?_)⟩
        · rw [nI_1]
          exact nI_ge (by omega) (by omega)
        · rw [nI_1]
          exact vp_in_nI (by omega) (by omega)
        · rw [nI_1, nI_clamp (by omega)]
          exact hb0 c (i + 1) hcm (by omega) a
        · rw [nI_1]
          unfold wX_windingAt_75
          exact tX _ (nm_e (nm_r (nI_1 i) (rX post h)))
      · rw [show F (c + 1) - i = F (c + 1) - (i + 1) + 1 by omega]
        refine ⟨v5, br_f fi ⟨v5, br_f ?_ ?_⟩⟩
        · rw [fc, nI_1]
          exact nI_ge a (by omega)
        · rw [nI_1]
          unfold wY_winding_85
          exact tY _ (nm_e (nm_r (nI_1 i) (rY post h)))
    · have a1 : i + 1 = F (c + 1) := by omega
      obtain ⟨t, tX, tY⟩ := pg_edgeN (m := m) (C := C) (bc := bc) (fs := fs) hn hc hx hy (i := i) (j := F c) (by omega) (by omega)
      have f1 : fs (nI c + 1).toNatClampNeg ≤ nI i + 1 := by
        rw [fc, nI_1]
        exact nI_le (by omega) (by omega)
      have f2 : fs (nI c + 1).toNatClampNeg ≤ nI (i + 1) := by
        rw [fc]
        exact nI_le (by omega) (by omega)
      have f0 : fs (nI c).toNatClampNeg = nI (F c) := by
        rw [nI_clamp (by omega)]
        exact hf c (by omega)
      by_cases b : c + 1 = m
      · have b1 : F (c + 1) = n := by rw [b]; exact hF
        have d0 : d = 0 := by omega
        subst d0
        refine ⟨s + t, fun post h => pg_x8 (by omega) hn hb ?_, fun post h => ?_⟩
        · refine br_t ?_ (br_f pg_one ?_)
          · rw [nI_1]
            exact nI_le (by omega) (by omega)
          · unfold wX_windingAt_75
            exact tX _ (nm_e (nm_r (nI_1 i) (br_t (nI_le (by omega) (by omega)) h)))
        · rw [show F (c + 1) - i = 0 + 1 by omega, show m - c = 0 + 1 by omega]
          refine ⟨v5, br_f fi ⟨v5, br_t f1 ⟨vp_in_nI (by omega) (by omega), ?_⟩⟩⟩
          rw [f0]
          unfold wY_winding_85
          exact tY _ (nm_e (nm_r (nI_1 i) ⟨v5, br_t f2 (nm_r (nI_1 c) (br_t (nI_le (by omega) (by omega)) h))⟩))
      · have hs1 := hs (c + 1) (by omega)
        have hl1 := pg_Fm hs (c := c + 1 + 1) (by omega)
        obtain ⟨r, rX, rY⟩ := ih (c + 1) (i + 1) (by omega) (by omega) (by omega) (by omega) (s + t) (nI (F c)) (Or.inr a1)
        refine ⟨r, fun post h => pg_x8 (by omega) hn hb ?_, fun post h => ?_⟩
        · refine br_f ?_ ⟨?_, br_f ?_ (br_f pg_one ?_)⟩
          · rw [nI_1]
            exact nI_ge (by omega) (by omega)
          · rw [nI_1]
            exact vp_in_nI (by omega) (by omega)
          · rw [nI_1, nI_clamp (by omega), a1]
            exact hb1 (c + 1) (by omega)
          · unfold wX_windingAt_75
            exact tX _ (nm_e (nm_r (nI_1 i) (rX post h)))
        · rw [show F (c + 1) - i = 0 + 1 by omega, show m - c = m - (c + 1) + 1 by omega]
          refine ⟨v5, br_f fi ⟨v5, br_t f1 ⟨vp_in_nI (by omega) (by omega), ?_⟩⟩⟩
          rw [f0]
          unfold wY_winding_85
          refine tY _ (nm_e (nm_r (nI_1 i) ⟨v5, br_t f2 (nm_r (nI_1 c) (br_f (nI_ge (by omega) (by omega)) ⟨vp_in_nI (by omega) (by omega), nm_r ?_ ⟨_, rY post h⟩⟩))⟩))
          rw [nI_clamp (by omega), a1]
          exact hf (c + 1) (by omega)
theorem pg_out0 {st : SY} {x : Int32} {post : Int32 → Prop} (hx : pg_ok x) (h : post 0) : wpY_out post st x := br_f (Int32.not_lt.mpr hx.1) (br_t hx.2 h)
theorem pg_out1 {st : SY} {x : Int32} {post : Int32 → Prop} (hx : ¬ pg_ok x) (h : post 1) : wpY_out post st x := by
  by_cases a : x < 0
  · exact br_t a h
  · exact br_f a (br_f (fun b => hx ⟨Int32.not_lt.mp a, b⟩) h)
theorem pg_pt1 {x y : Int32} {post : Int32 → Prop} (hx : pg_ok x) (hy : pg_ok y) (h : post 1) : wpX_isPoint post x y :=
  br_f (Int32.not_lt.mpr hx.1) (br_f (Int32.not_lt.mpr hx.2) (br_f (Int32.not_lt.mpr hy.1) (br_f (Int32.not_lt.mpr hy.2) h)))
theorem pg_pt0 {x y : Int32} {post : Int32 → Prop} (hn : ¬ (pg_ok x ∧ pg_ok y)) (h : post 0) : wpX_isPoint post x y := by
  by_cases a : x < 0
  · exact br_t a h
  by_cases b : 64 < x
  · exact br_f a (br_t b h)
  by_cases c : y < 0
  · exact br_f a (br_f b (br_t c h))
  by_cases d : 64 < y
  · exact br_f a (br_f b (br_f c (br_t d h)))
  exact absurd ⟨⟨Int32.not_lt.mp a, Int32.not_lt.mp b⟩, ⟨Int32.not_lt.mp c, Int32.not_lt.mp d⟩⟩ hn
theorem pg_wY {c1 n1 : Int32} {C cx cy fs : Nat → Int32} {x y : Int32} {post : Int32 → Prop} (hx : pg_ok x) (hy : pg_ok y) (h : ∃ n23 : Nat, wY_winding_23 post x y n1 c1 cx cy fs C n23 0 0) : wpY_winding post (n1, c1, cx, cy, fs, C) x y := by
  unfold wpY_winding
  dsimp only
  exact pg_out0 hx (br_t rfl (pg_out0 hy (br_t rfl h)))
theorem pg_windAt {n m : Nat} {cx cy bc fs : Nat → Int32} {F : Nat → Nat} (G : pg_G fs bc n m F) (hn : n ≤ 12) (hm : m ≤ 4) (hc : ∀ i, i < n → pg_ok (cx i) ∧ pg_ok (cy i)) (C : Nat → Int32) {x y : Int32} (hx : pg_ok x) (hy : pg_ok y) :
    ∃ r : Int32, (∀ post : Int32 → Prop, post r → wpX_windingAt post (nI m, nI n, C, cx, cy, bc) x y) ∧ (∀ post : Int32 → Prop, post r → wpY_winding post (nI n, nI m, cx, cy, fs, C) x y) := by
  have h0 := G.1
  have hF := G.2.1
  by_cases z : m = 0
  · have z1 : n = 0 := by rw [← hF, z]; exact h0
    refine ⟨0, fun post h => ⟨1, br_t ?_ h⟩, fun post h => pg_wY hx hy ⟨1, br_t ?_ h⟩⟩
    · rw [z1]
      exact nI_le (a := 0) (b := 0) (Nat.le_refl 0) (by decide)
    · rw [z]
      exact nI_le (a := 0) (b := 0) (Nat.le_refl 0) (by decide)
  · have h1 := G.2.2.2.1 0 (by omega)
    have hf0 := G.2.2.1 0 (by omega)
    obtain ⟨r, rX, rY⟩ := pg_wind G hn hm hc C hx hy n 0 0 (by omega) (by omega) (by omega) (by omega) 0 0 (Or.inr h0.symm)
    refine ⟨r, fun post h => ⟨n + 1, rX post h⟩, fun post h => pg_wY hx hy ⟨m + 1, br_f ?_ ⟨vp_in_nI (n := 0) (by omega) (by omega), nm_r ?_ ⟨_, rY post h⟩⟩⟩⟩
    · exact nI_ge (a := 0) (by omega) (by omega)
    · show fs (nI 0).toNatClampNeg = nI 0
      rw [nI_clamp (by omega), hf0, h0]
