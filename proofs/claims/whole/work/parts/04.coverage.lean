/-! one answer for a sample, for a pixel's coverage, for the area -/
theorem pg_inside {n m : Nat} {cx cy bc fs : Nat → Int32} {F : Nat → Nat} (G : pg_G fs bc n m F) (hn : n ≤ 12) (hm : m ≤ 4) (hc : ∀ i, i < n → pg_ok (cx i) ∧ pg_ok (cy i)) (C : Nat → Int32) {x y : Int32} (hx : pg_ok x) (hy : pg_ok y) (o : Int32) :
    ∃ r : Int32, (∀ post : Int32 → Prop, post r → wpX_isInside post (nI m, nI n, C, cx, cy, bc) x y o) ∧ (∀ post : Int32 → Prop, post r → wpY_inside post (nI n, nI m, cx, cy, fs, C) x y o) := by
  obtain ⟨w, wX, wY⟩ := pg_windAt G hn hm hc C hx hy
  unfold wpX_isInside wpY_inside
  dsimp only
  by_cases a : o = 0
  · by_cases b : w = 0
    · exact ⟨0, fun post h => wX _ (br_t a (br_t b h)), fun post h => wY _ (br_t a (br_t b h))⟩
    · exact ⟨1, fun post h => wX _ (br_t a (br_f b h)), fun post h => wY _ (br_t a (br_f b h))⟩
  · by_cases b : w &&& 1 = 1
    · exact ⟨1, fun post h => wX _ (br_f a (br_t b h)), fun post h => wY _ (br_f a (br_t b h))⟩
    · exact ⟨0, fun post h => wX _ (br_f a (br_f b h)), fun post h => wY _ (br_f a (br_f b h))⟩
/-- counts that rise unless c -/
theorem pg_bx {c : Prop} [Decidable c] {P : Int32 → Int32 → Prop} {k e z : Int32} (hz : e = z) (h : P (if c then k else k + 1) z) : (c → ∀ y : Int32, y = e → P k y) ∧ (¬ c → ∀ x : Int32, x = k + 1 → ∀ y : Int32, y = e → P x y) := by
  subst hz
  by_cases a : c
  · rw [if_pos a] at h
    exact br_t a (nm_e h)
  · rw [if_neg a] at h
    exact br_f a (nm_e (nm_e h))
theorem pg_by {c : Prop} [Decidable c] {P : Int32 → Prop} {k : Int32} (h : P (if c then k else k + 1)) : (c → P k) ∧ (¬ c → ∀ x : Int32, x = k + 1 → P x) := by
  by_cases a : c
  · rw [if_pos a] at h
    exact br_t a h
  · rw [if_neg a] at h
    exact br_f a (nm_e h)
theorem pg_x25 {c1 n1 : Int32} {C cx cy bc : Nat → Int32} {post : Int32 → Prop} {J : Int32 → Int32 → Prop} {o L T d k s s' r : Int32} {N : Nat} (hs : ¬ 4 ≤ s) (e : s + 2 = s')
    (hX : ∀ post : Int32 → Prop, post r → wpX_isInside post (c1, n1, C, cx, cy, bc) (L + s) (T + d) o) (h : wX_coveredSamples_25 post J o L T d c1 n1 C cx cy bc N (if r = 0 then k else k + 1) s') : wX_coveredSamples_25 post J o L T d c1 n1 C cx cy bc (N + 1) k s :=
  br_f hs (hX _ (pg_bx (P := fun a b => wX_coveredSamples_25 post J o L T d c1 n1 C cx cy bc N a b) e h))
theorem pg_y18 {c1 n1 : Int32} {C cx cy fs : Nat → Int32} {post : Int32 → Prop} {a b o X Y k s s' r : Int32} {N : Nat} (hs : ¬ 4 ≤ s) (e : s + 1 = s') (eX : 4 * b + 1 + 2 * (s - s / 2 * 2) = X) (eY : 4 * a + 1 + 2 * (s / 2) = Y)
    (hY : ∀ post : Int32 → Prop, post r → wpY_inside post (n1, c1, cx, cy, fs, C) X Y o) (h : wY_coverage_18 post a b o n1 c1 cx cy fs C N (if r = 0 then k else k + 1) s') : wY_coverage_18 post a b o n1 c1 cx cy fs C (N + 1) k s := by
  subst eX eY
  exact br_f hs ⟨by decide, by decide, hY _ (pg_bx (P := fun u v => wY_coverage_18 post a b o n1 c1 cx cy fs C N u v) e h)⟩
theorem pg_mul4 (a : Nat) : nI a * 4 = nI (4 * a) := by
  rw [Nat.mul_comm]
  exact pk_mul a 4
theorem pg_4mul (a : Nat) : 4 * nI a = nI (4 * a) := pk_mul 4 a
theorem pg_s0 (b : Nat) {z : Int32} (hz : 2 * z = 0) : 4 * nI b + 1 + 2 * z = nI (4 * b) + 1 := by
  rw [pg_4mul, hz, Int32.add_zero]
theorem pg_s1 (b : Nat) {z : Int32} (hz : 2 * z = 2) : 4 * nI b + 1 + 2 * z = nI (4 * b) + 3 := by
  rw [pg_4mul, hz, Int32.add_assoc]
  rfl
theorem pg_bad0 {st : SY} {a b : Nat} {post : Int32 → Prop} (ha : a < 16) (hb : b < 16) (h : post 0) : wpY_badPixel post st (nI a) (nI b) :=
  br_f (nI_pos (by omega)) (br_f (nI_nlt (a := 15) (by omega) (by omega)) (br_f (nI_pos (by omega)) (br_t (nI_le (b := 15) (by omega) (by omega)) h)))
theorem pg_cov {n m : Nat} {cx cy bc fs : Nat → Int32} {F : Nat → Nat} (G : pg_G fs bc n m F) (hn : n ≤ 12) (hm : m ≤ 4) (hc : ∀ i, i < n → pg_ok (cx i) ∧ pg_ok (cy i)) (C : Nat → Int32) (o : Int32) {a b : Nat} (ha : a < 16) (hb : b < 16) :
    ∃ k : Int32, (∀ post : Int32 → Prop, post k → wpX_coveredSamples post (nI m, nI n, C, cx, cy, bc) (nI a) (nI b) o) ∧ (∀ post : Int32 → Prop, post k → wpY_coverage post (nI n, nI m, cx, cy, fs, C) (nI a) (nI b) o) := by
  have o1 : ∀ c, c < 16 → pg_ok (nI (4 * c) + 1) := fun c h => by
    rw [nI_1]
    exact pg_okN (by omega)
  have o3 : ∀ c, c < 16 → pg_ok (nI (4 * c) + 3) := fun c h => by
    rw [show (3 : Int32) = nI 3 from rfl, nI_add]
    exact pg_okN (by omega)
  obtain ⟨r1, X1, Y1⟩ := pg_inside G hn hm hc C (o1 b hb) (o1 a ha) o
  obtain ⟨r2, X2, Y2⟩ := pg_inside G hn hm hc C (o3 b hb) (o1 a ha) o
  obtain ⟨r3, X3, Y3⟩ := pg_inside G hn hm hc C (o1 b hb) (o3 a ha) o
  obtain ⟨r4, X4, Y4⟩ := pg_inside G hn hm hc C (o3 b hb) (o3 a ha) o
  have z13 : (1 : Int32) + 2 = 3 := by decide
  have z35 : (3 : Int32) + 2 = 5 := by decide
  have n1 : ¬ (4 : Int32) ≤ 1 := by decide
  have n3 : ¬ (4 : Int32) ≤ 3 := by decide
  have y5 : (4 : Int32) ≤ 5 := by decide
  refine ⟨_, fun post h => nm_r (pg_mul4 b) (nm_r (pg_mul4 a) ⟨3, br_f n1 ⟨3, pg_x25 n1 z13 X1 (pg_x25 n3 z35 X2 (br_t y5 (nm_r z13 (br_f n3 ⟨3, pg_x25 n1 z13 X3 (pg_x25 n3 z35 X4 (br_t y5 (nm_r z35 (br_t y5 h))))⟩))))⟩⟩), fun post h => ?_⟩
  unfold wpY_coverage
  dsimp only
  refine pg_bad0 ha hb (br_t rfl ⟨5, ?_⟩)
  refine pg_y18 (s' := 1) (by decide) (by decide) (pg_s0 b (by decide)) (pg_s0 a (by decide)) Y1 ?_
  refine pg_y18 (s' := 2) (by decide) (by decide) (pg_s1 b (by decide)) (pg_s0 a (by decide)) Y2 ?_
  refine pg_y18 (s' := 3) (by decide) (by decide) (pg_s0 b (by decide)) (pg_s1 a (by decide)) Y3 ?_
  refine pg_y18 (s' := 4) (by decide) (by decide) (pg_s1 b (by decide)) (pg_s1 a (by decide)) Y4 ?_
  exact br_t (by decide) h
theorem pg_div16 {p a b : Nat} (e : p = 16 * a + b) (hb : b < 16) (hp : p < 256) : nI p / 16 = nI a := by
  have h := pk_div (a := p) (d := 16) (by omega) (by omega) (by omega)
  rw [show p / 16 = a by omega] at h
  exact h
theorem pg_rem16 {p a b : Nat} (e : p = 16 * a + b) (hb : b < 16) (hp : p < 256) : nI p - nI p / 16 * 16 = nI b := by
  have h := pk_rem (a := p) (d := 16) (by omega) (by omega) (by omega)
  rw [show p % 16 = b by omega] at h
  exact h
theorem pg_area {n m : Nat} {cx cy bc fs : Nat → Int32} {F : Nat → Nat} (G : pg_G fs bc n m F) (hn : n ≤ 12) (hm : m ≤ 4) (hc : ∀ i, i < n → pg_ok (cx i) ∧ pg_ok (cy i)) (C : Nat → Int32) (o : Int32) :
    ∀ d p a b, p + d = 256 → p = 16 * a + b → a < 16 → b < 16 → ∀ s : Int32,
    ∃ r : Int32, (∀ post : Int32 → Prop, post r → wX_area_13 post (wX_area_4 post o (nI m) (nI n) C cx cy bc (16 - a)) o (nI a) (nI m) (nI n) C cx cy bc (16 - b + 1) s (nI b)) ∧
      (∀ post : Int32 → Prop, post r → wY_area_4 post o (nI n) (nI m) cx cy fs C (d + 1) s (nI p)) := by
  intro d
  induction d with
  | zero =>
    intro p a b e1 e2 ha hb
    omega
  | succ d ih =>
    intro p a b e1 e2 ha hb s
    obtain ⟨k, kX, kY⟩ := pg_cov G hn hm hc C o ha hb
    have q16 : ¬ (16 : Int32) ≤ nI b := nI_ge (b := 16) hb (by omega)
    have q256 : ¬ (256 : Int32) ≤ nI p := nI_ge (b := 256) (by omega) (by omega)
    have d1 := pg_div16 e2 hb (by omega)
    have d2 := pg_rem16 e2 hb (by omega)
    have sX : ∀ (post : Int32 → Prop) (J : Int32 → Int32 → Prop) (N : Nat), wX_area_13 post J o (nI a) (nI m) (nI n) C cx cy bc N (s + k) (nI (b + 1)) → wX_area_13 post J o (nI a) (nI m) (nI n) C cx cy bc (N + 1) s (nI b) :=
      fun post J N h => br_f q16 (kX _ (nm_e (nm_r (nI_1 b) h)))
    have sY : ∀ (post : Int32 → Prop) (N : Nat), wY_area_4 post o (nI n) (nI m) cx cy fs C N (s + k) (nI (p + 1)) → wY_area_4 post o (nI n) (nI m) cx cy fs C (N + 1) s (nI p) := by
      intro post N h
      refine br_f q256 ⟨by decide, by decide, ?_⟩
      rw [d2, d1]
      exact kY _ (nm_e (nm_r (nI_1 p) h))
    by_cases c1 : b + 1 < 16
    · obtain ⟨r, rX, rY⟩ := ih (p + 1) a (b + 1) (by omega) (by omega) ha c1 (s + k)
      refine ⟨r, fun post h => ?_, fun post h => sY post _ (rY post h)⟩
      rw [show 16 - b = 16 - (b + 1) + 1 by omega]
      exact sX post _ _ (rX post h)
    · have b15 : b = 15 := by omega
      subst b15
      by_cases c2 : a + 1 < 16
      · obtain ⟨r, rX, rY⟩ := ih (p + 1) (a + 1) 0 (by omega) (by omega) c2 (by omega) (s + k)
        refine ⟨r, fun post h => ?_, fun post h => sY post _ (rY post h)⟩
        rw [show 16 - a = 16 - (a + 1) + 1 by omega]
        exact sX post _ 1 (br_t (nI_le (a := 16) (b := 16) (by omega) (by omega)) (nm_r (nI_1 a) (br_f (nI_ge (b := 16) c2 (by omega)) ⟨_, rX post h⟩)))
      · have a15 : a = 15 := by omega
        have d0 : d = 0 := by omega
        have p255 : p = 255 := by omega
        subst a15
        subst d0
        subst p255
        refine ⟨s + k, fun post h => sX post _ 1 (br_t (nI_le (a := 16) (b := 16) (by omega) (by omega)) (nm_r (nI_1 15) (br_t (nI_le (a := 16) (b := 16) (by omega) (by omega)) h))), fun post h => sY post _ (br_t (nI_le (a := 256) (b := 256) (by omega) (by omega)) h)⟩
