/-! the reference's pillars: columns and rows by number -/
def MdOK (C R np : Int) (N : Int → Int) (gc gr : Nat → Int) : Prop := 3 ≤ C ∧ C ≤ 7 ∧ 3 ≤ R ∧ R ≤ 7 ∧ 0 ≤ np ∧ np ≤ 3 ∧ (∀ k : Nat, (k : Int) < np → 0 ≤ gc k ∧ gc k < C ∧ 0 ≤ gr k ∧ gr k < R ∧ N (gc k * 7 + gr k) = k) ∧ ∀ z : Int, N z = -1 ∨ (0 ≤ N z ∧ N z < np ∧ z = gc (N z).toNat * 7 + gr (N z).toNat)
theorem MdOK.at {C R np : Int} {N : Int → Int} {gc gr : Nat → Int} (h : MdOK C R np N gc gr) {i : Int} (h0 : 0 ≤ i) (h1 : i < np) : 0 ≤ gc i.toNat ∧ gc i.toNat < C ∧ 0 ≤ gr i.toNat ∧ gr i.toNat < R ∧ N (gc i.toNat * 7 + gr i.toNat) = i := by
  have h2 := h.2.2.2.2.2.2.1 i.toNat (by rw [Int.toNat_of_nonneg h0]; exact h1)
  rw [Int.toNat_of_nonneg h0] at h2
  exact h2
theorem MdOK.of {C R np : Int} {N : Int → Int} {gc gr : Nat → Int} (h : MdOK C R np N gc gr) (z : Int) : N z = -1 ∨ (0 ≤ N z ∧ N z < np ∧ z = gc (N z).toNat * 7 + gr (N z).toNat) := h.2.2.2.2.2.2.2 z
theorem MdOK.N2 {C R np : Int} {N : Int → Int} {gc gr : Nat → Int} (h : MdOK C R np N gc gr) (z : Int) : -1 ≤ N z ∧ N z < np := by
  have h5 := h.2.2.2.2.1
  rcases h.of z with h1 | h1 <;> omega
theorem MdOK.Fl {C R np : Int} {N : Int → Int} {gc gr : Nat → Int} (h : MdOK C R np N gc gr) : FlOK C R np N (fun k => N (k : Int)) := by
  obtain ⟨h1, h2, h3, h4, h5, h6, h7, h8⟩ := id h
  refine ⟨h1, h2, h3, h4, h5, h6, fun k _ => rfl, fun z => ?_⟩
  rcases h8 z with g | ⟨g1, g2, g3⟩
  · exact Or.inl g
  · have := h.at g1 g2
    exact Or.inr (by omega)
theorem wj_m1 {w k : Int} (hw : 0 ≤ w) (hk : 0 ≤ k) (hk5 : k ≤ 5) (h : w % 7 ≤ 0) : 7 * w + k + 1 = wjZ w k := by
  have := oppZ_b hk hk5
  unfold wjZ
  rw [if_neg (by omega)]
  omega
theorem wj_m2 {w k : Int} (hw : 0 ≤ w) (hk : 0 ≤ k) (hk5 : k ≤ 5) (h : ¬ w % 7 ≤ 0) (h2 : oppZ (w % 7 - 1) = k) : w / 7 = wjZ w k := by
  unfold wjZ
  rw [if_pos (by rw [← h2, oppZ_opp (by omega) (by omega)])]
theorem wj_m3 {w k : Int} (hw : 0 ≤ w) (hk : 0 ≤ k) (hk5 : k ≤ 5) (h : ¬ w % 7 ≤ 0) (h2 : ¬ oppZ (w % 7 - 1) = k) : 7 * w + k + 1 = wjZ w k := by
  unfold wjZ
  rw [if_neg (fun z => h2 (by rw [z, oppZ_opp hk hk5]))]
  omega
/-- the search for the uppermost pillar below row b in column a, i of them looked at -/
def BelI (gc gr : Nat → Int) (a b i x : Int) : Prop := (x = -1 ∧ ∀ j : Nat, (j : Int) < i → ¬ (gc j = a ∧ b < gr j)) ∨ (0 ≤ x ∧ x < i ∧ gc x.toNat = a ∧ b < gr x.toNat ∧ ∀ j : Nat, (j : Int) < i → gc j = a → b < gr j → gr x.toNat ≤ gr j)
theorem BelI.z {gc gr : Nat → Int} {a b : Int} : BelI gc gr a b 0 (-1) := Or.inl ⟨rfl, fun j h => absurd h (by omega)⟩
theorem BelI.b {gc gr : Nat → Int} {a b i x : Int} (h : BelI gc gr a b i x) : x = -1 ∨ (0 ≤ x ∧ x < i) := by
  rcases h with ⟨h, -⟩ | ⟨h1, h2, -⟩
  · exact Or.inl h
  · exact Or.inr ⟨h1, h2⟩
theorem jlt {i : Int} (h0 : 0 ≤ i) {j : Nat} (h : (j : Int) < i + 1) : (j : Int) < i ∨ j = i.toNat := by omega
theorem BelI.no {gc gr : Nat → Int} {a b i x : Int} (h : BelI gc gr a b i x) (h0 : 0 ≤ i) (hn : ¬ (gc i.toNat = a ∧ b < gr i.toNat)) : BelI gc gr a b (i + 1) x := by
  rcases h with ⟨h1, h2⟩ | ⟨h1, h2, h3, h4, h5⟩
  · refine Or.inl ⟨h1, fun j hj => ?_⟩
    rcases jlt h0 hj with g | rfl
    · exact h2 j g
    · exact hn
  · refine Or.inr ⟨h1, by omega, h3, h4, fun j hj e1 e2 => ?_⟩
    rcases jlt h0 hj with g | rfl
    · exact h5 j g e1 e2
    · exact absurd ⟨e1, e2⟩ hn
theorem BelI.new {gc gr : Nat → Int} {a b i x : Int} (h : BelI gc gr a b i x) (h0 : 0 ≤ i) (hy1 : gc i.toNat = a) (hy2 : b < gr i.toNat) (hx : x = -1 ∨ gr i.toNat < gr x.toNat) : BelI gc gr a b (i + 1) i := by
  refine Or.inr ⟨h0, by omega, hy1, hy2, fun j hj e1 e2 => ?_⟩
  rcases jlt h0 hj with g | rfl
  · rcases h with ⟨h1, h2⟩ | ⟨h1, h2, h3, h4, h5⟩
    · exact absurd ⟨e1, e2⟩ (h2 j g)
    · have := h5 j g e1 e2
      rcases hx with hx | hx <;> omega
  · exact Int.le_refl _
theorem BelI.old {gc gr : Nat → Int} {a b i x : Int} (h : BelI gc gr a b i x) (h0 : 0 ≤ i) (hx : ¬ x = -1) (hy : ¬ gr i.toNat < gr x.toNat) : BelI gc gr a b (i + 1) x := by
  rcases h with ⟨h1, h2⟩ | ⟨h1, h2, h3, h4, h5⟩
  · exact absurd h1 hx
  · refine Or.inr ⟨h1, by omega, h3, h4, fun j hj e1 e2 => ?_⟩
    rcases jlt h0 hj with g | rfl
    · exact h5 j g e1 e2
    · omega
def AbvI (gc gr : Nat → Int) (a b v i x : Int) : Prop := (x = -1 ∧ ∀ j : Nat, (j : Int) < i → ¬ (gc j = a ∧ b < gr j ∧ gr j < v)) ∨ (0 ≤ x ∧ x < i ∧ gc x.toNat = a ∧ b < gr x.toNat ∧ gr x.toNat < v ∧ ∀ j : Nat, (j : Int) < i → gc j = a → b < gr j → gr j < v → gr j ≤ gr x.toNat)
theorem AbvI.z {gc gr : Nat → Int} {a b v : Int} : AbvI gc gr a b v 0 (-1) := Or.inl ⟨rfl, fun j h => absurd h (by omega)⟩
theorem AbvI.b {gc gr : Nat → Int} {a b v i x : Int} (h : AbvI gc gr a b v i x) : x = -1 ∨ (0 ≤ x ∧ x < i) := by
  rcases h with ⟨h, -⟩ | ⟨h1, h2, -⟩
  · exact Or.inl h
  · exact Or.inr ⟨h1, h2⟩
theorem AbvI.no {gc gr : Nat → Int} {a b v i x : Int} (h : AbvI gc gr a b v i x) (h0 : 0 ≤ i) (hn : ¬ (gc i.toNat = a ∧ b < gr i.toNat ∧ gr i.toNat < v)) : AbvI gc gr a b v (i + 1) x := by
  rcases h with ⟨h1, h2⟩ | ⟨h1, h2, h3, h4, h6, h5⟩
  · refine Or.inl ⟨h1, fun j hj => ?_⟩
    rcases jlt h0 hj with g | rfl
    · exact h2 j g
    · exact hn
  · refine Or.inr ⟨h1, by omega, h3, h4, h6, fun j hj e1 e2 e3 => ?_⟩
    rcases jlt h0 hj with g | rfl
    · exact h5 j g e1 e2 e3
    · exact absurd ⟨e1, e2, e3⟩ hn
theorem AbvI.new {gc gr : Nat → Int} {a b v i x : Int} (h : AbvI gc gr a b v i x) (h0 : 0 ≤ i) (hy1 : gc i.toNat = a) (hy2 : b < gr i.toNat) (hy3 : gr i.toNat < v) (hx : x = -1 ∨ gr x.toNat < gr i.toNat) : AbvI gc gr a b v (i + 1) i := by
  refine Or.inr ⟨h0, by omega, hy1, hy2, hy3, fun j hj e1 e2 e3 => ?_⟩
  rcases jlt h0 hj with g | rfl
  · rcases h with ⟨h1, h2⟩ | ⟨h1, h2, h3, h4, h6, h5⟩
    · exact absurd ⟨e1, e2, e3⟩ (h2 j g)
    · have := h5 j g e1 e2 e3
      rcases hx with hx | hx <;> omega
  · exact Int.le_refl _
theorem AbvI.old {gc gr : Nat → Int} {a b v i x : Int} (h : AbvI gc gr a b v i x) (h0 : 0 ≤ i) (hx : ¬ x = -1) (hy : ¬ gr x.toNat < gr i.toNat) : AbvI gc gr a b v (i + 1) x := by
  rcases h with ⟨h1, h2⟩ | ⟨h1, h2, h3, h4, h6, h5⟩
  · exact absurd h1 hx
  · refine Or.inr ⟨h1, by omega, h3, h4, h6, fun j hj e1 e2 e3 => ?_⟩
    rcases jlt h0 hj with g | rfl
    · exact h5 j g e1 e2 e3
    · omega
/-- what is found: the next pillar below row b (before row v) in column a, by the squares -/
def BelP (N : Int → Int) (gr : Nat → Int) (R np a b x : Int) : Prop := (x = -1 ∧ ∀ y, b < y → y < R → N (a * 7 + y) = -1) ∨ (0 ≤ x ∧ x < np ∧ ∃ y, b < y ∧ y < R ∧ N (a * 7 + y) = x ∧ gr x.toNat = y ∧ ∀ y', b < y' → y' < y → N (a * 7 + y') = -1)
theorem BelI.p {C R np : Int} {N : Int → Int} {gc gr : Nat → Int} (hM : MdOK C R np N gc gr) {a b x : Int} (ha0 : 0 ≤ a) (ha : a < C) (hb : 0 ≤ b) (h : BelI gc gr a b np x) : BelP N gr R np a b x := by
  have hR := hM.2.2.2.1
  have key : ∀ y, 0 ≤ y → y < R → N (a * 7 + y) ≠ -1 → ∃ j : Nat, (j : Int) < np ∧ gc j = a ∧ gr j = y := by
    intro y y0 y1 hy
    rcases hM.of (a * 7 + y) with g | ⟨g1, g2, g3⟩
    · exact absurd g hy
    · have g4 := hM.at g1 g2
      exact ⟨(N (a * 7 + y)).toNat, by omega, by omega, by omega⟩
  rcases h with ⟨h1, h2⟩ | ⟨h1, h2, h3, h4, h5⟩
  · refine Or.inl ⟨h1, fun y y0 y1 => ?_⟩
    by_cases hy : N (a * 7 + y) = -1
    · exact hy
    · obtain ⟨j, j1, j2, j3⟩ := key y (by omega) y1 hy
      exact absurd ⟨j2, by omega⟩ (h2 j j1)
  · have g4 := hM.at h1 h2
    rw [h3] at g4
    refine Or.inr ⟨h1, h2, gr x.toNat, h4, g4.2.2.2.1, g4.2.2.2.2, rfl, fun y y0 y1 => ?_⟩
    by_cases hy : N (a * 7 + y) = -1
    · exact hy
    · obtain ⟨j, j1, j2, j3⟩ := key y (by omega) (by omega) hy
      have := h5 j j1 j2 (by omega)
      omega
def AbvP (N : Int → Int) (gr : Nat → Int) (np a b v x : Int) : Prop := (x = -1 ∧ ∀ y, b < y → y < v → N (a * 7 + y) = -1) ∨ (0 ≤ x ∧ x < np ∧ ∃ y, b < y ∧ y < v ∧ N (a * 7 + y) = x ∧ gr x.toNat = y ∧ ∀ y', y < y' → y' < v → N (a * 7 + y') = -1)
theorem AbvI.p {C R np : Int} {N : Int → Int} {gc gr : Nat → Int} (hM : MdOK C R np N gc gr) {a b v x : Int} (ha0 : 0 ≤ a) (ha : a < C) (hb : 0 ≤ b) (hv : v ≤ 7) (h : AbvI gc gr a b v np x) : AbvP N gr np a b v x := by
  have hR := hM.2.2.2.1
  have key : ∀ y, 0 ≤ y → y < 7 → N (a * 7 + y) ≠ -1 → ∃ j : Nat, (j : Int) < np ∧ gc j = a ∧ gr j = y := by
    intro y y0 y1 hy
    rcases hM.of (a * 7 + y) with g | ⟨g1, g2, g3⟩
    · exact absurd g hy
    · have g4 := hM.at g1 g2
      exact ⟨(N (a * 7 + y)).toNat, by omega, by omega, by omega⟩
  rcases h with ⟨h1, h2⟩ | ⟨h1, h2, h3, h4, h6, h5⟩
  · refine Or.inl ⟨h1, fun y y0 y1 => ?_⟩
    by_cases hy : N (a * 7 + y) = -1
    · exact hy
    · obtain ⟨j, j1, j2, j3⟩ := key y (by omega) (by omega) hy
      exact absurd ⟨j2, by omega, by omega⟩ (h2 j j1)
  · have g4 := hM.at h1 h2
    rw [h3] at g4
    refine Or.inr ⟨h1, h2, gr x.toNat, h4, h6, g4.2.2.2.2, rfl, fun y y0 y1 => ?_⟩
    by_cases hy : N (a * 7 + y) = -1
    · exact hy
    · obtain ⟨j, j1, j2, j3⟩ := key y (by omega) (by omega) hy
      have := h5 j j1 j2 (by omega) (by omega)
      omega
/-- rows without pillars change no word -/
theorem wRn_skip {N : Int → Int} {c b w : Int} {n : Nat} : ∀ k : Nat, (∀ y : Int, b + n ≤ y → y < b + n + k → N (c * 7 + y) = -1) → wRn N c (n + k) b w = wRn N c n b w := by
  intro k
  induction k with
  | zero => intro _; rfl
  | succ k ih =>
    intro h
    show stR N c (b + ((n + k : Nat) : Int)) (wRn N c (n + k) b w) = wRn N c n b w
    rw [ih (fun y y0 y1 => h y y0 (by omega))]
    unfold stR
    rw [if_pos (h _ (by omega) (by omega))]
theorem wRn_to {N : Int → Int} {a b u y w : Int} (hu : b ≤ u) (huy : u < y) (hn : ∀ y', u < y' → y' < y → N (a * 7 + y') = -1) (hy : N (a * 7 + y) ≠ -1) : wRn N a (y - b).toNat (b + 1) w = wjZ (wRn N a (u - b).toNat (b + 1) w) (2 * N (a * 7 + y)) := by
  rw [show (y - b).toNat = (u - b).toNat + (y - 1 - u).toNat + 1 by omega]
  show stR N a (b + 1 + (((u - b).toNat + (y - 1 - u).toNat : Nat) : Int)) (wRn N a ((u - b).toNat + (y - 1 - u).toNat) (b + 1) w) = _
  rw [wRn_skip (y - 1 - u).toNat (fun y' h1 h2 => hn y' (by omega) (by omega)), show b + 1 + (((u - b).toNat + (y - 1 - u).toNat : Nat) : Int) = y by omega]
  unfold stR
  rw [if_neg hy]
theorem wRn_end {N : Int → Int} {a b u R w : Int} (hu : b ≤ u) (hR : u < R) (hn : ∀ y', u < y' → y' < R → N (a * 7 + y') = -1) : wRZ N R a b w = wRn N a (u - b).toNat (b + 1) w := by
  unfold wRZ
  rw [show (R - 1 - b).toNat = (u - b).toNat + (R - 1 - u).toNat by omega]
  exact wRn_skip _ (fun y' h1 h2 => hn y' (by omega) (by omega))
theorem wLn_skip {N : Int → Int} {c b : Int} : ∀ (k n : Nat) (w : Int), (∀ y : Int, b + n ≤ y → y < b + n + k → N (c * 7 + y) = -1) → wLn N c (n + k) b w = wLn N c n b w := by
  intro k
  induction k with
  | zero => intro n w _; rfl
  | succ k ih =>
    intro n w h
    show wLn N c (n + k) b (stL N c (b + ((n + k : Nat) : Int)) w) = wLn N c n b w
    rw [show stL N c (b + ((n + k : Nat) : Int)) w = w by unfold stL; rw [if_pos (h _ (by omega) (by omega))]]
    exact ih n w (fun y y0 y1 => h y y0 (by omega))
/-- v: rows from v on are done -/
theorem wLn_to {N : Int → Int} {a b v y w : Int} (hy0 : b < y) (hyv : y < v) (hn : ∀ y', y < y' → y' < v → N (a * 7 + y') = -1) (hy : N (a * 7 + y) ≠ -1) : wLn N a (v - 1 - b).toNat (b + 1) w = wLn N a (y - 1 - b).toNat (b + 1) (wjZ w (oppZ (2 * N (a * 7 + y)))) := by
  rw [show (v - 1 - b).toNat = (y - b).toNat + (v - 1 - y).toNat by omega, wLn_skip _ _ _ (fun y' h1 h2 => hn y' (by omega) (by omega)), show (y - b).toNat = (y - 1 - b).toNat + 1 by omega]
  show wLn N a (y - 1 - b).toNat (b + 1) (stL N a (b + 1 + (((y - 1 - b).toNat : Nat) : Int)) w) = _
  rw [show b + 1 + (((y - 1 - b).toNat : Nat) : Int) = y by omega]
  unfold stL
  rw [if_neg hy]
theorem wLn_end {N : Int → Int} {a b v w : Int} (hn : ∀ y', b < y' → y' < v → N (a * 7 + y') = -1) : wLn N a (v - 1 - b).toNat (b + 1) w = w := by
  have h := wLn_skip (N := N) (c := a) (b := b + 1) (v - 1 - b).toNat 0 w (fun y' h1 h2 => hn y' (by omega) (by omega))
  rw [Nat.zero_add] at h
  exact h
theorem wLZ_7 {C R np : Int} {N : Int → Int} {gc gr : Nat → Int} (hM : MdOK C R np N gc gr) {a b w : Int} (ha0 : 0 ≤ a) (hb : b < R) (hb0 : 0 ≤ b) : wLn N a (7 - 1 - b).toNat (b + 1) w = wLZ N R a b w := by
  have hR := hM.2.2.2.1
  unfold wLZ
  rw [show (7 - 1 - b).toNat = (R - 1 - b).toNat + (7 - R).toNat by omega]
  refine wLn_skip _ _ _ (fun y h1 h2 => ?_)
  rcases hM.of (a * 7 + y) with g | ⟨g1, g2, g3⟩
  · exact g
  · have := hM.at g1 g2
    omega
theorem pw7_mono {i j : Nat} (h : i ≤ j) : pw7 i ≤ pw7 j ∧ 0 < pw7 i := by
  induction h with
  | refl =>
    refine ⟨Int.le_refl _, ?_⟩
    induction i with
    | zero => decide
    | succ i ih => show 0 < 7 * pw7 i; omega
  | step h ih => exact ⟨by show pw7 i ≤ 7 * pw7 _; omega, ih.2⟩
/-- the reference numbers a place by 343 * (7 * row + column) + word -/
def tauZ (z : Int) : Int := (z / 343 % 7 * 7 + z / 343 / 7) * 343 + z % 343
def tM (x : Int) : Int := if x = -1 then -1 else tauZ x
theorem tauZ_of {z : Int} (h0 : 0 ≤ z) (h1 : z < 16807) : 0 ≤ tauZ z ∧ tauZ z < 16807 ∧ tauZ z / 343 / 7 = z / 343 % 7 ∧ tauZ z / 343 % 7 = z / 343 / 7 ∧ tauZ z % 343 = z % 343 ∧ tauZ z / 343 = z / 343 % 7 * 7 + z / 343 / 7 := by
  unfold tauZ
  omega
theorem tauZ_tauZ {z : Int} (h0 : 0 ≤ z) (h1 : z < 16807) : tauZ (tauZ z) = z := by
  obtain ⟨-, -, e1, e2, e3, -⟩ := tauZ_of h0 h1
  show (tauZ z / 343 % 7 * 7 + tauZ z / 343 / 7) * 343 + tauZ z % 343 = z
  rw [e1, e2, e3]
  omega
theorem tM_pl {C R : Int} {N : Int → Int} {a b w : Int} (hC : C ≤ 7) (hR : R ≤ 7) (hw : 0 ≤ w) : tM (plZ C R N a b w) = if w < 343 ∧ 0 ≤ a ∧ a < C ∧ 0 ≤ b ∧ b < R ∧ N (a * 7 + b) = -1 then 343 * (7 * b + a) + w else -1 := by
  unfold plZ
  split
  · rename_i h
    obtain ⟨h1, h2, h3, h4, h5, h6⟩ := h
    unfold tM tauZ
    rw [if_neg (by omega)]
    omega
  · rfl
