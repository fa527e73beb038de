/-! more that is read of a province -/
def allS (c : Nat → Int) (W : Nat) : Nat → Int
  | 0 => 0
  | i + 1 => w32 (allS c W i + hairS c i W)
def longS (c : Nat → Int) (i : Nat) (a : Int) : Nat → Int
  | 0 => -1
  | k + 1 => if (an32 (sr32 (c (43 + i)) k) 1 = 1 ∧ an32 (sr32 a k) 1 = 1) ∧ (longS c i a k < 0 ∨ c (49 + (8 * i + (longS c i a k).toNat)) < c (49 + (8 * i + k))) then k else longS c i a k
theorem longS_r (c : Nat → Int) (i : Nat) (a : Int) : ∀ k, longS c i a k = -1 ∨ ∃ j : Nat, j < k ∧ longS c i a k = j ∧ an32 (sr32 (c (43 + i)) j) 1 = 1 ∧ an32 (sr32 a j) 1 = 1
  | 0 => .inl rfl
  | k + 1 => by
    rw [longS]
    split
    · next h => exact .inr ⟨k, by omega, rfl, h.1.1, h.1.2⟩
    · rcases longS_r c i a k with e | ⟨j, h1, h2⟩
      · exact .inl e
      · exact .inr ⟨j, by omega, h2⟩
def pwS (c : Nat → Int) (row : Nat) (k : Int) : Nat → Int
  | 0 => 0
  | q + 1 => or32 (pwS c row k q) (if an32 (sr32 (c (row + q)) k) 1 = 1 then sl32 1 q else 0)
theorem or_0 {x : Int} (h : c32 x) : or32 x 0 = x := by
  unfold or32
  rw [show Int32.ofInt 0 = 0 from rfl, Int32.or_zero]
  exact i32_of h
theorem or_c (x y : Int) : c32 (or32 x y) := i32_c _
theorem an_c (x y : Int) : c32 (an32 x y) := i32_c _
theorem sl_0 {k : Nat} (hk : k < 32) : sl32 0 k = 0 := by
  have := sl_n (a := 0) (k := k) hk (by omega) (by omega)
  rw [Nat.zero_mul] at this
  exact this
theorem nat_of {x : Int} (h : 0 ≤ x) : ∃ n : Nat, x = n := ⟨x.toNat, by omega⟩
theorem pow_le {W : Nat} (h : W ≤ 8) : (2 : Int) ^ W ≤ 256 := by
  have : (2 : Nat) ^ W ≤ 2 ^ 8 := Nat.pow_le_pow_right (by omega) h
  have e : ((2 ^ W : Nat) : Int) = (2 : Int) ^ W := by simp
  rw [← e]; omega
/-- one or nought -/
theorem hb_01 {x : Int} {k : Nat} (h0 : 0 ≤ x) (h1 : x < 2147483648) (hk : k < 32) : an32 (sr32 x k) 1 = 0 ∨ an32 (sr32 x k) 1 = 1 := by
  obtain ⟨n, rfl⟩ := nat_of h0
  rw [hb_n hk (by omega)]
  split <;> simp
theorem sl_hb {x : Int} {k q : Nat} (h0 : 0 ≤ x) (h1 : x < 2147483648) (hk : k < 32) (hq : q < 32) : sl32 (an32 (sr32 x k) 1) q = if an32 (sr32 x k) 1 = 1 then sl32 1 q else 0 := by
  rcases hb_01 h0 h1 hk with e | e
  · rw [e, if_neg (by omega)]; exact sl_0 hq
  · rw [e, if_pos rfl]
def gtS (c : Nat → Int) (s days : Int) : Nat → Int
  | 0 => 0
  | k + 1 => if an32 (sr32 s k) 1 = 1 then w32 (gtS c s days k + w32 (c (9 + k) * min days (c (17 + k)))) else gtS c s days k
theorem gtS_c (c : Nat → Int) (s days : Int) : ∀ k, c32 (gtS c s days k)
  | 0 => c32_0
  | k + 1 => by rw [gtS]; split; exact w32_c _; exact gtS_c c s days k
section
variable {p : Nat} {σ τ : Sg} {W N D E : Nat}
theorem isP_h (h : PR p σ τ W N D E) (a : Int) : Pr_isPerson p a σ = some (if 0 ≤ a ∧ a < N then 1 else 0, σ) := by
  have bN := h.bN
  rw [Pr_isPerson, h.n]
  by_cases h1 : a < 0
  · rw [if_pos h1, if_neg (by omega)]
  · rw [if_neg h1]
    by_cases h2 : a < N
    · rw [if_pos h2, if_pos (by omega), if_pos (by omega)]
    · rw [if_neg h2, if_neg (by omega)]
theorem isW_h (h : PR p σ τ W N D E) (a : Int) : Pr_isWord p a σ = some (if 0 ≤ a ∧ a < W then 1 else 0, σ) := by
  have bN := h.bW
  rw [Pr_isWord, h.w]
  by_cases h1 : a < 0
  · rw [if_pos h1, if_neg (by omega)]
  · rw [if_neg h1]
    by_cases h2 : a < W
    · rw [if_pos h2, if_pos (by omega), if_pos (by omega)]
    · rw [if_neg h2, if_neg (by omega)]
theorem isP_1 (h : PR p σ τ W N D E) {i : Nat} (hi : i < N) : Pr_isPerson p i σ = some (1, σ) := by rw [isP_h h, if_pos (by omega)]
theorem isW_1 (h : PR p σ τ W N D E) {i : Nat} (hi : i < W) : Pr_isWord p i σ = some (1, σ) := by rw [isW_h h, if_pos (by omega)]
theorem kept_h (h : PR p σ τ W N D E) {i k : Nat} (hi : i < N) (hk : k < W) : Pr_isKept p i k σ = some (if an32 (sr32 (τ 5 (43 + i)) k) 1 = 1 then 1 else 0, σ) := by
  have bN := h.bN
  have bW := h.bW
  rw [Pr_isKept, h.n, h.w, if_neg (by omega), if_pos (by omega), if_pos (by omega), if_neg (by omega), if_pos (by omega), rd_k (by omega) (by omega), Int.toNat_natCast, h.kp i hi]
  split <;> rfl
theorem known_h (h : PR p σ τ W N D E) {i k : Nat} (hi : i < N) (hk : k < W) : Pr_isKnown p i k σ = some (if an32 (sr32 (τ 5 (37 + i)) k) 1 = 1 then 1 else 0, σ) := by
  have bN := h.bN
  have bW := h.bW
  rw [Pr_isKnown, h.n, h.w, if_neg (by omega), if_pos (by omega), if_pos (by omega), if_neg (by omega), if_pos (by omega), rd_k (by omega) (by omega), Int.toNat_natCast, h.kn i hi]
  split <;> rfl
theorem mul_b {g x : Int} (h1 : 0 ≤ g) (h2 : g ≤ 9) (h3 : 0 ≤ x) (h4 : x ≤ 300000) : 0 ≤ g * x ∧ g * x ≤ 2700000 := by
  rcases (show g = 0 ∨ g = 1 ∨ g = 2 ∨ g = 3 ∨ g = 4 ∨ g = 5 ∨ g = 6 ∨ g = 7 ∨ g = 8 ∨ g = 9 by omega) with e | e | e | e | e | e | e | e | e | e <;> subst e <;> omega
theorem ix8 {i k : Nat} (hi : i < 6) (hk : k < 8) : w32 (w32 ((i : Int) * 8) + k) = (i : Int) * 8 + k := by rw [w32_i (x := (i : Int) * 8) (by omega) (by omega), w32_i (by omega) (by omega)]
/-- the length of a strand by its days -/
theorem len_0 {p k : Nat} {σ : Sg} {g y : Int} (hk : k < 8) (e1 : σ (p + 3) k = y) (e2 : σ (p + 2) k = g) (g1 : 1 ≤ g ∧ g ≤ 9) (g2 : 1 ≤ y ∧ y ≤ 99) {d b s : Int} (hd : 0 ≤ d ∧ d ≤ 200000) (hb : 0 ≤ b ∧ b ≤ 200000) (hs : 0 ≤ s ∧ s ≤ 200000) : Pr_lengthOn p d k b s σ = some (lnF g y d b s, σ) := by
  rw [Pr_lengthOn, if_neg (by omega), if_pos (by omega), rd_k (by omega) (by omega), Int.toNat_natCast, e1, nm_k, w32_i (by omega) (by omega)]
  have key : ∀ t : Int, 0 ≤ t → t ≤ 200300 → Pr_lengthOn_J34 p k s t σ = some (if s < t then g * (t - s) else 0, σ) := by
    intro t h1 h2
    rw [Pr_lengthOn_J34]
    by_cases e : s < t
    · have m := mul_b (g := g) (x := t - s) (by omega) (by omega) (by omega) (by omega)
      rw [if_pos e, if_pos e, rd_k (by omega) (by omega), Int.toNat_natCast, e2, w32_i (x := t - s) (by omega) (by omega), w32_i (by omega) (by omega)]
    · rw [if_neg e, if_neg e]
  unfold lnF
  by_cases e : d < b + y
  · simp only [if_pos e]; exact key d (by omega) (by omega)
  · simp only [if_neg e]; exact key _ (by omega) (by omega)
theorem len_h (h : PR p σ τ W N D E) {k : Nat} (hk : k < W) {d b s : Int} (hd : 0 ≤ d ∧ d ≤ 200000) (hb : 0 ≤ b ∧ b ≤ 200000) (hs : 0 ≤ s ∧ s ≤ 200000) : Pr_lengthOn p d k b s σ = some (lnF (τ 5 (9 + k)) (τ 5 (17 + k)) d b s, σ) :=
  len_0 (by have := h.bW; omega) (h.gy k hk) (h.gr k hk) (h.grb k hk) (h.gyb k hk) hd hb hs
/-- the strand's two days -/
theorem st_b (h : PR p σ τ W N D E) {i k : Nat} (hi : i < N) (hk : k < W) (hb : an32 (sr32 (τ 5 (43 + i)) k) 1 = 1) : (0 ≤ σ (p + 8) (i * 8 + k) ∧ σ (p + 8) (i * 8 + k) ≤ 200000) ∧ (0 ≤ σ (p + 9) (i * 8 + k) ∧ σ (p + 9) (i * 8 + k) ≤ 200000) := by
  have q := (h.st i k hi hk hb).1
  have d := h.dtb
  omega
theorem len_k (h : PR p σ τ W N D E) {i k : Nat} (hi : i < N) (hk : k < W) (hb : an32 (sr32 (τ 5 (43 + i)) k) 1 = 1) : Pr_lengthOn p (σ p 16) k (σ (p + 8) (i * 8 + k)) (σ (p + 9) (i * 8 + k)) σ = some (τ 5 (49 + (8 * i + k)), σ) := by
  obtain ⟨b1, b2⟩ := st_b h hi hk hb
  have d := h.dtb
  rw [h.dt, len_h h hk (by omega) b1 b2, (h.st i k hi hk hb).2.2]
theorem slen_h (h : PR p σ τ W N D E) {i k : Nat} (hi : i < N) (hk : k < W) (hb : an32 (sr32 (τ 5 (43 + i)) k) 1 = 1) : Pr_strandLength p i k σ = some (τ 5 (49 + (8 * i + k)), σ) := by
  have bN := h.bN
  have bW := h.bW
  rw [Pr_strandLength, ix8 (by omega) (by omega), nm_k, kept_h h hi hk, bd_s, if_pos hb, if_neg (by omega), rd_k (by omega) (by omega), rd_k (by omega) (by omega), tn8, len_k h hi hk hb, bd_s]
theorem sage_h (h : PR p σ τ W N D E) {i k : Nat} (hi : i < N) (hk : k < W) (hb : an32 (sr32 (τ 5 (43 + i)) k) 1 = 1) : Pr_strandAge p i k σ = some (τ 5 (97 + (8 * i + k)), σ) := by
  have bN := h.bN
  have bW := h.bW
  obtain ⟨b1, b2⟩ := st_b h hi hk hb
  have d := h.dtb
  rw [Pr_strandAge, ix8 (by omega) (by omega), kept_h h hi hk, bd_s, if_pos hb, if_neg (by omega), rd_k (by omega) (by omega), tn8, h.dt, w32_i (by omega) (by omega), (h.st i k hi hk hb).2.1]
theorem hairS_c32 (c : Nat → Int) (i : Nat) : ∀ k, c32 (hairS c i k)
  | 0 => c32_0
  | k + 1 => w32_c _
theorem hk0_h (h : PR p σ τ W N D E) {i : Nat} (hi : i < N) : Pr_hairKept p i (τ 5 (43 + i)) 0 σ = some (hairS (τ 5) i W, σ) := by
  have bN := h.bN
  have bW := h.bW
  rw [Pr_hairKept]
  refine loopN (X := fun n k => Pr_hairKept_L6 p i (τ 5 (43 + i)) 0 n (hairS (τ 5) i k) k σ) (W := W) ?_ ?_ fu (by unfold fu; omega)
  · intro k n hk
    show Pr_hairKept_L6 p i (τ 5 (43 + i)) 0 (n + 1) _ k σ = _
    rw [Pr_hairKept_L6, h.w, if_pos (by omega), if_pos (by omega), hairS]
    by_cases e : an32 (sr32 (τ 5 (43 + i)) k) 1 = 1
    · have l := len_k h hi hk e
      have d := h.dtb
      rw [h.dt] at l
      rw [if_pos e, if_pos e, kept_h h hi hk, bd_s, if_pos e, if_neg (by omega), ix8 (by omega) (by omega), nm_k, rd_k (by omega) (by omega), rd_k (by omega) (by omega), tn8, h.dt, Int.add_zero, w32_i (x := τ 5 6) (by omega) (by omega), l, bd_s, nm_k, nm_k, w32_i (x := (k : Int) + 1) (by omega) (by omega), suc]
    · rw [if_neg e, if_neg e, Int.add_zero, w32_id (hairS_c32 _ _ _), nm_k, w32_i (x := (k : Int) + 1) (by omega) (by omega), suc]
  · intro n
    show Pr_hairKept_L6 p i (τ 5 (43 + i)) 0 (n + 1) _ W σ = _
    rw [Pr_hairKept_L6, h.w, if_neg (by omega)]
theorem hair_h (h : PR p σ τ W N D E) {i : Nat} (hi : i < N) : Pr_hairOf p i σ = some (hairS (τ 5) i W, σ) := by
  have bN := h.bN
  rw [Pr_hairOf, isP_1 h hi, bd_s, if_neg (by omega), rd_k (by omega) (by omega), Int.toNat_natCast, h.kp i hi, hk0_h h hi, bd_s]
theorem has_m (x k : Int) (τ : Sg) : M_has x k τ = some (if an32 (sr32 x k) 1 = 1 then 1 else 0, τ) := by
  rw [M_has]; split <;> rfl
theorem keeps_m (τ : Sg) {i : Nat} (k : Int) (hi : i < 6) : M_keeps i k τ = some (if an32 (sr32 (τ 5 (43 + i)) k) 1 = 1 then 1 else 0, τ) := by
  simp (disch := omega) only [M_keeps, w32_i, rd_k, tn43, has_m, bd_s]
  split
  · exact zb_1
  · exact zb_0
theorem knows_m (τ : Sg) {i : Nat} (k : Int) (hi : i < 6) : M_knows i k τ = some (if an32 (sr32 (τ 5 (37 + i)) k) 1 = 1 then 1 else 0, τ) := by
  simp (disch := omega) only [M_knows, w32_i, rd_k, tn37, has_m, bd_s]
  split
  · exact zb_1
  · exact zb_0
theorem all_h (h : PR p σ τ W N D E) : Pr_allHair p σ = some (allS (τ 5) W N, σ) := by
  have bN := h.bN
  rw [Pr_allHair]
  refine loopN (X := fun n k => Pr_allHair_L4 p n (allS (τ 5) W k) k σ) (W := N) ?_ ?_ fu (by unfold fu; omega)
  · intro k n hk
    have h1 : (k : Int) < N := by omega
    have h2 : (k : Int) < 6 := by omega
    simp (disch := omega) only [Pr_allHair_L4, h.n, h1, h2, ↓reduceIte, hair_h h hk, bd_s, nm_k, w32_i, suc, allS]
  · intro n
    simp only [Pr_allHair_L4, h.n, Int.lt_irrefl, ↓reduceIte]
theorem all_m (h : PR p σ τ W N D E) : M_allHair τ = some (allS (τ 5) W N, τ) := by
  have bN := h.bN
  rw [M_allHair]
  refine loopN (X := fun n k => M_allHair_L4 n (allS (τ 5) W k) k τ) (W := N) ?_ ?_ fu (by unfold fu; omega)
  · intro k n hk
    have h1 : (k : Int) < N := by omega
    simp (disch := omega) only [M_allHair_L4, rd_k, show Int.toNat 1 = 1 from rfl, h.n', h1, ↓reduceIte, hair_m h hk, bd_s, nm_k, w32_i, suc, allS]
  · intro n
    simp (disch := omega) only [M_allHair_L4, rd_k, show Int.toNat 1 = 1 from rfl, h.n', Int.lt_irrefl, ↓reduceIte]
theorem knowers_h (h : PR p σ τ W N D E) {k : Nat} (hk : k < 8) : Pr_knowersOf p k σ = some (pwS (τ 5) 37 k N, σ) := by
  have bN := h.bN
  have bW := pow_le h.bW
  rw [Pr_knowersOf]
  refine loopN (X := fun n q => Pr_knowersOf_L4 p k n (pwS (τ 5) 37 k q) q σ) (W := N) ?_ ?_ fu (by unfold fu; omega)
  · intro q n hq
    have h1 : (q : Int) < N := by omega
    have h2 : (q : Int) < 6 := by omega
    have h3 := h.knb q hq
    simp (disch := omega) only [Pr_knowersOf_L4, h.n, h1, h2, ↓reduceIte, rd_k, Int.toNat_natCast, h.kn, nm_k, w32_i, suc, pwS, sl_hb]
  · intro n
    simp only [Pr_knowersOf_L4, h.n, Int.lt_irrefl, ↓reduceIte]
theorem keepers_h (h : PR p σ τ W N D E) {k : Nat} (hk : k < 8) : Pr_keepersOf p k σ = some (pwS (τ 5) 43 k N, σ) := by
  have bN := h.bN
  have bW := pow_le h.bW
  rw [Pr_keepersOf]
  refine loopN (X := fun n q => Pr_keepersOf_L4 p k n (pwS (τ 5) 43 k q) q σ) (W := N) ?_ ?_ fu (by unfold fu; omega)
  · intro q n hq
    have h1 : (q : Int) < N := by omega
    have h2 : (q : Int) < 6 := by omega
    have h3 := h.kpb q hq
    simp (disch := omega) only [Pr_keepersOf_L4, h.n, h1, h2, ↓reduceIte, rd_k, Int.toNat_natCast, h.kp, nm_k, w32_i, suc, pwS, sl_hb]
  · intro n
    simp only [Pr_keepersOf_L4, h.n, Int.lt_irrefl, ↓reduceIte]
theorem pwS_c (c : Nat → Int) (row : Nat) (k : Int) : ∀ q, c32 (pwS c row k q)
  | 0 => c32_0
  | q + 1 => or_c _ _
theorem pw37_m (h : PR p σ τ W N D E) (k : Int) : M_peopleWith 37 k τ = some (pwS (τ 5) 37 k N, τ) := by
  have bN := h.bN
  rw [M_peopleWith]
  refine loopN (X := fun n q => M_peopleWith_L5 37 k n (pwS (τ 5) 37 k q) q τ) (W := N) ?_ ?_ fu (by unfold fu; omega)
  · intro q n hq
    have h1 : (q : Int) < N := by omega
    simp (disch := omega) only [M_peopleWith_L5, rd_k, show Int.toNat 1 = 1 from rfl, h.n', h1, ↓reduceIte, w32_i, tn37, has_m, bd_s, nm_k, suc, pwS]
    by_cases e : an32 (sr32 (τ 5 (37 + q)) k) 1 = 1
    · simp only [e, ↓reduceIte]; rfl
    · simp only [e, ↓reduceIte]
  · intro n
    simp (disch := omega) only [M_peopleWith_L5, rd_k, show Int.toNat 1 = 1 from rfl, h.n', Int.lt_irrefl, ↓reduceIte]
theorem pw43_m (h : PR p σ τ W N D E) (k : Int) : M_peopleWith 43 k τ = some (pwS (τ 5) 43 k N, τ) := by
  have bN := h.bN
  rw [M_peopleWith]
  refine loopN (X := fun n q => M_peopleWith_L5 43 k n (pwS (τ 5) 43 k q) q τ) (W := N) ?_ ?_ fu (by unfold fu; omega)
  · intro q n hq
    have h1 : (q : Int) < N := by omega
    simp (disch := omega) only [M_peopleWith_L5, rd_k, show Int.toNat 1 = 1 from rfl, h.n', h1, ↓reduceIte, w32_i, tn43, has_m, bd_s, nm_k, suc, pwS]
    by_cases e : an32 (sr32 (τ 5 (43 + q)) k) 1 = 1
    · simp only [e, ↓reduceIte]; rfl
    · simp only [e, ↓reduceIte]
  · intro n
    simp (disch := omega) only [M_peopleWith_L5, rd_k, show Int.toNat 1 = 1 from rfl, h.n', Int.lt_irrefl, ↓reduceIte]
theorem barbers_m (h : PR p σ τ W N D E) : M_barbers τ = some (bsum (τ 5) N, τ) := by
  have bN := h.bN
  rw [M_barbers]
  refine loopN (X := fun n q => M_barbers_L4 n (bsum (τ 5) q) q τ) (W := N) ?_ ?_ fu (by unfold fu; omega)
  · intro q n hq
    have h1 : (q : Int) < N := by omega
    simp (disch := omega) only [M_barbers_L4, rd_k, show Int.toNat 1 = 1 from rfl, h.n', h1, ↓reduceIte, w32_i, tn31, nm_k, suc, bsum]
    split <;> rfl
  · intro n
    simp (disch := omega) only [M_barbers_L4, rd_k, show Int.toNat 1 = 1 from rfl, h.n', Int.lt_irrefl, ↓reduceIte]
theorem halves_m (h : PR p σ τ W N D E) (k : Int) : M_halvesOf k τ = some (hsum (τ 5) k E, τ) := by
  have bE := h.bE
  rw [M_halvesOf]
  refine loopN (X := fun n q => M_halvesOf_L4 k n (hsum (τ 5) k q) q τ) (W := E) ?_ ?_ fu (by unfold fu; omega)
  · intro q n hq
    have h1 : (q : Int) < E := by omega
    simp (disch := omega) only [M_halvesOf_L4, rd_k, show Int.toNat 3 = 3 from rfl, h.e', h1, ↓reduceIte, w32_i, tn163, tn169, nm_k, suc, hsum]
    split
    · rfl
    · split <;> rfl
  · intro n
    simp (disch := omega) only [M_halvesOf_L4, rd_k, show Int.toNat 3 = 3 from rfl, h.e', Int.lt_irrefl, ↓reduceIte]
/-- strands begun together -/
theorem tog_h (h : PR p σ τ W N D E) {k : Nat} (hk : k < W) {d : Int} (hd : 0 ≤ d ∧ d ≤ 100000) : Pr_lengthOn p d k 0 0 σ = some (w32 (τ 5 (9 + k) * min d (τ 5 (17 + k))), σ) := by
  have g1 := h.grb k hk
  have g2 := h.gyb k hk
  have m := mul_b (g := τ 5 (9 + k)) (x := min d (τ 5 (17 + k))) (by omega) (by omega) (by omega) (by omega)
  rw [len_h h hk (by omega) (by omega) (by omega), w32_i (by omega) (by omega)]
  unfold lnF
  rw [Int.zero_add, Int.sub_zero]
  have e : (if d < τ 5 (17 + k) then d else τ 5 (17 + k)) = min d (τ 5 (17 + k)) := by split <;> omega
  rw [e]
  by_cases q : 0 < min d (τ 5 (17 + k))
  · rw [if_pos q]
  · rw [if_neg q, show min d (τ 5 (17 + k)) = 0 by omega, Int.mul_zero]
theorem gt_h (h : PR p σ τ W N D E) (s : Int) {d : Int} (hd : 0 ≤ d ∧ d ≤ 100000) : Pr_grownTogether p s d σ = some (gtS (τ 5) s d W, σ) := by
  have bW := h.bW
  rw [Pr_grownTogether]
  refine loopN (X := fun n q => Pr_grownTogether_L5 p s d n (gtS (τ 5) s d q) q σ) (W := W) ?_ ?_ fu (by unfold fu; omega)
  · intro q n hq
    show Pr_grownTogether_L5 p s d (n + 1) _ q σ = _
    rw [Pr_grownTogether_L5, h.w, if_pos (by omega), if_pos (by omega), gtS]
    by_cases e : an32 (sr32 s q) 1 = 1
    · rw [if_pos e, if_pos e, tog_h h hq hd, bd_s, nm_k, nm_k, w32_i (x := (q : Int) + 1) (by omega) (by omega), suc]
    · rw [if_neg e, if_neg e, nm_k, w32_i (x := (q : Int) + 1) (by omega) (by omega), suc]
  · intro n
    show Pr_grownTogether_L5 p s d (n + 1) _ W σ = _
    rw [Pr_grownTogether_L5, h.w, if_neg (by omega)]
theorem gt_m (h : PR p σ τ W N D E) (s d : Int) : M_grown s d τ = some (gtS (τ 5) s d W, τ) := by
  have bW := h.bW
  rw [M_grown]
  refine loopN (X := fun n q => M_grown_L5 s d n (gtS (τ 5) s d q) q τ) (W := W) ?_ ?_ fu (by unfold fu; omega)
  · intro q n hq
    have h1 : (q : Int) < W := by omega
    have h3 := gtS_c (τ 5) s d q
    unfold c32 at h3
    simp (disch := omega) only [M_grown_L5, rd_k, Int.toNat_zero, h.w', h1, ↓reduceIte, w32_i, tn9, tn17, has_m, bd_s, nm_k, Int.add_zero, suc, gtS]
    by_cases e : an32 (sr32 s q) 1 = 1
    · simp only [e, ↓reduceIte]; rfl
    · simp only [e, ↓reduceIte]
  · intro n
    simp (disch := omega) only [M_grown_L5, rd_k, Int.toNat_zero, h.w', Int.lt_irrefl, ↓reduceIte]
end
