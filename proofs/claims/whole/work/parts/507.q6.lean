/-! a day's growth -/
def gX (τ : Sg) (i k : Nat) : Int := if τ 5 (97 + (8 * i + k)) < τ 5 (17 + k) then w32 (τ 5 (49 + (8 * i + k)) + τ 5 (9 + k)) else τ 5 (49 + (8 * i + k))
def gY (τ : Sg) (i k : Nat) : Int := min 999 (w32 (τ 5 (97 + (8 * i + k)) + 1))
def gM1 (τ : Sg) (i k : Nat) : Sg := if an32 (sr32 (τ 5 (43 + i)) k) 1 = 1 then up_s (up_s τ 5 (49 + (8 * i + k)) (gX τ i k)) 5 (97 + (8 * i + k)) (gY τ i k) else τ
def gM (τ : Sg) (i : Nat) : Nat → Sg
  | 0 => τ
  | k + 1 => gM1 (gM τ i k) i k
theorem gM_f (τ : Sg) {i : Nat} (hi : i < 6) : ∀ k, k ≤ 8 → ∀ o b, (o ≠ 5 ∨ b < 49 ∨ 145 ≤ b) → gM τ i k o b = τ o b
  | 0, _, _, _, _ => rfl
  | k + 1, hk, o, b, h => by
    rw [gM, gM1]
    split
    · by_cases e : o = 5
      · rw [up_k (by omega), up_k (by omega)]; exact gM_f τ hi k (by omega) o b h
      · rw [up_o e, up_o e]; exact gM_f τ hi k (by omega) o b h
    · exact gM_f τ hi k (by omega) o b h
theorem gX_c {τ τ' : Sg} {i k : Nat} (h1 : τ' 5 (97 + (8 * i + k)) = τ 5 (97 + (8 * i + k))) (h2 : τ' 5 (17 + k) = τ 5 (17 + k)) (h3 : τ' 5 (49 + (8 * i + k)) = τ 5 (49 + (8 * i + k))) (h4 : τ' 5 (9 + k) = τ 5 (9 + k)) : gX τ' i k = gX τ i k := by unfold gX; rw [h1, h2, h3, h4]
theorem gY_c {τ τ' : Sg} {i k : Nat} (h1 : τ' 5 (97 + (8 * i + k)) = τ 5 (97 + (8 * i + k))) : gY τ' i k = gY τ i k := by unfold gY; rw [h1]
/-- what has grown of one person's hair -/
theorem gM_v (τ : Sg) {i : Nat} (hi : i < 6) : ∀ n, n ≤ 8 → ∀ q k : Nat, q < 6 → k < 8 →
    gM τ i n 5 (49 + (8 * q + k)) = (if q = i ∧ k < n ∧ an32 (sr32 (τ 5 (43 + i)) k) 1 = 1 then gX τ i k else τ 5 (49 + (8 * q + k))) ∧
    gM τ i n 5 (97 + (8 * q + k)) = (if q = i ∧ k < n ∧ an32 (sr32 (τ 5 (43 + i)) k) 1 = 1 then gY τ i k else τ 5 (97 + (8 * q + k)))
  | 0, _, q, k, _, _ => by
    rw [gM, if_neg (fun z => absurd z.2.1 (by omega)), if_neg (fun z => absurd z.2.1 (by omega))]
    exact ⟨rfl, rfl⟩
  | n + 1, hn, q, k, hq, hk => by
    obtain ⟨v1, v2⟩ := gM_v τ hi n (by omega) q k hq hk
    obtain ⟨w1, w2⟩ := gM_v τ hi n (by omega) i n hi (by omega)
    rw [if_neg (fun z => absurd z.2.1 (by omega))] at w1 w2
    have x1 : gX (gM τ i n) i n = gX τ i n := gX_c w2 (gM_f τ hi n (by omega) _ _ (by omega)) w1 (gM_f τ hi n (by omega) _ _ (by omega))
    have x2 : gY (gM τ i n) i n = gY τ i n := gY_c w2
    rw [gM, gM1, x1, x2, gM_f τ hi n (by omega) 5 (43 + i) (by omega)]
    by_cases e : q = i ∧ k = n
    · obtain ⟨rfl, rfl⟩ := e
      by_cases g : an32 (sr32 (τ 5 (43 + q)) k) 1 = 1
      · rw [if_pos g, if_pos ⟨rfl, by omega, g⟩, if_pos ⟨rfl, by omega, g⟩, up_k (by omega), up_e, up_e]
        exact ⟨rfl, rfl⟩
      · rw [if_neg g, if_neg (fun z => g z.2.2), if_neg (fun z => g z.2.2), w1, w2]
        exact ⟨rfl, rfl⟩
    · have c : (q = i ∧ k < n + 1 ∧ an32 (sr32 (τ 5 (43 + i)) k) 1 = 1) ↔ (q = i ∧ k < n ∧ an32 (sr32 (τ 5 (43 + i)) k) 1 = 1) := ⟨fun z => ⟨z.1, by omega, z.2.2⟩, fun z => ⟨z.1, by omega, z.2.2⟩⟩
      simp only [c]
      by_cases g : an32 (sr32 (τ 5 (43 + i)) n) 1 = 1
      · rw [if_pos g, up_k (by omega), up_k (by omega), up_k (by omega), up_k (by omega)]
        exact ⟨v1, v2⟩
      · rw [if_neg g]
        exact ⟨v1, v2⟩
/-- what has grown of all hair -/
def gA (τ : Sg) (W : Nat) : Nat → Sg
  | 0 => τ
  | i + 1 => gM (gA τ W i) i W
theorem gA_f (τ : Sg) {W : Nat} (hW : W ≤ 8) : ∀ m, m ≤ 6 → ∀ o b, (o ≠ 5 ∨ b < 49 ∨ 145 ≤ b) → gA τ W m o b = τ o b
  | 0, _, _, _, _ => rfl
  | m + 1, hm, o, b, h => by rw [gA, gM_f _ (by omega) W hW o b h]; exact gA_f τ hW m (by omega) o b h
theorem gA_v (τ : Sg) {W : Nat} (hW : W ≤ 8) : ∀ m, m ≤ 6 → ∀ q k : Nat, q < 6 → k < 8 →
    gA τ W m 5 (49 + (8 * q + k)) = (if q < m ∧ k < W ∧ an32 (sr32 (τ 5 (43 + q)) k) 1 = 1 then gX τ q k else τ 5 (49 + (8 * q + k))) ∧
    gA τ W m 5 (97 + (8 * q + k)) = (if q < m ∧ k < W ∧ an32 (sr32 (τ 5 (43 + q)) k) 1 = 1 then gY τ q k else τ 5 (97 + (8 * q + k)))
  | 0, _, q, k, _, _ => by
    rw [gA, if_neg (fun z => absurd z.1 (by omega)), if_neg (fun z => absurd z.1 (by omega))]
    exact ⟨rfl, rfl⟩
  | m + 1, hm, q, k, hq, hk => by
    obtain ⟨v1, v2⟩ := gA_v τ hW m (by omega) q k hq hk
    obtain ⟨w1, w2⟩ := gM_v (gA τ W m) (i := m) (by omega) W hW q k hq hk
    rw [gA, w1, w2, gA_f τ hW m (by omega) 5 (43 + m) (by omega)]
    by_cases e : q = m
    · subst e
      rw [if_neg (fun z => absurd z.1 (by omega))] at v1 v2
      rw [gX_c v2 (gA_f τ hW q (by omega) _ _ (by omega)) v1 (gA_f τ hW q (by omega) _ _ (by omega)), gY_c v2, v1, v2]
      by_cases z : k < W ∧ an32 (sr32 (τ 5 (43 + q)) k) 1 = 1
      · rw [if_pos ⟨rfl, z⟩, if_pos ⟨by omega, z⟩, if_pos ⟨rfl, z⟩, if_pos ⟨by omega, z⟩]
        exact ⟨rfl, rfl⟩
      · rw [if_neg (fun y => z y.2), if_neg (fun y => z y.2), if_neg (fun y => z y.2), if_neg (fun y => z y.2)]
        exact ⟨rfl, rfl⟩
    · have c0 : ¬ (q = m ∧ k < W ∧ an32 (sr32 (τ 5 (43 + m)) k) 1 = 1) := fun z => e z.1
      rw [if_neg c0, if_neg c0, v1, v2]
      by_cases z : q < m ∧ k < W ∧ an32 (sr32 (τ 5 (43 + q)) k) 1 = 1
      · have z' : q < m + 1 ∧ k < W ∧ an32 (sr32 (τ 5 (43 + q)) k) 1 = 1 := ⟨by omega, z.2⟩
        rw [if_pos z, if_pos z, if_pos z', if_pos z']
        exact ⟨rfl, rfl⟩
      · have z' : ¬ (q < m + 1 ∧ k < W ∧ an32 (sr32 (τ 5 (43 + q)) k) 1 = 1) := fun y => z ⟨by omega, y.2⟩
        rw [if_neg z, if_neg z, if_neg z', if_neg z']
        exact ⟨rfl, rfl⟩
/-- a day more, told by the strand's days -/
theorem lnF_s {g y d b s : Int} (h1 : b ≤ s) (h2 : s ≤ d) (h3 : 1 ≤ y ∧ y ≤ 99) : (if min (d - b) 999 < y then lnF g y d b s + g else lnF g y d b s) = lnF g y (d + 1) b s := by
  unfold lnF
  by_cases e : d < b + y
  · rw [if_pos (show min (d - b) 999 < y by omega)]
    have e1 : (if d + 1 < b + y then d + 1 else b + y) = d + 1 := by split <;> omega
    rw [e1, if_pos (show s < d + 1 by omega)]
    simp only [if_pos e]
    by_cases q : s < d
    · rw [if_pos q, show d + 1 - s = (d - s) + 1 by omega, Int.mul_add, Int.mul_one]
    · rw [if_neg q, show d + 1 - s = 1 by omega, Int.mul_one, Int.zero_add]
  · rw [if_neg (show ¬ min (d - b) 999 < y by omega)]
    simp only [if_neg e, if_neg (show ¬ d + 1 < b + y by omega)]
section
variable {p : Nat} {σ τ : Sg} {W N D E : Nat}
theorem gx_b (h : PR p σ τ W N D E) {i k : Nat} (hi : i < N) (hk : k < W) : gY τ i k = min 999 (τ 5 (97 + (8 * i + k)) + 1) ∧ gX τ i k = if τ 5 (97 + (8 * i + k)) < τ 5 (17 + k) then τ 5 (49 + (8 * i + k)) + τ 5 (9 + k) else τ 5 (49 + (8 * i + k)) := by
  have bW := h.bW
  have a1 := h.lnb i k hi (by omega)
  have a2 := h.agb i k hi (by omega)
  have a3 := h.grb k hk
  have a4 := h.gyb k hk
  unfold gX gY
  rw [w32_i (by omega) (by omega), w32_i (by omega) (by omega)]
  exact ⟨rfl, rfl⟩
/-- the class counts a day, the reference lets all hair grow -/
theorem PR.day (h : PR p σ τ W N D E) (hd : τ 5 6 < 100000) : PR p (up_s σ p 16 (w32 (σ p 16 + 1))) (up_s (gA τ W N) 5 6 (w32 (τ 5 6 + 1))) W N D E := by
  have bN := h.bN
  have bW := h.bW
  have dt := h.dtb
  have e0 : w32 (τ 5 6 + 1) = τ 5 6 + 1 := w32_i (by omega) (by omega)
  rw [h.dt, e0]
  clear e0
  have f : ∀ k, k ≠ 6 → k < 49 ∨ 145 ≤ k → up_s (gA τ W N) 5 6 (τ 5 6 + 1) 5 k = τ 5 k := fun k h1 h2 => by rw [up_k h1, gA_f τ bW N (by omega) _ _ (by omega)]
  refine PR.mk (h.toPS.cg (fun k _ _ _ => up_k (by omega)) (fun j k _ _ => up_o (by omega)) (fun k _ _ _ => f k (by omega) (by omega))) ?_
  refine PD.mk ?_ ?_ ?_ ?_ ?_ ?_ ?_ ?_ ?_ ?_ ?_ ?_ ?_
  · rw [up_e, up_e]
  · rw [up_e]; omega
  · rw [up_k (by omega), f _ (by omega) (by omega)]; exact h.sd
  · rw [f _ (by omega) (by omega)]; exact h.sdb
  · rw [up_k (by omega), f _ (by omega) (by omega)]; exact h.ct
  · rw [f _ (by omega) (by omega)]; exact h.ctb
  · intro j hj; rw [up_o (by omega), f _ (by omega) (by omega)]; exact h.kn j hj
  · intro j hj; rw [f _ (by omega) (by omega)]; exact h.knb j hj
  · intro j hj; rw [up_o (by omega), f _ (by omega) (by omega)]; exact h.kp j hj
  · intro j hj; rw [f _ (by omega) (by omega)]; exact h.kpb j hj
  · intro j k hj hk hb
    rw [f _ (by omega) (by omega)] at hb
    obtain ⟨q1, q2, q3⟩ := h.st j k hj hk hb
    obtain ⟨v1, v2⟩ := gA_v τ bW N (by omega) j k (by omega) (by omega)
    obtain ⟨x1, x2⟩ := gx_b h hj hk
    rw [if_pos ⟨hj, hk, hb⟩] at v1 v2
    have a4 := h.gyb k hk
    unfold SA
    rw [up_o (o := p) (a := p + 8) (by omega), up_o (o := p) (a := p + 9) (by omega), up_e, up_k (b := 97 + (8 * j + k)) (by omega), up_k (b := 49 + (8 * j + k)) (by omega), v1, v2, f (9 + k) (by omega) (by omega), f (17 + k) (by omega) (by omega), x1, x2, q2, q3, ← lnF_s q1.2.1 q1.2.2 a4]
    exact ⟨by omega, by omega, rfl⟩
  · intro j k hj hk
    obtain ⟨v1, v2⟩ := gA_v τ bW N (by omega) j k (by omega) hk
    have a1 := h.lnb j k hj hk
    have a2 := h.agb j k hj hk
    rw [up_k (b := 49 + (8 * j + k)) (by omega), up_k (b := 97 + (8 * j + k)) (by omega), v1, v2]
    by_cases e : j < N ∧ k < W ∧ an32 (sr32 (τ 5 (43 + j)) k) 1 = 1
    · have a3 := h.grb k e.2.1
      have a4 := h.gyb k e.2.1
      obtain ⟨x1, x2⟩ := gx_b h hj e.2.1
      rw [if_pos e, if_pos e, x1, x2]
      split <;> omega
    · rw [if_neg e, if_neg e]; exact a1
  · intro j k hj hk
    obtain ⟨v1, v2⟩ := gA_v τ bW N (by omega) j k (by omega) hk
    have a2 := h.agb j k hj hk
    rw [up_k (b := 97 + (8 * j + k)) (by omega), v2]
    by_cases e : j < N ∧ k < W ∧ an32 (sr32 (τ 5 (43 + j)) k) 1 = 1
    · rw [if_pos e, (gx_b h hj e.2.1).1]; omega
    · rw [if_neg e]; exact a2
theorem ey_m (τ : Sg) (i k : Nat) : min 999 (w32 (τ 5 (97 + (8 * i + k)) + 1)) = gY τ i k := rfl
theorem wi8 {i : Nat} (hi : i < 6) : w32 ((i : Int) * 8) = (i : Int) * 8 := w32_i (by omega) (by omega)
theorem wi8k {i k : Nat} (hi : i < 6) (hk : k < 8) : w32 ((i : Int) * 8 + k) = (i : Int) * 8 + k := w32_i (by omega) (by omega)
theorem wk8 {k : Nat} (hk : k < 1000000) : w32 ((k : Int) + 1) = ((k + 1 : Nat) : Int) := w32_i (by omega) (by omega)
theorem w8i {i : Nat} (hi : i < 6) : w32 (8 * (i : Int)) = 8 * (i : Int) := w32_i (by omega) (by omega)
theorem w8ik {i k : Nat} (hi : i < 6) (hk : k < 8) : w32 (8 * (i : Int) + k) = ((8 * i + k : Nat) : Int) := by rw [w32_i (by omega) (by omega)]; omega
theorem wlt (m : Int) {k : Nat} (h0 : 0 ≤ m) (h1 : m < 100000) (hk : k < 1000000) : w32 (m + (k : Int)) = m + k := w32_i (by omega) (by omega)
theorem g1_m (hw : τ 5 0 = W) (bW : W ≤ 8) {i k : Nat} (hi : i < 6) (hk : k < W) (n : Nat) : M_grows_L2 i (n + 1) k τ = M_grows_L2 i n (k + 1 : Nat) (gM1 τ i k) := by
  have h1 : (k : Int) < W := by omega
  by_cases e : an32 (sr32 (τ 5 (43 + i)) k) 1 = 1
  · by_cases e2 : τ 5 (97 + (8 * i + k)) < τ 5 (17 + k)
    · have ex : gX τ i k = w32 (τ 5 (49 + (8 * i + k)) + τ 5 (9 + k)) := by unfold gX; rw [if_pos e2]
      rw [gM1, if_pos e, ex, M_grows_L2, rd_k (by omega) (by omega), Int.toNat_zero, hw, if_pos h1, keeps_m τ k (by omega), bd_s, if_pos e, if_neg (by omega), nm_k, w8i (by omega), w8ik (by omega) (by omega), wlt 97 (by omega) (by omega) (by omega), rd_k (by omega) (by omega), tl 97 97 _ rfl, wlt 17 (by omega) (by omega) (by omega), rd_k (by omega) (by omega), tn17, if_pos e2, wlt 49 (by omega) (by omega) (by omega), rd_k (by omega) (by omega), tl 49 49 _ rfl, wlt 9 (by omega) (by omega) (by omega), rd_k (by omega) (by omega), tn9, wr_k (by omega) (by omega), M_grows_J73, wlt 97 (by omega) (by omega) (by omega), rd_k (by omega) (by omega), tl 97 97 _ rfl, up_k (by omega), wr_k (by omega) (by omega), ey_m, nm_k, wk8 (by omega)]
    · have es : up_s τ 5 (49 + (8 * i + k)) (gX τ i k) = τ := up_same (by unfold gX; rw [if_neg e2])
      rw [gM1, if_pos e, es, M_grows_L2, rd_k (by omega) (by omega), Int.toNat_zero, hw, if_pos h1, keeps_m τ k (by omega), bd_s, if_pos e, if_neg (by omega), nm_k, w8i (by omega), w8ik (by omega) (by omega), wlt 97 (by omega) (by omega) (by omega), rd_k (by omega) (by omega), tl 97 97 _ rfl, wlt 17 (by omega) (by omega) (by omega), rd_k (by omega) (by omega), tn17, if_neg e2, M_grows_J73, wlt 97 (by omega) (by omega) (by omega), rd_k (by omega) (by omega), tl 97 97 _ rfl, wr_k (by omega) (by omega), ey_m, nm_k, wk8 (by omega)]
  · rw [gM1, if_neg e, M_grows_L2, rd_k (by omega) (by omega), Int.toNat_zero, hw, if_pos h1, keeps_m τ k (by omega), bd_s, if_neg e, if_pos rfl, nm_k, wk8 (by omega)]
theorem grow_m (hw : τ 5 0 = W) (bW : W ≤ 8) {i : Nat} (hi : i < 6) : M_grows i τ = some (0, gM τ i W) := by
  rw [M_grows]
  refine loopN (X := fun n k => M_grows_L2 i n k (gM τ i k)) (W := W) ?_ ?_ fu (by unfold fu; omega)
  · intro k n hk
    exact g1_m (by rw [gM_f τ hi k (by omega) _ _ (by omega)]; exact hw) bW hi hk n
  · intro n
    show M_grows_L2 i (n + 1) W (gM τ i W) = _
    rw [M_grows_L2, rd_k (by omega) (by omega), Int.toNat_zero, gM_f τ hi W bW _ _ (by omega), hw, if_neg (by omega)]
end
