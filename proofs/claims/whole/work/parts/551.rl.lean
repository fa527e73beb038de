/-! living: one plain step of both -/
section
variable {p : Nat} {σ τ : Sg} {W N D E k b m : Nat}
def oneIf (r : Int) : Int := if r = 0 then 1 else 0
theorem oneIf_b (r : Int) : 0 ≤ oneIf r ∧ oneIf r ≤ 1 := by unfold oneIf; split <;> omega
theorem j165 (hp : p ≤ 19) (hm : m ≤ 300) (q : LQ p σ τ W N D E k b m) {r : Int} {x : Nat} (hx : x < 60) :
    Li_behindPlain_J165 x r σ = some (((x + 1 : Nat) : Int), up_s σ 96 0 (τ 0 39 + oneIf r)) ∧ LQ p (up_s σ 96 0 (τ 0 39 + oneIf r)) (up_s τ 0 39 (τ 0 39 + oneIf r)) W N D E k b (m + 1) := by
  have g := q.f0b
  have o1 := oneIf_b r
  refine ⟨?_, q.u hp (j := 0) (x := τ 0 39 + oneIf r) (b' := b) (m' := m + 1) (by omega) (by omega) (by omega) ⟨fun _ => by omega, fun z => by omega, fun z => by omega, fun z => by omega, fun z => by omega⟩⟩
  rw [Li_behindPlain_J165, rd_k (by omega) (by omega), show Int.toNat 0 = 0 from rfl, q.f0, wk8 (by omega)]
  by_cases e : r = 0
  · rw [if_pos e, wr_k (by omega) (by omega), w32_i (by omega) (by omega), oneIf, if_pos e]
  · rw [if_neg e, wr_k (by omega) (by omega), w32_i (by omega) (by omega), oneIf, if_neg e]
/-- what a plain step leaves: class, reference (whose missed steps are counted behind) -/
def PST (p : Nat) (u : Rs) (v : Rs) (x : Nat) (σ τ : Sg) (W N D E k b m : Nat) : Prop :=
  ∃ (r : Int) (σ' τ' : Sg), u = some (((x + 1 : Nat) : Int), σ') ∧ v = some (r, τ') ∧ (r = 0 ∨ r = 1) ∧ LQ p σ' (up_s τ' 0 39 (τ 0 39 + oneIf r)) W N D E k (b + 1) (m + 1) ∧ LFH p σ σ' ∧ LFM τ τ' ∧ τ' 0 36 = τ 0 36
theorem ACT.end {X Y Z : Rs} (hp : p ≤ 19) (hm : m ≤ 300) {x : Nat} (hx : x < 60) (h : ACT p X Y σ τ W N D E k b m) (hz : Z = bd Y (fun r s => zb r (some (r, s)))) :
    PST p (bd X (fun r s => Li_behindPlain_J165 x r s)) Z x σ τ W N D E k b m := by
  obtain ⟨r, σ', τ', a1, a2, a3, a4, a5, a6, a7⟩ := h
  obtain ⟨b1, b2⟩ := j165 hp hm a4 (r := r) hx
  rw [a7 39 (by omega)] at b1 b2
  exact ⟨r, _, τ', by rw [a1, bd_s, b1], by rw [hz, a2, bd_s, zb_k a3], a3, b2, a5.tr (LFH.u (by omega)), a6, a7 36 (by omega)⟩
theorem plain_r (hp : p ≤ 19) (hb : b ≤ 300) (hm : m ≤ 300) (q : LQ p σ τ W N D E k b m) {o f s t c : Nat → Int} {a x y : Nat} (hx : x < 60) (ha : a < 30)
    (ho : σ (y + 1) x = o x) (hf : σ (y + 2) x = f x) (hs : σ (y + 3) x = s x) (ht : σ (y + 4) x = t x) (hc : ∀ j, j < 9 → τ 5 (177 + (9 * a + j)) = c (9 * a + j)) (h : PLN o f s t c W N a x) (h7 : c (9 * a) ≠ 7) :
    PST p (Li_behindPlain p y x σ) (M_does ((177 + 9 * a : Nat) : Int) τ) x σ τ W N D E k b m := by
  have c0 := hc 0 (by omega)
  rw [Nat.add_zero] at c0
  have cj : ∀ (j : Nat) (z : Int), z = (j : Int) → j < 9 → ∀ g : Int → Rs, rd 2235 (w32 (((177 + 9 * a : Nat) : Int) + z)) (τ 5 (Int.toNat (w32 (((177 + 9 * a : Nat) : Int) + z)))) g = g (c (9 * a + j)) := by
    intro j z hz hj g
    rw [hz, w32_i (by omega) (by omega), ← Int.natCast_add, rd_k (by omega) (by omega), Int.toNat_natCast, Nat.add_assoc, hc j hj]
  have c1 := cj 1 1 rfl (by omega)
  have c2 := cj 2 2 rfl (by omega)
  have c3 := cj 3 3 rfl (by omega)
  have hM : M_does ((177 + 9 * a : Nat) : Int) τ = _ := M_does.eq_1 _ _
  rw [rd_k (by omega) (by omega), Int.toNat_natCast, c0] at hM
  have hL : Li_behindPlain p y x σ = _ := Li_behindPlain.eq_1 _ _ _ _
  rw [rd_k (by omega) (by omega), rd_k (by omega) (by omega), rd_k (by omega) (by omega), Int.toNat_natCast, hf, hs, ho] at hL
  rcases h with ⟨e0, e1, e2, e3, e4⟩ | ⟨e0, e1, e2, e3, ⟨e4, e5⟩, e6, e7⟩ | ⟨e0, e1, e2, e3, e4, ⟨e5, e6⟩, ⟨e7, e8⟩, e9, e10⟩ | ⟨e0, e1, e2, e3, ⟨e4, e5⟩, e6, e7⟩ | ⟨e0, e1⟩ | ⟨e0, e1⟩
  · obtain ⟨dd, hd⟩ := nat_of (x := f x) (by omega)
    obtain ⟨X, x1, x2⟩ := a_day hp hb q (dd := dd) (by omega) (x : Int)
    have z := x2.end hp hm hx rfl
    rw [e0, if_pos rfl, c1, ← e2, hd] at hM
    rw [e1, hd] at hL
    rw [← x1] at z
    rw [hM, hL]
    exact z
  · obtain ⟨i, hi⟩ := nat_of e4
    obtain ⟨w, hw⟩ := nat_of e6
    have z := (a_keep hp q (i := i) (w := w) (by omega) (by omega)).end hp hm hx rfl
    rw [e0, if_neg (by decide), if_pos rfl, c1, c2, ← e2, ← e3, hi, hw] at hM
    rw [e1, hi, hw] at hL
    rw [hM, hL]
    exact z
  · obtain ⟨i, hi⟩ := nat_of e5
    obtain ⟨w, hw⟩ := nat_of e7
    obtain ⟨j, hj⟩ := nat_of e9
    have z := (a_say hp hb q (i := i) (w := w) (j := j) (by omega) (by omega) (by omega)).end hp hm hx rfl
    rw [e0, if_neg (by decide), if_neg (by decide), if_pos rfl, c1, c2, c3, ← e2, ← e3, ← e4, hi, hw, hj] at hM
    rw [e1, hi, hw, rd_k (by omega) (by omega), ht, hj] at hL
    rw [hM, hL]
    exact z
  · obtain ⟨i, hi⟩ := nat_of e4
    obtain ⟨j, hj⟩ := nat_of e6
    have z := (a_cut hp hb q (i := i) (j := j) (by omega) (by omega)).end hp hm hx rfl
    rw [e0, if_neg (by decide), if_neg (by decide), if_neg (by decide), if_pos rfl, c1, c3, ← e2, ← e3, hi, hj] at hM
    rw [e1, hi, hj] at hL
    rw [hM, hL]
    exact z
  · have z := (a_any hp hb q).end hp hm hx rfl
    rw [e0, if_neg (by decide), if_neg (by decide), if_neg (by decide), if_neg (by decide)] at hM
    rw [e1] at hL
    rw [hM, hL]
    exact z
  · exact absurd e0 h7
end
