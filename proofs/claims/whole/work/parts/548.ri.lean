/-! living: what one step does -/
def LQ (p : Nat) (σ τ : Sg) (W N D E k b m : Nat) : Prop := (PR p σ τ W N D E) ∧ (DT τ) ∧ (σ 95 2 = k) ∧ (τ 0 38 = k) ∧ (σ 95 3 = τ 0 37) ∧ (0 ≤ τ 0 37 ∧ τ 0 37 < 65536) ∧ (σ 96 0 = τ 0 39) ∧ (0 ≤ τ 0 39 ∧ τ 0 39 ≤ m) ∧ (σ 96 1 = τ 0 40) ∧ (0 ≤ τ 0 40 ∧ τ 0 40 ≤ 20 * (b : Int)) ∧ (σ 96 2 = τ 0 41) ∧ (0 ≤ τ 0 41 ∧ τ 0 41 ≤ 241 * (b : Int)) ∧ (σ 96 3 = τ 0 42) ∧ (0 ≤ τ 0 42 ∧ τ 0 42 ≤ b) ∧ (σ 96 4 = τ 0 43) ∧ (0 ≤ τ 0 43 ∧ τ 0 43 ≤ 1)
theorem LQ.mk {p : Nat} {σ τ : Sg} {W N D E k b m : Nat} (hpr : PR p σ τ W N D E) (hdt : DT τ) (hst : σ 95 2 = k) (hst' : τ 0 38 = k) (hdr : σ 95 3 = τ 0 37) (hdrb : 0 ≤ τ 0 37 ∧ τ 0 37 < 65536) (hf0 : σ 96 0 = τ 0 39) (hf0b : 0 ≤ τ 0 39 ∧ τ 0 39 ≤ m) (hf1 : σ 96 1 = τ 0 40) (hf1b : 0 ≤ τ 0 40 ∧ τ 0 40 ≤ 20 * (b : Int)) (hf2 : σ 96 2 = τ 0 41) (hf2b : 0 ≤ τ 0 41 ∧ τ 0 41 ≤ 241 * (b : Int)) (hf3 : σ 96 3 = τ 0 42) (hf3b : 0 ≤ τ 0 42 ∧ τ 0 42 ≤ b) (hf4 : σ 96 4 = τ 0 43) (hf4b : 0 ≤ τ 0 43 ∧ τ 0 43 ≤ 1) : LQ p σ τ W N D E k b m := ⟨hpr, hdt, hst, hst', hdr, hdrb, hf0, hf0b, hf1, hf1b, hf2, hf2b, hf3, hf3b, hf4, hf4b⟩
theorem LQ.pr {p : Nat} {σ τ : Sg} {W N D E k b m : Nat} (h : LQ p σ τ W N D E k b m) : PR p σ τ W N D E := h.1
theorem LQ.dt {p : Nat} {σ τ : Sg} {W N D E k b m : Nat} (h : LQ p σ τ W N D E k b m) : DT τ := h.2.1
theorem LQ.st {p : Nat} {σ τ : Sg} {W N D E k b m : Nat} (h : LQ p σ τ W N D E k b m) : σ 95 2 = k := h.2.2.1
theorem LQ.st' {p : Nat} {σ τ : Sg} {W N D E k b m : Nat} (h : LQ p σ τ W N D E k b m) : τ 0 38 = k := h.2.2.2.1
theorem LQ.dr {p : Nat} {σ τ : Sg} {W N D E k b m : Nat} (h : LQ p σ τ W N D E k b m) : σ 95 3 = τ 0 37 := h.2.2.2.2.1
theorem LQ.drb {p : Nat} {σ τ : Sg} {W N D E k b m : Nat} (h : LQ p σ τ W N D E k b m) : 0 ≤ τ 0 37 ∧ τ 0 37 < 65536 := h.2.2.2.2.2.1
theorem LQ.f0 {p : Nat} {σ τ : Sg} {W N D E k b m : Nat} (h : LQ p σ τ W N D E k b m) : σ 96 0 = τ 0 39 := h.2.2.2.2.2.2.1
theorem LQ.f0b {p : Nat} {σ τ : Sg} {W N D E k b m : Nat} (h : LQ p σ τ W N D E k b m) : 0 ≤ τ 0 39 ∧ τ 0 39 ≤ m := h.2.2.2.2.2.2.2.1
theorem LQ.f1 {p : Nat} {σ τ : Sg} {W N D E k b m : Nat} (h : LQ p σ τ W N D E k b m) : σ 96 1 = τ 0 40 := h.2.2.2.2.2.2.2.2.1
theorem LQ.f1b {p : Nat} {σ τ : Sg} {W N D E k b m : Nat} (h : LQ p σ τ W N D E k b m) : 0 ≤ τ 0 40 ∧ τ 0 40 ≤ 20 * (b : Int) := h.2.2.2.2.2.2.2.2.2.1
theorem LQ.f2 {p : Nat} {σ τ : Sg} {W N D E k b m : Nat} (h : LQ p σ τ W N D E k b m) : σ 96 2 = τ 0 41 := h.2.2.2.2.2.2.2.2.2.2.1
theorem LQ.f2b {p : Nat} {σ τ : Sg} {W N D E k b m : Nat} (h : LQ p σ τ W N D E k b m) : 0 ≤ τ 0 41 ∧ τ 0 41 ≤ 241 * (b : Int) := h.2.2.2.2.2.2.2.2.2.2.2.1
theorem LQ.f3 {p : Nat} {σ τ : Sg} {W N D E k b m : Nat} (h : LQ p σ τ W N D E k b m) : σ 96 3 = τ 0 42 := h.2.2.2.2.2.2.2.2.2.2.2.2.1
theorem LQ.f3b {p : Nat} {σ τ : Sg} {W N D E k b m : Nat} (h : LQ p σ τ W N D E k b m) : 0 ≤ τ 0 42 ∧ τ 0 42 ≤ b := h.2.2.2.2.2.2.2.2.2.2.2.2.2.1
theorem LQ.f4 {p : Nat} {σ τ : Sg} {W N D E k b m : Nat} (h : LQ p σ τ W N D E k b m) : σ 96 4 = τ 0 43 := h.2.2.2.2.2.2.2.2.2.2.2.2.2.2.1
theorem LQ.f4b {p : Nat} {σ τ : Sg} {W N D E k b m : Nat} (h : LQ p σ τ W N D E k b m) : 0 ≤ τ 0 43 ∧ τ 0 43 ≤ 1 := h.2.2.2.2.2.2.2.2.2.2.2.2.2.2.2
def LFH (p : Nat) (σ σ' : Sg) : Prop := ∀ o k, (o < p ∨ p + 10 < o ∨ o = p + 1) → o ≠ 95 → o ≠ 96 → σ' o k = σ o k
def LFM (τ τ' : Sg) : Prop := ∀ o k, (o ≠ 5 ∨ 175 ≤ k) → (o ≠ 0 ∨ k < 36 ∨ 43 < k) → τ' o k = τ o k
theorem LFH.rfl {p : Nat} {σ : Sg} : LFH p σ σ := fun _ _ _ _ _ => Eq.refl _
theorem LFM.rfl {τ : Sg} : LFM τ τ := fun _ _ _ _ => Eq.refl _
theorem LFH.tr {p : Nat} {a b c : Sg} (h : LFH p a b) (h' : LFH p b c) : LFH p a c := fun o k q1 q2 q3 => (h' o k q1 q2 q3).trans (h o k q1 q2 q3)
theorem LFM.tr {a b c : Sg} (h : LFM a b) (h' : LFM b c) : LFM a c := fun o k q1 q2 => (h' o k q1 q2).trans (h o k q1 q2)
theorem FH.l {p : Nat} {a b : Sg} (h : FH p a b) : LFH p a b := fun o k q _ _ => h o k q
theorem FM.l {a b : Sg} (h : FM a b) : LFM a b := fun o k q _ => h o k q
theorem LFH.u {p : Nat} {σ : Sg} {o k : Nat} {x : Int} (h : o = 95 ∨ o = 96) : LFH p σ (up_s σ o k x) := fun a b _ q2 q3 => up_o (by omega)
theorem LFM.u {τ : Sg} {k : Nat} {x : Int} (h : 36 ≤ k ∧ k ≤ 43) : LFM τ (up_s τ 0 k x) := fun a b _ q => by rw [up_v, if_neg (by omega)]
section
variable {p : Nat} {σ τ σ' τ' : Sg} {W N D E k b m : Nat}
theorem LQ.mv (hp : p ≤ 19) (q : LQ p σ τ W N D E k b m) (h : PR p σ' τ' W N D E) (d : DT τ') (hs : FH p σ σ') (ht : FM τ τ') : LQ p σ' τ' W N D E k b m := by
  have s : ∀ o x, 95 ≤ o → σ' o x = σ o x := fun o x z => hs o x (by omega)
  have t : ∀ x, τ' 0 x = τ 0 x := fun x => ht 0 x (by omega)
  exact LQ.mk h d (by rw [s _ _ (by omega)]; exact q.st) (by rw [t]; exact q.st') (by rw [s _ _ (by omega), t]; exact q.dr) (by rw [t]; exact q.drb) (by rw [s _ _ (by omega), t]; exact q.f0) (by rw [t]; exact q.f0b) (by rw [s _ _ (by omega), t]; exact q.f1) (by rw [t]; exact q.f1b) (by rw [s _ _ (by omega), t]; exact q.f2) (by rw [t]; exact q.f2b) (by rw [s _ _ (by omega), t]; exact q.f3) (by rw [t]; exact q.f3b) (by rw [s _ _ (by omega), t]; exact q.f4) (by rw [t]; exact q.f4b)
theorem LQ.w (q : LQ p σ τ W N D E k b m) {b' m' : Nat} (h1 : b ≤ b') (h2 : m ≤ m') : LQ p σ τ W N D E k b' m' :=
  LQ.mk q.pr q.dt q.st q.st' q.dr q.drb q.f0 (by have := q.f0b; omega) q.f1 (by have := q.f1b; omega) q.f2 (by have := q.f2b; omega) q.f3 (by have := q.f3b; omega) q.f4 q.f4b
/-- a counter of both is set -/
theorem LQ.u (hp : p ≤ 19) (q : LQ p σ τ W N D E k b m) {j : Nat} (hj : j ≤ 4) {x : Int} {b' m' : Nat} (h1 : b ≤ b') (h2 : m ≤ m') (hx : (j = 0 → 0 ≤ x ∧ x ≤ m') ∧ (j = 1 → 0 ≤ x ∧ x ≤ 20 * (b' : Int)) ∧ (j = 2 → 0 ≤ x ∧ x ≤ 241 * (b' : Int)) ∧ (j = 3 → 0 ≤ x ∧ x ≤ b') ∧ (j = 4 → 0 ≤ x ∧ x ≤ 1)) :
    LQ p (up_s σ 96 j x) (up_s τ 0 (39 + j) x) W N D E k b' m' := by
  have q' := q.w h1 h2
  have pr' : PR p (up_s σ 96 j x) (up_s τ 0 (39 + j) x) W N D E := q.pr.cg (fun i y _ _ => up_o (by omega)) (fun y _ => up_o (by omega))
  have key : ∀ i, i ≤ 4 → i ≠ j → up_s σ 96 j x 96 i = σ 96 i ∧ up_s τ 0 (39 + j) x 0 (39 + i) = τ 0 (39 + i) := fun i _ hi => ⟨up_k hi, up_k (by omega)⟩
  have lo : ∀ y, y < 39 → up_s τ 0 (39 + j) x 0 y = τ 0 y := fun y hy => up_k (by omega)
  refine LQ.mk pr' (q.dt.eq (up_o (by omega))) (by rw [up_o (by omega)]; exact q.st) (by rw [lo _ (by omega)]; exact q.st') (by rw [up_o (by omega), lo _ (by omega)]; exact q.dr) (by rw [lo _ (by omega)]; exact q.drb) ?_ ?_ ?_ ?_ ?_ ?_ ?_ ?_ ?_ ?_
  · by_cases e : j = 0
    · subst e; rw [up_e, up_e]
    · rw [(key 0 (by omega) (by omega)).1, show (39 : Nat) = 39 + 0 from rfl, (key 0 (by omega) (by omega)).2]; exact q.f0
  · by_cases e : j = 0
    · subst e; rw [up_e]; exact hx.1 rfl
    · rw [show (39 : Nat) = 39 + 0 from rfl, (key 0 (by omega) (by omega)).2]; exact q'.f0b
  · by_cases e : j = 1
    · subst e; rw [up_e, up_e]
    · rw [(key 1 (by omega) (by omega)).1, show (40 : Nat) = 39 + 1 from rfl, (key 1 (by omega) (by omega)).2]; exact q.f1
  · by_cases e : j = 1
    · subst e; rw [up_e]; exact hx.2.1 rfl
    · rw [show (40 : Nat) = 39 + 1 from rfl, (key 1 (by omega) (by omega)).2]; exact q'.f1b
  · by_cases e : j = 2
    · subst e; rw [up_e, up_e]
    · rw [(key 2 (by omega) (by omega)).1, show (41 : Nat) = 39 + 2 from rfl, (key 2 (by omega) (by omega)).2]; exact q.f2
  · by_cases e : j = 2
    · subst e; rw [up_e]; exact hx.2.2.1 rfl
    · rw [show (41 : Nat) = 39 + 2 from rfl, (key 2 (by omega) (by omega)).2]; exact q'.f2b
  · by_cases e : j = 3
    · subst e; rw [up_e, up_e]
    · rw [(key 3 (by omega) (by omega)).1, show (42 : Nat) = 39 + 3 from rfl, (key 3 (by omega) (by omega)).2]; exact q.f3
  · by_cases e : j = 3
    · subst e; rw [up_e]; exact hx.2.2.2.1 rfl
    · rw [show (42 : Nat) = 39 + 3 from rfl, (key 3 (by omega) (by omega)).2]; exact q'.f3b
  · by_cases e : j = 4
    · subst e; rw [up_e, up_e]
    · rw [(key 4 (by omega) (by omega)).1, show (43 : Nat) = 39 + 4 from rfl, (key 4 (by omega) (by omega)).2]; exact q.f4
  · by_cases e : j = 4
    · subst e; rw [up_e]; exact hx.2.2.2.2 rfl
    · rw [show (43 : Nat) = 39 + 4 from rfl, (key 4 (by omega) (by omega)).2]; exact q'.f4b
/-- what an act of the years leaves -/
def ACT (p : Nat) (x y : Rs) (σ τ : Sg) (W N D E k b m : Nat) : Prop := ∃ (r : Int) (σ' τ' : Sg), x = some (r, σ') ∧ y = some (r, τ') ∧ (r = 0 ∨ r = 1) ∧ LQ p σ' τ' W N D E k (b + 1) m ∧ LFH p σ σ' ∧ LFM τ τ' ∧ ∀ x, x = 36 ∨ x = 39 → τ' 0 x = τ 0 x
theorem act_no (q : LQ p σ τ W N D E k b m) : ACT p (some (0, σ)) (some (0, τ)) σ τ W N D E k b m := ⟨0, σ, τ, rfl, rfl, .inl rfl, q.w (by omega) (by omega), LFH.rfl, LFM.rfl, fun _ _ => rfl⟩
theorem a_keep (hp : p ≤ 19) (q : LQ p σ τ W N D E k b m) {i w : Nat} (hi : i < N) (hw : w < W) : ACT p (Li_begin p i w σ) (M_keepsNow i w τ) σ τ W N D E k b m := by
  have h := q.pr
  have bN := h.bN
  have bW := h.bW
  rw [Li_begin, Pr_canStart, known_h h hi hw, bd_s, M_keepsNow, knows_m _ _ (by omega), bd_s]
  by_cases e : an32 (sr32 (τ 5 (37 + i)) w) 1 = 1
  · rw [if_pos e, if_neg i10, if_neg i10, kept_h h hi hw, bd_s, keeps_m _ _ (by omega), bd_s]
    by_cases e2 : an32 (sr32 (τ 5 (43 + i)) w) 1 = 1
    · rw [if_pos e2, if_neg i10, if_neg i10, bd_s, if_pos rfl]; exact act_no q
    · rw [if_neg e2, if_pos rfl, if_pos rfl, bd_s, if_neg i10, beg_h h hi hw, bd_s, beg_m τ (by omega) (by omega), bd_s]
      have d : begM τ i w 5 6 = τ 5 6 := by unfold begM; rw [up_k (by omega), up_k (by omega), up_k (by omega)]
      exact ⟨1, _, _, rfl, rfl, .inr rfl, (q.mv hp (beg_r h hi hw) (q.dt.eq d) FH_beg (FM_beg (by omega) (by omega))).w (by omega) (by omega), FH_beg.l, (FM_beg (by omega) (by omega)).l, fun x z => FM_beg (by omega) (by omega) _ _ (by omega)⟩
  · rw [if_neg e, if_pos rfl, if_pos rfl, bd_s, if_pos rfl]; exact act_no q
theorem a_say (hp : p ≤ 19) (hb : b ≤ 300) (q : LQ p σ τ W N D E k b m) {i w j : Nat} (hi : i < N) (hw : w < W) (hj : j < N) : ACT p (Li_tellOn p i w j σ) (M_isSaid i w j τ) σ τ W N D E k b m := by
  have h := q.pr
  have bN := h.bN
  have g2 := q.f2b
  rw [Li_tellOn, can_h h hi hw hj, bd_s, M_isSaid]
  by_cases e : i ≠ j ∧ an32 (sr32 (τ 5 (43 + i)) w) 1 = 1 ∧ ¬ an32 (sr32 (τ 5 (37 + j)) w) 1 = 1
  · have d : sayM τ i w j 5 6 = τ 5 6 := by unfold sayM; rw [up_k (by omega), up_k (by omega)]
    have q1 := q.mv hp (say_r h hi hw hj) (q.dt.eq d) FH_say (FM_say (by omega) (by omega))
    have q2 := q1.u hp (j := 2) (x := τ 0 41 + 1) (b' := b + 1) (m' := m) (by omega) (by omega) (by omega) ⟨fun z => by omega, fun z => by omega, fun _ => by omega, fun z => by omega, fun z => by omega⟩
    have t41 : sayM τ i w j 0 41 = τ 0 41 := FM_say (by omega) (by omega) _ _ (by omega)
    rw [if_pos e, if_neg i10, speak_h h hi hw hj, bd_s, says_m h hi hj e.1 e.2.1 e.2.2, bd_s, if_neg i10, rd_k (by omega) (by omega), show Int.toNat 2 = 2 from rfl, q1.f2, t41, wr_k (by omega) (by omega), nm_k, w32_i (by omega) (by omega)]
    exact ⟨1, _, _, rfl, rfl, .inr rfl, q2, FH_say.l.tr (LFH.u (by omega)), (FM_say (by omega) (by omega)).l.tr (LFM.u (by omega)), fun x z => by rw [up_k (by omega)]; exact FM_say (by omega) (by omega) _ _ (by omega)⟩
  · rw [if_neg e, if_pos rfl, says_0 h hi hj e, bd_s, if_pos rfl]; exact act_no q
theorem a_cut (hp : p ≤ 19) (hb : b ≤ 300) (q : LQ p σ τ W N D E k b m) {i j : Nat} (hi : i < N) (hj : j < N) : ACT p (Li_shear p i j σ) (M_isCut i j τ) σ τ W N D E k b m := by
  have h := q.pr
  have bN := h.bN
  have g3 := q.f3b
  rw [Li_shear, Pr_canTrim, isP_1 h hi, bd_s, if_neg i10, barb_h h hj, bd_s, M_isCut]
  by_cases e : (i : Int) = j
  · have hM : M_cuts i j τ = some (-1, τ) := by rw [M_cuts, if_pos e]
    have z : (bd (if τ 5 (31 + j) = 0 then some (0, σ) else if (i : Int) = j then some (0, σ) else some (1, σ)) fun r1 s2 => if r1 = 0 then some (0, s2) else bd (Pr_trim p i j s2) fun r3 s4 => rd 5 3 (s4 96 (Int.toNat 3)) fun x5 => wr 5 3 (up_s s4 96 (Int.toNat 3) (w32 (x5 + 1))) fun s6 => some (1, s6)) = some (0, σ) := by
      rw [if_pos e]
      by_cases g : τ 5 (31 + j) = 0
      · rw [if_pos g, bd_s, if_pos rfl]
      · rw [if_neg g, bd_s, if_pos rfl]
    rw [z, hM, bd_s, if_pos (by omega)]; exact act_no q
  · rcases h.bab j hj with g | g
    · rw [g, if_pos rfl, bd_s, if_pos rfl, M_cuts, if_neg e, w32_i (by omega) (by omega), rd_k (by omega) (by omega), tn31, g, if_pos rfl, bd_s, if_pos (by omega)]; exact act_no q
    · obtain ⟨r, σ', τ', a1, a2, a3, a4, a5, a6, a7⟩ := trim_r h hi hj (by omega) g
      have q1 := q.mv hp a4 (q.dt.eq (a7 6 (by omega) (by omega))) a5 a6
      have q2 := q1.u hp (j := 3) (x := τ 0 42 + 1) (b' := b + 1) (m' := m) (by omega) (by omega) (by omega) ⟨fun z => by omega, fun z => by omega, fun z => by omega, fun _ => by omega, fun z => by omega⟩
      have t42 : τ' 0 42 = τ 0 42 := a6 _ _ (by omega)
      rw [g, if_neg i10, if_neg e, bd_s, if_neg i10, a1, bd_s, a2, bd_s, if_neg (by omega), rd_k (by omega) (by omega), show Int.toNat 3 = 3 from rfl, q1.f3, t42, wr_k (by omega) (by omega), nm_k, w32_i (by omega) (by omega)]
      exact ⟨1, _, _, rfl, rfl, .inr rfl, q2, a5.l.tr (LFH.u (by omega)), a6.l.tr (LFM.u (by omega)), fun x z => by rw [up_k (by omega)]; exact a6 _ _ (by omega)⟩
end
