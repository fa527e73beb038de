/-! games: heads of the class against people of the reference -/
def GP (τ : Sg) (W N : Nat) : Prop := (W ≤ 8) ∧ (N ≤ 6) ∧ (τ 5 0 = W) ∧ (∀ k, k < W → 1 ≤ τ 5 (9 + k) ∧ τ 5 (9 + k) ≤ 9) ∧ (∀ k, k < W → 1 ≤ τ 5 (17 + k) ∧ τ 5 (17 + k) ≤ 99) ∧ (∀ i, i < N → 0 ≤ τ 5 (37 + i) ∧ τ 5 (37 + i) < 2 ^ W) ∧ (∀ i, i < N → 0 ≤ τ 5 (43 + i) ∧ τ 5 (43 + i) < 2 ^ W) ∧ (∀ i k, i < N → k < 8 → 0 ≤ τ 5 (49 + (8 * i + k)) ∧ τ 5 (49 + (8 * i + k)) ≤ 9 * τ 5 (97 + (8 * i + k)) ∧ τ 5 (49 + (8 * i + k)) ≤ 891) ∧ (∀ i k, i < N → k < 8 → 0 ≤ τ 5 (97 + (8 * i + k)) ∧ τ 5 (97 + (8 * i + k)) ≤ 999)
theorem GP.mk {τ : Sg} {W N : Nat} (hbW : W ≤ 8) (hbN : N ≤ 6) (hw' : τ 5 0 = W) (hgrb : ∀ k, k < W → 1 ≤ τ 5 (9 + k) ∧ τ 5 (9 + k) ≤ 9) (hgyb : ∀ k, k < W → 1 ≤ τ 5 (17 + k) ∧ τ 5 (17 + k) ≤ 99) (hknb : ∀ i, i < N → 0 ≤ τ 5 (37 + i) ∧ τ 5 (37 + i) < 2 ^ W) (hkpb : ∀ i, i < N → 0 ≤ τ 5 (43 + i) ∧ τ 5 (43 + i) < 2 ^ W) (hlnb : ∀ i k, i < N → k < 8 → 0 ≤ τ 5 (49 + (8 * i + k)) ∧ τ 5 (49 + (8 * i + k)) ≤ 9 * τ 5 (97 + (8 * i + k)) ∧ τ 5 (49 + (8 * i + k)) ≤ 891) (hagb : ∀ i k, i < N → k < 8 → 0 ≤ τ 5 (97 + (8 * i + k)) ∧ τ 5 (97 + (8 * i + k)) ≤ 999) : GP τ W N := ⟨hbW, hbN, hw', hgrb, hgyb, hknb, hkpb, hlnb, hagb⟩
theorem GP.bW {τ : Sg} {W N : Nat} (h : GP τ W N) : W ≤ 8 := h.1
theorem GP.bN {τ : Sg} {W N : Nat} (h : GP τ W N) : N ≤ 6 := h.2.1
theorem GP.w' {τ : Sg} {W N : Nat} (h : GP τ W N) : τ 5 0 = W := h.2.2.1
theorem GP.grb {τ : Sg} {W N : Nat} (h : GP τ W N) : ∀ k, k < W → 1 ≤ τ 5 (9 + k) ∧ τ 5 (9 + k) ≤ 9 := h.2.2.2.1
theorem GP.gyb {τ : Sg} {W N : Nat} (h : GP τ W N) : ∀ k, k < W → 1 ≤ τ 5 (17 + k) ∧ τ 5 (17 + k) ≤ 99 := h.2.2.2.2.1
theorem GP.knb {τ : Sg} {W N : Nat} (h : GP τ W N) : ∀ i, i < N → 0 ≤ τ 5 (37 + i) ∧ τ 5 (37 + i) < 2 ^ W := h.2.2.2.2.2.1
theorem GP.kpb {τ : Sg} {W N : Nat} (h : GP τ W N) : ∀ i, i < N → 0 ≤ τ 5 (43 + i) ∧ τ 5 (43 + i) < 2 ^ W := h.2.2.2.2.2.2.1
theorem GP.lnb {τ : Sg} {W N : Nat} (h : GP τ W N) : ∀ i k, i < N → k < 8 → 0 ≤ τ 5 (49 + (8 * i + k)) ∧ τ 5 (49 + (8 * i + k)) ≤ 9 * τ 5 (97 + (8 * i + k)) ∧ τ 5 (49 + (8 * i + k)) ≤ 891 := h.2.2.2.2.2.2.2.1
theorem GP.agb {τ : Sg} {W N : Nat} (h : GP τ W N) : ∀ i k, i < N → k < 8 → 0 ≤ τ 5 (97 + (8 * i + k)) ∧ τ 5 (97 + (8 * i + k)) ≤ 999 := h.2.2.2.2.2.2.2.2
/-- a head's strand by its days is a person's by its age and its length -/
def HA (σ τ : Sg) (dd : Int) (e i k : Nat) : Prop := (0 ≤ σ 111 (8 * e + k) ∧ σ 111 (8 * e + k) ≤ σ 112 (8 * e + k) ∧ σ 112 (8 * e + k) ≤ dd) ∧ τ 5 (97 + (8 * i + k)) = min (dd - σ 111 (8 * e + k)) 999 ∧
  τ 5 (49 + (8 * i + k)) = lnF (τ 5 (9 + k)) (τ 5 (17 + k)) dd (σ 111 (8 * e + k)) (σ 112 (8 * e + k))
def HD (σ τ : Sg) (W : Nat) (dd : Int) (e i : Nat) : Prop := (σ 109 e = τ 5 (37 + i)) ∧ (σ 110 e = τ 5 (43 + i)) ∧ (∀ k : Nat, k < W → an32 (sr32 (τ 5 (43 + i)) k) 1 = 1 → HA σ τ dd e i k)
theorem HD.mk {σ τ : Sg} {W : Nat} {dd : Int} {e i : Nat} (hkn : σ 109 e = τ 5 (37 + i)) (hkp : σ 110 e = τ 5 (43 + i)) (hst : ∀ k : Nat, k < W → an32 (sr32 (τ 5 (43 + i)) k) 1 = 1 → HA σ τ dd e i k) : HD σ τ W dd e i := ⟨hkn, hkp, hst⟩
theorem HD.kn {σ τ : Sg} {W : Nat} {dd : Int} {e i : Nat} (h : HD σ τ W dd e i) : σ 109 e = τ 5 (37 + i) := h.1
theorem HD.kp {σ τ : Sg} {W : Nat} {dd : Int} {e i : Nat} (h : HD σ τ W dd e i) : σ 110 e = τ 5 (43 + i) := h.2.1
theorem HD.st {σ τ : Sg} {W : Nat} {dd : Int} {e i : Nat} (h : HD σ τ W dd e i) : ∀ k : Nat, k < W → an32 (sr32 (τ 5 (43 + i)) k) 1 = 1 → HA σ τ dd e i k := h.2.2
def SWH (σ τ : Sg) (W : Nat) (dd : Int) : Prop := (σ 8 10 = W) ∧ (∀ k, k < W → σ 10 k = τ 5 (9 + k)) ∧ (∀ k, k < W → σ 11 k = τ 5 (17 + k)) ∧ (σ 8 16 = dd) ∧ (0 ≤ dd ∧ dd ≤ 100000)
theorem SWH.mk {σ τ : Sg} {W : Nat} {dd : Int} (hw : σ 8 10 = W) (hgr : ∀ k, k < W → σ 10 k = τ 5 (9 + k)) (hgy : ∀ k, k < W → σ 11 k = τ 5 (17 + k)) (hdt : σ 8 16 = dd) (hdb : 0 ≤ dd ∧ dd ≤ 100000) : SWH σ τ W dd := ⟨hw, hgr, hgy, hdt, hdb⟩
theorem SWH.w {σ τ : Sg} {W : Nat} {dd : Int} (h : SWH σ τ W dd) : σ 8 10 = W := h.1
theorem SWH.gr {σ τ : Sg} {W : Nat} {dd : Int} (h : SWH σ τ W dd) : ∀ k, k < W → σ 10 k = τ 5 (9 + k) := h.2.1
theorem SWH.gy {σ τ : Sg} {W : Nat} {dd : Int} (h : SWH σ τ W dd) : ∀ k, k < W → σ 11 k = τ 5 (17 + k) := h.2.2.1
theorem SWH.dt {σ τ : Sg} {W : Nat} {dd : Int} (h : SWH σ τ W dd) : σ 8 16 = dd := h.2.2.2.1
theorem SWH.db {σ τ : Sg} {W : Nat} {dd : Int} (h : SWH σ τ W dd) : 0 ≤ dd ∧ dd ≤ 100000 := h.2.2.2.2
/-- outside of one head -/
def HO (h o k : Nat) : Prop := (o ≠ 109 ∧ o ≠ 110 ∧ o ≠ 111 ∧ o ≠ 112) ∨ ((o = 109 ∨ o = 110) ∧ k ≠ h) ∨ ((o = 111 ∨ o = 112) ∧ (k < 8 * h ∨ 8 * h + 8 ≤ k))
theorem PR.gp {p : Nat} {σ τ : Sg} {W N D E : Nat} (h : PR p σ τ W N D E) : GP τ W N := GP.mk h.bW h.bN h.w' h.grb h.gyb h.knb h.kpb h.lnb h.agb
section
variable {σ τ σ' τ' ρ : Sg} {W N D E : Nat} {dd : Int}
theorem GP.cg (h : GP τ W N) (ht : ∀ k, k < 145 → τ' 5 k = τ 5 k) : GP τ' W N := by
  have bW := h.bW
  have bN := h.bN
  refine GP.mk h.bW h.bN ?_ ?_ ?_ ?_ ?_ ?_ ?_
  · rw [ht _ (by omega)]; exact h.w'
  · intro k hk; rw [ht _ (by omega)]; exact h.grb k hk
  · intro k hk; rw [ht _ (by omega)]; exact h.gyb k hk
  · intro i hi; rw [ht _ (by omega)]; exact h.knb i hi
  · intro i hi; rw [ht _ (by omega)]; exact h.kpb i hi
  · intro i k hi hk; rw [ht (49 + (8 * i + k)) (by omega), ht (97 + (8 * i + k)) (by omega)]; exact h.lnb i k hi hk
  · intro i k hi hk; rw [ht _ (by omega)]; exact h.agb i k hi hk
/-- what stands where a word has been said and is kept -/
theorem bs_v {u v k : Nat} (huv : u ≠ v) (hu : u < 6) (hv : v < 6) (hk : k < 8) (τ : Sg) (c : Nat) : begM (sayM τ u k v) v k 5 c = if c = 97 + (8 * v + k) then 0 else if c = 49 + (8 * v + k) then 0 else if c = 43 + v then or32 (τ 5 (43 + v)) (sl32 1 k) else
    if c = 43 + u then an32 (τ 5 (43 + u)) (xo32 (sl32 1 k) (-1)) else if c = 37 + v then or32 (τ 5 (37 + v)) (sl32 1 k) else τ 5 c := by
  unfold begM sayM
  rw [up_k (a := 5) (o := 5) (b := 43 + v) (k := 43 + u) (by omega), up_k (a := 5) (o := 5) (b := 43 + v) (k := 37 + v) (by omega)]
  have z : ∀ {s : Sg} {k x : _} {b : Nat}, up_s s 5 k x 5 b = if b = k then x else s 5 b := fun {s k x b} => by
    rw [up_v]
    by_cases e : b = k
    · rw [if_pos ⟨rfl, e⟩, if_pos e]
    · rw [if_neg (fun q => e q.2), if_neg e]
  rw [z, z, z, z, z]
theorem GP.say (h : GP τ W N) {u v k : Nat} (huv : u ≠ v) (hu : u < N) (hv : v < N) (hk : k < W) : GP (begM (sayM τ u k v) v k) W N := by
  have bW := h.bW
  have bN := h.bN
  have B := bs_v (k := k) huv (show u < 6 by omega) (show v < 6 by omega) (by omega) τ
  refine GP.mk h.bW h.bN ?_ ?_ ?_ ?_ ?_ ?_ ?_
  · rw [B, if_neg (by omega), if_neg (by omega), if_neg (by omega), if_neg (by omega), if_neg (by omega)]; exact h.w'
  · intro x hx; rw [B, if_neg (by omega), if_neg (by omega), if_neg (by omega), if_neg (by omega), if_neg (by omega)]; exact h.grb x hx
  · intro x hx; rw [B, if_neg (by omega), if_neg (by omega), if_neg (by omega), if_neg (by omega), if_neg (by omega)]; exact h.gyb x hx
  · intro i hi; rw [B, if_neg (by omega), if_neg (by omega), if_neg (by omega), if_neg (by omega)]
    by_cases e : i = v
    · rw [if_pos (by omega)]; exact orB bW (h.knb v hv).1 (h.knb v hv).2 hk
    · rw [if_neg (by omega)]; exact h.knb i hi
  · intro i hi; rw [B, if_neg (by omega), if_neg (by omega)]
    by_cases e : i = v
    · rw [if_pos (by omega)]; exact orB bW (h.kpb v hv).1 (h.kpb v hv).2 hk
    · rw [if_neg (by omega)]
      by_cases e2 : i = u
      · rw [if_pos (by omega)]; exact woB bW (h.kpb u hu).1 (h.kpb u hu).2 hk
      · rw [if_neg (by omega), if_neg (by omega)]; exact h.kpb i hi
  · intro i x hi hx
    by_cases e : i = v ∧ x = k
    · rw [B (49 + (8 * i + x)), B (97 + (8 * i + x)), if_neg (by omega), if_pos (by omega), if_pos (by omega)]; omega
    · rw [B (49 + (8 * i + x)), B (97 + (8 * i + x)), if_neg (by omega), if_neg (by omega), if_neg (by omega), if_neg (by omega), if_neg (by omega), if_neg (by omega), if_neg (by omega), if_neg (by omega), if_neg (by omega), if_neg (by omega)]; exact h.lnb i x hi hx
  · intro i x hi hx
    by_cases e : i = v ∧ x = k
    · rw [B, if_pos (by omega)]; omega
    · rw [B, if_neg (by omega), if_neg (by omega), if_neg (by omega), if_neg (by omega), if_neg (by omega)]; exact h.agb i x hi hx
theorem gx_g (h : GP τ W N) {i k : Nat} (hi : i < N) (hk : k < W) : gY τ i k = min 999 (τ 5 (97 + (8 * i + k)) + 1) ∧ gX τ i k = if τ 5 (97 + (8 * i + k)) < τ 5 (17 + k) then τ 5 (49 + (8 * i + k)) + τ 5 (9 + k) else τ 5 (49 + (8 * i + k)) := by
  have bW := h.bW
  have a1 := h.lnb i k hi (by omega)
  have a2 := h.agb i k hi (by omega)
  have a3 := h.grb k hk
  have a4 := h.gyb k hk
  unfold gX gY
  rw [w32_i (by omega) (by omega), w32_i (by omega) (by omega)]
  exact ⟨rfl, rfl⟩
theorem GP.grow (h : GP τ W N) {i : Nat} (hi : i < N) : GP (gM τ i W) W N := by
  have bW := h.bW
  have bN := h.bN
  have f : ∀ c, c < 49 → gM τ i W 5 c = τ 5 c := fun c hc => gM_f τ (by omega) W bW 5 c (by omega)
  refine GP.mk h.bW h.bN ?_ ?_ ?_ ?_ ?_ ?_ ?_
  · rw [f _ (by omega)]; exact h.w'
  · intro x hx; rw [f _ (by omega)]; exact h.grb x hx
  · intro x hx; rw [f _ (by omega)]; exact h.gyb x hx
  · intro j hj; rw [f _ (by omega)]; exact h.knb j hj
  · intro j hj; rw [f _ (by omega)]; exact h.kpb j hj
  · intro j x hj hx
    obtain ⟨v1, v2⟩ := gM_v τ (i := i) (by omega) W bW j x (by omega) hx
    have a1 := h.lnb j x hj hx
    have a2 := h.agb j x hj hx
    rw [v1, v2]
    by_cases e : j = i ∧ x < W ∧ an32 (sr32 (τ 5 (43 + i)) x) 1 = 1
    · obtain ⟨rfl, e2, e3⟩ := e
      have a3 := h.grb x e2
      have a4 := h.gyb x e2
      obtain ⟨x1, x2⟩ := gx_g h hj e2
      rw [if_pos ⟨rfl, e2, e3⟩, if_pos ⟨rfl, e2, e3⟩, x1, x2]
      split <;> omega
    · rw [if_neg e, if_neg e]; exact a1
  · intro j x hj hx
    obtain ⟨v1, v2⟩ := gM_v τ (i := i) (by omega) W bW j x (by omega) hx
    have a2 := h.agb j x hj hx
    rw [v2]
    by_cases e : j = i ∧ x < W ∧ an32 (sr32 (τ 5 (43 + i)) x) 1 = 1
    · obtain ⟨rfl, e2, e3⟩ := e
      rw [if_pos ⟨rfl, e2, e3⟩, (gx_g h hj e2).1]; omega
    · rw [if_neg e]; exact a2
theorem HA.cg {e i k : Nat} (q : HA σ τ dd e i k) (h1 : σ' 111 (8 * e + k) = σ 111 (8 * e + k)) (h2 : σ' 112 (8 * e + k) = σ 112 (8 * e + k)) (h3 : ∀ a, (a = 9 + k ∨ a = 17 + k ∨ a = 49 + (8 * i + k) ∨ a = 97 + (8 * i + k)) → τ' 5 a = τ 5 a) : HA σ' τ' dd e i k := by
  unfold HA at q ⊢
  rw [h1, h2, h3 (9 + k) (.inl rfl), h3 (17 + k) (.inr (.inl rfl)), h3 (49 + (8 * i + k)) (.inr (.inr (.inl rfl))), h3 (97 + (8 * i + k)) (.inr (.inr (.inr rfl)))]
  exact q
theorem HD.cg {h i : Nat} (bW : W ≤ 8) (q : HD σ τ W dd h i) (hs : ∀ o k, ¬ HO h o k → σ' o k = σ o k) (ht : ∀ k, ((9 ≤ k ∧ k < 25) ∨ k = 37 + i ∨ k = 43 + i ∨ (49 + 8 * i ≤ k ∧ k < 57 + 8 * i) ∨ (97 + 8 * i ≤ k ∧ k < 105 + 8 * i)) → τ' 5 k = τ 5 k) : HD σ' τ' W dd h i := by
  unfold HO at hs
  refine HD.mk ?_ ?_ (fun k hk e => ?_)
  · rw [hs _ _ (by omega), ht _ (by omega)]; exact q.kn
  · rw [hs _ _ (by omega), ht _ (by omega)]; exact q.kp
  · rw [ht _ (by omega)] at e
    exact (q.st k hk e).cg (hs _ _ (by omega)) (hs _ _ (by omega)) (fun a z => ht _ (by omega))
theorem HD.fs {h h' i : Nat} (bW : W ≤ 8) (hh : h ≠ h') (q : HD σ τ W dd h i) (hs : ∀ o k, HO h' o k → σ' o k = σ o k) : HD σ' τ W dd h i :=
  q.cg bW (fun o k z => hs o k (by unfold HO at z ⊢; omega)) (fun _ _ => rfl)
theorem SWH.fs (q : SWH σ τ W dd) (hs : ∀ o k, o < 108 → σ' o k = σ o k) (ht : ∀ k, k < 37 → τ' 5 k = τ 5 k) (bW : W ≤ 8) : SWH σ' τ' W dd :=
  SWH.mk (by rw [hs _ _ (by omega)]; exact q.w) (fun k hk => by rw [hs _ _ (by omega), ht _ (by omega)]; exact q.gr k hk) (fun k hk => by rw [hs _ _ (by omega), ht _ (by omega)]; exact q.gy k hk) (by rw [hs _ _ (by omega)]; exact q.dt) q.db
theorem hx8 {h k : Nat} (hh : h < 8) (hk : k < 8) : w32 (w32 ((h : Int) * 8) + k) = ((8 * h + k : Nat) : Int) := by
  rw [w32_i (x := (h : Int) * 8) (by omega) (by omega), w32_i (by omega) (by omega)]; omega
theorem ha_h (s : SWH σ τ W dd) (g : GP τ W N) {l e i : Nat} (hl : l ≤ 3) (he : e < 2) (q : HD σ τ W (dd + l) (2 * l + e) i) : Du_hairAt 8 l e σ = some (hairS (τ 5) i W, σ) := by
  have bW := g.bW
  have db := s.db
  rw [Du_hairAt, w32_i (x := (l : Int) * 2) (by omega) (by omega), w32_i (x := (l : Int) * 2 + e) (by omega) (by omega), show (l : Int) * 2 + e = ((2 * l + e : Nat) : Int) by omega, nm_k]
  refine loopN (X := fun n k => Du_hairAt_L13 8 l (2 * l + e : Nat) n (hairS (τ 5) i k) k σ) (W := W) ?_ ?_ fu (by unfold fu; omega)
  · intro k n hk
    show Du_hairAt_L13 8 l (2 * l + e : Nat) (n + 1) _ k σ = _
    rw [Du_hairAt_L13, s.w, if_pos (by omega), if_pos (by omega), rd_k (by omega) (by omega), Int.toNat_natCast, q.kp, hairS]
    by_cases z : an32 (sr32 (τ 5 (43 + i)) k) 1 = 1
    · obtain ⟨q1, q2, q3⟩ := q.st k hk z
      rw [if_pos z, if_pos z, hx8 (by omega) (by omega), nm_k, rd_k (by omega) (by omega), rd_k (by omega) (by omega), Int.toNat_natCast, s.dt, w32_i (x := dd + l) (by omega) (by omega), len_0 (by omega) (s.gy k hk) (s.gr k hk) (g.grb k hk) (g.gyb k hk) (by omega) (by omega) (by omega), bd_s, ← q3, nm_k, nm_k, w32_i (x := (k : Int) + 1) (by omega) (by omega), suc]
    · rw [if_neg z, if_neg z, Int.add_zero, w32_id (hairS_c32 _ _ _), nm_k, w32_i (x := (k : Int) + 1) (by omega) (by omega), suc]
  · intro n
    show Du_hairAt_L13 8 l (2 * l + e : Nat) (n + 1) _ W σ = _
    rw [Du_hairAt_L13, s.w, if_neg (by omega)]
theorem h8 {h : Nat} (hh : h < 8) : w32 ((h : Int) * 8) = ((8 * h : Nat) : Int) := by rw [w32_i (by omega) (by omega)]; omega
/-- a head copied -/
theorem ch_h {a b : Nat} (ha : a < 8) (hb : b < 8) (hab : a ≠ b) : ∃ σ', Du_copyHead a b σ = some (0, σ') ∧ (∀ o k, HO b o k → σ' o k = σ o k) ∧ ∀ (τ : Sg) (W : Nat) (dd : Int) (i : Nat), W ≤ 8 → HD σ τ W dd a i → HD σ' τ W dd b i := by
  refine ⟨cp_s (cp_s (up_s (up_s σ 109 b (σ 109 a)) 110 b (σ 110 a)) 111 111 (8 * a) (8 * b) 8) 112 112 (8 * a) (8 * b) 8, ?_, fun o k z => ?_, fun τ W dd i bW q => ?_⟩
  · rw [Du_copyHead, rd_k (by omega) (by omega), wr_k (by omega) (by omega), Int.toNat_natCast, Int.toNat_natCast, rd_k (by omega) (by omega), wr_k (by omega) (by omega), up_o (by omega), h8 ha, h8 hb, cpw_k (by omega), cpw_k (by omega), Int.toNat_natCast, Int.toNat_natCast, show Int.toNat 8 = 8 from rfl]
  · unfold HO at z
    rw [cp_v, if_neg (by omega), cp_v, if_neg (by omega), up_v, if_neg (by omega), up_v, if_neg (by omega)]
  · have x1 : ∀ k, k < 8 → cp_s (cp_s (up_s (up_s σ 109 b (σ 109 a)) 110 b (σ 110 a)) 111 111 (8 * a) (8 * b) 8) 112 112 (8 * a) (8 * b) 8 111 (8 * b + k) = σ 111 (8 * a + k) := fun k hk => by
      rw [cp_v, if_neg (by omega), cp_v, if_pos (by omega), up_o (by omega), up_o (by omega), show 8 * a + (8 * b + k - 8 * b) = 8 * a + k by omega]
    have x2 : ∀ k, k < 8 → cp_s (cp_s (up_s (up_s σ 109 b (σ 109 a)) 110 b (σ 110 a)) 111 111 (8 * a) (8 * b) 8) 112 112 (8 * a) (8 * b) 8 112 (8 * b + k) = σ 112 (8 * a + k) := fun k hk => by
      rw [cp_v, if_pos (by omega), cp_v, if_neg (by omega), up_o (by omega), up_o (by omega), show 8 * a + (8 * b + k - 8 * b) = 8 * a + k by omega]
    refine HD.mk ?_ ?_ (fun k hk e => ?_)
    · rw [cp_v, if_neg (by omega), cp_v, if_neg (by omega), up_o (by omega), up_e]; exact q.kn
    · rw [cp_v, if_neg (by omega), cp_v, if_neg (by omega), up_e]; exact q.kp
    · have z := q.st k hk e
      unfold HA at z ⊢
      rw [x1 k (by omega), x2 k (by omega)]; exact z
/-- a word passed on, on day dd -/
theorem pa_h {f t u v w : Nat} (g : GP τ W N) (hf : f < 8) (ht : t < 8) (hft : f ≠ t) (hu : u < N) (hv : v < N) (huv : u ≠ v) (hw : w < W) (hd : 0 ≤ dd) (q1 : HD σ τ W dd f u) (q2 : HD σ τ W dd t v) :
    ∃ σ', Du_pass f t w dd σ = some (0, σ') ∧ (∀ o k, HO f o k → HO t o k → σ' o k = σ o k) ∧ HD σ' (begM (sayM τ u w v) v w) W dd f u ∧ HD σ' (begM (sayM τ u w v) v w) W dd t v := by
  have bW := g.bW
  have bN := g.bN
  have B := bs_v (k := w) huv (show u < 6 by omega) (show v < 6 by omega) (by omega) τ
  refine ⟨up_s (up_s (up_s (up_s (up_s σ 110 f (an32 (σ 110 f) (xo32 (sl32 1 w) (-1)))) 109 t (or32 (σ 109 t) (sl32 1 w))) 110 t (or32 (σ 110 t) (sl32 1 w))) 111 (8 * t + w) dd) 112 (8 * t + w) dd, ?_, fun o k z1 z2 => ?_, ?_, ?_⟩
  · rw [Du_pass, rd_k (by omega) (by omega), wr_k (by omega) (by omega), Int.toNat_natCast, rd_k (by omega) (by omega), wr_k (by omega) (by omega), Int.toNat_natCast, up_o (by omega), rd_k (by omega) (by omega), wr_k (by omega) (by omega), up_o (by omega), up_k (by omega), hx8 ht (by omega), wr_k (by omega) (by omega), wr_k (by omega) (by omega), Int.toNat_natCast]
  · unfold HO at z1 z2
    rw [up_v, if_neg (by omega), up_v, if_neg (by omega), up_v, if_neg (by omega), up_v, if_neg (by omega), up_v, if_neg (by omega)]
  · refine HD.mk ?_ ?_ (fun k hk e => ?_)
    · rw [up_o (by omega), up_o (by omega), up_o (by omega), up_k (by omega), up_o (by omega), B, if_neg (by omega), if_neg (by omega), if_neg (by omega), if_neg (by omega), if_neg (by omega)]; exact q1.kn
    · rw [up_o (by omega), up_o (by omega), up_k (by omega), up_o (by omega), up_e, B, if_neg (by omega), if_neg (by omega), if_neg (by omega), if_pos rfl, q1.kp]
    · rw [B, if_neg (by omega), if_neg (by omega), if_neg (by omega), if_pos rfl] at e
      have e' := wo_sub bW (g.kpb u hu).1 (g.kpb u hu).2 hw hk e
      refine (q1.st k hk e').cg ?_ ?_ (fun a z => ?_)
      · rw [up_o (by omega), up_k (by omega), up_o (by omega), up_o (by omega), up_o (by omega)]
      · rw [up_k (by omega), up_o (by omega), up_o (by omega), up_o (by omega), up_o (by omega)]
      · rw [B, if_neg (by omega), if_neg (by omega), if_neg (by omega), if_neg (by omega), if_neg (by omega)]
  · refine HD.mk ?_ ?_ (fun k hk e => ?_)
    · rw [up_o (by omega), up_o (by omega), up_o (by omega), up_e, B, if_neg (by omega), if_neg (by omega), if_neg (by omega), if_neg (by omega), if_pos rfl, q2.kn]
    · rw [up_o (by omega), up_o (by omega), up_e, B, if_neg (by omega), if_neg (by omega), if_pos rfl, q2.kp]
    · by_cases z : k = w
      · subst z
        unfold HA
        rw [up_o (by omega), up_e, up_e, B (97 + (8 * v + k)), if_pos rfl, B (49 + (8 * v + k)), if_neg (by omega), if_pos rfl, lnF_0]
        exact ⟨by omega, by omega, rfl⟩
      · rw [B, if_neg (by omega), if_neg (by omega), if_pos rfl] at e
        have e' := or_sub bW (g.kpb v hv).1 (g.kpb v hv).2 hw hk z e
        refine (q2.st k hk e').cg ?_ ?_ (fun a y => ?_)
        · rw [up_o (by omega), up_k (by omega), up_o (by omega), up_o (by omega), up_o (by omega)]
        · rw [up_k (by omega), up_o (by omega), up_o (by omega), up_o (by omega), up_o (by omega)]
        · rw [B, if_neg (by omega), if_neg (by omega), if_neg (by omega), if_neg (by omega), if_neg (by omega)]
theorem gM_o (τ : Sg) {i j : Nat} (hij : i ≠ j) : ∀ k, k ≤ 8 → ∀ c, ((49 + 8 * j ≤ c ∧ c < 57 + 8 * j) ∨ (97 + 8 * j ≤ c ∧ c < 105 + 8 * j)) → i < 6 → j < 6 → gM τ i k 5 c = τ 5 c
  | 0, _, _, _, _, _ => rfl
  | k + 1, hk, c, h, hi, hj => by
    rw [gM, gM1]
    split
    · rw [up_k (by omega), up_k (by omega)]; exact gM_o τ hij k (by omega) c h hi hj
    · exact gM_o τ hij k (by omega) c h hi hj
/-- a day more: the reference's strands grow, the class's head stays -/
theorem hd_g (g : GP τ W N) {h i : Nat} (hi : i < N) (q : HD σ τ W dd h i) : HD σ (gM τ i W) W (dd + 1) h i := by
  have bW := g.bW
  have bN := g.bN
  have f : ∀ c, c < 49 → gM τ i W 5 c = τ 5 c := fun c hc => gM_f τ (by omega) W bW 5 c (by omega)
  refine HD.mk ?_ ?_ (fun k hk e => ?_)
  · rw [f _ (by omega)]; exact q.kn
  · rw [f _ (by omega)]; exact q.kp
  · rw [f _ (by omega)] at e
    obtain ⟨q1, q2, q3⟩ := q.st k hk e
    obtain ⟨v1, v2⟩ := gM_v τ (i := i) (by omega) W bW i k (by omega) (by omega)
    obtain ⟨x1, x2⟩ := gx_g g hi hk
    rw [if_pos ⟨rfl, hk, e⟩] at v1 v2
    have a4 := g.gyb k hk
    unfold HA
    rw [v1, v2, f (9 + k) (by omega), f (17 + k) (by omega), x1, x2, q2, q3, ← lnF_s q1.2.1 q1.2.2 a4]
    exact ⟨by omega, by omega, rfl⟩
theorem hd_o (g : GP τ W N) {h i j : Nat} (hi : i < N) (hj : j < N) (hij : i ≠ j) (q : HD σ τ W dd h j) : HD σ (gM τ i W) W dd h j := by
  have bW := g.bW
  have bN := g.bN
  refine q.cg bW (fun _ _ _ => rfl) (fun k z => ?_)
  by_cases e : k < 49
  · exact gM_f τ (by omega) W bW 5 k (by omega)
  · exact gM_o τ hij W bW k (by omega) (by omega) (by omega)
/-- both heads, a day more -/
theorem gr_2 (g : GP τ W N) {i j a b : Nat} (hi : i < N) (hj : j < N) (hij : i ≠ j) (q1 : HD σ τ W dd a i) (q2 : HD σ τ W dd b j) :
    HD σ (gM (gM τ i W) j W) W (dd + 1) a i ∧ HD σ (gM (gM τ i W) j W) W (dd + 1) b j :=
  ⟨hd_o (g.grow hi) hj hi (fun z => hij z.symm) (hd_g g hi q1), hd_g (g.grow hi) hj (hd_o g hi hj hij q2)⟩
end
