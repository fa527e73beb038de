/-! a new name; the words behind keeps -/
def RNT (s kk : Int) (τ : Sg) : Rs := bd (M_isName τ) (fun r6 s7 => if r6 = 0 then bd (M_amiss s7) (fun r8 s9 => M_readNew_J50 s kk s9) else M_readNew_J50 s kk s7)
theorem j84_b {τ : Sg} (h : 0 < τ 0 12) (s kk : Int) : M_readNew_J84 s kk τ = some (0, τ) := by rw [M_readNew_J84, if_pos h]
theorem j50_b {τ : Sg} (h : 0 < τ 0 12) (s kk : Int) : M_readNew_J50 s kk τ = some (0, τ) := by rw [M_readNew_J50, if_neg (by omega), j84_b h]
section
variable {n R j k v p : Nat} {B : Nat → Int} {b : Nat → Nat} {σ τ : Sg} {pr W N : Nat}
theorem CU.newN (h : CU n R B b j k v p σ τ) (hN : NB pr 4 σ τ W N) {s M : Nat} (hs : s ≤ 1) (hM : 8 * s + M < 14) :
    (∃ σ' τ', k = 3 ∧ PR_takeNewName pr σ = some ((v : Int), σ') ∧ RNT s M τ = some ((M : Int), τ') ∧ AD n R B b j σ (up_s τ 8 (56 + (8 * s + M)) (τ 0 19)) σ' τ' ∧ NC v (τ 0 19)) ∨
    (∃ σ' τ', PR_takeNewName pr σ = some (-1, σ') ∧ RNT s M τ = some (0, τ') ∧ FT σ τ σ' τ') := by
  by_cases c : k = 3
  · have h1 : CU n R B b j k v p σ (up_s τ 8 (56 + (8 * s + M)) (τ 0 19)) := h.cg (fun _ _ _ => rfl) (fun o x q => by rw [up_v, if_neg (by omega)])
    obtain ⟨σ', τ', k', v', p', t1, t2, t3, t4, t5, t6, t7⟩ := h1.take (by omega)
    have hc := h.td.nam c
    obtain ⟨r, r1, r2, r3⟩ := fw_2 (hN.t t4 T0.rf) hc
    obtain ⟨q, q1, q2, q3⟩ := fp_2 (hN.t t4 T0.rf) hc
    have e1 : PR_takeNewName pr σ = if r = -1 then (if q = -1 then some ((v : Int), σ') else bd (To_reject 3 σ') (fun r8 s9 => some (-1, s9))) else bd (To_reject 3 σ') (fun r10 s11 => some (-1, s11)) := by
      rw [PR_takeNewName, To_takeName, h.kd, if_pos (by omega), t1, bd_s, bd_s, if_neg i10, nm_k, t7, r1, bd_s, q1, bd_s]
    have e2 : RNT s M τ = if r < 0 then (if q < 0 then M_readNew_J84 s M τ else M_readNew_J75 s M τ) else M_readNew_J75 s M τ := by
      rw [RNT, name_m h.td, bd_s, if_pos c, if_neg i10, M_readNew_J50, if_pos h.ok, show M_named 4 0 τ = _ from r2, bd_s, show M_named 4 1 τ = _ from q2, bd_s]
    have e3 : M_readNew_J75 s M τ = some (0, fm τ 3 p) := by
      rw [M_readNew_J75, h.ap, fail_m h.ok, bd_s, j84_b (by rw [fm_12]; omega)]
    have e4 : M_readNew_J84 s M τ = some ((M : Int), τ') := by
      rw [M_readNew_J84, h.ok, if_neg (by omega), w32_i (x := 8 * (s : Int)) (by omega) (by omega), w32_i (x := 56 + 8 * (s : Int)) (by omega) (by omega), w32_i (x := 56 + 8 * (s : Int) + M) (by omega) (by omega), show 56 + 8 * (s : Int) + M = ((56 + (8 * s + M) : Nat) : Int) by omega, wr_k (by omega) (by omega), Int.toNat_natCast, t2, bd_s]
    by_cases z : r = -1
    · by_cases y : q = -1
      · refine .inl ⟨σ', τ', c, by rw [e1, if_pos z, if_pos y], by rw [e2, if_pos (by omega), if_pos (by omega), e4], ⟨⟨k', v', p', t3⟩, t4, t5⟩, hc⟩
      · have y' : ¬ q < 0 := by
          rcases q3 with q3 | ⟨w, q3, _⟩ <;> omega
        exact .inr ⟨fh σ' 3 p, fm τ 3 p, by rw [e1, if_pos z, if_neg y, rej_h t6, bd_s], by rw [e2, if_pos (by omega), if_neg y', e3], fl_2 _ _ _ (by omega), t4.tr (fl_h _ _ _), fl_m _ _ _⟩
    · have z' : ¬ r < 0 := by
        rcases r3 with r3 | ⟨w, r3, _⟩ <;> omega
      exact .inr ⟨fh σ' 3 p, fm τ 3 p, by rw [e1, if_neg z, rej_h t6, bd_s], by rw [e2, if_neg z', e3], fl_2 _ _ _ (by omega), t4.tr (fl_h _ _ _), fl_m _ _ _⟩
  · obtain ⟨f, f1, f2, f3⟩ := h.mis
    refine .inr ⟨fh σ f p, fm τ f p, ?_, ?_, fl_2 _ _ _ f1, fl_h _ _ _, fl_m _ _ _⟩
    · rw [PR_takeNewName, To_takeName, h.kd, if_neg (by omega), f2, bd_s, zb_0, bd_s, if_pos rfl]
    · rw [RNT, name_m h.td, bd_s, if_neg c, if_pos rfl, f3, bd_s, j50_b (by rw [fm_12]; exact f1)]
end
def pcs (S : Nat) : Nat → Nat
  | 0 => 0
  | w + 1 => pcs S w + (if S.testBit w then 1 else 0)
theorem pcs_0 : ∀ W, pcs 0 W = 0
  | 0 => rfl
  | W + 1 => by rw [pcs, pcs_0 W, Nat.zero_testBit, if_neg (by decide)]
theorem pcs_b (S : Nat) : ∀ W, pcs S W ≤ W
  | 0 => Nat.le_refl 0
  | W + 1 => by
    have := pcs_b S W
    rw [pcs]; split <;> omega
theorem pcs_a {S r : Nat} (h : S.testBit r = false) : ∀ W, pcs (S ||| 2 ^ r) W = pcs S W + (if r < W then 1 else 0)
  | 0 => by rw [if_neg (by omega)]; rfl
  | W + 1 => by
    have e0 : (S ||| 2 ^ r).testBit W = (S.testBit W || decide (r = W)) := by rw [Nat.testBit_or, Nat.testBit_two_pow]
    rw [pcs, pcs, pcs_a h W, e0]
    by_cases e : r = W
    · subst e
      rw [h]; simp
    · have d : decide (r = W) = false := by simp [e]
      rw [d, Bool.or_false]
      by_cases g : r < W
      · rw [if_pos g, if_pos (show r < W + 1 by omega)]; exact Nat.add_right_comm _ _ _
      · rw [if_neg g, if_neg (show ¬ r < W + 1 by omega)]; rfl
section
variable {n R : Nat} {B : Nat → Int} {b : Nat → Nat} {pr W N : Nat}
theorem kept_b {τ : Sg} (h : 0 < τ 0 12) (g : Nat) (x y : Int) : M_readKept_J48 x y (fun x8 s9 => M_readKept_L2 (g + 1) x8 s9) τ = some (or32 x (sl32 1 y), τ) := by
  rw [M_readKept_J48, must_b h, bd_s, nm_k, M_readKept_L2, if_neg (by omega)]
theorem keeps_l : ∀ m i S j k v p f g σ τ, W < i + m → m < f → m + 1 < g → i ≤ W → pcs S W = i → S < 2 ^ W → CU n R B b j k v p σ τ → NB pr 4 σ τ W N →
    (∃ (σ' τ' : Sg) (S' j' k' v' p' : Nat), PR_readKeeps_L19 pr f (S : Nat) (i : Nat) σ = some ((S' : Int), σ') ∧ M_readKept_L2 g (S : Nat) τ = some ((S' : Int), τ') ∧ S' < 2 ^ W ∧ j ≤ j' ∧ CU n R B b j' k' v' p' σ' τ' ∧ T5 σ σ' ∧ T0 τ τ') ∨
    (∃ (σ1 σ' τ' : Sg) (S' j' k' v' p' : Nat), PR_readKeeps_L19 pr f (S : Nat) (i : Nat) σ = some (-1, σ') ∧ M_readKept_L2 g (S : Nat) τ = some ((S' : Int), τ') ∧ S' < 2 ^ W ∧ CU n R B b j' k' v' p' σ1 τ' ∧ To_misfit σ1 = some (0, σ') ∧ ¬ (k' = 6 ∧ (v' : Int) = 59) ∧ T5 σ σ1 ∧ T0 τ τ') ∨
    (∃ (σ' τ' : Sg) (x : Int), PR_readKeeps_L19 pr f (S : Nat) (i : Nat) σ = some (-1, σ') ∧ M_readKept_L2 g (S : Nat) τ = some (x, τ') ∧ FT σ τ σ' τ') := by
  intro m
  induction m with
  | zero => intro i S j k v p f g σ τ hm hf hg hi; omega
  | succ m ih =>
    intro i S j k v p f g σ τ hm hf hg hi hS hS2 h hN
    obtain ⟨f, rfl⟩ : ∃ x, f = x + 1 := ⟨f - 1, by omega⟩
    obtain ⟨g, rfl⟩ : ∃ x, g = x + 1 + 1 := ⟨g - 2, by omega⟩
    have hW := hN.2.2.1
    have h8 : 2 ^ W ≤ 256 := show 2 ^ W ≤ 2 ^ 8 from Nat.pow_le_pow_right (by omega) hW
    have hl := h.td.lets
    have e0 : To_isSignNext 59 σ = some (if k = 6 ∧ (v : Int) = 59 then 1 else 0, σ) := by
      rw [To_isSignNext, h.kd, h.vl]
      by_cases c : k = 6
      · by_cases d : (v : Int) = 59
        · rw [if_pos (by omega), if_pos d, if_pos ⟨c, d⟩]
        · rw [if_pos (by omega), if_neg d, if_neg (fun z => d z.2)]
      · rw [if_neg (by omega), if_neg (fun z => c z.1)]
    by_cases cs : k = 6 ∧ (v : Int) = 59
    · refine .inl ⟨σ, τ, S, j, k, v, p, ?_, ?_, hS2, by omega, h, T5.rf, T0.rf⟩
      · rw [PR_readKeeps_L19, if_neg (by omega), e0, bd_s, if_pos cs, if_neg i10]
      · rw [M_readKept_L2, if_pos h.ok, if_neg (fun z => by have := hl.2 z; omega)]
    · have e1 : PR_readKeeps_L19 pr (f + 1) (S : Nat) (i : Nat) σ = bd (To_takeWord pr σ) (fun r7 s8 => if r7 = -1 then some (-1, s8) else if an32 (sr32 (S : Nat) r7) 1 = 1 then bd (To_reject 5 s8) (fun r9 s10 => some (-1, s10)) else nm (or32 (S : Nat) (sl32 1 r7)) (fun x11 => nm (w32 ((i : Nat) + 1)) (fun x12 => PR_readKeeps_L19 pr f x11 x12 s8))) := by
        rw [PR_readKeeps_L19, if_neg (by omega), e0, bd_s, if_neg cs, if_pos rfl]
      by_cases ck : k = 2 ∨ k = 3 ∨ k = 4
      · have e2 : M_readKept_L2 (g + 1 + 1) (S : Nat) τ = bd (M_told 4 0 τ) (fun r1 s2 => if s2 0 12 = 0 then bd (M_has (S : Nat) r1 s2) (fun r3 s4 => if r3 = 0 then M_readKept_J48 (S : Nat) r1 (fun x8 s9 => M_readKept_L2 (g + 1) x8 s9) s4 else bd (M_fail 5 (s4 0 15) s4) (fun r10 s11 => M_readKept_J48 (S : Nat) r1 (fun x12 s13 => M_readKept_L2 (g + 1) x12 s13) s11)) else M_readKept_J48 (S : Nat) r1 (fun x14 s15 => M_readKept_L2 (g + 1) x14 s15) s2) := by
          rw [M_readKept_L2, if_pos h.ok, if_pos (hl.1 ck)]
        rcases h.tdW hN with ⟨r, σ', τ', a1, a2, a3, a4, ⟨⟨k', v', p', a5⟩, a6, a7⟩, a8⟩ | ⟨σ', τ', a1, a2, a3, a4, a5⟩
        · have hr : 2 ^ r < 2 ^ W := Nat.pow_lt_pow_right (by omega) a1
          have eb : an32 (sr32 (S : Nat) (r : Nat)) 1 = if S.testBit r then 1 else 0 := hb_n (by omega) (by omega)
          rw [show M_told 4 0 τ = _ from a3, bd_s, if_pos h.ok, has_m, bd_s, eb] at e2
          rw [a2, bd_s, if_neg (by omega), eb] at e1
          by_cases t : S.testBit r = true
          · rw [if_pos t, if_pos rfl, rej_h a8, bd_s] at e1
            rw [if_pos t, if_pos rfl, if_neg i10, h.ap, fail_m h.ok, bd_s, kept_b (by rw [fm_12]; omega)] at e2
            exact .inr (.inr ⟨_, _, _, e1, e2, fl_2 _ _ _ (by omega), a6.tr (fl_h _ _ _), fl_m _ _ _⟩)
          · have t' : S.testBit r = false := by simpa using t
            have eo : or32 (S : Nat) (sl32 1 (r : Nat)) = ((S ||| 2 ^ r : Nat) : Int) := by rw [sl_1 (by omega), or_n (by omega) (by omega)]
            have pa := pcs_a t' W
            rw [if_pos a1] at pa
            have pb := pcs_b (S ||| 2 ^ r) W
            rw [if_neg t, if_neg (by omega), nm_k, eo, nm_k, w32_i (by omega) (by omega), suc] at e1
            rw [if_neg t, if_neg (show ¬ (0 : Int) = 1 by omega), if_pos rfl, M_readKept_J48, M_must, h.ok, if_neg (by omega), if_neg i10, a4, bd_s, bd_s, nm_k, eo] at e2
            rcases ih (i + 1) (S ||| 2 ^ r) (j + 1) k' v' p' f (g + 1) σ' τ' (by omega) (by omega) (by omega) (by omega) (by omega) (Nat.or_lt_two_pow hS2 hr) a5 (hN.t a6 a7) with ⟨s1, t1, S1, j1, k1, v1, p1, b1, b2, b3, b4, b5, b6, b7⟩ | ⟨s0, s1, t1, S1, j1, k1, v1, p1, b1, b2, b3, b5, b6, b7, b8, b9⟩ | ⟨s1, t1, x, b1, b2, b3, b4, b5⟩
            · exact .inl ⟨s1, t1, S1, j1, k1, v1, p1, e1.trans b1, e2.trans b2, b3, by omega, b5, a6.tr b6, a7.tr b7⟩
            · exact .inr (.inl ⟨s0, s1, t1, S1, j1, k1, v1, p1, e1.trans b1, e2.trans b2, b3, b5, b6, b7, a6.tr b8, a7.tr b9⟩)
            · exact .inr (.inr ⟨s1, t1, x, e1.trans b1, e2.trans b2, b3, a6.tr b4, a7.tr b5⟩)
        · rw [show M_told 4 0 τ = _ from a2, bd_s, if_neg (by have := a3.b; omega), kept_b a3.b] at e2
          rw [a1, bd_s, if_pos rfl] at e1
          exact .inr (.inr ⟨_, _, _, e1, e2, a3, a4, a5⟩)
      · obtain ⟨f', f1, f2, f3⟩ := h.mis
        refine .inr (.inl ⟨σ, fh σ f' p, τ, S, j, k, v, p, ?_, ?_, hS2, h, f2, cs, T5.rf, T0.rf⟩)
        · rw [e1, To_takeWord, h.kd, if_neg (by omega), f2, bd_s, bd_s, if_pos rfl]
        · rw [M_readKept_L2, if_pos h.ok, if_neg (fun z => ck (hl.2 z))]
def MKP (τ : Sg) (K : Int → Sg → Rs) : Rs := bd (M_isKeeps τ) (fun r11 s12 => bd (M_perhaps r11 s12) (fun r13 s14 => if r13 = 0 then K 0 s14 else bd (M_readKept s14) (fun r21 s22 => K r21 s22)))
theorem CU.keeps {j k v p : Nat} {σ τ : Sg} (h : CU n R B b j k v p σ τ) (hN : NB pr 4 σ τ W N) :
    (∃ (σ' τ' : Sg) (S' j' k' v' p' : Nat), PR_readKeeps pr σ = some ((S' : Int), σ') ∧ (∀ K, MKP τ K = K (S' : Int) τ') ∧ S' < 2 ^ W ∧ j ≤ j' ∧ CU n R B b j' k' v' p' σ' τ' ∧ T5 σ σ' ∧ T0 τ τ') ∨
    (∃ (σ1 σ' τ' : Sg) (S' j' k' v' p' : Nat), PR_readKeeps pr σ = some (-1, σ') ∧ (∀ K, MKP τ K = K (S' : Int) τ') ∧ S' < 2 ^ W ∧ CU n R B b j' k' v' p' σ1 τ' ∧ To_misfit σ1 = some (0, σ') ∧ ¬ (k' = 6 ∧ (v' : Int) = 59) ∧ T5 σ σ1 ∧ T0 τ τ') ∨
    (∃ (σ' τ' : Sg) (x : Int), PR_readKeeps pr σ = some (-1, σ') ∧ (∀ K, MKP τ K = K x τ') ∧ FT σ τ σ' τ') := by
  have hW := hN.2.2.1
  by_cases c : k = 2 ∧ v = 8
  · obtain ⟨s1, t1, k1, v1, p1, a1, a2, a3, a4, a5, a6, a7⟩ := h.take (by omega)
    have e1 : PR_readKeeps pr σ = PR_readKeeps_L19 pr fu ((0 : Nat) : Int) ((0 : Nat) : Int) s1 := by
      rw [PR_readKeeps, h.kn, bd_s, if_pos c.1, if_pos (by omega), a1, bd_s]; rfl
    have e2 : ∀ K, MKP τ K = bd (M_readKept_L2 fu ((0 : Nat) : Int) t1) (fun r21 s22 => K r21 s22) := fun K => by
      rw [MKP, is_keeps h.td, bd_s, if_pos c, M_perhaps, h.ok, if_neg (by omega), if_neg i10, a2, bd_s, bd_s, if_neg i10, M_readKept]; rfl
    rcases keeps_l (W := W) (N := N) (pr := pr) (W + 1) 0 0 (j + 1) k1 v1 p1 fu fu s1 t1 (by omega) (by unfold fu; omega) (by unfold fu; omega) (by omega) (pcs_0 W) (Nat.two_pow_pos W) a3 (hN.t a4 a5) with ⟨σ', τ', S', j', k', v', p', b1, b2, b3, b4, b5, b6, b7⟩ | ⟨s0, σ', τ', S', j', k', v', p', b1, b2, b3, b5, b6, b7, b8, b9⟩ | ⟨σ', τ', x, b1, b2, b3, b4, b5⟩
    · exact .inl ⟨σ', τ', S', j', k', v', p', e1.trans b1, fun K => by rw [e2, b2, bd_s], b3, by omega, b5, a4.tr b6, a5.tr b7⟩
    · exact .inr (.inl ⟨s0, σ', τ', S', j', k', v', p', e1.trans b1, fun K => by rw [e2, b2, bd_s], b3, b5, b6, b7, a4.tr b8, a5.tr b9⟩)
    · exact .inr (.inr ⟨σ', τ', x, e1.trans b1, fun K => by rw [e2, b2, bd_s], b3, a4.tr b4, a5.tr b5⟩)
  · have e : ¬ (if k = 2 then (v : Int) else -1) = 8 := by split <;> omega
    refine .inl ⟨σ, τ, 0, j, k, v, p, ?_, fun K => ?_, Nat.two_pow_pos W, by omega, h, T5.rf, T0.rf⟩
    · rw [PR_readKeeps, h.kn, bd_s, if_neg e]; rfl
    · rw [MKP, is_keeps h.td, bd_s, if_neg c, M_perhaps, h.ok, if_neg (by omega), if_pos rfl, bd_s, if_pos rfl]; rfl
end
