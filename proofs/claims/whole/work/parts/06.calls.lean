/-! contracts of methods over stores, and calls -/
def BB (K : Ly) (P : Nat → Nat → Nat) (adr : Nat → Nat) (D : va_G) (dA : Nat → ClassId) (as : List Pv) (σ : Sg) (U : State) : Prop :=
  va_P D vwCl (ws_l K P adr dA σ) U.heap ∧ va_D (Ad K adr) (ws_l K P adr dA σ) ∧ va_K D vwCl (tyl dA) U ∧ TB U ∧ SS adr (Ad K adr) U ∧ cn_s K σ ∧ ∀ v ∈ as, cn_v v
def MC (l : Launch) (K : Ly) (P : Nat → Nat → Nat) (y : MethodName) (cc : ByteArray) (nL rt d : Nat) (as : List Pv) (σ : Sg) (R : Rs) : Prop :=
  ∀ (adr : Nat → Nat) (D : va_G) (dA : Nat → ClassId) (r : Int) (σ' : Sg), R = some (r, σ') →
    Met l y [.code y cc nL (rty rt)] (rmd d) (va_Pc (as.map (en_v adr)) (BB K P adr D dA as σ)) (QQ K P adr D dA rt r σ') 0 0 (Ad K adr)
theorem SS.moved {adr : Nat → Nat} {A : Nat → Prop} {s U : State} (hW : s.WarmedH U.vm) (hh : ∀ a : Nat, a < s.heap.size → ¬ A a → U.heap[a]? = s.heap[a]?) (h : SS adr A s) : SS adr A U :=
  ⟨vk_R.warm hW h.1, vk_S.kept (vk_S.moved hW.alike h.2.1) hh, va_Z.kept (va_Z.moved hW.alike h.2.2.1) hh, va_Zq.kept (va_Zq.moved hW.alike h.2.2.2) hh⟩
theorem BB.blind {K : Ly} {P : Nat → Nat → Nat} {adr : Nat → Nat} {D : va_G} {dA : Nat → ClassId} {as : List Pv} {σ : Sg} : FrameBlind (va_Pc (as.map (en_v adr)) (BB K P adr D dA as σ)) := by
  intro a U g mk h
  obtain ⟨h0, h1, h2, h3, h4, h5, h6, h7⟩ := h
  have hvm : (U.calling g mk a).vm = U.vm := rfl
  have hW : U.WarmedH (U.calling g mk a).vm := by rw [hvm]; exact State.WarmedH.refl U
  exact ⟨h0, h1, h2, va_K.moved hW.alike h3, h4.warm hW, h5.moved hW (fun _ _ _ => rfl), h6, h7⟩
/-- the locals at a method's entry -/
def el : List Pv → Nat → List (Option Pv)
  | [], n => List.replicate n none
  | .inr (.inl x) :: r, n => some (.inr (.inl x)) :: none :: el r (n - 2)
  | .inl x :: r, n => some (.inl x) :: el r (n - 1)
  | .inr (.inr x) :: r, n => some (.inr (.inr x)) :: el r (n - 1)
theorem el_prs {adr : Nat → Nat} : ∀ (as : List Pv) (n k : Nat), prs adr k (el as n) = lv_args k (as.map (en_v adr)) := by
  intro as
  induction as with
  | nil =>
    intro n
    induction n with
    | zero => intro k; rfl
    | succ n ih => intro k; exact ih (k + 1)
  | cons a r ih =>
    intro n k
    rcases a with x | x | x
    · simp only [el, prs, List.map_cons, lv_args, ih, en_v, Value.category]; rfl
    · simp only [el, prs, List.map_cons, lv_args, ih, en_v, Value.category]; rfl
    · simp only [el, prs, List.map_cons, lv_args, ih, en_v, Value.category]; rfl
theorem el_cn : ∀ (as : List Pv) (n : Nat), (∀ v ∈ as, cn_v v) → ∀ v, some v ∈ el as n → cn_v v := by
  intro as
  induction as with
  | nil => intro n _ v hv; simp only [el] at hv; exact absurd (List.eq_of_mem_replicate hv) (by simp)
  | cons a r ih =>
    intro n h v hv
    obtain ⟨h1, h2⟩ := List.forall_mem_cons.mp h
    rcases a with x | x | x
    · rcases List.mem_cons.mp hv with e | e
      · cases e; exact h1
      · exact ih _ h2 v e
    · rcases List.mem_cons.mp hv with e | e
      · cases e; exact h1
      · rcases List.mem_cons.mp e with e | e
        · cases e
        · exact ih _ h2 v e
    · rcases List.mem_cons.mp hv with e | e
      · cases e; exact h1
      · exact ih _ h2 v e
theorem sl_len {adr : Nat → Nat} : ∀ as : List Pv, (lg_sl (as.map (en_v adr))).length = stw as := by
  intro as
  induction as with
  | nil => rfl
  | cons a r ih =>
    rw [List.map_cons, show lg_sl (en_v adr a :: r.map (en_v adr)) = (if (en_v adr a).category = 2 then [.val (en_v adr a), .second] else [.val (en_v adr a)]) ++ lg_sl (r.map (en_v adr)) from rfl, List.length_append, ih]
    rcases a with x | x | x <;> simp [en_v, Value.category, stw, pcat]
/-- a method's contract out of the walk of its body -/
theorem mc_of {l : Launch} {K : Ly} {P : Nat → Nat → Nat} {y : MethodName} {cc : ByteArray} {nL rt d : Nat} {as : List Pv} {σ : Sg} {R : Rs} (hy : plainName y.cls = true) (hn : stw as ≤ nL) (h : G l K P y.cls cc nL rt d 0 (el as nL) [] σ R) : MC l K P y cc nL rt d as σ R := by
  intro adr D dA r σ' hR
  refine Met.ofW (cc := cc) (maxL := nL) (ret := rty rt) hy rfl ?_
  intro p e s m args below meth c s₁ B hml hv
  obtain ⟨rfl, hP, hD, hK, hT, hS, hc, ha⟩ := hv
  have hown : s.vm.findClass y.cls = some m.cls := findClass_of_methodNamed B.named
  rw [lg_entry_eq]
  have hl := lv_entry (as.map (en_v adr)) (n := nL) (by rw [sl_len]; exact hn)
  rw [← el_prs as nL 0] at hl
  exact h p e s m _ below meth c adr D dA r σ' ⟨B.exec, B.bytes, hml, hown, hT, hK, B.returns, B.notSynchronized, hS⟩ s.heap [] _ ⟨hP, hD, va_S.rf, hc⟩ ⟨hl, el_cn as nL ha⟩ (fun _ h => by cases h) hR
/-- a method's own words -/
def MW (y : MethodName) (cc : ByteArray) (nL rt n : Nat) (stat : Bool) : Prop :=
  Cond.code y cc nL (rty rt) ∈ tbf ∧ Cond.initialized y.cls ∈ tbf ∧ (y.cls ≠ "java/lang/invoke/MethodHandle" ∧ y.cls ≠ "java/lang/invoke/VarHandle" ∧ (parseMethodDescriptor y.desc).map (fun d => d.parameters.length) = some n) ∧ nL ≤ 45 ∧ (if stat = true then Cond.static y ∈ tbf else Cond.instanceMethod y ∈ tbf ∧ Cond.selects y.cls y y ∈ tbf)
/-- a call's link -/
def LK (own : String) (idx : Nat) (y : MethodName) : Prop := Cond.methodLink own idx y ∈ tbf ∨ ∃ h, Cond.methodLinkNest own idx y h ∈ tbf
section GC
variable {l : Launch} {K : Ly} {P : Nat → Nat → Nat} {own : String} {cc : ByteArray} {nL rt d pc : Nat} {lv : List (Option Pv)} {st : List Pv} {σ : Sg} {R A B : Rs}
theorem w_call {p : Program} {e : Env} {s : State} {m : MethodId} {args : Array Value} {below : List Frame} {meth : Method} {c : Code} {H : Heap} {locs : List Loc} {Q : State → Prop} {R : Room} {ls : Array Slot} {st0 rest : List Value} {adr : Nat → Nat} {D : va_G} {dA : Nat → ClassId} {rt' : Nat} {r : Int} {σ1 : Sg} {a : Array Value}
    (hr : va_Run p l e R s m args below meth c H locs 0 0 0 0 (F0 m pc ls st0) rest (QQ K P adr D dA rt' r σ1 a) (Ad K adr)) (hS : va_S (Ad K adr) s.heap H locs)
    (kk : ∀ (H1 : Heap) (locs1 : List Loc), cn_r rt' r → cn_s K σ1 → va_P D vwCl (ws_l K P adr dA σ1) H1 → va_S (Ad K adr) s.heap H1 locs1 → W p l e R s m args below meth c H1 locs1 0 0 Q (F0 m (pc + 3) ls ((rv_v rt' r).toList ++ rest))) : W p l e R s m args below meth c H locs 0 0 Q (F0 m pc ls st0) := by
  intro T hT X
  obtain ⟨v, st₀, t, T', L, h0, X', hL, e1, e2, ⟨⟨hv, hp, hc, hb⟩, hz, hk⟩, st⟩ := hr T hT X
  cases hv
  rw [h0] at hz hk
  obtain ⟨t2, a1, b1⟩ := kk T'.heap (locs ++ L) hp hc (by rw [e1]; exact hb)
    ⟨Nat.le_trans hS.1 (by rw [e1]; exact hz), fun q h1 h2 => by rw [e1, hk q (Nat.lt_of_lt_of_le h1 hS.1) h2]; exact hS.2.1 q h1 h2, fun q hq => by
      rcases List.mem_append.mp hq with h | h
      · exact hS.2.2 q h
      · exact hL q h⟩ T' rfl X'
  exact ⟨t2, st t2 a1, b1⟩
theorem ad_ws {adr : Nat → Nat} {dA : Nat → ClassId} {σ σ1 : Sg} {A : Nat → Prop} (h : va_D A (ws_l K P adr dA σ)) : va_D A (ws_l K P adr dA σ1) := by
  have key : ∀ (σ : Sg) (k : Nat) (q : Nat × va_E), (ws_l K P adr dA σ)[k]? = some q → k < K.length ∧ q.1 = adr k := by
    intro σ k q hq
    unfold ws_l at hq
    rw [List.getElem?_map] at hq
    by_cases hk : k < K.length
    · rw [List.getElem?_range hk] at hq
      cases hq
      exact ⟨hk, rfl⟩
    · rw [List.getElem?_eq_none (by simpa using hk)] at hq
      cases hq
  have at' : ∀ (σ : Sg) (k : Nat), k < K.length → ∃ q, (ws_l K P adr dA σ)[k]? = some q ∧ q.1 = adr k := by
    intro σ k hk
    exact ⟨_, by unfold ws_l; rw [List.getElem?_map, List.getElem?_range hk]; rfl, rfl⟩
  refine ⟨fun i j x y hx hy hxy => ?_, fun k q hq => ?_⟩
  · obtain ⟨i1, i2⟩ := key _ _ _ hx
    obtain ⟨j1, j2⟩ := key _ _ _ hy
    obtain ⟨u, u1, u2⟩ := at' σ i i1
    obtain ⟨v, v1, v2⟩ := at' σ j j1
    exact h.1 i j u v u1 v1 (by rw [u2, v2, ← i2, ← j2]; exact hxy)
  · obtain ⟨k1, k2⟩ := key _ _ _ hq
    obtain ⟨u, u1, u2⟩ := at' σ k k1
    rw [k2, ← u2]
    exact h.2 k u u1
def rpv (rt : Nat) (r : Int) : List Pv := match rt with
  | 1 => [.inr (.inl r)]
  | 2 => []
  | _ => [.inl r]
theorem rv_rp {adr : Nat → Nat} {rt : Nat} {r : Int} {st : List Pv} : (rv_v rt r).toList ++ st.map (en_v adr) = (rpv rt r ++ st).map (en_v adr) := by
  match rt with
  | 0 => rfl
  | 1 => rfl
  | 2 => rfl
  | n + 3 => rfl
theorem cn_rp {rt : Nat} {r : Int} {st : List Pv} (h : cn_r rt r) (hs : ∀ v ∈ st, cn_v v) : ∀ v ∈ rpv rt r ++ st, cn_v v := by
  unfold rpv
  unfold cn_r at h
  split
  · exact cn_c h hs
  · exact hs
  · rename_i n1 n2
    refine cn_c ?_ hs
    split at h
    · exact absurd rfl n1
    · exact absurd rfl n2
    · exact h
/-- a call of a static method -/
theorem g_calls {y : MethodName} {cc' : ByteArray} {nL' rt' d' n idx : Nat} {as stk : List Pv} {F : Rs} {B : Int → Sg → Rs} (hm : MW y cc' nL' rt' n true) (hl' : LK own idx y) (hc : MC l K P y cc' nL' rt' d' as σ F) (hd' : d' < d) (hn : as.length = n) (hstk : stk = as.reverse ++ st) (hsw : stw st ≤ 8) (hd : decode cc pc = .ok (.invokestatic idx, 3)) (kk : ∀ r σ1, G l K P own cc nL rt d (pc + 3) lv (rpv rt' r ++ st) σ1 (B r σ1)) : G l K P own cc nL rt d pc lv stk σ (bd F B) := by
  intro p e s m args below meth c adr D dA r σ' ok H locs ls hin hl hst hR
  obtain ⟨hx, hb, hml, hown, hT, hK, hr, hlk, hs⟩ := id ok
  obtain ⟨m1, m2, m3, m4, m5⟩ := hm
  rw [if_pos rfl] at m5
  subst hstk
  have hst1 : ∀ v ∈ as, cn_v v := fun v hv => hst v (List.mem_append_left _ (List.mem_reverse.mpr hv))
  have hst2 : ∀ v ∈ st, cn_v v := fun v hv => hst v (List.mem_append_right _ hv)
  cases F with
  | none => cases hR
  | some q =>
    obtain ⟨r1, σ1⟩ := q
    have hM := hc adr D dA r1 σ1 rfl
    have hpre : PreS s H (va_Pc (as.map (en_v adr)) (BB K P adr D dA as σ)) (as.map (en_v adr)) :=
      ⟨BB.blind, fun U hU hW => ⟨rfl, by rw [hU]; exact hin.1, hin.2.1, va_K.moved hW.alike hK, hT.warm hW, hs.moved hW (fun a h1 h2 => by rw [hU]; exact hin.2.2.1.2.1 a h1 h2), hin.2.2.2, hst1⟩⟩
    have hws : ∀ w ∈ [Cond.code y cc' nL' (rty rt')], ∀ (a' : Array Value) (U : State), s.WarmedH U.vm → w.before a' U = true := by
      intro w hw a' U hW
      rw [List.mem_singleton.mp hw]
      exact (hT.warm hW).hts _ m1
    have hroom : (rmd d').frames + 1 ≤ (rmd d).frames ∧ 8 + (nL' + 11) + (rmd d').locals ≤ (rmd d).locals := by
      refine ⟨hd', ?_⟩
      show 8 + (nL' + 11) + 64 * d' ≤ 64 * d
      omega
    have hlen : ∀ sig, parseMethodDescriptor y.desc = some sig → n = sig.parameters.length := fun sig h => by
      have h2 := m3.2.2
      rw [h] at h2
      exact (Option.some.inj h2).symm
    have hcw : (rmd d').cells = 0 ∧ (rmd d').slots = 0 := ⟨rfl, rfl⟩
    have hstack : ((as.reverse ++ st).map (en_v adr)) = (as.map (en_v adr)).reverse ++ st.map (en_v adr) := by rw [List.map_append, List.map_reverse]
    have hgo : va_Run p l e (rmd d) s m args below meth c H locs 0 0 0 0 (F0 m pc ls ((as.reverse ++ st).map (en_v adr))) (st.map (en_v adr)) (QQ K P adr D dA rt' r1 σ1 (as.map (en_v adr)).toArray) (Ad K adr) := by
      rcases hl' with h | ⟨host, h⟩
      · exact va_runS (Ts := tbf) ⟨hx, hb, hml, hown, hT.hts⟩ hM ⟨⟨rfl, rfl, hroom.1, hroom.2, hws, List.mem_singleton.mpr rfl, hT.hts _ m1, hT.hts _ m2, ⟨m3.1, m3.2.1⟩, hlen, hT.hts _ h⟩, hT.hts _ m5⟩ hpre rfl (by simpa using hn) hl.1.1 hstack (lv_room (by rw [en_stw]; exact hsw)) hd ⟨Nat.le_refl _, Nat.le_refl _⟩
      · exact va_runSN (Ts := tbf) ⟨hx, hb, hml, hown, hT.hts⟩ hM ⟨⟨⟨rfl, rfl, hroom.1, hroom.2, hws, List.mem_singleton.mpr rfl⟩, hT.hts _ m1, hT.hts _ m2, ⟨m3.1, m3.2.1⟩, hlen, hT.hts _ h⟩, hT.hts _ m5, trivial⟩ hpre rfl (by simpa using hn) hl.1.1 hstack (lv_room (by rw [en_stw]; exact hsw)) hd ⟨Nat.le_refl _, Nat.le_refl _⟩
    refine w_call hgo hin.2.2.1 (fun H1 locs1 q1 q2 q3 q4 => ?_)
    rw [rv_rp]
    exact kk r1 σ1 p e s m args below meth c adr D dA r σ' ok H1 locs1 ls ⟨q3, ad_ws hin.2.1, q4, q2⟩ hl (cn_rp q1 hst2) hR
/-- a call of a method of an object of ours -/
theorem g_callv {y : MethodName} {cc' : ByteArray} {nL' rt' d' n idx ci o : Nat} {as stk : List Pv} {F : Rs} {B : Int → Sg → Rs} {T : u_T} {N : Nat} (hm : MW y cc' nL' rt' n false) (hl' : LK own idx y) (hci : vwCl[ci]? = some (y.cls, T, N)) (ho : K[o]? = some (.inl ci)) (hc : MC l K P y cc' nL' rt' d' (.inr (.inr o) :: as) σ F) (hd' : d' < d) (hn : as.length = n) (hstk : stk = as.reverse ++ .inr (.inr o) :: st) (hsw : stw st ≤ 8) (hd : decode cc pc = .ok (.invokevirtual idx, 3)) (kk : ∀ r σ1, G l K P own cc nL rt d (pc + 3) lv (rpv rt' r ++ st) σ1 (B r σ1)) : G l K P own cc nL rt d pc lv stk σ (bd F B) := by
  intro p e s m args below meth c adr D dA r σ' ok H locs ls hin hl hst hR
  obtain ⟨hx, hb, hml, hown, hT, hK, hr, hlk, hs⟩ := id ok
  obtain ⟨m1, m2, m3, m4, m5⟩ := hm
  rw [if_neg (by decide)] at m5
  subst hstk
  have hst1 : ∀ v ∈ (.inr (.inr o) :: as : List Pv), cn_v v := cn_c trivial (fun v hv => hst v (List.mem_append_left _ (List.mem_reverse.mpr hv)))
  have hst2 : ∀ v ∈ st, cn_v v := fun v hv => hst v (List.mem_append_right _ (List.mem_cons_of_mem _ hv))
  cases F with
  | none => cases hR
  | some q =>
    obtain ⟨r1, σ1⟩ := q
    have hM := hc adr D dA r1 σ1 rfl
    have he : (ws_l K P adr dA σ)[o]? = some (adr o, .inr (ci, fl_v adr (P o) (σ o) ci)) := ws_at ho
    have hpre : PreV s H y.cls (adr o) (va_Pc ((.inr (.inr o) :: as : List Pv).map (en_v adr)) (BB K P adr D dA (.inr (.inr o) :: as) σ)) (as.map (en_v adr)) :=
      ⟨BB.blind, va_recv hK hin.1 hci he, fun U hU hW => ⟨rfl, by rw [hU]; exact hin.1, hin.2.1, va_K.moved hW.alike hK, hT.warm hW, hs.moved hW (fun a h1 h2 => by rw [hU]; exact hin.2.2.1.2.1 a h1 h2), hin.2.2.2, hst1⟩⟩
    have hws : ∀ w ∈ [Cond.code y cc' nL' (rty rt')], ∀ (a' : Array Value) (U : State), s.WarmedH U.vm → w.before a' U = true := by
      intro w hw a' U hW
      rw [List.mem_singleton.mp hw]
      exact (hT.warm hW).hts _ m1
    have hroom : (rmd d').frames + 1 ≤ (rmd d).frames ∧ 8 + (nL' + 11) + (rmd d').locals ≤ (rmd d).locals := by
      refine ⟨hd', ?_⟩
      show 8 + (nL' + 11) + 64 * d' ≤ 64 * d
      omega
    have hlen : ∀ sig, parseMethodDescriptor y.desc = some sig → n = sig.parameters.length := fun sig h => by
      have h2 := m3.2.2
      rw [h] at h2
      exact (Option.some.inj h2).symm
    have hstack : ((as.reverse ++ .inr (.inr o) :: st).map (en_v adr)) = (as.map (en_v adr)).reverse ++ .ref (adr o) :: st.map (en_v adr) := by rw [List.map_append, List.map_reverse]; rfl
    have hgo : va_Run p l e (rmd d) s m args below meth c H locs 0 0 0 0 (F0 m pc ls ((as.reverse ++ .inr (.inr o) :: st).map (en_v adr))) (st.map (en_v adr)) (QQ K P adr D dA rt' r1 σ1 (Value.ref (adr o) :: as.map (en_v adr)).toArray) (Ad K adr) := by
      rcases hl' with h | ⟨host, h⟩
      · exact va_runV (Ts := tbf) ⟨hx, hb, hml, hown, hT.hts⟩ hM ⟨⟨rfl, rfl, hroom.1, hroom.2, hws, List.mem_singleton.mpr rfl, hT.hts _ m1, hT.hts _ m2, ⟨m3.1, m3.2.1⟩, hlen, hT.hts _ h⟩, hT.hts _ m5.1, hT.hts _ m5.2⟩ hpre rfl (by simpa using hn) hl.1.1 hstack (lv_room (by rw [en_stw]; exact hsw)) hd ⟨Nat.le_refl _, Nat.le_refl _⟩
      · exact va_runVN (Ts := tbf) ⟨hx, hb, hml, hown, hT.hts⟩ hM ⟨⟨⟨rfl, rfl, hroom.1, hroom.2, hws, List.mem_singleton.mpr rfl⟩, hT.hts _ m1, hT.hts _ m2, ⟨m3.1, m3.2.1⟩, hlen, hT.hts _ h⟩, hT.hts _ m5.1, hT.hts _ m5.2⟩ hpre rfl (by simpa using hn) hl.1.1 hstack (lv_room (by rw [en_stw]; exact hsw)) hd ⟨Nat.le_refl _, Nat.le_refl _⟩
    refine w_call hgo hin.2.2.1 (fun H1 locs1 q1 q2 q3 q4 => ?_)
    rw [rv_rp]
    exact kk r1 σ1 p e s m args below meth c adr D dA r σ' ok H1 locs1 ls ⟨q3, ad_ws hin.2.1, q4, q2⟩ hl (cn_rp q1 hst2) hR
theorem g_calls0 {y : MethodName} {cc' : ByteArray} {nL' d' n idx : Nat} {as stk : List Pv} {F : Rs} {B : Int → Sg → Rs} (hm : MW y cc' nL' 0 n true) (hl' : LK own idx y) (hc : MC l K P y cc' nL' 0 d' as σ F) (hd' : d' < d) (hn : as.length = n) (hstk : stk = as.reverse ++ st) (hsw : stw st ≤ 8) (hd : decode cc pc = .ok (.invokestatic idx, 3)) (kk : ∀ r σ1, G l K P own cc nL rt d (pc + 3) lv (.inl r :: st) σ1 (B r σ1)) : G l K P own cc nL rt d pc lv stk σ (bd F B) := g_calls hm hl' hc hd' hn hstk hsw hd kk
theorem g_callv0 {y : MethodName} {cc' : ByteArray} {nL' d' n idx o : Nat} {as stk : List Pv} {F : Rs} {B : Int → Sg → Rs} {T : u_T} {N : Nat} (ci : Nat) (hm : MW y cc' nL' 0 n false) (hl' : LK own idx y) (hci : vwCl[ci]? = some (y.cls, T, N)) (ho : K[o]? = some (.inl ci)) (hc : MC l K P y cc' nL' 0 d' (.inr (.inr o) :: as) σ F) (hd' : d' < d) (hn : as.length = n) (hstk : stk = as.reverse ++ .inr (.inr o) :: st) (hsw : stw st ≤ 8) (hd : decode cc pc = .ok (.invokevirtual idx, 3)) (kk : ∀ r σ1, G l K P own cc nL rt d (pc + 3) lv (.inl r :: st) σ1 (B r σ1)) : G l K P own cc nL rt d pc lv stk σ (bd F B) := g_callv hm hl' hci ho hc hd' hn hstk hsw hd kk
theorem g_calls1 {y : MethodName} {cc' : ByteArray} {nL' d' n idx : Nat} {as stk : List Pv} {F : Rs} {B : Int → Sg → Rs} (hm : MW y cc' nL' 1 n true) (hl' : LK own idx y) (hc : MC l K P y cc' nL' 1 d' as σ F) (hd' : d' < d) (hn : as.length = n) (hstk : stk = as.reverse ++ st) (hsw : stw st ≤ 8) (hd : decode cc pc = .ok (.invokestatic idx, 3)) (kk : ∀ r σ1, G l K P own cc nL rt d (pc + 3) lv (.inr (.inl r) :: st) σ1 (B r σ1)) : G l K P own cc nL rt d pc lv stk σ (bd F B) := g_calls hm hl' hc hd' hn hstk hsw hd kk
theorem g_callv1 {y : MethodName} {cc' : ByteArray} {nL' d' n idx o : Nat} {as stk : List Pv} {F : Rs} {B : Int → Sg → Rs} {T : u_T} {N : Nat} (ci : Nat) (hm : MW y cc' nL' 1 n false) (hl' : LK own idx y) (hci : vwCl[ci]? = some (y.cls, T, N)) (ho : K[o]? = some (.inl ci)) (hc : MC l K P y cc' nL' 1 d' (.inr (.inr o) :: as) σ F) (hd' : d' < d) (hn : as.length = n) (hstk : stk = as.reverse ++ .inr (.inr o) :: st) (hsw : stw st ≤ 8) (hd : decode cc pc = .ok (.invokevirtual idx, 3)) (kk : ∀ r σ1, G l K P own cc nL rt d (pc + 3) lv (.inr (.inl r) :: st) σ1 (B r σ1)) : G l K P own cc nL rt d pc lv stk σ (bd F B) := g_callv hm hl' hci ho hc hd' hn hstk hsw hd kk
theorem g_calls2 {y : MethodName} {cc' : ByteArray} {nL' d' n idx : Nat} {as stk : List Pv} {F : Rs} {B : Int → Sg → Rs} (hm : MW y cc' nL' 2 n true) (hl' : LK own idx y) (hc : MC l K P y cc' nL' 2 d' as σ F) (hd' : d' < d) (hn : as.length = n) (hstk : stk = as.reverse ++ st) (hsw : stw st ≤ 8) (hd : decode cc pc = .ok (.invokestatic idx, 3)) (kk : ∀ r σ1, G l K P own cc nL rt d (pc + 3) lv st σ1 (B r σ1)) : G l K P own cc nL rt d pc lv stk σ (bd F B) := g_calls hm hl' hc hd' hn hstk hsw hd kk
theorem g_callv2 {y : MethodName} {cc' : ByteArray} {nL' d' n idx o : Nat} {as stk : List Pv} {F : Rs} {B : Int → Sg → Rs} {T : u_T} {N : Nat} (ci : Nat) (hm : MW y cc' nL' 2 n false) (hl' : LK own idx y) (hci : vwCl[ci]? = some (y.cls, T, N)) (ho : K[o]? = some (.inl ci)) (hc : MC l K P y cc' nL' 2 d' (.inr (.inr o) :: as) σ F) (hd' : d' < d) (hn : as.length = n) (hstk : stk = as.reverse ++ .inr (.inr o) :: st) (hsw : stw st ≤ 8) (hd : decode cc pc = .ok (.invokevirtual idx, 3)) (kk : ∀ r σ1, G l K P own cc nL rt d (pc + 3) lv st σ1 (B r σ1)) : G l K P own cc nL rt d pc lv stk σ (bd F B) := g_callv hm hl' hci ho hc hd' hn hstk hsw hd kk
theorem g_calls3 {y : MethodName} {cc' : ByteArray} {nL' d' n idx : Nat} {as stk : List Pv} {F : Rs} {B : Int → Sg → Rs} (hm : MW y cc' nL' 3 n true) (hl' : LK own idx y) (hc : MC l K P y cc' nL' 3 d' as σ F) (hd' : d' < d) (hn : as.length = n) (hstk : stk = as.reverse ++ st) (hsw : stw st ≤ 8) (hd : decode cc pc = .ok (.invokestatic idx, 3)) (kk : ∀ r σ1, G l K P own cc nL rt d (pc + 3) lv (.inl r :: st) σ1 (B r σ1)) : G l K P own cc nL rt d pc lv stk σ (bd F B) := g_calls hm hl' hc hd' hn hstk hsw hd kk
theorem g_callv3 {y : MethodName} {cc' : ByteArray} {nL' d' n idx o : Nat} {as stk : List Pv} {F : Rs} {B : Int → Sg → Rs} {T : u_T} {N : Nat} (ci : Nat) (hm : MW y cc' nL' 3 n false) (hl' : LK own idx y) (hci : vwCl[ci]? = some (y.cls, T, N)) (ho : K[o]? = some (.inl ci)) (hc : MC l K P y cc' nL' 3 d' (.inr (.inr o) :: as) σ F) (hd' : d' < d) (hn : as.length = n) (hstk : stk = as.reverse ++ .inr (.inr o) :: st) (hsw : stw st ≤ 8) (hd : decode cc pc = .ok (.invokevirtual idx, 3)) (kk : ∀ r σ1, G l K P own cc nL rt d (pc + 3) lv (.inl r :: st) σ1 (B r σ1)) : G l K P own cc nL rt d pc lv stk σ (bd F B) := g_callv hm hl' hci ho hc hd' hn hstk hsw hd kk
end GC
theorem tm (i : Nat) {w : Cond} (h : lw_tbl[i]? = some w) (ho : ok_w w = true) : w ∈ tbf := List.mem_filter.mpr ⟨List.mem_of_getElem? h, ho⟩
