/-! MY OWN FRAME: contracts of methods that make no cells, with a post-predicate of the caller's choice. -/
/-- a truth value as the machine has it -/
def bI : Bool → Int32
  | true => 1
  | false => 0
theorem bI_0 {b : Bool} (h : bI b = 0) : b = false := by cases b; rfl; exact absurd h (by decide)
theorem bI_1 {b : Bool} (h : ¬ bI b = 0) : b = true := by cases b; exact absurd rfl h; rfl
theorem bI_nar (b : Bool) : narrow .boolean (.int (bI b)) = .int (bI b) := by cases b <;> decide
/-- the fields of nest mates that the system's code names -/
def NW (U : State) : Prop := ∀ q ∈ nwF, va_Nw (.fieldLinkNest q.1 q.2.1 q.2.2.1 q.2.2.2.1 q.2.2.2.2.1 q.2.2.2.2.2) U
theorem NW.warm {s U : State} (h : NW s) (hW : s.WarmedH U.vm) : NW U := fun q hq => va_Nw.warmF hW (h q hq)
theorem NW.same {s U : State} (h : NW s) (hv : s.vm = U.vm) : NW U := fun q hq => va_Nw.same rfl hv (h q hq)
theorem NW.get {s : State} {args : Array Value} (h : NW s) (k : Nat) {a : String} {i : Nat} {b n d o : String} (hk : nwF[k]? = some (a, i, b, n, d, o)) : (Cond.fieldLinkNest a i b n d o).before args s = true := va_Nw.use rfl (h _ (List.mem_of_getElem? hk))
/-- a room for recursion to depth d -/
def rmR (d : Nat) : Room := { frames := d + 2, cells := 0, slots := 0, locals := 60 * d + 60 }
/-- an int method over the world wc: the answer r and the new values u with post r u -/
def MI {S : Type} (l : Launch) (y : MethodName) (ws : List Cond) (rm : Room) (D : va_G) (tys : List (ClassId × FieldType)) (av : List Value) (wc : va_W) (post : Int32 → S → Prop) (w1 : S → va_W) : Prop :=
  ∀ sz : Nat, Met l y ws rm (va_Pc av (fun U => U.heap.size = sz ∧ va_P D vwCl wc U.heap ∧ va_K D vwCl tys U ∧ va_D (fun _ => True) wc ∧ NW U)) (va_Qi post (fun u t => va_P D vwCl (w1 u) t.heap ∧ va_D (va_A wc sz) (w1 u)) (va_A wc sz)) 0 0 (va_A wc sz)
def MV {S : Type} (l : Launch) (y : MethodName) (ws : List Cond) (rm : Room) (D : va_G) (tys : List (ClassId × FieldType)) (av : List Value) (wc : va_W) (post : S → Prop) (w1 : S → va_W) : Prop :=
  ∀ sz : Nat, Met l y ws rm (va_Pc av (fun U => U.heap.size = sz ∧ va_P D vwCl wc U.heap ∧ va_K D vwCl tys U ∧ va_D (fun _ => True) wc ∧ NW U)) (va_Qv post (fun u t => va_P D vwCl (w1 u) t.heap ∧ va_D (va_A wc sz) (w1 u)) (va_A wc sz)) 0 0 (va_A wc sz)
/-- a boolean method -/
def MB {S : Type} (l : Launch) (y : MethodName) (ws : List Cond) (rm : Room) (D : va_G) (tys : List (ClassId × FieldType)) (av : List Value) (wc : va_W) (post : Bool → S → Prop) (w1 : S → va_W) : Prop :=
  MI l y ws rm D tys av wc (fun r u => ∃ b : Bool, r = bI b ∧ post b u) w1
section MYF
variable {S : Type} {l : Launch} {y : MethodName} {ws ws' : List Cond} {rm : Room} {D : va_G} {tys : List (ClassId × FieldType)} {av : List Value} {wc : va_W} {w1 : S → va_W} {cc : ByteArray} {maxL : Nat}
theorem MI.of {post : Int32 → S → Prop} (hy : plainName y.cls = true) (hw : ws = Cond.code y cc maxL (some .int) :: ws') (hn : (lg_sl av).length ≤ maxL)
    (body : ∀ (p : Program) (e : Env) (s : State) (m : MethodId) (args : Array Value) (below : List Frame) (meth : Method) (c : Code) (A : Nat → Prop) (QQ : State → Prop) (ls : Array Slot), p.tables.exec = Jvm.exec → c.code = cc → c.maxLocals = maxL → s.vm.findClass y.cls = some m.cls → (∀ w ∈ ws, w.before args s = true) → (∀ q : Nat, s.heap.size ≤ q → A q) → va_K D vwCl tys s → va_P D vwCl wc s.heap → va_D A wc → va_S A s.heap s.heap [] → NW s →
      (∀ (pc : Nat) (ls : Array Slot) (H : Heap) (locs : List Loc) (r : Int32) (u : S), decode cc pc = .ok (.ireturn, 1) → post r u → va_P D vwCl (w1 u) H → va_D A (w1 u) → va_S A s.heap H locs → W p l e rm s m args below meth c H locs 0 0 QQ (F0 m pc ls [.int r])) →
      lv_has ls maxL (lv_args 0 av) → W p l e rm s m args below meth c s.heap [] 0 0 QQ (F0 m 0 ls [])) : MI l y ws rm D tys av wc post w1 := by
  intro sz
  refine Met.ofW (cc := cc) (maxL := maxL) (ret := some .int) hy hw ?_
  intro p e s m args below meth c s₁ B hml hv
  obtain ⟨rfl, hsz, hP, hK, hD0, hNW⟩ := hv
  have hts := atoms_spec (ws := ws) B.pre
  have hown : s.vm.findClass y.cls = some m.cls := findClass_of_methodNamed B.named
  have hlocks := B.notSynchronized
  have hr := B.returns
  have hx := B.exec
  have hb := B.bytes
  subst hsz
  have hl := lv_entry av (n := maxL) hn
  rw [lg_entry_eq]
  refine body p e s m av.toArray below meth c (va_A wc s.heap.size) _ _ hx hb hml hown hts (fun q h => Or.inr h) hK hP (hD0.self (sz := s.heap.size)) va_S.rf hNW ?_ hl
  intro pc ls H locs r u hdg hp hP1 hD1 hS
  exact W.iret (v := r) hx hb hr (fun t ht _ => ⟨⟨r, u, rfl, hp, by rw [ht]; exact hP1, hD1⟩, hS.F ht⟩) hS.2.2 hdg
theorem MB.of {post : Bool → S → Prop} (hy : plainName y.cls = true) (hw : ws = Cond.code y cc maxL (some .boolean) :: ws') (hn : (lg_sl av).length ≤ maxL)
    (body : ∀ (p : Program) (e : Env) (s : State) (m : MethodId) (args : Array Value) (below : List Frame) (meth : Method) (c : Code) (A : Nat → Prop) (QQ : State → Prop) (ls : Array Slot), p.tables.exec = Jvm.exec → c.code = cc → c.maxLocals = maxL → s.vm.findClass y.cls = some m.cls → (∀ w ∈ ws, w.before args s = true) → (∀ q : Nat, s.heap.size ≤ q → A q) → va_K D vwCl tys s → va_P D vwCl wc s.heap → va_D A wc → va_S A s.heap s.heap [] → NW s →
      (∀ (pc : Nat) (ls : Array Slot) (H : Heap) (locs : List Loc) (r : Bool) (u : S), decode cc pc = .ok (.ireturn, 1) → post r u → va_P D vwCl (w1 u) H → va_D A (w1 u) → va_S A s.heap H locs → W p l e rm s m args below meth c H locs 0 0 QQ (F0 m pc ls [.int (bI r)])) →
      lv_has ls maxL (lv_args 0 av) → W p l e rm s m args below meth c s.heap [] 0 0 QQ (F0 m 0 ls [])) : MB l y ws rm D tys av wc post w1 := by
  intro sz
  refine Met.ofW (cc := cc) (maxL := maxL) (ret := some .boolean) hy hw ?_
  intro p e s m args below meth c s₁ B hml hv
  obtain ⟨rfl, hsz, hP, hK, hD0, hNW⟩ := hv
  have hts := atoms_spec (ws := ws) B.pre
  have hown : s.vm.findClass y.cls = some m.cls := findClass_of_methodNamed B.named
  have hlocks := B.notSynchronized
  have hr := B.returns
  have hx := B.exec
  have hb := B.bytes
  subst hsz
  have hl := lv_entry av (n := maxL) hn
  rw [lg_entry_eq]
  refine body p e s m av.toArray below meth c (va_A wc s.heap.size) _ _ hx hb hml hown hts (fun q h => Or.inr h) hK hP (hD0.self (sz := s.heap.size)) va_S.rf hNW ?_ hl
  intro pc ls H locs r u hdg hp hP1 hD1 hS
  exact W.zret (v := bI r) hx hb hr (bI_nar r) (fun t ht _ => ⟨⟨bI r, u, rfl, ⟨r, rfl, hp⟩, by rw [ht]; exact hP1, hD1⟩, hS.F ht⟩) hS.2.2 hdg
theorem MV.of {post : S → Prop} (hy : plainName y.cls = true) (hw : ws = Cond.code y cc maxL none :: ws') (hn : (lg_sl av).length ≤ maxL)
    (body : ∀ (p : Program) (e : Env) (s : State) (m : MethodId) (args : Array Value) (below : List Frame) (meth : Method) (c : Code) (A : Nat → Prop) (QQ : State → Prop) (ls : Array Slot), p.tables.exec = Jvm.exec → c.code = cc → c.maxLocals = maxL → s.vm.findClass y.cls = some m.cls → (∀ w ∈ ws, w.before args s = true) → (∀ q : Nat, s.heap.size ≤ q → A q) → va_K D vwCl tys s → va_P D vwCl wc s.heap → va_D A wc → va_S A s.heap s.heap [] → NW s →
      (∀ (pc : Nat) (ls : Array Slot) (H : Heap) (locs : List Loc) (u : S), decode cc pc = .ok (.return_, 1) → post u → va_P D vwCl (w1 u) H → va_D A (w1 u) → va_S A s.heap H locs → W p l e rm s m args below meth c H locs 0 0 QQ (F0 m pc ls [])) →
      lv_has ls maxL (lv_args 0 av) → W p l e rm s m args below meth c s.heap [] 0 0 QQ (F0 m 0 ls [])) : MV l y ws rm D tys av wc post w1 := by
  intro sz
  refine Met.ofW (cc := cc) (maxL := maxL) (ret := none) hy hw ?_
  intro p e s m args below meth c s₁ B hml hv
  obtain ⟨rfl, hsz, hP, hK, hD0, hNW⟩ := hv
  have hts := atoms_spec (ws := ws) B.pre
  have hown : s.vm.findClass y.cls = some m.cls := findClass_of_methodNamed B.named
  have hlocks := B.notSynchronized
  have hr := B.returns
  have hx := B.exec
  have hb := B.bytes
  subst hsz
  have hl := lv_entry av (n := maxL) hn
  rw [lg_entry_eq]
  refine body p e s m av.toArray below meth c (va_A wc s.heap.size) _ _ hx hb hml hown hts (fun q h => Or.inr h) hK hP (hD0.self (sz := s.heap.size)) va_S.rf hNW ?_ hl
  intro pc ls H locs u hdg hp hP1 hD1 hS
  exact W.vret hx hb hr (fun t ht _ => ⟨⟨u, rfl, hp, by rw [ht]; exact hP1, hD1⟩, hS.F ht⟩) hS.2.2 hdg
end MYF
section MYC
variable {S : Type} {p : Program} {l : Launch} {e : Env} {R : Room} {s : State} {m : MethodId} {args : Array Value} {below : List Frame} {meth : Method} {c : Code} {H : Heap} {locs : List Loc} {cells slots : Nat} {Q : State → Prop}
  {Ts ws : List Cond} {cc bytes : ByteArray} {nL maxL index n : Nat} {own C : String} {y : MethodName} {ret : Option FieldType} {rm : Room} {b : Addr} {As rest st : List Value} {D : va_G} {tys : List (ClassId × FieldType)} {ww wc wr : va_W} {w1 : S → va_W} {A : Nat → Prop} {pc : Nat} {ls : Array Slot}
theorem fblind {av : List Value} {wc : va_W} {sz : Nat} : FrameBlind (va_Pc av (fun U => U.heap.size = sz ∧ va_P D vwCl wc U.heap ∧ va_K D vwCl tys U ∧ va_D (fun _ => True) wc ∧ NW U)) := fun a U g mk q => by
  obtain ⟨q0, q1, qP, qK, qD, qN⟩ := q
  exact ⟨q0, q1, qP, va_K.moved (u := U) (U := U.calling g mk a) (Vm.Alike.refl U.vm) qK, qD, qN.same rfl⟩
/-- what a caller's world gives its callee, and what comes back -/
theorem MI.callV {post : Int32 → S → Prop} (hM : MI l y ws rm D tys (.ref b :: As) wc post w1) (F : CallFix p m c cc nL s args Ts own) (cw : CallW R s args own C index y bytes maxL ret ws rm 0 0 n) (hK : va_K D vwCl tys s) (hP : va_P D vwCl ww H) (hD : va_D A ww) (hS : va_S A s.heap H locs) (hA : ∀ q : Nat, s.heap.size ≤ q → A q) (hNW : NW s)
    (isC isR : List Nat) (hC : isC.map (fun i => ww[i]?) = wc.map some) (hR : isR.map (fun i => ww[i]?) = wr.map some) (hn : va_nd isC = true) (hn2 : va_nd isR = true) (hdis : ∀ i ∈ isR, i ∉ isC) {ci q0 : Nat} {q : vw_C} {fs : List Value} (hc : vwCl[ci]? = some q) (hq : q.1 = C) (he : wc[q0]? = some (b, .inr (ci, fs))) (hlen : As.length = n) (hl : ls.size = nL)
    (hst : st = As.reverse ++ .ref b :: rest) (hroom : (rest.map fun v => v.category).sum ≤ 8) (hdg : decode cc pc = .ok (.invokevirtual index, 3)) (hf : cells ≤ R.cells ∧ slots ≤ R.slots)
    (kk : ∀ (r : Int32) (u : S) (H1 : Heap) (locs1 : List Loc), post r u → va_P D vwCl (wr ++ w1 u) H1 → va_D A (wr ++ w1 u) → va_S A s.heap H1 locs1 → W p l e R s m args below meth c H1 locs1 cells slots Q (F0 m (pc + 3) ls (.int r :: rest))) : W p l e R s m args below meth c H locs cells slots Q (F0 m pc ls st) := by
  subst hq
  subst hst
  have hDc := hD.sub (ws' := wc) isC hn hC
  have hPc : va_P D vwCl wc H := by
    intro k x hx
    have h1 : (isC.map (fun i => ww[i]?))[k]? = some (some x) := by rw [hC, List.getElem?_map, hx]; rfl
    rw [List.getElem?_map] at h1
    cases hi : isC[k]? with
    | none => rw [hi] at h1; cases h1
    | some i => rw [hi] at h1; exact hP i x (Option.some.inj h1)
  have hFc := va_free (wc := wc) hD hS hA isC hC
  exact va_calli (va_runV (As := As) (rest := rest) F (hM H.size) cw ⟨fblind, va_recv hK hPc hc he, fun U hU hW => ⟨rfl, by rw [hU], by rw [hU]; exact hPc, va_K.moved hW.alike hK, hDc.weaken (fun _ _ _ _ => trivial), hNW.warm hW⟩⟩ rfl hlen hl rfl (lv_room hroom) hdg ⟨hf.1, hf.2⟩) hS (fun q _ h => hFc q h) hFc (fun r u t H1 locs1 ht hvm hw hB hz1 hk1 hS1 => by
    obtain ⟨hP1, hD1⟩ := hB
    rw [ht] at hP1
    obtain ⟨hP2, hD2⟩ := va_join (wr := wr) (w1 := w1 u) hP hD isC isR hC hR hn2 hdis hk1 hFc hP1 hD1
    exact kk r u H1 locs1 hw hP2 hD2 hS1)
theorem MV.callV {post : S → Prop} (hM : MV l y ws rm D tys (.ref b :: As) wc post w1) (F : CallFix p m c cc nL s args Ts own) (cw : CallW R s args own C index y bytes maxL ret ws rm 0 0 n) (hK : va_K D vwCl tys s) (hP : va_P D vwCl ww H) (hD : va_D A ww) (hS : va_S A s.heap H locs) (hA : ∀ q : Nat, s.heap.size ≤ q → A q) (hNW : NW s)
    (isC isR : List Nat) (hC : isC.map (fun i => ww[i]?) = wc.map some) (hR : isR.map (fun i => ww[i]?) = wr.map some) (hn : va_nd isC = true) (hn2 : va_nd isR = true) (hdis : ∀ i ∈ isR, i ∉ isC) {ci q0 : Nat} {q : vw_C} {fs : List Value} (hc : vwCl[ci]? = some q) (hq : q.1 = C) (he : wc[q0]? = some (b, .inr (ci, fs))) (hlen : As.length = n) (hl : ls.size = nL)
    (hst : st = As.reverse ++ .ref b :: rest) (hroom : (rest.map fun v => v.category).sum ≤ 8) (hdg : decode cc pc = .ok (.invokevirtual index, 3)) (hf : cells ≤ R.cells ∧ slots ≤ R.slots)
    (kk : ∀ (u : S) (H1 : Heap) (locs1 : List Loc), post u → va_P D vwCl (wr ++ w1 u) H1 → va_D A (wr ++ w1 u) → va_S A s.heap H1 locs1 → W p l e R s m args below meth c H1 locs1 cells slots Q (F0 m (pc + 3) ls rest)) : W p l e R s m args below meth c H locs cells slots Q (F0 m pc ls st) := by
  subst hq
  subst hst
  have hDc := hD.sub (ws' := wc) isC hn hC
  have hPc : va_P D vwCl wc H := by
    intro k x hx
    have h1 : (isC.map (fun i => ww[i]?))[k]? = some (some x) := by rw [hC, List.getElem?_map, hx]; rfl
    rw [List.getElem?_map] at h1
    cases hi : isC[k]? with
    | none => rw [hi] at h1; cases h1
    | some i => rw [hi] at h1; exact hP i x (Option.some.inj h1)
  have hFc := va_free (wc := wc) hD hS hA isC hC
  exact va_callv (va_runV (As := As) (rest := rest) F (hM H.size) cw ⟨fblind, va_recv hK hPc hc he, fun U hU hW => ⟨rfl, by rw [hU], by rw [hU]; exact hPc, va_K.moved hW.alike hK, hDc.weaken (fun _ _ _ _ => trivial), hNW.warm hW⟩⟩ rfl hlen hl rfl (lv_room hroom) hdg ⟨hf.1, hf.2⟩) hS (fun q _ h => hFc q h) hFc (fun u t H1 locs1 ht hvm hw hB hz1 hk1 hS1 => by
    obtain ⟨hP1, hD1⟩ := hB
    rw [ht] at hP1
    obtain ⟨hP2, hD2⟩ := va_join (wr := wr) (w1 := w1 u) hP hD isC isR hC hR hn2 hdis hk1 hFc hP1 hD1
    exact kk u H1 locs1 hw hP2 hD2 hS1)
theorem MI.callS {post : Int32 → S → Prop} (hM : MI l y ws rm D tys As wc post w1) (F : CallFix p m c cc nL s args Ts own) (cw : CallB R s args own index y bytes maxL ret ws rm 0 0 n ∧ (Cond.static y).before args s = true) (hK : va_K D vwCl tys s) (hP : va_P D vwCl ww H) (hD : va_D A ww) (hS : va_S A s.heap H locs) (hA : ∀ q : Nat, s.heap.size ≤ q → A q) (hNW : NW s)
    (isC isR : List Nat) (hC : isC.map (fun i => ww[i]?) = wc.map some) (hR : isR.map (fun i => ww[i]?) = wr.map some) (hn : va_nd isC = true) (hn2 : va_nd isR = true) (hdis : ∀ i ∈ isR, i ∉ isC) (hlen : As.length = n) (hl : ls.size = nL)
    (hst : st = As.reverse ++ rest) (hroom : (rest.map fun v => v.category).sum ≤ 8) (hdg : decode cc pc = .ok (.invokestatic index, 3)) (hf : cells ≤ R.cells ∧ slots ≤ R.slots)
    (kk : ∀ (r : Int32) (u : S) (H1 : Heap) (locs1 : List Loc), post r u → va_P D vwCl (wr ++ w1 u) H1 → va_D A (wr ++ w1 u) → va_S A s.heap H1 locs1 → W p l e R s m args below meth c H1 locs1 cells slots Q (F0 m (pc + 3) ls (.int r :: rest))) : W p l e R s m args below meth c H locs cells slots Q (F0 m pc ls st) := by
  subst hst
  have hDc := hD.sub (ws' := wc) isC hn hC
  have hPc : va_P D vwCl wc H := by
    intro k x hx
    have h1 : (isC.map (fun i => ww[i]?))[k]? = some (some x) := by rw [hC, List.getElem?_map, hx]; rfl
    rw [List.getElem?_map] at h1
    cases hi : isC[k]? with
    | none => rw [hi] at h1; cases h1
    | some i => rw [hi] at h1; exact hP i x (Option.some.inj h1)
  have hFc := va_free (wc := wc) hD hS hA isC hC
  exact va_calli (va_runS (As := As) (rest := rest) F (hM H.size) cw ⟨fblind, fun U hU hW => ⟨rfl, by rw [hU], by rw [hU]; exact hPc, va_K.moved hW.alike hK, hDc.weaken (fun _ _ _ _ => trivial), hNW.warm hW⟩⟩ rfl hlen hl rfl (lv_room hroom) hdg ⟨hf.1, hf.2⟩) hS (fun q _ h => hFc q h) hFc (fun r u t H1 locs1 ht hvm hw hB hz1 hk1 hS1 => by
    obtain ⟨hP1, hD1⟩ := hB
    rw [ht] at hP1
    obtain ⟨hP2, hD2⟩ := va_join (wr := wr) (w1 := w1 u) hP hD isC isR hC hR hn2 hdis hk1 hFc hP1 hD1
    exact kk r u H1 locs1 hw hP2 hD2 hS1)
theorem sw_in {x k : Int32} (ek : x = k) {dflt lo hi : Int} {offs : Array Int} {len : Nat} {off : Int} {tgt : Nat} (hx : p.tables.exec = Jvm.exec) (hb : c.code = cc) (hdg : decode cc pc = .ok (.tableswitch dflt lo hi offs, len)) (h1 : ¬ k.toInt < lo) (h2 : ¬ hi < k.toInt) (ho : offs[(k.toInt - lo).toNat]? = some off) (ht : (pc : Int) + off = (tgt : Int))
    (kk : W p l e R s m args below meth c H locs cells slots Q (F0 m tgt ls rest)) : W p l e R s m args below meth c H locs cells slots Q (F0 m pc ls (.int x :: rest)) := by
  subst ek
  exact lv_tableIn hx hb hdg h1 h2 ho ht kk
/-- a world told in another order, or a part of it -/
theorem reP {D : va_G} {cl : List vw_C} {ws ws' : va_W} {H : Heap} (h : va_P D cl ws H) (is : List Nat) (hs : is.map (fun i => ws[i]?) = ws'.map some) : va_P D cl ws' H := by
  intro k x hx
  have h1 : (is.map (fun i => ws[i]?))[k]? = some (some x) := by rw [hs, List.getElem?_map, hx]; rfl
  rw [List.getElem?_map] at h1
  cases hi : is[k]? with
  | none => rw [hi] at h1; cases h1
  | some i => rw [hi] at h1; exact h i x (Option.some.inj h1)
end MYC
