theorem nv_join {A : Nat → Prop} {D : va_G} {wr w1 : va_W} {b : Nat} {e : va_E} {H H1 : Heap} (hP : va_P D vwCl (wr ++ [(b, e)]) H) (hD : va_D A (wr ++ [(b, e)])) (hk : ∀ q : Nat, q < H.size → ¬ va_A [(b, e)] H.size q → H1[q]? = H[q]?) (hF : ∀ q, va_A [(b, e)] H.size q → A q) (hP1 : va_P D vwCl w1 H1) (hD1 : va_D (va_A [(b, e)] H.size) w1) : va_P D vwCl (wr ++ w1) H1 ∧ va_D A (wr ++ w1) := by
  have up : ∀ (k : Nat) (q : Nat × va_E), wr[k]? = some q → (wr ++ [(b, e)])[k]? = some q := fun k q hq => by
    rw [List.getElem?_append_left (List.getElem?_eq_some_iff.mp hq).1]
    exact hq
  have hb : (wr ++ [(b, e)])[wr.length]? = some (b, e) := by
    rw [List.getElem?_append_right (Nat.le_refl _), Nat.sub_self]
    rfl
  have apart : ∀ (k : Nat) (q : Nat × va_E), wr[k]? = some q → q.1 < H.size ∧ ¬ va_A [(b, e)] H.size q.1 := by
    intro k q hq
    have hlt := (hP k q (up k q hq)).lt
    refine ⟨hlt, fun z => ?_⟩
    rcases z with ⟨k2, e2, z⟩ | z
    · have : k2 < 1 := (List.getElem?_eq_some_iff.mp z).1
      rw [show k2 = 0 by omega] at z
      have z : (b, e) = (q.1, e2) := Option.some.inj z
      have hkl := (List.getElem?_eq_some_iff.mp hq).1
      have := hD.1 k wr.length q (b, e) (up k q hq) hb (by rw [show b = q.1 from congrArg Prod.fst z])
      omega
    · omega
  have hP0 : va_P D vwCl wr H := fun k q hq => hP k q (up k q hq)
  refine ⟨(hP0.kept (fun k x hx => hk x.1 (apart k x hx).1 (apart k x hx).2)).app hP1, fun i j p q hi hj epq => ?_, fun k q hq => ?_⟩
  · rcases Nat.lt_or_ge i wr.length with ci | ci
    · rw [List.getElem?_append_left ci] at hi
      rcases Nat.lt_or_ge j wr.length with cj | cj
      · rw [List.getElem?_append_left cj] at hj
        exact hD.1 i j p q (up i p hi) (up j q hj) epq
      · rw [List.getElem?_append_right cj] at hj
        exact absurd (by rw [epq]; exact hD1.2 _ q hj) (apart i p hi).2
    · rw [List.getElem?_append_right ci] at hi
      rcases Nat.lt_or_ge j wr.length with cj | cj
      · rw [List.getElem?_append_left cj] at hj
        exact absurd (by rw [← epq]; exact hD1.2 _ p hi) (apart j q hj).2
      · rw [List.getElem?_append_right cj] at hj
        have := hD1.1 _ _ p q hi hj epq
        omega
  · rcases Nat.lt_or_ge k wr.length with ck | ck
    · rw [List.getElem?_append_left ck] at hq
      exact hD.2 k q (up k q hq)
    · rw [List.getElem?_append_right ck] at hq
      exact hF q.1 (hD1.2 _ q hq)
theorem nv_entry {d mc ms : Nat} {M : ZM} {as : List Value} {e : va_E} {Q : (Nat → ClassId) → Nat → va_W → Prop} (hy : plainName M.1.cls = true) (hnm : M.1.name = "<init>") (hlen : ∀ b : Nat, (lg_sl (Value.ref b :: as)).length ≤ M.2.2.1)
    (k : ∀ (D : va_G) (K : Nat → ClassId) (A : Nat → Prop) (b : Nat), NvAt d mc ms D K A M 0 (lv_args 0 (.ref b :: as)) [] 0 0 [(b, e)] (Q K b)) : NvCall d mc ms M as e Q := by
  intro l D K b sz
  refine Met.ofW (cc := M.2.1) (maxL := M.2.2.1) (ret := M.2.2.2) hy rfl ?_
  intro p e' s m args below meth c s₁ B hml hv
  obtain ⟨rfl, hsz, hP, hK⟩ := hv
  subst hsz
  have hts := atoms_spec (ws := zwsM M) B.pre
  have hown : s.vm.findClass M.1.cls = some m.cls := findClass_of_methodNamed B.named
  have hl := lv_entry (.ref b :: as) (n := M.2.2.1) (hlen b)
  rw [lg_entry_eq]
  refine k D K (va_A [(b, e)] s.heap.size) b p l e' s m _ below meth c s.heap [] _ ⟨B.exec, B.bytes, B.returns, hml, hts, hown, B.notSynchronized, ((name_of_methodNamed B.named B.method).1).trans hnm, hK, fun q h => Or.inr h⟩ hP ⟨fun i j p q hi hj _ => ?_, fun k q hq => va_A.in hq⟩ va_S.rf hl
  have h1 : i < 1 := (List.getElem?_eq_some_iff.mp hi).1
  have h2 : j < 1 := (List.getElem?_eq_some_iff.mp hj).1
  omega
/-- a constructor that may be called -/
def nCv (N : ZM) (n : Nat) : Prop := Cond.code N.1 N.2.1 N.2.2.1 N.2.2.2 ∈ WS ∧ Cond.instanceMethod N.1 ∈ WS ∧ Cond.initialized N.1.cls ∈ WS ∧ N.1.name = "<init>" ∧ N.2.2.2 = none ∧ (N.1.cls ≠ "java/lang/invoke/MethodHandle" ∧ N.1.cls ≠ "java/lang/invoke/VarHandle" ∧ (parseMethodDescriptor N.1.desc).map (fun d => d.parameters.length) = some n) ∧ N.2.2.1 ≤ 20
theorem nv_call {d mc ms dc mcc msc : Nat} {D : va_G} {K : Nat → ClassId} {A : Nat → Prop} {M N : ZM} {pc : Nat} {lv : List (Nat × Value)} {st as stk : List Value} {cl sl idx n b : Nat} {wr : va_W} {e0 : va_E} {Q : va_W → Prop} {Q0 : (Nat → ClassId) → Nat → va_W → Prop} (hv : nCv N n) (hlk : Cond.methodLink M.1.cls idx N.1 ∈ WS) (hn : as.length = n) (hst : stk = as.reverse ++ .ref b :: st) (hcat : (st.map fun v => v.category).sum ≤ 8) (hdc : dc + 1 = d) (h1 : cl + mcc ≤ mc) (h2 : sl + msc ≤ ms) (hd : decode M.2.1 pc = .ok (.invokespecial idx, 3)) (C : NvCall dc mcc msc N as e0 Q0)
    (kk : ∀ w1, Q0 K b w1 → NvAt d mc ms D K A M (pc + 3) lv st (cl + mcc) (sl + msc) (wr ++ w1) Q) : NvAt d mc ms D K A M pc lv stk cl sl (wr ++ [(b, e0)]) Q := by
  intro p l e s m args below meth c H locs ls B hP hD hS hl
  subst hdc
  obtain ⟨hN, hw2, hw3, hnm, hret, hds, hnl⟩ := hv
  have hmem : ∀ w ∈ zwsM N, ∀ (a' : Array Value) (U : State), s.WarmedH U.vm → w.before a' U = true := fun w hw' a' U hW => by
    obtain ⟨g1, g2⟩ := zgoodIn M N hN w hw'
    exact word_at hW g2 (B.2.2.2.2.1 w g1)
  have cw : CallB (rmN (dc + 1) mc ms) s args M.1.cls idx N.1 N.2.1 N.2.2.1 none (zwsM N) (rmN dc mcc msc) mcc msc n ∧ N.1.name = "<init>" ∧ (Cond.instanceMethod N.1).before args s = true := ⟨⟨rfl, rfl, Nat.le_refl _, by show 8 + (N.2.2.1 + 11) + 60 * dc ≤ 60 * (dc + 1); omega, hmem, by have := List.mem_cons_self (a := Cond.code N.1 N.2.1 N.2.2.1 N.2.2.2) (l := WS); rw [hret] at this; unfold zwsM; rw [hret]; exact this, by have := nts B hN; rw [hret] at this; exact this, nts B hw3, ⟨hds.1, hds.2.1⟩, fun sig hs => by
      have h3 := hds.2.2
      rw [hs] at h3
      exact (Option.some.inj h3).symm, nts B hlk⟩, hnm, nts B hw2⟩
  have hb : (wr ++ [(b, e0)])[wr.length]? = some (b, e0) := by
    rw [List.getElem?_append_right (Nat.le_refl _), Nat.sub_self]
    rfl
  have hPc : va_P D vwCl [(b, e0)] H := fun k q hq => by
    have h9 : k < 1 := (List.getElem?_eq_some_iff.mp hq).1
    rw [show k = 0 by omega] at hq
    exact hP wr.length q (hb.trans hq)
  have hF : ∀ q, va_A [(b, e0)] H.size q → A q := by
    rintro q (⟨k2, e2, z⟩ | z)
    · have h9 : k2 < 1 := (List.getElem?_eq_some_iff.mp z).1
      rw [show k2 = 0 by omega] at z
      have z : (b, e0) = (q, e2) := Option.some.inj z
      rw [show q = b from (congrArg Prod.fst z).symm]
      exact hD.2 wr.length (b, e0) hb
    · exact B.2.2.2.2.2.2.2.2.2 q (Nat.le_trans hS.1 z)
  refine va_callv (va_runI (p := p) (e := e) (below := below) (meth := meth) (locs := locs) (cells := cl) (slots := sl) (As := as) (rest := st) (g := F0 m pc ls stk) ⟨B.1, B.2.1, B.2.2.2.1, B.2.2.2.2.2.1, B.2.2.2.2.1⟩ (C l D K b H.size) cw ⟨fun a U g mk q => by obtain ⟨q0, q1, qP, qK⟩ := q; exact ⟨q0, q1, qP, nK.moved (u := U) (U := U.calling g mk a) (Vm.Alike.refl U.vm) qK⟩, fun U hU hW => ⟨rfl, by rw [hU], by rw [hU]; exact hPc, nK.moved hW.alike B.2.2.2.2.2.2.2.2.1⟩⟩ rfl hn hl.1 hst (lv_room hcat) hd ⟨h1, h2⟩) hS (fun q _ z => hF q z) hF (fun u t H1 locs1 ht hvm hpost hB hsz hk hS1 => ?_)
  obtain ⟨hP1, hD1⟩ := hB
  rw [ht] at hP1
  obtain ⟨hP2, hD2⟩ := nv_join hP hD hk hF hP1 hD1
  exact kk u hpost p l e s m args below meth c H1 locs1 ls B hP2 hD2 hS1 hl
