def R_law : String := "RebuildDeskLaw"
def lw_P (b : Addr) (xs : List Int32) (args : Array Value) (s : State) : Prop := args = #[.ref b] ∧ s.IntsAt b xs ∧ xs.length ≤ 1536 ∧ (Jvm.Cond.and given_1 narrow_1).before args s = true
def lw_Q (_ : Array Value) (s : State) (o : Outcome) (t : State) : Prop := o = .returned (some (.int 1)) ∧ Framed s o t [] 1077 10360
def lw_Z (below : List Frame) (a : Array Value) (s : State) : State → Prop := fun t => ∃ o, t.status = .running ∧ Ended t below o ∧ lw_Q a s o t
theorem lw_ret {p : Program} {l : Launch} {e : Env} {s : State} {m : MethodId} {below : List Frame} {meth : Method} {c : Code} {b : Nat} (hx : p.tables.exec = Jvm.exec) (hb : c.code = code) (hr : meth.sig.returnType = ret) (hlocks : meth.locks = false) {pc : Nat} {H : Heap} {ls : Array Slot} (hdg : decode code pc = .ok (.ireturn, 1)) : W p l e room_1 s m #[Value.ref b] below meth c H [] 1077 10360 (lw_Z below #[Value.ref b] s) (F0 m pc ls [.int 1]) := by
  intro T hT X
  obtain ⟨fs, hret, hrun, hended, hW, hframe⟩ := X.leave (v := some (.int 1)) (hlocks := hlocks) (fun h => by rw [hr] at h; cases h)
  have hmeth' : T.vm.method? m = some meth := X.method'
  refine ⟨T.setFrames fs, ?_, .returned (some (.int 1)), hrun, hended, rfl, ⟨_, rfl⟩, hW, hframe⟩
  jvm_step X.here [X.here.top, hx, hb, hdg, hmeth', hr, ret, narrow_b1]
  (try refine ⟨rfl, ?_⟩); (try refine ⟨rfl, ?_⟩)
  first | (intro acts; rw [hret _ acts rfl rfl rfl]) | rw [hret _ _ rfl rfl rfl]
  exact Steps.refl _
def lw_At (p : Program) (s : State) (m : MethodId) (meth : Method) (c : Code) (b L : Nat) (xs : Nat → Int32) : Prop :=
  p.tables.exec = Jvm.exec ∧ c.code = code ∧ meth.sig.returnType = ret ∧ c.maxLocals = 7 ∧ s.vm.findClass R_law = some m.cls ∧ (∀ w ∈ lw_tbl, w.before #[Value.ref b] s = true) ∧ va_X b L xs s s.heap ∧ b < s.heap.size ∧ meth.locks = false ∧ (Jvm.Cond.and given_1 narrow_1).before #[Value.ref b] s = true
section
variable {l : Launch} {xs : Nat → Int32} {Ln : Nat} {D : va_G} {cA : Nat → ClassId} {ad : Nat → Nat} {A : Nat → Prop}
theorem am_law_end {p : Program} {e : Env} {s : State} {m : MethodId} {below : List Frame} {meth : Method} {c : Code} {b pc : Nat} {L : am_L} {S : List Value} {g g1 : am_G} {t t1 cells slots : Nat} {act : am_A}
    (hW : am_Wk p room_1 s m #[Value.ref b] c xs Ln D cA ad A 0) (hr : meth.sig.returnType = ret) (hlocks : meth.locks = false) (hA : ∀ q, A q → s.heap.size ≤ q) (hs : am_step (0, pc, L, S, g, t) = some act) (hf : am_fin act (.inl (some (.int 1)), g1, t1)) (hcl : cells ≤ 1077) (hsl : slots ≤ 10360) :
    am_PW p l e room_1 s m #[Value.ref b] below meth c cells slots (lw_Z below #[Value.ref b] s) xs Ln D cA ad A (0, pc, L, S, g, t) := by
  intro H ls locs hR
  obtain ⟨i, nxt, kp, v, a, bb, d, w, L', hc, hsub, h⟩ := am_step_inv hs
  obtain ⟨len, hdec, hok⟩ := am_code_dec hc
  obtain ⟨hl, hP, hD, hS, hG⟩ := hR
  obtain ⟨hx, hb, hml, hown, hts, hXX, hF, hLo⟩ := hW
  have nopl : am_plain i bb = true → False := by
    intro hp
    have := am_do_sh hp h
    rcases hf with e | e <;> rw [e] at this <;> exact this
  have en : ∀ (r : am_R), act = .inr (.inr (.inr (.inl r))) → r.1 = .inl (some (.int 1)) := by
    intro r e0
    rcases hf with e | e
    · rw [e0] at e
      simp only [Sum.inr.injEq, Sum.inl.injEq] at e
      rw [e]
    · rw [e0] at e
      simp at e
  have ec : ∀ (q : Bool) (r : am_R), act = .inr (.inr (.inr (.inr (.inl (q, r))))) → r.1 = .inl (some (.int 1)) := by
    intro q r e0
    rcases hf with e | e
    · rw [e0] at e
      simp at e
    · rw [e0] at e
      simp only [Sum.inr.injEq, Sum.inl.injEq, Prod.mk.injEq] at e
      rw [e.2]
  cases i with
  | ireturn =>
    change am_irt S g t d = some act at h
    unfold am_irt at h
    split at h
    · rename_i x
      have hx1 : (Sum.inl (some (Value.int x)) : Option Value ⊕ Nat) = .inl (some (.int 1)) := by
        split at h
        · exact en _ (Option.some.inj h).symm
        · exact ec _ _ (Option.some.inj h).symm
        · exact ec _ _ (Option.some.inj h).symm
        · exact en _ (Option.some.inj h).symm
      cases hx1
      have hlen : len = 1 := by
        unfold am_okI at hok
        dsimp only at hok
        rw [Bool.and_eq_true] at hok
        exact of_decide_eq_true hok.1
      subst hlen
      exact W.widen hcl hsl (va_forget (fun q hq => hA _ (hS.2.2 q hq)) (lw_ret hx hb hr hlocks hdec))
    · cases h
  | areturn =>
    change am_art S g t = some act at h
    unfold am_art at h
    split at h
    · have := ec _ _ (Option.some.inj h).symm
      cases this
    · cases h
  | return_ =>
    change am_vrt S g t = some act at h
    unfold am_vrt at h
    split at h
    · have := en _ (Option.some.inj h).symm
      cases this
    · cases h
  | new n =>
    change am_thr S g t a = some act at h
    unfold am_thr at h
    split at h
    · have := en _ (Option.some.inj h).symm
      cases this
    · cases h
  | invokevirtual n =>
    obtain ⟨ml, as, k, r, fs, rfl, h1, h2, h3⟩ := am_iv_inv h
    obtain ⟨h4, h5, h6⟩ := am_call_inv h3
    rcases hf with z | z <;> (rw [h6] at z; simp at z)
  | invokestatic n =>
    have hp : ¬ (Nat.beq bb 1 || Nat.beq bb 2) = true := fun q => nopl q
    rw [Bool.not_eq_true, Bool.or_eq_false_iff] at hp
    change (bif Nat.beq bb 1 then am_mx 0 nxt L' S g t (fun x y => if x < y then y else x) else bif Nat.beq bb 2 then am_mx 0 nxt L' S g t (fun x y => if y < x then y else x) else am_is 0 pc L' S g t v a d) = some act at h
    rw [hp.1, hp.2] at h
    obtain ⟨ml, as, r, rfl, h1, h3⟩ := am_is_inv h
    obtain ⟨h4, h5, h6⟩ := am_call_inv h3
    rcases hf with z | z <;> (rw [h6] at z; simp at z)
  | _ => exact (nopl rfl).elim
theorem am_law {p : Program} {e : Env} {s : State} {m : MethodId} {below : List Frame} {meth : Method} {c : Code} {b pc k t2 c0 n0 : Nat} {L : am_L} {S : List Value} {g g2 : am_G} (hlt : l.stackTraces = false)
    (hW : am_Wk p room_1 s m #[Value.ref b] c xs Ln D cA ad A 0) (hXt : am_Xt A s) (hNk : am_Nk s) (hr : meth.sig.returnType = ret) (hlocks : meth.locks = false) (hA : ∀ q, A q → s.heap.size ≤ q) (hev : am_eval k (0, pc, L, S, g, 0) = some (.inl (some (.int 1)), g2, t2)) (ht : t2 ≤ 512) (hc : c0 + 512 ≤ 1077) (hn : n0 + 3072 ≤ 10360) :
    am_PW p l e room_1 s m #[Value.ref b] below meth c c0 n0 (lw_Z below #[Value.ref b] s) xs Ln D cA ad A (0, pc, L, S, g, 0) := by
  refine am_lwalk hlt k _ _ hev rfl p e room_1 s m _ below meth c c0 n0 _ hW hXt hNk ⟨?_, ?_⟩ (fun st' act e1 e2 e3 => ?_)
  · show c0 + t2 ≤ 1077
    omega
  · show n0 + 6 * t2 ≤ 10360
    omega
  · have h1 : am_eval 1 st' = some (.inl (some (.int 1)), g2, t2) := by
      rw [am_eval, e2]
      rcases e3 with rfl | rfl <;> rfl
    have h2 := am_ev_t _ _ _ h1
    obtain ⟨mi', pc', L', S', g', t'⟩ := st'
    cases e1
    dsimp only at h2
    exact am_law_end hW hr hlocks hA e2 e3 (by show c0 + t' ≤ 1077; omega) (by show n0 + 6 * t' ≤ 10360; omega)
end
