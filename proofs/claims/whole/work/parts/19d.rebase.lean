section
variable {p : Program} {l : Launch} {e : Env} {R : Room} {s : State} {m : MethodId} {args : Array Value} {below : List Frame} {meth : Method} {c : Code} {T : State} {locs : List Loc} {cells slots : Nat}
theorem am_rebase (X : Stand p l e R s m args below meth c T locs cells slots) (hc : cells ≤ R.cells) (hs : slots ≤ R.slots) :
    Stand p l e { R with cells := R.cells - cells, slots := R.slots - slots } (T.setFrames (.invoking m args :: below)) m args below meth c T [] 0 0 := by
  obtain ⟨g₀, hg⟩ := Option.isSome_iff_exists.mp X.here.top
  obtain ⟨r, hr⟩ := State.topJava?_eq_some.mp hg
  obtain ⟨th, hth, hthf⟩ := State.frames_cons hr
  have hlt : T.cur < T.threads.size := (Array.getElem?_eq_some_iff.mp hth).1
  have hf : (T.setFrames (.invoking m args :: below)).frames = .invoking m args :: below := State.frames_setFrames _ hlt
  have hme : (T.setFrames (.invoking m args :: below)).me.stackBytes = T.me.stackBytes := by
    simp [State.me, State.setFrames, Array.getElem?_modify, hth]
  have hlim : e.platform.stackLimits (T.setFrames (.invoking m args :: below)).me = e.platform.stackLimits s.me := by
    rw [← X.limits]
    unfold Platform.stackLimits
    rw [hme]
  have hself : T.setFrames T.frames = T := State.setFrames_self hth
  refine ⟨X.admits, X.cas, X.clock, hf, ?_, ?_, X.method', X.code, X.here, X.tail, State.WarmedH.refl (T.setFrames (.invoking m args :: below)), ?_, ?_, ?_⟩
  · have h := X.room
    have hb := X.book
    have h1 := X.heapSize
    have h2 := X.used
    have h3 := X.bytes
    simp only [State.hasRoom, Bool.and_eq_true, decide_eq_true_eq] at h ⊢
    rw [State.localsInUse_invoking X.frames X.method X.code, X.frames] at h
    rw [State.localsInUse_invoking hf X.method' X.code, hf, hlim, hme]
    have hh : (T.setFrames (.invoking m args :: below)).heap = T.heap := rfl
    have hu : (T.setFrames (.invoking m args :: below)).slotsUsed = T.slotsUsed := rfl
    rw [hh, hu]
    obtain ⟨⟨⟨⟨a0, a1, a2, a3, a4, a5⟩, a6⟩, a7⟩, a8⟩ := h
    refine ⟨⟨⟨⟨a0, a1, a2, a3, a4, ?_⟩, ?_⟩, ?_⟩, hb⟩
    · rw [h3]; exact a5
    · omega
    · omega
  · have h := X.hears
    have ha := X.warmed.alike
    have hcode : ∀ k, (T.setFrames (.invoking m args :: below)).code? k = s.code? k := fun k => by
      rw [State.code?_eq, State.code?_eq]
      show (T.vm.method? k).bind _ = (s.vm.method? k).bind _
      rw [ha.method?]
    have hmm : (T.setFrames (.invoking m args :: below)).vm.method? m = s.vm.method? m := by
      show T.vm.method? m = s.vm.method? m
      rw [ha.method?]
    have e1 : (T.setFrames (.invoking m args :: below)).hears m below = s.hears m below := by
      unfold State.hears
      simp only [hcode, hmm]
    rw [e1]
    exact h
  · rw [hlim]; exact X.limits
  · exact hme.symm
  · refine ⟨?_, Nat.le_refl _, Nat.le_refl _, ?_, ?_, fun a c h => ⟨c, h, rfl, rfl, fun _ _ => rfl⟩⟩
    · show T.setVm _ = _
      rw [State.setFrames_setFrames]
      show T = { T.setFrames T.frames with heap := T.heap, slotsUsed := T.slotsUsed }
      rw [hself]
    · show T.slotsUsed = T.slotsUsed + _
      rw [List.drop_eq_nil_of_le (by simp)]
      rfl
    · rw [List.drop_eq_nil_of_le (by simp)]
      exact Nat.le_refl _
end
