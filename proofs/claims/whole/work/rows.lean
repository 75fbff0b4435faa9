section
def lw_okq (q : MethodName × Nat) : Prop := (q.1.cls ≠ "java/lang/invoke/MethodHandle" ∧ q.1.cls ≠ "java/lang/invoke/VarHandle") ∧ Cond.instantiable q.1.cls q.2 ∈ tables_1 ∧ Cond.privateMethod q.1 ∈ tables_1 ∧ Cond.instanceMethod q.1 ∈ tables_1
theorem lw_p0 : lw_okq (⟨"RebuildDesk$Lines", "kindOf", "(II)LRebuildDesk$LineKind;"⟩, 4) := ⟨⟨by decide +kernel, by decide +kernel⟩, List.mem_of_getElem? (i := 47) (by decide +kernel), List.mem_of_getElem? (i := 319) (by decide +kernel), List.mem_of_getElem? (i := 320) (by decide +kernel)⟩
theorem lw_p1 : lw_okq (⟨"RebuildDesk$Lines", "isMacro", "(II)Z"⟩, 4) := ⟨⟨by decide +kernel, by decide +kernel⟩, List.mem_of_getElem? (i := 47) (by decide +kernel), List.mem_of_getElem? (i := 332) (by decide +kernel), List.mem_of_getElem? (i := 333) (by decide +kernel)⟩
theorem lw_p2 : lw_okq (⟨"RebuildDesk$Lines", "isPattern", "(II)Z"⟩, 4) := ⟨⟨by decide +kernel, by decide +kernel⟩, List.mem_of_getElem? (i := 47) (by decide +kernel), List.mem_of_getElem? (i := 355) (by decide +kernel), List.mem_of_getElem? (i := 356) (by decide +kernel)⟩
theorem lw_p3 : lw_okq (⟨"RebuildDesk$Lines", "isRule", "(II)Z"⟩, 4) := ⟨⟨by decide +kernel, by decide +kernel⟩, List.mem_of_getElem? (i := 47) (by decide +kernel), List.mem_of_getElem? (i := 364) (by decide +kernel), List.mem_of_getElem? (i := 365) (by decide +kernel)⟩
theorem lw_p4 : lw_okq (⟨"RebuildDesk$Lines", "add", "(ILRebuildDesk$LineKind;)V"⟩, 4) := ⟨⟨by decide +kernel, by decide +kernel⟩, List.mem_of_getElem? (i := 47) (by decide +kernel), List.mem_of_getElem? (i := 372) (by decide +kernel), List.mem_of_getElem? (i := 373) (by decide +kernel)⟩
theorem lw_p5 : lw_okq (⟨"RebuildDesk$Lines", "maySucceed", "(I)Z"⟩, 4) := ⟨⟨by decide +kernel, by decide +kernel⟩, List.mem_of_getElem? (i := 47) (by decide +kernel), List.mem_of_getElem? (i := 384) (by decide +kernel), List.mem_of_getElem? (i := 385) (by decide +kernel)⟩
theorem lw_p6 : lw_okq (⟨"java/lang/Throwable", "fillInStackTrace", "(I)Ljava/lang/Throwable;"⟩, 6) := ⟨⟨by decide +kernel, by decide +kernel⟩, List.mem_of_getElem? (i := 429) (by decide +kernel), List.mem_of_getElem? (i := 427) (by decide +kernel), List.mem_of_getElem? (i := 428) (by decide +kernel)⟩
theorem lw_p7 : lw_okq (⟨"RebuildDesk$Macros", "findValues", "(LRebuildDesk$Lines;)V"⟩, 6) := ⟨⟨by decide +kernel, by decide +kernel⟩, List.mem_of_getElem? (i := 69) (by decide +kernel), List.mem_of_getElem? (i := 458) (by decide +kernel), List.mem_of_getElem? (i := 459) (by decide +kernel)⟩
theorem lw_p8 : lw_okq (⟨"RebuildDesk$Macros", "findLeads", "()V"⟩, 6) := ⟨⟨by decide +kernel, by decide +kernel⟩, List.mem_of_getElem? (i := 69) (by decide +kernel), List.mem_of_getElem? (i := 473) (by decide +kernel), List.mem_of_getElem? (i := 474) (by decide +kernel)⟩
theorem lw_p9 : lw_okq (⟨"RebuildDesk$Macros", "macrosIn", "(I)I"⟩, 6) := ⟨⟨by decide +kernel, by decide +kernel⟩, List.mem_of_getElem? (i := 69) (by decide +kernel), List.mem_of_getElem? (i := 477) (by decide +kernel), List.mem_of_getElem? (i := 478) (by decide +kernel)⟩
theorem lw_p10 : lw_okq (⟨"RebuildDesk$Macros", "findLooping", "()V"⟩, 6) := ⟨⟨by decide +kernel, by decide +kernel⟩, List.mem_of_getElem? (i := 69) (by decide +kernel), List.mem_of_getElem? (i := 492) (by decide +kernel), List.mem_of_getElem? (i := 493) (by decide +kernel)⟩
theorem lw_p11 : lw_okq (⟨"RebuildDesk$Macros", "expandValues", "()V"⟩, 6) := ⟨⟨by decide +kernel, by decide +kernel⟩, List.mem_of_getElem? (i := 69) (by decide +kernel), List.mem_of_getElem? (i := 496) (by decide +kernel), List.mem_of_getElem? (i := 497) (by decide +kernel)⟩
theorem lw_p12 : lw_okq (⟨"RebuildDesk$RuleLines", "isRule", "(I)Z"⟩, 3) := ⟨⟨by decide +kernel, by decide +kernel⟩, List.mem_of_getElem? (i := 94) (by decide +kernel), List.mem_of_getElem? (i := 528) (by decide +kernel), List.mem_of_getElem? (i := 529) (by decide +kernel)⟩
theorem lw_p13 : lw_okq (⟨"RebuildDesk$RuleLines", "targetPhrase", "(I)I"⟩, 3) := ⟨⟨by decide +kernel, by decide +kernel⟩, List.mem_of_getElem? (i := 94) (by decide +kernel), List.mem_of_getElem? (i := 534) (by decide +kernel), List.mem_of_getElem? (i := 535) (by decide +kernel)⟩
theorem lw_p14 : lw_okq (⟨"RebuildDesk$RuleLines", "sourcePhrase", "(I)I"⟩, 3) := ⟨⟨by decide +kernel, by decide +kernel⟩, List.mem_of_getElem? (i := 94) (by decide +kernel), List.mem_of_getElem? (i := 543) (by decide +kernel), List.mem_of_getElem? (i := 544) (by decide +kernel)⟩
theorem lw_p15 : lw_okq (⟨"RebuildDesk$RuleLines", "targets", "(I)I"⟩, 3) := ⟨⟨by decide +kernel, by decide +kernel⟩, List.mem_of_getElem? (i := 94) (by decide +kernel), List.mem_of_getElem? (i := 576) (by decide +kernel), List.mem_of_getElem? (i := 577) (by decide +kernel)⟩
def lw_privs_1 : List (MethodName × Nat) := [(⟨"RebuildDesk$Lines", "kindOf", "(II)LRebuildDesk$LineKind;"⟩, 4), (⟨"RebuildDesk$Lines", "isMacro", "(II)Z"⟩, 4), (⟨"RebuildDesk$Lines", "isPattern", "(II)Z"⟩, 4), (⟨"RebuildDesk$Lines", "isRule", "(II)Z"⟩, 4), (⟨"RebuildDesk$Lines", "add", "(ILRebuildDesk$LineKind;)V"⟩, 4), (⟨"RebuildDesk$Lines", "maySucceed", "(I)Z"⟩, 4), (⟨"java/lang/Throwable", "fillInStackTrace", "(I)Ljava/lang/Throwable;"⟩, 6), (⟨"RebuildDesk$Macros", "findValues", "(LRebuildDesk$Lines;)V"⟩, 6), (⟨"RebuildDesk$Macros", "findLeads", "()V"⟩, 6), (⟨"RebuildDesk$Macros", "macrosIn", "(I)I"⟩, 6), (⟨"RebuildDesk$Macros", "findLooping", "()V"⟩, 6), (⟨"RebuildDesk$Macros", "expandValues", "()V"⟩, 6), (⟨"RebuildDesk$RuleLines", "isRule", "(I)Z"⟩, 3), (⟨"RebuildDesk$RuleLines", "targetPhrase", "(I)I"⟩, 3), (⟨"RebuildDesk$RuleLines", "sourcePhrase", "(I)I"⟩, 3), (⟨"RebuildDesk$RuleLines", "targets", "(I)I"⟩, 3)]
theorem lw_r1 : ∀ q ∈ lw_privs_1, lw_okq q := List.forall_mem_cons.mpr ⟨lw_p0, List.forall_mem_cons.mpr ⟨lw_p1, List.forall_mem_cons.mpr ⟨lw_p2, List.forall_mem_cons.mpr ⟨lw_p3, List.forall_mem_cons.mpr ⟨lw_p4, List.forall_mem_cons.mpr ⟨lw_p5, List.forall_mem_cons.mpr ⟨lw_p6, List.forall_mem_cons.mpr ⟨lw_p7, List.forall_mem_cons.mpr ⟨lw_p8, List.forall_mem_cons.mpr ⟨lw_p9, List.forall_mem_cons.mpr ⟨lw_p10, List.forall_mem_cons.mpr ⟨lw_p11, List.forall_mem_cons.mpr ⟨lw_p12, List.forall_mem_cons.mpr ⟨lw_p13, List.forall_mem_cons.mpr ⟨lw_p14, List.forall_mem_cons.mpr ⟨lw_p15, fun _ h => absurd h List.not_mem_nil⟩⟩⟩⟩⟩⟩⟩⟩⟩⟩⟩⟩⟩⟩⟩⟩
theorem lw_p16 : lw_okq (⟨"RebuildDesk$Graph", "available", "()I"⟩, 5) := ⟨⟨by decide +kernel, by decide +kernel⟩, List.mem_of_getElem? (i := 142) (by decide +kernel), List.mem_of_getElem? (i := 644) (by decide +kernel), List.mem_of_getElem? (i := 645) (by decide +kernel)⟩
theorem lw_p17 : lw_okq (⟨"RebuildDesk$Graph", "findSources", "(I)V"⟩, 5) := ⟨⟨by decide +kernel, by decide +kernel⟩, List.mem_of_getElem? (i := 142) (by decide +kernel), List.mem_of_getElem? (i := 655) (by decide +kernel), List.mem_of_getElem? (i := 656) (by decide +kernel)⟩
theorem lw_p18 : lw_okq (⟨"RebuildDesk$Graph", "addPatternSource", "(II)V"⟩, 5) := ⟨⟨by decide +kernel, by decide +kernel⟩, List.mem_of_getElem? (i := 142) (by decide +kernel), List.mem_of_getElem? (i := 661) (by decide +kernel), List.mem_of_getElem? (i := 662) (by decide +kernel)⟩
theorem lw_p19 : lw_okq (⟨"RebuildDesk$Graph", "findFoundations", "()V"⟩, 5) := ⟨⟨by decide +kernel, by decide +kernel⟩, List.mem_of_getElem? (i := 142) (by decide +kernel), List.mem_of_getElem? (i := 665) (by decide +kernel), List.mem_of_getElem? (i := 666) (by decide +kernel)⟩
theorem lw_p20 : lw_okq (⟨"RebuildDesk$Graph", "hasNewerSource", "(I)Z"⟩, 5) := ⟨⟨by decide +kernel, by decide +kernel⟩, List.mem_of_getElem? (i := 142) (by decide +kernel), List.mem_of_getElem? (i := 704) (by decide +kernel), List.mem_of_getElem? (i := 705) (by decide +kernel)⟩
theorem lw_p21 : lw_okq (⟨"RebuildDesk", "runRecipes", "(I)V"⟩, 9) := ⟨⟨by decide +kernel, by decide +kernel⟩, List.mem_of_getElem? (i := 25) (by decide +kernel), List.mem_of_getElem? (i := 736) (by decide +kernel), List.mem_of_getElem? (i := 737) (by decide +kernel)⟩
theorem lw_p22 : lw_okq (⟨"RebuildDeskModel", "lines", "()I"⟩, 33) := ⟨⟨by decide +kernel, by decide +kernel⟩, List.mem_of_getElem? (i := 757) (by decide +kernel), List.mem_of_getElem? (i := 884) (by decide +kernel), List.mem_of_getElem? (i := 885) (by decide +kernel)⟩
theorem lw_p23 : lw_okq (⟨"RebuildDeskModel", "kind", "(II)I"⟩, 33) := ⟨⟨by decide +kernel, by decide +kernel⟩, List.mem_of_getElem? (i := 757) (by decide +kernel), List.mem_of_getElem? (i := 888) (by decide +kernel), List.mem_of_getElem? (i := 889) (by decide +kernel)⟩
theorem lw_p24 : lw_okq (⟨"RebuildDeskModel", "spaces", "(II)Z"⟩, 33) := ⟨⟨by decide +kernel, by decide +kernel⟩, List.mem_of_getElem? (i := 757) (by decide +kernel), List.mem_of_getElem? (i := 892) (by decide +kernel), List.mem_of_getElem? (i := 893) (by decide +kernel)⟩
theorem lw_p25 : lw_okq (⟨"RebuildDeskModel", "at", "(II)I"⟩, 33) := ⟨⟨by decide +kernel, by decide +kernel⟩, List.mem_of_getElem? (i := 757) (by decide +kernel), List.mem_of_getElem? (i := 899) (by decide +kernel), List.mem_of_getElem? (i := 900) (by decide +kernel)⟩
theorem lw_p26 : lw_okq (⟨"RebuildDeskModel", "segment", "(II)Z"⟩, 33) := ⟨⟨by decide +kernel, by decide +kernel⟩, List.mem_of_getElem? (i := 757) (by decide +kernel), List.mem_of_getElem? (i := 903) (by decide +kernel), List.mem_of_getElem? (i := 904) (by decide +kernel)⟩
theorem lw_p27 : lw_okq (⟨"RebuildDeskModel", "colon", "(II)I"⟩, 33) := ⟨⟨by decide +kernel, by decide +kernel⟩, List.mem_of_getElem? (i := 757) (by decide +kernel), List.mem_of_getElem? (i := 907) (by decide +kernel), List.mem_of_getElem? (i := 908) (by decide +kernel)⟩
theorem lw_p28 : lw_okq (⟨"RebuildDeskModel", "fail", "(II)I"⟩, 33) := ⟨⟨by decide +kernel, by decide +kernel⟩, List.mem_of_getElem? (i := 757) (by decide +kernel), List.mem_of_getElem? (i := 911) (by decide +kernel), List.mem_of_getElem? (i := 912) (by decide +kernel)⟩
theorem lw_p29 : lw_okq (⟨"RebuildDeskModel", "macros", "()V"⟩, 33) := ⟨⟨by decide +kernel, by decide +kernel⟩, List.mem_of_getElem? (i := 757) (by decide +kernel), List.mem_of_getElem? (i := 915) (by decide +kernel), List.mem_of_getElem? (i := 916) (by decide +kernel)⟩
theorem lw_p30 : lw_okq (⟨"RebuildDeskModel", "ring", "(I)Z"⟩, 33) := ⟨⟨by decide +kernel, by decide +kernel⟩, List.mem_of_getElem? (i := 757) (by decide +kernel), List.mem_of_getElem? (i := 919) (by decide +kernel), List.mem_of_getElem? (i := 920) (by decide +kernel)⟩
theorem lw_p31 : lw_okq (⟨"RebuildDeskModel", "take", "()V"⟩, 33) := ⟨⟨by decide +kernel, by decide +kernel⟩, List.mem_of_getElem? (i := 757) (by decide +kernel), List.mem_of_getElem? (i := 923) (by decide +kernel), List.mem_of_getElem? (i := 924) (by decide +kernel)⟩
def lw_privs_2 : List (MethodName × Nat) := [(⟨"RebuildDesk$Graph", "available", "()I"⟩, 5), (⟨"RebuildDesk$Graph", "findSources", "(I)V"⟩, 5), (⟨"RebuildDesk$Graph", "addPatternSource", "(II)V"⟩, 5), (⟨"RebuildDesk$Graph", "findFoundations", "()V"⟩, 5), (⟨"RebuildDesk$Graph", "hasNewerSource", "(I)Z"⟩, 5), (⟨"RebuildDesk", "runRecipes", "(I)V"⟩, 9), (⟨"RebuildDeskModel", "lines", "()I"⟩, 33), (⟨"RebuildDeskModel", "kind", "(II)I"⟩, 33), (⟨"RebuildDeskModel", "spaces", "(II)Z"⟩, 33), (⟨"RebuildDeskModel", "at", "(II)I"⟩, 33), (⟨"RebuildDeskModel", "segment", "(II)Z"⟩, 33), (⟨"RebuildDeskModel", "colon", "(II)I"⟩, 33), (⟨"RebuildDeskModel", "fail", "(II)I"⟩, 33), (⟨"RebuildDeskModel", "macros", "()V"⟩, 33), (⟨"RebuildDeskModel", "ring", "(I)Z"⟩, 33), (⟨"RebuildDeskModel", "take", "()V"⟩, 33)]
theorem lw_r2 : ∀ q ∈ lw_privs_2, lw_okq q := List.forall_mem_cons.mpr ⟨lw_p16, List.forall_mem_cons.mpr ⟨lw_p17, List.forall_mem_cons.mpr ⟨lw_p18, List.forall_mem_cons.mpr ⟨lw_p19, List.forall_mem_cons.mpr ⟨lw_p20, List.forall_mem_cons.mpr ⟨lw_p21, List.forall_mem_cons.mpr ⟨lw_p22, List.forall_mem_cons.mpr ⟨lw_p23, List.forall_mem_cons.mpr ⟨lw_p24, List.forall_mem_cons.mpr ⟨lw_p25, List.forall_mem_cons.mpr ⟨lw_p26, List.forall_mem_cons.mpr ⟨lw_p27, List.forall_mem_cons.mpr ⟨lw_p28, List.forall_mem_cons.mpr ⟨lw_p29, List.forall_mem_cons.mpr ⟨lw_p30, List.forall_mem_cons.mpr ⟨lw_p31, fun _ h => absurd h List.not_mem_nil⟩⟩⟩⟩⟩⟩⟩⟩⟩⟩⟩⟩⟩⟩⟩⟩
theorem lw_p32 : lw_okq (⟨"RebuildDeskModel", "graph", "()V"⟩, 33) := ⟨⟨by decide +kernel, by decide +kernel⟩, List.mem_of_getElem? (i := 757) (by decide +kernel), List.mem_of_getElem? (i := 952) (by decide +kernel), List.mem_of_getElem? (i := 953) (by decide +kernel)⟩
theorem lw_p33 : lw_okq (⟨"RebuildDeskModel", "first", "(I)I"⟩, 33) := ⟨⟨by decide +kernel, by decide +kernel⟩, List.mem_of_getElem? (i := 757) (by decide +kernel), List.mem_of_getElem? (i := 956) (by decide +kernel), List.mem_of_getElem? (i := 957) (by decide +kernel)⟩
theorem lw_p34 : lw_okq (⟨"RebuildDeskModel", "reasonsOf", "(I)V"⟩, 33) := ⟨⟨by decide +kernel, by decide +kernel⟩, List.mem_of_getElem? (i := 757) (by decide +kernel), List.mem_of_getElem? (i := 963) (by decide +kernel), List.mem_of_getElem? (i := 964) (by decide +kernel)⟩
def lw_privs_3 : List (MethodName × Nat) := [(⟨"RebuildDeskModel", "graph", "()V"⟩, 33), (⟨"RebuildDeskModel", "first", "(I)I"⟩, 33), (⟨"RebuildDeskModel", "reasonsOf", "(I)V"⟩, 33)]
theorem lw_r3 : ∀ q ∈ lw_privs_3, lw_okq q := List.forall_mem_cons.mpr ⟨lw_p32, List.forall_mem_cons.mpr ⟨lw_p33, List.forall_mem_cons.mpr ⟨lw_p34, fun _ h => absurd h List.not_mem_nil⟩⟩⟩
def lw_privs : List (MethodName × Nat) := lw_privs_1 ++ (lw_privs_2 ++ (lw_privs_3))
def lw_tbl : List Cond := k2_sels lw_privs ++ tables_1
theorem lw_privs_ok : ∀ q ∈ lw_privs, lw_okq q := by
  show ∀ q ∈ lw_privs_1 ++ (lw_privs_2 ++ (lw_privs_3)), lw_okq q
  exact List.forall_mem_append.mpr ⟨lw_r1, List.forall_mem_append.mpr ⟨lw_r2, lw_r3⟩⟩
end
section
abbrev am_G : Type := Nat → Nat → Int32
abbrev am_L : Type := List (Nat × Value)
abbrev am_E : Type := Instr × Nat × Nat × Value × Nat × Nat × Nat × Nat
abbrev am_S : Type := Nat × Nat × am_L × List Value × am_G × Nat
abbrev am_R : Type := (Option Value ⊕ Nat) × am_G × Nat
abbrev am_A : Type := am_S ⊕ ((Bool × am_S) ⊕ (((ClassFile.Cond × Int32 × Int32 × am_S × am_S) ⊕ (Bool × ClassFile.Cond × Int32 × Int32 × am_S × am_S)) ⊕ (am_R ⊕ ((Bool × am_R) ⊕ ((am_S × am_S) ⊕ am_S)))))
abbrev am_nx (s : am_S) : Option am_A := some (.inl s)
abbrev am_ck (b : Bool) (s : am_S) : Option am_A := some (.inr (.inl (b, s)))
abbrev am_br (q : ClassFile.Cond) (x y : Int32) (s1 s2 : am_S) : Option am_A := some (.inr (.inr (.inl (.inl (q, x, y, s1, s2)))))
abbrev am_bc (b : Bool) (q : ClassFile.Cond) (x y : Int32) (s1 s2 : am_S) : Option am_A := some (.inr (.inr (.inl (.inr (b, q, x, y, s1, s2)))))
abbrev am_en (r : am_R) : Option am_A := some (.inr (.inr (.inr (.inl r))))
abbrev am_ec (b : Bool) (r : am_R) : Option am_A := some (.inr (.inr (.inr (.inr (.inl (b, r))))))
abbrev am_ca (e r : am_S) : Option am_A := some (.inr (.inr (.inr (.inr (.inr (.inl (e, r)))))))
abbrev am_ju (s : am_S) : Option am_A := some (.inr (.inr (.inr (.inr (.inr (.inr s))))))
end
section
def am_T0 : u_T := fun k => match k with
  | 0 => ("RebuildDesk$Graph", "rules", "LRebuildDesk$Rules;", true)
  | 1 => ("RebuildDesk$Graph", "stamps", "LRebuildDesk$Stamps;", true)
  | 2 => ("RebuildDesk$Graph", "sources", "[I", true)
  | 3 => ("RebuildDesk$Graph", "foundations", "[I", true)
  | _ => ("RebuildDesk$Graph", "withRecipe", "I", false)
def am_T1 : u_T := fun k => match k with
  | 0 => ("RebuildDesk$Lines", "text", "LRebuildDesk$Text;", true)
  | 1 => ("RebuildDesk$Lines", "starts", "[I", true)
  | 2 => ("RebuildDesk$Lines", "kinds", "[LRebuildDesk$LineKind;", true)
  | _ => ("RebuildDesk$Lines", "count", "I", false)
def am_T2 : u_T := fun k => match k with
  | 0 => ("RebuildDesk$Macros", "text", "LRebuildDesk$Text;", true)
  | 1 => ("RebuildDesk$Macros", "values", "[I", true)
  | 2 => ("RebuildDesk$Macros", "leads", "[I", true)
  | 3 => ("RebuildDesk$Macros", "files", "[I", true)
  | 4 => ("RebuildDesk$Macros", "names", "[I", true)
  | _ => ("RebuildDesk$Macros", "looping", "I", false)
def am_T3 : u_T := fun k => match k with
  | 0 => ("RebuildDesk$Report", "runs", "[I", true)
  | 1 => ("RebuildDesk$Report", "reasons", "[I", true)
  | _ => ("RebuildDesk$Report", "count", "I", false)
def am_T4 : u_T := fun k => match k with
  | 0 => ("RebuildDesk$RuleLines", "text", "LRebuildDesk$Text;", true)
  | 1 => ("RebuildDesk$RuleLines", "lines", "LRebuildDesk$Lines;", true)
  | _ => ("RebuildDesk$RuleLines", "macros", "LRebuildDesk$Macros;", true)
def am_T5 : u_T := fun k => match k with
  | 0 => ("RebuildDesk$Rules", "sources", "[I", true)
  | 1 => ("RebuildDesk$Rules", "patternTargets", "[I", true)
  | 2 => ("RebuildDesk$Rules", "patternSources", "[I", true)
  | 3 => ("RebuildDesk$Rules", "withRecipe", "I", false)
  | _ => ("RebuildDesk$Rules", "patterns", "I", false)
def am_T6 : u_T := fun k => match k with
  | _ => ("RebuildDesk$Stamps", "stamps", "[I", true)
def am_T7 : u_T := fun k => match k with
  | 0 => ("RebuildDesk$Text", "codes", "[C", true)
  | _ => ("RebuildDesk$Text", "size", "I", false)
def am_T8 : u_T := fun k => match k with
  | 0 => ("RebuildDesk", "text", "LRebuildDesk$Text;", true)
  | 1 => ("RebuildDesk", "lines", "LRebuildDesk$Lines;", true)
  | 2 => ("RebuildDesk", "macros", "LRebuildDesk$Macros;", true)
  | 3 => ("RebuildDesk", "ruleLines", "LRebuildDesk$RuleLines;", true)
  | 4 => ("RebuildDesk", "rules", "LRebuildDesk$Rules;", true)
  | 5 => ("RebuildDesk", "stamps", "LRebuildDesk$Stamps;", true)
  | 6 => ("RebuildDesk", "graph", "LRebuildDesk$Graph;", true)
  | 7 => ("RebuildDesk", "report", "LRebuildDesk$Report;", true)
  | _ => ("RebuildDesk", "faultLine", "I", false)
def am_T9 : u_T := fun k => match k with
  | 0 => ("RebuildDeskModel", "text", "[I", true)
  | 1 => ("RebuildDeskModel", "length", "I", false)
  | 2 => ("RebuildDeskModel", "thrown", "I", false)
  | 3 => ("RebuildDeskModel", "fault", "I", false)
  | 4 => ("RebuildDeskModel", "macroFrom", "[I", true)
  | 5 => ("RebuildDeskModel", "macroTo", "[I", true)
  | 6 => ("RebuildDeskModel", "reach", "[I", true)
  | 7 => ("RebuildDeskModel", "names", "[I", true)
  | 8 => ("RebuildDeskModel", "files", "[I", true)
  | 9 => ("RebuildDeskModel", "ruleFrom", "[I", true)
  | 10 => ("RebuildDeskModel", "ruleColon", "[I", true)
  | 11 => ("RebuildDeskModel", "ruleTo", "[I", true)
  | 12 => ("RebuildDeskModel", "ruleLine", "[I", true)
  | 13 => ("RebuildDeskModel", "ruleHas", "[Z", true)
  | 14 => ("RebuildDeskModel", "rules", "I", false)
  | 15 => ("RebuildDeskModel", "newPattern", "[I", true)
  | 16 => ("RebuildDeskModel", "newPatterns", "I", false)
  | 17 => ("RebuildDeskModel", "explicit", "[I", true)
  | 18 => ("RebuildDeskModel", "recipes", "I", false)
  | 19 => ("RebuildDeskModel", "pattern", "[I", true)
  | 20 => ("RebuildDeskModel", "patterns", "I", false)
  | 21 => ("RebuildDeskModel", "stamp", "[I", true)
  | 22 => ("RebuildDeskModel", "available", "I", false)
  | 23 => ("RebuildDeskModel", "having", "I", false)
  | 24 => ("RebuildDeskModel", "source", "[I", true)
  | 25 => ("RebuildDeskModel", "under", "[I", true)
  | 26 => ("RebuildDeskModel", "why", "[I", true)
  | 27 => ("RebuildDeskModel", "run", "[I", true)
  | 28 => ("RebuildDeskModel", "runs", "I", false)
  | 29 => ("RebuildDeskModel", "reasons", "[I", true)
  | 30 => ("RebuildDeskModel", "found", "I", false)
  | 31 => ("RebuildDeskModel", "foundFiles", "I", false)
  | _ => ("RebuildDeskModel", "foundUses", "I", false)
abbrev am_cl : List vw_C := [("RebuildDesk$Graph", am_T0, 5), ("RebuildDesk$Lines", am_T1, 4), ("RebuildDesk$Macros", am_T2, 6), ("RebuildDesk$Report", am_T3, 3), ("RebuildDesk$RuleLines", am_T4, 3), ("RebuildDesk$Rules", am_T5, 5), ("RebuildDesk$Stamps", am_T6, 1), ("RebuildDesk$Text", am_T7, 2), ("RebuildDesk", am_T8, 9), ("RebuildDeskModel", am_T9, 33)]
def am_obs : List ((Nat × Nat) ⊕ (Nat × List (Option Nat))) := [
  .inr (8, [some 9, some 11, some 14, some 19, some 20, some 24, some 26, some 29, none]),
  .inr (7, [some 10, none]),
  .inl (1, 240),
  .inr (1, [some 9, some 12, some 13, none]),
  .inl (0, 240),
  .inl (4, 240),
  .inr (2, [some 9, some 15, some 16, some 17, some 18, none]),
  .inl (0, 26),
  .inl (0, 26),
  .inl (0, 26),
  .inl (0, 26),
  .inr (4, [some 9, some 11, some 14]),
  .inr (5, [some 21, some 22, some 23, none, none]),
  .inl (0, 32),
  .inl (0, 30),
  .inl (0, 30),
  .inr (6, [some 25]),
  .inl (0, 32),
  .inr (0, [some 20, some 24, some 27, some 28, none]),
  .inl (0, 32),
  .inl (0, 32),
  .inr (3, [some 30, some 31, none]),
  .inl (0, 32),
  .inl (0, 32),
  .inr (9, [some 33, none, none, none, some 34, some 35, some 36, some 37, some 38, some 39, some 40, some 41, some 42, some 43, none, some 44, none, some 45, none, some 46, none, some 47, none, none, some 48, some 49, some 50, some 51, none, some 52, none, none, none]),
  .inl (0, 240),
  .inl (0, 26),
  .inl (0, 26),
  .inl (0, 26),
  .inl (0, 26),
  .inl (0, 26),
  .inl (0, 64),
  .inl (0, 64),
  .inl (0, 64),
  .inl (0, 64),
  .inl (3, 64),
  .inl (0, 32),
  .inl (0, 32),
  .inl (0, 32),
  .inl (0, 32),
  .inl (0, 32),
  .inl (0, 32),
  .inl (0, 32),
  .inl (0, 32),
  .inl (0, 32),
  .inl (2, 1)]
def am_t0 : List (List (Nat × am_E)) := [
  [],
  [(20, .iconst 0, 21, 0, .int 0, 0, 0, 0, 0),
   (21, .istore 4, 23, 0, .null, 4, 0, 0, 0),
   (23, .iload 4, 25, 6, .null, 4, 0, 0, 0),
   (25, .aload_n 0, 26, 0, .null, 0, 0, 0, 0),
   (26, .arraylength, 27, 0, .null, 0, 0, 0, 0),
   (27, .iconst 3, 28, 0, .int 3, 0, 0, 0, 0),
   (28, .isub, 29, 0, .null, 0, 0, 0, 0),
   (29, .if_icmp .gt 435, 32, 0, .null, 464, 0, 0, 0)],
  [(32, .aload_n 0, 33, 0, .null, 0, 0, 0, 0),
   (33, .iload 4, 35, 0, .null, 4, 0, 0, 0),
   (35, .iaload, 36, 0, .null, 0, 0, 0, 0),
   (36, .bipush 15, 38, 0, .int 15, 0, 0, 0, 0),
   (38, .iand, 39, 0, .null, 0, 0, 0, 0),
   (39, .tableswitch 419 0 11 #[61, 118, 131, 144, 188, 201, 226, 251, 288, 313, 369, 394], 100, 0, .null, 0, 0, 0, 0)],
  [],
  [],
  [],
  [(100, .aload_n 1, 101, 0, .null, 1, 0, 0, 0),
   (101, .aload_n 0, 102, 0, .null, 0, 0, 0, 0),
   (102, .iload 4, 104, 0, .null, 4, 0, 0, 0),
   (104, .iconst 1, 105, 0, .int 1, 0, 0, 0, 0),
   (105, .iadd, 106, 0, .null, 0, 0, 0, 0),
   (106, .iaload, 107, 0, .null, 0, 0, 0, 0),
   (107, .i2l, 108, 0, .null, 0, 0, 0, 0),
   (108, .bipush 32, 110, 0, .int 32, 0, 0, 0, 0),
   (110, .lshl, 111, 0, .null, 0, 0, 0, 0),
   (111, .aload_n 0, 112, 0, .null, 0, 0, 0, 0)],
  [(112, .iload 4, 114, 0, .null, 4, 0, 0, 0),
   (114, .iconst 2, 115, 0, .int 2, 0, 0, 0, 0),
   (115, .iadd, 116, 0, .null, 0, 0, 0, 0),
   (116, .iaload, 117, 0, .null, 0, 0, 0, 0),
   (117, .i2l, 118, 0, .null, 0, 0, 0, 0),
   (118, .ldc2_w 33, 121, 0, .long 4294967295, 0, 0, 0, 1009),
   (121, .land, 122, 0, .null, 0, 0, 0, 0),
   (122, .lor, 123, 0, .null, 0, 0, 0, 0),
   (123, .invokevirtual 35, 126, 0, .ref 3, 20, 8, 1, 242),
   (126, .aload_n 2, 127, 0, .null, 2, 0, 0, 0),
   (127, .aload_n 0, 128, 0, .null, 0, 0, 0, 0)],
  [(128, .iload 4, 130, 0, .null, 4, 0, 0, 0),
   (130, .iconst 1, 131, 0, .int 1, 0, 0, 0, 0),
   (131, .iadd, 132, 0, .null, 0, 0, 0, 0),
   (132, .iaload, 133, 0, .null, 0, 0, 0, 0),
   (133, .i2l, 134, 0, .null, 0, 0, 0, 0),
   (134, .bipush 32, 136, 0, .int 32, 0, 0, 0, 0),
   (136, .lshl, 137, 0, .null, 0, 0, 0, 0),
   (137, .aload_n 0, 138, 0, .null, 0, 0, 0, 0),
   (138, .iload 4, 140, 0, .null, 4, 0, 0, 0),
   (140, .iconst 2, 141, 0, .int 2, 0, 0, 0, 0),
   (141, .iadd, 142, 0, .null, 0, 0, 0, 0),
   (142, .iaload, 143, 0, .null, 0, 0, 0, 0),
   (143, .i2l, 144, 0, .null, 0, 0, 0, 0)],
  [(144, .ldc2_w 33, 147, 0, .long 4294967295, 0, 0, 0, 1009),
   (147, .land, 148, 0, .null, 0, 0, 0, 0),
   (148, .lor, 149, 0, .null, 0, 0, 0, 0),
   (149, .invokevirtual 39, 152, 0, .ref 6, 119, 9, 1, 902),
   (152, .if_icmp .eq 306, 155, 0, .null, 458, 0, 0, 0),
   (155, .iconst 0, 156, 0, .int 0, 0, 0, 0, 0),
   (156, .ireturn, 157, 0, .null, 0, 0, 1, 0),
   (157, .aload_n 1, 158, 0, .null, 1, 0, 0, 0),
   (158, .invokevirtual 40, 161, 0, .ref 1, 1, 8, 0, 256)],
  [(161, .aload_n 2, 162, 0, .null, 2, 0, 0, 0),
   (162, .invokevirtual 43, 165, 0, .ref 2, 94, 9, 0, 906),
   (165, .if_icmp .eq 293, 168, 0, .null, 458, 0, 0, 0),
   (168, .iconst 0, 169, 0, .int 0, 0, 0, 0, 0),
   (169, .ireturn, 170, 0, .null, 0, 0, 1, 0),
   (170, .aload_n 1, 171, 0, .null, 1, 0, 0, 0),
   (171, .invokevirtual 44, 174, 0, .ref 1, 9, 8, 0, 264),
   (174, .aload_n 2, 175, 0, .null, 2, 0, 0, 0),
   (175, .invokevirtual 47, 178, 0, .ref 1, 101, 9, 0, 910)],
  [(178, .if_icmp .eq 280, 181, 0, .null, 458, 0, 0, 0),
   (181, .iconst 0, 182, 0, .int 0, 0, 0, 0, 0),
   (182, .ireturn, 183, 0, .null, 0, 0, 1, 0),
   (183, .aload_n 1, 184, 0, .null, 1, 0, 0, 0),
   (184, .aload_n 3, 185, 0, .null, 3, 0, 0, 0),
   (185, .invokestatic 48, 188, 0, .ref 3, 91, 0, 2, 334),
   (188, .istore 5, 190, 0, .null, 5, 0, 0, 0),
   (190, .aload_n 2, 191, 0, .null, 2, 0, 0, 0),
   (191, .invokevirtual 53, 194, 0, .ref 5, 106, 9, 0, 914)],
  [(194, .istore 6, 196, 0, .null, 6, 0, 0, 0),
   (196, .aload_n 2, 197, 0, .null, 2, 0, 0, 0),
   (197, .invokevirtual 54, 200, 0, .ref 1, 117, 9, 0, 898),
   (200, .iload 5, 202, 0, .null, 5, 0, 0, 0),
   (202, .if_icmp .eq 5, 205, 0, .null, 207, 0, 0, 0),
   (205, .iconst 0, 206, 0, .int 0, 0, 0, 0, 0),
   (206, .ireturn, 207, 0, .null, 0, 0, 1, 0),
   (207, .iload 5, 209, 0, .null, 5, 0, 0, 0)],
  [(209, .ifCond .ne 15, 212, 0, .null, 224, 0, 0, 0),
   (212, .aload_n 3, 213, 0, .null, 3, 0, 0, 0),
   (213, .iconst 0, 214, 0, .int 0, 0, 0, 0, 0),
   (214, .laload, 215, 0, .null, 0, 0, 0, 0),
   (215, .iload 6, 217, 0, .null, 6, 0, 0, 0),
   (217, .i2l, 218, 0, .null, 0, 0, 0, 0),
   (218, .lcmp, 219, 0, .null, 0, 0, 0, 0),
   (219, .ifCond .eq 5, 222, 0, .null, 224, 0, 0, 0),
   (222, .iconst 0, 223, 0, .int 0, 0, 0, 0, 0),
   (223, .ireturn, 224, 0, .null, 0, 0, 1, 0)],
  [(224, .goto 234, 227, 6, .null, 458, 0, 0, 0),
   (227, .aload_n 1, 228, 0, .null, 1, 0, 0, 0),
   (228, .invokevirtual 57, 231, 0, .ref 1, 2, 8, 0, 272),
   (231, .aload_n 2, 232, 0, .null, 2, 0, 0, 0),
   (232, .invokevirtual 60, 235, 0, .ref 1, 96, 9, 0, 961),
   (235, .if_icmp .eq 223, 238, 0, .null, 458, 0, 0, 0),
   (238, .iconst 0, 239, 0, .int 0, 0, 0, 0, 0),
   (239, .ireturn, 240, 0, .null, 0, 0, 1, 0)],
  [(240, .aload_n 1, 241, 0, .null, 1, 0, 0, 0),
   (241, .aload_n 0, 242, 0, .null, 0, 0, 0, 0),
   (242, .iload 4, 244, 0, .null, 4, 0, 0, 0),
   (244, .iconst 1, 245, 0, .int 1, 0, 0, 0, 0),
   (245, .iadd, 246, 0, .null, 0, 0, 0, 0),
   (246, .iaload, 247, 0, .null, 0, 0, 0, 0),
   (247, .invokevirtual 61, 250, 0, .ref 2, 17, 8, 1, 276),
   (250, .aload_n 2, 251, 0, .null, 2, 0, 0, 0),
   (251, .aload_n 0, 252, 0, .null, 0, 0, 0, 0),
   (252, .iload 4, 254, 0, .null, 4, 0, 0, 0),
   (254, .iconst 1, 255, 0, .int 1, 0, 0, 0, 0),
   (255, .iadd, 256, 0, .null, 0, 0, 0, 0)],
  [(256, .iaload, 257, 0, .null, 0, 0, 0, 0),
   (257, .invokevirtual 64, 260, 0, .ref 2, 112, 9, 1, 965),
   (260, .if_icmp .eq 198, 263, 0, .null, 458, 0, 0, 0),
   (263, .iconst 0, 264, 0, .int 0, 0, 0, 0, 0),
   (264, .ireturn, 265, 0, .null, 0, 0, 1, 0),
   (265, .aload_n 1, 266, 0, .null, 1, 0, 0, 0),
   (266, .aload_n 0, 267, 0, .null, 0, 0, 0, 0),
   (267, .iload 4, 269, 0, .null, 4, 0, 0, 0),
   (269, .iconst 1, 270, 0, .int 1, 0, 0, 0, 0),
   (270, .iadd, 271, 0, .null, 0, 0, 0, 0),
   (271, .iaload, 272, 0, .null, 0, 0, 0, 0)],
  [(272, .invokevirtual 65, 275, 0, .ref 2, 14, 8, 1, 287),
   (275, .aload_n 2, 276, 0, .null, 2, 0, 0, 0),
   (276, .aload_n 0, 277, 0, .null, 0, 0, 0, 0),
   (277, .iload 4, 279, 0, .null, 4, 0, 0, 0),
   (279, .iconst 1, 280, 0, .int 1, 0, 0, 0, 0),
   (280, .iadd, 281, 0, .null, 0, 0, 0, 0),
   (281, .iaload, 282, 0, .null, 0, 0, 0, 0),
   (282, .invokevirtual 68, 285, 0, .ref 2, 109, 9, 1, 969),
   (285, .if_icmp .eq 173, 288, 0, .null, 458, 0, 0, 0)],
  [(288, .iconst 0, 289, 0, .int 0, 0, 0, 0, 0),
   (289, .ireturn, 290, 0, .null, 0, 0, 1, 0),
   (290, .aload_n 1, 291, 0, .null, 1, 0, 0, 0),
   (291, .aload_n 0, 292, 0, .null, 0, 0, 0, 0),
   (292, .iload 4, 294, 0, .null, 4, 0, 0, 0),
   (294, .iconst 1, 295, 0, .int 1, 0, 0, 0, 0),
   (295, .iadd, 296, 0, .null, 0, 0, 0, 0),
   (296, .iaload, 297, 0, .null, 0, 0, 0, 0),
   (297, .aload_n 0, 298, 0, .null, 0, 0, 0, 0),
   (298, .iload 4, 300, 0, .null, 4, 0, 0, 0),
   (300, .iconst 2, 301, 0, .int 2, 0, 0, 0, 0),
   (301, .iadd, 302, 0, .null, 0, 0, 0, 0),
   (302, .iaload, 303, 0, .null, 0, 0, 0, 0),
   (303, .invokevirtual 69, 306, 0, .ref 3, 18, 8, 2, 301)],
  [(306, .aload_n 2, 307, 0, .null, 2, 0, 0, 0),
   (307, .aload_n 0, 308, 0, .null, 0, 0, 0, 0),
   (308, .iload 4, 310, 0, .null, 4, 0, 0, 0),
   (310, .iconst 1, 311, 0, .int 1, 0, 0, 0, 0),
   (311, .iadd, 312, 0, .null, 0, 0, 0, 0),
   (312, .iaload, 313, 0, .null, 0, 0, 0, 0),
   (313, .aload_n 0, 314, 0, .null, 0, 0, 0, 0),
   (314, .iload 4, 316, 0, .null, 4, 0, 0, 0),
   (316, .iconst 2, 317, 0, .int 2, 0, 0, 0, 0),
   (317, .iadd, 318, 0, .null, 0, 0, 0, 0),
   (318, .iaload, 319, 0, .null, 0, 0, 0, 0),
   (319, .invokevirtual 73, 322, 0, .ref 3, 114, 9, 2, 973)],
  [(322, .if_icmp .eq 136, 325, 0, .null, 458, 0, 0, 0),
   (325, .iconst 0, 326, 0, .int 0, 0, 0, 0, 0),
   (326, .ireturn, 327, 0, .null, 0, 0, 1, 0),
   (327, .aload_n 1, 328, 0, .null, 1, 0, 0, 0),
   (328, .aload_n 0, 329, 0, .null, 0, 0, 0, 0),
   (329, .iload 4, 331, 0, .null, 4, 0, 0, 0),
   (331, .iconst 1, 332, 0, .int 1, 0, 0, 0, 0),
   (332, .iadd, 333, 0, .null, 0, 0, 0, 0),
   (333, .iaload, 334, 0, .null, 0, 0, 0, 0),
   (334, .invokevirtual 74, 337, 0, .ref 2, 19, 8, 1, 310)],
  [(337, .aload_n 2, 338, 0, .null, 2, 0, 0, 0),
   (338, .aload_n 0, 339, 0, .null, 0, 0, 0, 0),
   (339, .iload 4, 341, 0, .null, 4, 0, 0, 0),
   (341, .iconst 1, 342, 0, .int 1, 0, 0, 0, 0),
   (342, .iadd, 343, 0, .null, 0, 0, 0, 0),
   (343, .iaload, 344, 0, .null, 0, 0, 0, 0),
   (344, .invokevirtual 77, 347, 0, .ref 2, 115, 9, 1, 978),
   (347, .if_icmp .eq 111, 350, 0, .null, 458, 0, 0, 0),
   (350, .iconst 0, 351, 0, .int 0, 0, 0, 0, 0),
   (351, .ireturn, 352, 0, .null, 0, 0, 1, 0)],
  [(352, .aload_n 1, 353, 0, .null, 1, 0, 0, 0),
   (353, .aload_n 0, 354, 0, .null, 0, 0, 0, 0),
   (354, .iload 4, 356, 0, .null, 4, 0, 0, 0),
   (356, .iconst 1, 357, 0, .int 1, 0, 0, 0, 0),
   (357, .iadd, 358, 0, .null, 0, 0, 0, 0),
   (358, .iaload, 359, 0, .null, 0, 0, 0, 0),
   (359, .aload_n 3, 360, 0, .null, 3, 0, 0, 0),
   (360, .invokestatic 78, 363, 0, .ref 4, 90, 0, 3, 649),
   (363, .istore 5, 365, 0, .null, 5, 0, 0, 0),
   (365, .aload_n 2, 366, 0, .null, 2, 0, 0, 0),
   (366, .aload_n 0, 367, 0, .null, 0, 0, 0, 0),
   (367, .iload 4, 369, 0, .null, 4, 0, 0, 0)],
  [(369, .iconst 1, 370, 0, .int 1, 0, 0, 0, 0),
   (370, .iadd, 371, 0, .null, 0, 0, 0, 0),
   (371, .iaload, 372, 0, .null, 0, 0, 0, 0),
   (372, .invokevirtual 81, 375, 0, .ref 8, 104, 9, 1, 982),
   (375, .istore 6, 377, 0, .null, 6, 0, 0, 0),
   (377, .aload_n 2, 378, 0, .null, 2, 0, 0, 0),
   (378, .invokevirtual 54, 381, 0, .ref 1, 117, 9, 0, 898),
   (381, .iload 5, 383, 0, .null, 5, 0, 0, 0),
   (383, .if_icmp .eq 5, 386, 0, .null, 388, 0, 0, 0)],
  [(386, .iconst 0, 387, 0, .int 0, 0, 0, 0, 0),
   (387, .ireturn, 388, 0, .null, 0, 0, 1, 0),
   (388, .iload 5, 390, 0, .null, 5, 0, 0, 0),
   (390, .ifCond .ne 15, 393, 0, .null, 405, 0, 0, 0),
   (393, .aload_n 3, 394, 0, .null, 3, 0, 0, 0),
   (394, .iconst 0, 395, 0, .int 0, 0, 0, 0, 0),
   (395, .laload, 396, 0, .null, 0, 0, 0, 0),
   (396, .iload 6, 398, 0, .null, 6, 0, 0, 0),
   (398, .i2l, 399, 0, .null, 0, 0, 0, 0),
   (399, .lcmp, 400, 0, .null, 0, 0, 0, 0)],
  [(400, .ifCond .eq 5, 403, 0, .null, 405, 0, 0, 0),
   (403, .iconst 0, 404, 0, .int 0, 0, 0, 0, 0),
   (404, .ireturn, 405, 0, .null, 0, 0, 1, 0),
   (405, .goto 53, 408, 6, .null, 458, 0, 0, 0),
   (408, .aload_n 1, 409, 0, .null, 1, 0, 0, 0),
   (409, .aload_n 0, 410, 0, .null, 0, 0, 0, 0),
   (410, .iload 4, 412, 0, .null, 4, 0, 0, 0),
   (412, .iconst 1, 413, 0, .int 1, 0, 0, 0, 0),
   (413, .iadd, 414, 0, .null, 0, 0, 0, 0),
   (414, .iaload, 415, 0, .null, 0, 0, 0, 0),
   (415, .invokevirtual 82, 418, 0, .ref 2, 11, 8, 1, 318)],
  [(418, .aload_n 2, 419, 0, .null, 2, 0, 0, 0),
   (419, .aload_n 0, 420, 0, .null, 0, 0, 0, 0),
   (420, .iload 4, 422, 0, .null, 4, 0, 0, 0),
   (422, .iconst 1, 423, 0, .int 1, 0, 0, 0, 0),
   (423, .iadd, 424, 0, .null, 0, 0, 0, 0),
   (424, .iaload, 425, 0, .null, 0, 0, 0, 0),
   (425, .invokevirtual 85, 428, 0, .ref 2, 105, 9, 1, 1001),
   (428, .if_icmp .eq 30, 431, 0, .null, 458, 0, 0, 0),
   (431, .iconst 0, 432, 0, .int 0, 0, 0, 0, 0)],
  [(432, .ireturn, 433, 0, .null, 0, 0, 1, 0),
   (433, .aload_n 1, 434, 0, .null, 1, 0, 0, 0),
   (434, .aload_n 0, 435, 0, .null, 0, 0, 0, 0),
   (435, .iload 4, 437, 0, .null, 4, 0, 0, 0),
   (437, .iconst 1, 438, 0, .int 1, 0, 0, 0, 0),
   (438, .iadd, 439, 0, .null, 0, 0, 0, 0),
   (439, .iaload, 440, 0, .null, 0, 0, 0, 0),
   (440, .invokevirtual 86, 443, 0, .ref 2, 13, 8, 1, 326),
   (443, .aload_n 2, 444, 0, .null, 2, 0, 0, 0),
   (444, .aload_n 0, 445, 0, .null, 0, 0, 0, 0),
   (445, .iload 4, 447, 0, .null, 4, 0, 0, 0),
   (447, .iconst 1, 448, 0, .int 1, 0, 0, 0, 0)],
  [(448, .iadd, 449, 0, .null, 0, 0, 0, 0),
   (449, .iaload, 450, 0, .null, 0, 0, 0, 0),
   (450, .invokevirtual 89, 453, 0, .ref 2, 107, 9, 1, 1005),
   (453, .if_icmp .eq 5, 456, 0, .null, 458, 0, 0, 0),
   (456, .iconst 0, 457, 0, .int 0, 0, 0, 0, 0),
   (457, .ireturn, 458, 0, .null, 0, 0, 1, 0),
   (458, .iinc 4 3, 461, 6, .int 3, 4, 0, 0, 0),
   (461, .goto (-438), 464, 0, .null, 23, 0, 0, 0)],
  [(464, .iconst 1, 465, 0, .int 1, 0, 0, 0, 0),
   (465, .ireturn, 466, 0, .null, 0, 0, 1, 0)]]
def am_t1 : List (List (Nat × am_E)) := [
  [(0, .aload_n 0, 1, 0, .null, 0, 0, 0, 0),
   (1, .getfield 12, 4, 0, .null, 8, 0, 0, 214),
   (4, .invokevirtual 75, 7, 0, .ref 2, 77, 7, 0, 260),
   (7, .ireturn, 8, 0, .null, 0, 0, 0, 0)]]
def am_t2 : List (List (Nat × am_E)) := [
  [(0, .aload_n 0, 1, 0, .null, 0, 0, 0, 0),
   (1, .getfield 88, 4, 0, .null, 8, 8, 0, 222),
   (4, .ireturn, 5, 0, .null, 0, 0, 0, 0)]]
def am_t3 : List (List (Nat × am_E)) := [
  [(0, .iload_n 0, 1, 0, .null, 0, 0, 0, 0),
   (1, .iload_n 1, 2, 0, .null, 1, 0, 0, 0),
   (2, .invokestatic 197, 5, 0, .ref 1, 16, 0, 1, 298),
   (5, .iand, 6, 0, .null, 0, 0, 0, 0),
   (6, .ifCond .eq 7, 9, 0, .null, 13, 0, 0, 0),
   (9, .iconst 1, 10, 0, .int 1, 0, 0, 0, 0),
   (10, .goto 4, 13, 0, .null, 14, 0, 0, 0),
   (13, .iconst 0, 14, 0, .int 0, 0, 0, 0, 0),
   (14, .ireturn, 15, 1, .null, 0, 0, 1, 0)]]
def am_t4 : List (List (Nat × am_E)) := [
  [(0, .iload_n 0, 1, 0, .null, 0, 0, 0, 0),
   (1, .ifCond .lt 13, 4, 0, .null, 14, 0, 0, 0),
   (4, .iload_n 0, 5, 0, .null, 0, 0, 0, 0),
   (5, .bipush 32, 7, 0, .int 32, 0, 0, 0, 0),
   (7, .if_icmp .ge 7, 10, 0, .null, 14, 0, 0, 0),
   (10, .iconst 1, 11, 0, .int 1, 0, 0, 0, 0),
   (11, .goto 4, 14, 0, .null, 15, 0, 0, 0),
   (14, .iconst 0, 15, 1, .int 0, 0, 0, 0, 0),
   (15, .ireturn, 16, 1, .null, 0, 0, 1, 0)]]
def am_t5 : List (List (Nat × am_E)) := [
  [(0, .iload_n 0, 1, 0, .null, 0, 0, 0, 0),
   (1, .bipush 65, 3, 0, .int 65, 0, 0, 0, 0),
   (3, .if_icmp .lt 19, 6, 0, .null, 22, 0, 0, 0),
   (6, .iload_n 0, 7, 0, .null, 0, 0, 0, 0),
   (7, .bipush 90, 9, 0, .int 90, 0, 0, 0, 0),
   (9, .if_icmp .gt 13, 12, 0, .null, 22, 0, 0, 0),
   (12, .iload_n 1, 13, 0, .null, 1, 0, 0, 0),
   (13, .bipush 61, 15, 0, .int 61, 0, 0, 0, 0),
   (15, .if_icmp .ne 7, 18, 0, .null, 22, 0, 0, 0)],
  [(18, .iconst 1, 19, 0, .int 1, 0, 0, 0, 0),
   (19, .goto 4, 22, 0, .null, 23, 0, 0, 0),
   (22, .iconst 0, 23, 1, .int 0, 0, 0, 0, 0),
   (23, .ireturn, 24, 1, .null, 0, 0, 1, 0)]]
def am_t6 : List (List (Nat × am_E)) := [
  [(0, .iload_n 0, 1, 0, .null, 0, 0, 0, 0),
   (1, .bipush 36, 3, 0, .int 36, 0, 0, 0, 0),
   (3, .if_icmp .ne 19, 6, 0, .null, 22, 0, 0, 0),
   (6, .iload_n 1, 7, 0, .null, 1, 0, 0, 0),
   (7, .bipush 65, 9, 0, .int 65, 0, 0, 0, 0),
   (9, .if_icmp .lt 13, 12, 0, .null, 22, 0, 0, 0),
   (12, .iload_n 1, 13, 0, .null, 1, 0, 0, 0),
   (13, .bipush 90, 15, 0, .int 90, 0, 0, 0, 0),
   (15, .if_icmp .gt 7, 18, 0, .null, 22, 0, 0, 0)],
  [(18, .iconst 1, 19, 0, .int 1, 0, 0, 0, 0),
   (19, .goto 4, 22, 0, .null, 23, 0, 0, 0),
   (22, .iconst 0, 23, 1, .int 0, 0, 0, 0, 0),
   (23, .ireturn, 24, 1, .null, 0, 0, 1, 0)]]
def am_t7 : List (List (Nat × am_E)) := [
  [(0, .iload_n 0, 1, 0, .null, 0, 0, 0, 0),
   (1, .bipush 97, 3, 0, .int 97, 0, 0, 0, 0),
   (3, .if_icmp .lt 25, 6, 0, .null, 28, 0, 0, 0),
   (6, .iload_n 0, 7, 0, .null, 0, 0, 0, 0),
   (7, .bipush 104, 9, 0, .int 104, 0, 0, 0, 0),
   (9, .if_icmp .gt 19, 12, 0, .null, 28, 0, 0, 0),
   (12, .iload_n 1, 13, 0, .null, 1, 0, 0, 0),
   (13, .bipush 48, 15, 0, .int 48, 0, 0, 0, 0),
   (15, .if_icmp .lt 13, 18, 0, .null, 28, 0, 0, 0)],
  [(18, .iload_n 1, 19, 0, .null, 1, 0, 0, 0),
   (19, .bipush 51, 21, 0, .int 51, 0, 0, 0, 0),
   (21, .if_icmp .gt 7, 24, 0, .null, 28, 0, 0, 0),
   (24, .iconst 1, 25, 0, .int 1, 0, 0, 0, 0),
   (25, .goto 4, 28, 0, .null, 29, 0, 0, 0),
   (28, .iconst 0, 29, 1, .int 0, 0, 0, 0, 0),
   (29, .ireturn, 30, 1, .null, 0, 0, 1, 0)]]
def am_t8 : List (List (Nat × am_E)) := [
  [(0, .iload_n 0, 1, 0, .null, 0, 0, 0, 0),
   (1, .bipush 37, 3, 0, .int 37, 0, 0, 0, 0),
   (3, .if_icmp .ne 19, 6, 0, .null, 22, 0, 0, 0),
   (6, .iload_n 1, 7, 0, .null, 1, 0, 0, 0),
   (7, .bipush 48, 9, 0, .int 48, 0, 0, 0, 0),
   (9, .if_icmp .lt 13, 12, 0, .null, 22, 0, 0, 0),
   (12, .iload_n 1, 13, 0, .null, 1, 0, 0, 0),
   (13, .bipush 51, 15, 0, .int 51, 0, 0, 0, 0),
   (15, .if_icmp .gt 7, 18, 0, .null, 22, 0, 0, 0)],
  [(18, .iconst 1, 19, 0, .int 1, 0, 0, 0, 0),
   (19, .goto 4, 22, 0, .null, 23, 0, 0, 0),
   (22, .iconst 0, 23, 1, .int 0, 0, 0, 0, 0),
   (23, .ireturn, 24, 1, .null, 0, 0, 1, 0)]]
def am_t9 : List (List (Nat × am_E)) := [
  [(0, .aload_n 0, 1, 0, .null, 0, 0, 0, 0),
   (1, .getfield 12, 4, 0, .null, 8, 0, 0, 214),
   (4, .invokevirtual 79, 7, 0, .ref 1, 89, 7, 0, 268),
   (7, .ireturn, 8, 0, .null, 0, 0, 0, 0)]]
def am_t10 : List (List (Nat × am_E)) := [
  [(0, .iload_n 1, 1, 0, .null, 1, 0, 0, 0),
   (1, .invokestatic 118, 4, 0, .ref 1, 4, 0, 1, 280),
   (4, .ifCond .ne 11, 7, 0, .null, 15, 0, 0, 0),
   (7, .new 141, 10, 0, .null, 3, 0, 0, 659),
   (15, .aload_n 0, 16, 0, .null, 0, 0, 0, 0)],
  [(16, .getfield 60, 19, 0, .null, 8, 6, 0, 220),
   (19, .invokevirtual 144, 22, 0, .ref 1, 23, 0, 0, 674),
   (22, .aload_n 0, 23, 0, .null, 0, 0, 0, 0),
   (23, .getfield 60, 26, 0, .null, 8, 6, 0, 220),
   (26, .iload_n 1, 27, 0, .null, 1, 0, 0, 0),
   (27, .invokevirtual 147, 30, 0, .ref 2, 32, 0, 1, 703),
   (30, .istore_n 2, 31, 0, .null, 2, 0, 0, 0),
   (31, .aload_n 0, 32, 0, .null, 0, 0, 0, 0)],
  [(32, .getfield 60, 35, 0, .null, 8, 6, 0, 220),
   (35, .iload_n 2, 36, 0, .null, 2, 0, 0, 0),
   (36, .invokevirtual 150, 39, 0, .ref 3, 27, 0, 1, 707),
   (39, .ifCond .eq 11, 42, 0, .null, 50, 0, 0, 0),
   (42, .new 102, 45, 0, .null, 1, 0, 0, 582)],
  [(50, .aload_n 0, 51, 0, .null, 0, 0, 0, 0),
   (51, .getfield 60, 54, 0, .null, 8, 6, 0, 220),
   (54, .iload_n 2, 55, 0, .null, 2, 0, 0, 0),
   (55, .invokevirtual 153, 58, 0, .ref 3, 29, 0, 1, 711),
   (58, .ifCond .eq 11, 61, 0, .null, 69, 0, 0, 0),
   (61, .new 156, 64, 0, .null, 4, 0, 0, 715)],
  [(69, .aload_n 0, 70, 0, .null, 0, 0, 0, 0),
   (70, .getfield 60, 73, 0, .null, 8, 6, 0, 220),
   (73, .iload_n 2, 74, 0, .null, 2, 0, 0, 0),
   (74, .invokevirtual 159, 77, 0, .ref 7, 30, 0, 1, 730),
   (77, .istore_n 3, 78, 0, .null, 3, 0, 0, 0),
   (78, .aload_n 0, 79, 0, .null, 0, 0, 0, 0),
   (79, .getfield 51, 82, 0, .null, 8, 5, 0, 219)],
  [(82, .invokevirtual 162, 85, 0, .ref 3, 73, 6, 0, 742),
   (85, .iload_n 3, 86, 0, .null, 3, 0, 0, 0),
   (86, .invokestatic 165, 89, 0, .ref 1, 120, 0, 1, 749),
   (89, .iadd, 90, 0, .null, 0, 0, 0, 0),
   (90, .ldc 133, 92, 0, .int 1000000000, 0, 0, 0, 305),
   (92, .if_icmp .le 11, 95, 0, .null, 103, 0, 0, 0),
   (95, .new 170, 98, 0, .null, 5, 0, 0, 755)],
  [(103, .aload_n 0, 104, 0, .null, 0, 0, 0, 0),
   (104, .iload_n 3, 105, 0, .null, 3, 0, 0, 0),
   (105, .invokevirtual 173, 108, 0, .ref 6, 15, 8, 1, 770),
   (108, .iload_n 3, 109, 0, .null, 3, 0, 0, 0),
   (109, .invokestatic 165, 112, 0, .ref 1, 120, 0, 1, 749)],
  [(112, .ireturn, 113, 0, .null, 0, 0, 0, 0)]]
def am_t11 : List (List (Nat × am_E)) := [
  [(0, .aload_n 0, 1, 0, .null, 0, 0, 0, 0),
   (1, .getfield 67, 4, 0, .null, 8, 7, 0, 221),
   (4, .iload_n 1, 5, 0, .null, 1, 0, 0, 0),
   (5, .invokevirtual 177, 8, 0, .ref 2, 56, 3, 1, 322),
   (8, .ireturn, 9, 0, .null, 0, 0, 0, 0)]]
def am_t12 : List (List (Nat × am_E)) := [
  [(0, .aload_n 0, 1, 0, .null, 0, 0, 0, 0),
   (1, .getfield 21, 4, 0, .null, 8, 1, 0, 215),
   (4, .invokevirtual 82, 7, 0, .ref 3, 43, 1, 0, 344),
   (7, .aload_n 0, 8, 0, .null, 0, 0, 0, 0),
   (8, .aload_n 0, 9, 0, .null, 0, 0, 0, 0),
   (9, .getfield 21, 12, 0, .null, 8, 1, 0, 215),
   (12, .invokevirtual 85, 15, 0, .ref 2, 35, 1, 0, 410),
   (15, .putfield 88, 18, 0, .null, 8, 8, 0, 222)],
  [(18, .aload_n 0, 19, 0, .null, 0, 0, 0, 0),
   (19, .getfield 88, 22, 0, .null, 8, 8, 0, 222),
   (22, .ifCond .eq 11, 25, 0, .null, 33, 0, 0, 0),
   (25, .new 92, 28, 0, .null, 0, 0, 0, 422)],
  [(33, .aload_n 0, 34, 0, .null, 0, 0, 0, 0),
   (34, .getfield 28, 37, 0, .null, 8, 2, 0, 216),
   (37, .aload_n 0, 38, 0, .null, 0, 0, 0, 0),
   (38, .getfield 21, 41, 0, .null, 8, 1, 0, 215),
   (41, .invokevirtual 95, 44, 0, .ref 2, 50, 2, 1, 488),
   (44, .aload_n 0, 45, 0, .null, 0, 0, 0, 0),
   (45, .aload_n 0, 46, 0, .null, 0, 0, 0, 0),
   (46, .getfield 37, 49, 0, .null, 8, 3, 0, 217)],
  [(49, .invokevirtual 99, 52, 0, .ref 2, 61, 4, 0, 557),
   (52, .putfield 88, 55, 0, .null, 8, 8, 0, 222),
   (55, .aload_n 0, 56, 0, .null, 0, 0, 0, 0),
   (56, .getfield 88, 59, 0, .null, 8, 8, 0, 222),
   (59, .ifCond .eq 11, 62, 0, .null, 70, 0, 0, 0),
   (62, .new 102, 65, 0, .null, 1, 0, 0, 582)],
  [(70, .aload_n 0, 71, 0, .null, 0, 0, 0, 0),
   (71, .aload_n 0, 72, 0, .null, 0, 0, 0, 0),
   (72, .getfield 37, 75, 0, .null, 8, 3, 0, 217),
   (75, .invokevirtual 105, 78, 0, .ref 2, 62, 4, 0, 597),
   (78, .putfield 88, 81, 0, .null, 8, 8, 0, 222)],
  [(81, .aload_n 0, 82, 0, .null, 0, 0, 0, 0),
   (82, .getfield 88, 85, 0, .null, 8, 8, 0, 222),
   (85, .ifCond .ne 14, 88, 0, .null, 99, 0, 0, 0),
   (88, .aload_n 0, 89, 0, .null, 0, 0, 0, 0),
   (89, .aload_n 0, 90, 0, .null, 0, 0, 0, 0),
   (90, .getfield 37, 93, 0, .null, 8, 3, 0, 217),
   (93, .invokevirtual 108, 96, 0, .ref 3, 60, 4, 0, 602)],
  [(96, .putfield 88, 99, 0, .null, 8, 8, 0, 222),
   (99, .aload_n 0, 100, 2, .null, 0, 0, 0, 0),
   (100, .getfield 88, 103, 0, .null, 8, 8, 0, 222),
   (103, .ifCond .eq 11, 106, 0, .null, 114, 0, 0, 0),
   (106, .new 111, 109, 0, .null, 2, 0, 0, 615)],
  [(114, .aload_n 0, 115, 0, .null, 0, 0, 0, 0),
   (115, .getfield 37, 118, 0, .null, 8, 3, 0, 217),
   (118, .aload_n 0, 119, 0, .null, 0, 0, 0, 0),
   (119, .getfield 44, 122, 0, .null, 8, 4, 0, 218),
   (122, .invokevirtual 114, 125, 0, .ref 5, 59, 4, 1, 630),
   (125, .ireturn, 126, 0, .null, 0, 0, 0, 0)]]
def am_t13 : List (List (Nat × am_E)) := [
  [(0, .iload_n 1, 1, 0, .null, 1, 0, 0, 0),
   (1, .invokestatic 118, 4, 0, .ref 1, 4, 0, 1, 280),
   (4, .ifCond .eq 14, 7, 0, .null, 18, 0, 0, 0),
   (7, .aload_n 0, 8, 0, .null, 0, 0, 0, 0),
   (8, .getfield 67, 11, 0, .null, 8, 7, 0, 221),
   (11, .iload_n 1, 12, 0, .null, 1, 0, 0, 0),
   (12, .invokevirtual 180, 15, 0, .ref 2, 58, 3, 1, 330),
   (15, .goto 4, 18, 0, .null, 19, 0, 0, 0)],
  [(18, .iconst (-1), 19, 0, .int (-1), 0, 0, 0, 0),
   (19, .ireturn, 20, 1, .null, 0, 0, 0, 0)]]
def am_t14 : List (List (Nat × am_E)) := [
  [(0, .iload_n 1, 1, 0, .null, 1, 0, 0, 0),
   (1, .invokestatic 118, 4, 0, .ref 1, 4, 0, 1, 280),
   (4, .ifCond .ne 5, 7, 0, .null, 9, 0, 0, 0),
   (7, .iconst (-1), 8, 0, .int (-1), 0, 0, 0, 0),
   (8, .ireturn, 9, 0, .null, 0, 0, 0, 0),
   (9, .aload_n 0, 10, 0, .null, 0, 0, 0, 0),
   (10, .getfield 44, 13, 0, .null, 8, 4, 0, 218),
   (13, .invokevirtual 126, 16, 0, .ref 1, 72, 5, 0, 291)],
  [(16, .iload_n 1, 17, 0, .null, 1, 0, 0, 0),
   (17, .invokestatic 129, 20, 0, .ref 2, 3, 0, 2, 295),
   (20, .ifCond .eq 7, 23, 0, .null, 27, 0, 0, 0),
   (23, .iconst 1, 24, 0, .int 1, 0, 0, 0, 0),
   (24, .goto 4, 27, 0, .null, 28, 0, 0, 0),
   (27, .iconst 0, 28, 0, .int 0, 0, 0, 0, 0),
   (28, .ireturn, 29, 1, .null, 0, 0, 0, 0)]]
def am_t15 : List (List (Nat × am_E)) := [
  [(0, .aload_n 0, 1, 0, .null, 0, 0, 0, 0),
   (1, .getfield 67, 4, 0, .null, 8, 7, 0, 221),
   (4, .invokevirtual 183, 7, 0, .ref 2, 55, 3, 0, 774),
   (7, .iconst 0, 8, 0, .int 0, 0, 0, 0, 0),
   (8, .istore_n 2, 9, 0, .null, 2, 0, 0, 0),
   (9, .iload_n 2, 10, 4, .null, 2, 0, 0, 0),
   (10, .bipush 32, 12, 0, .int 32, 0, 0, 0, 0),
   (12, .if_icmp .ge 34, 15, 0, .null, 46, 0, 0, 0),
   (15, .iload_n 1, 16, 0, .null, 1, 0, 0, 0)],
  [(16, .iload_n 2, 17, 0, .null, 2, 0, 0, 0),
   (17, .invokestatic 129, 20, 0, .ref 2, 3, 0, 2, 295),
   (20, .ifCond .eq 20, 23, 0, .null, 40, 0, 0, 0),
   (23, .aload_n 0, 24, 0, .null, 0, 0, 0, 0),
   (24, .getfield 67, 27, 0, .null, 8, 7, 0, 221),
   (27, .iload_n 2, 28, 0, .null, 2, 0, 0, 0),
   (28, .aload_n 0, 29, 0, .null, 0, 0, 0, 0),
   (29, .getfield 60, 32, 0, .null, 8, 6, 0, 220)],
  [(32, .iload_n 2, 33, 0, .null, 2, 0, 0, 0),
   (33, .iload_n 1, 34, 0, .null, 1, 0, 0, 0),
   (34, .invokevirtual 185, 37, 0, .ref 3, 31, 0, 2, 778),
   (37, .invokevirtual 188, 40, 0, .ref 3, 57, 3, 2, 779),
   (40, .iinc 2 1, 43, 4, .int 1, 2, 0, 0, 0),
   (43, .goto (-34), 46, 0, .null, 9, 0, 0, 0),
   (46, .aload_n 0, 47, 0, .null, 0, 0, 0, 0),
   (47, .getfield 51, 50, 0, .null, 8, 5, 0, 219)],
  [(50, .invokevirtual 162, 53, 0, .ref 3, 73, 6, 0, 742),
   (53, .istore_n 2, 54, 0, .null, 2, 0, 0, 0),
   (54, .iload_n 1, 55, 0, .null, 1, 0, 0, 0),
   (55, .istore_n 3, 56, 0, .null, 3, 0, 0, 0),
   (56, .iconst 1, 57, 0, .int 1, 0, 0, 0, 0),
   (57, .istore 4, 59, 0, .null, 4, 0, 0, 0),
   (59, .iload 4, 61, 6, .null, 4, 0, 0, 0),
   (61, .bipush 32, 63, 0, .int 32, 0, 0, 0, 0),
   (63, .if_icmp .gt 55, 66, 0, .null, 118, 0, 0, 0)],
  [(66, .iload_n 3, 67, 0, .null, 3, 0, 0, 0),
   (67, .ifCond .eq 51, 70, 0, .null, 118, 0, 0, 0),
   (70, .aload_n 0, 71, 0, .null, 0, 0, 0, 0),
   (71, .getfield 60, 74, 0, .null, 8, 6, 0, 220),
   (74, .iload_n 3, 75, 0, .null, 3, 0, 0, 0),
   (75, .invokevirtual 191, 78, 0, .ref 3, 26, 0, 1, 783),
   (78, .istore 5, 80, 0, .null, 5, 0, 0, 0)],
  [(80, .aload_n 0, 81, 0, .null, 0, 0, 0, 0),
   (81, .getfield 51, 84, 0, .null, 8, 5, 0, 219),
   (84, .iload 5, 86, 0, .null, 5, 0, 0, 0),
   (86, .iload_n 2, 87, 0, .null, 2, 0, 0, 0),
   (87, .iload 4, 89, 0, .null, 4, 0, 0, 0),
   (89, .iadd, 90, 0, .null, 0, 0, 0, 0),
   (90, .invokevirtual 134, 93, 0, .ref 3, 75, 6, 2, 306),
   (93, .aload_n 0, 94, 0, .null, 0, 0, 0, 0),
   (94, .getfield 67, 97, 0, .null, 8, 7, 0, 221)],
  [(97, .iload 5, 99, 0, .null, 5, 0, 0, 0),
   (99, .invokevirtual 194, 102, 0, .ref 2, 54, 3, 1, 787),
   (102, .iload_n 3, 103, 0, .null, 3, 0, 0, 0),
   (103, .iload 5, 105, 0, .null, 5, 0, 0, 0),
   (105, .invokestatic 197, 108, 0, .ref 1, 16, 0, 1, 298),
   (108, .iconst (-1), 109, 0, .int (-1), 0, 0, 0, 0),
   (109, .ixor, 110, 0, .null, 0, 0, 0, 0),
   (110, .iand, 111, 0, .null, 0, 0, 0, 0),
   (111, .istore_n 3, 112, 0, .null, 3, 0, 0, 0)],
  [(112, .iinc 4 1, 115, 0, .int 1, 4, 0, 0, 0),
   (115, .goto (-56), 118, 0, .null, 59, 0, 0, 0),
   (118, .return_, 119, 1, .null, 0, 0, 0, 0)]]
def am_t16 : List (List (Nat × am_E)) := [
  [(0, .iconst 1, 1, 0, .int 1, 0, 0, 0, 0),
   (1, .iload_n 0, 2, 0, .null, 0, 0, 0, 0),
   (2, .ishl, 3, 0, .null, 0, 0, 0, 0),
   (3, .ireturn, 4, 0, .null, 0, 0, 0, 0)]]
def am_t17 : List (List (Nat × am_E)) := [
  [(0, .iload_n 1, 1, 0, .null, 1, 0, 0, 0),
   (1, .invokestatic 118, 4, 0, .ref 1, 4, 0, 1, 280),
   (4, .ifCond .eq 14, 7, 0, .null, 18, 0, 0, 0),
   (7, .aload_n 0, 8, 0, .null, 0, 0, 0, 0),
   (8, .getfield 44, 11, 0, .null, 8, 4, 0, 218),
   (11, .iload_n 1, 12, 0, .null, 1, 0, 0, 0),
   (12, .invokevirtual 122, 15, 0, .ref 2, 71, 5, 1, 283),
   (15, .goto 4, 18, 0, .null, 19, 0, 0, 0)],
  [(18, .iconst 0, 19, 0, .int 0, 0, 0, 0, 0),
   (19, .ireturn, 20, 1, .null, 0, 0, 0, 0)]]
def am_t18 : List (List (Nat × am_E)) := [
  [(0, .iload_n 1, 1, 0, .null, 1, 0, 0, 0),
   (1, .invokestatic 118, 4, 0, .ref 1, 4, 0, 1, 280),
   (4, .ifCond .eq 13, 7, 0, .null, 17, 0, 0, 0),
   (7, .iload_n 2, 8, 0, .null, 2, 0, 0, 0),
   (8, .ifCond .lt 9, 11, 0, .null, 17, 0, 0, 0),
   (11, .iload_n 2, 12, 0, .null, 2, 0, 0, 0),
   (12, .ldc 133, 14, 0, .int 1000000000, 0, 0, 0, 305),
   (14, .if_icmp .le 5, 17, 0, .null, 19, 0, 0, 0)],
  [(17, .iconst 0, 18, 1, .int 0, 0, 0, 0, 0),
   (18, .ireturn, 19, 0, .null, 0, 0, 1, 0),
   (19, .aload_n 0, 20, 0, .null, 0, 0, 0, 0),
   (20, .getfield 51, 23, 0, .null, 8, 5, 0, 219),
   (23, .iload_n 1, 24, 0, .null, 1, 0, 0, 0),
   (24, .iload_n 2, 25, 0, .null, 2, 0, 0, 0),
   (25, .invokevirtual 134, 28, 0, .ref 3, 75, 6, 2, 306),
   (28, .iconst 1, 29, 0, .int 1, 0, 0, 0, 0),
   (29, .ireturn, 30, 0, .null, 0, 0, 1, 0)]]
def am_t19 : List (List (Nat × am_E)) := [
  [(0, .iload_n 1, 1, 0, .null, 1, 0, 0, 0),
   (1, .invokestatic 118, 4, 0, .ref 1, 4, 0, 1, 280),
   (4, .ifCond .eq 14, 7, 0, .null, 18, 0, 0, 0),
   (7, .aload_n 0, 8, 0, .null, 0, 0, 0, 0),
   (8, .getfield 51, 11, 0, .null, 8, 5, 0, 219),
   (11, .iload_n 1, 12, 0, .null, 1, 0, 0, 0),
   (12, .invokevirtual 138, 15, 0, .ref 2, 74, 6, 1, 314),
   (15, .goto 4, 18, 0, .null, 19, 0, 0, 0)],
  [(18, .iconst (-1), 19, 0, .int (-1), 0, 0, 0, 0),
   (19, .ireturn, 20, 1, .null, 0, 0, 0, 0)]]
def am_t20 : List (List (Nat × am_E)) := [
  [(0, .aload_n 0, 1, 0, .null, 0, 0, 0, 0),
   (1, .getfield 12, 4, 0, .null, 8, 0, 0, 214),
   (4, .lload_n 1, 5, 0, .null, 1, 0, 0, 0),
   (5, .invokevirtual 71, 8, 0, .ref 5, 76, 7, 1, 246),
   (8, .ireturn, 9, 0, .null, 0, 0, 0, 0)]]
def am_t21 : List (List (Nat × am_E)) := [
  [(0, .iload_n 2, 1, 0, .null, 2, 0, 0, 0),
   (1, .iconst (-1), 2, 0, .int (-1), 0, 0, 0, 0),
   (2, .if_icmp .eq 29, 5, 0, .null, 31, 0, 0, 0),
   (5, .aload_n 0, 6, 0, .null, 0, 0, 0, 0),
   (6, .getfield 9, 9, 0, .null, 0, 2, 0, 184),
   (9, .iload_n 1, 10, 0, .null, 1, 0, 0, 0),
   (10, .dup2, 11, 0, .null, 0, 0, 0, 0),
   (11, .iaload, 12, 0, .null, 0, 0, 0, 0),
   (12, .iload_n 2, 13, 0, .null, 2, 0, 0, 0),
   (13, .invokestatic 37, 16, 0, .ref 1, 16, 3, 1, 684)],
  [(16, .ior, 17, 0, .null, 0, 0, 0, 0),
   (17, .iastore, 18, 0, .null, 0, 0, 0, 0),
   (18, .aload_n 0, 19, 0, .null, 0, 0, 0, 0),
   (19, .dup, 20, 0, .null, 0, 0, 0, 0),
   (20, .getfield 45, 23, 0, .null, 0, 4, 0, 186),
   (23, .iload_n 1, 24, 0, .null, 1, 0, 0, 0),
   (24, .invokestatic 37, 27, 0, .ref 1, 16, 3, 1, 684),
   (27, .ior, 28, 0, .null, 0, 0, 0, 0),
   (28, .putfield 45, 31, 0, .null, 0, 4, 0, 186),
   (31, .return_, 32, 1, .null, 0, 0, 0, 0)]]
def am_t22 : List (List (Nat × am_E)) := [
  [(0, .aload_n 0, 1, 0, .null, 0, 0, 0, 0),
   (1, .getfield 18, 4, 0, .null, 0, 0, 0, 182),
   (4, .invokevirtual 62, 7, 0, .ref 1, 72, 5, 0, 682),
   (7, .istore_n 1, 8, 0, .null, 1, 0, 0, 0),
   (8, .iconst 0, 9, 0, .int 0, 0, 0, 0, 0),
   (9, .istore_n 2, 10, 0, .null, 2, 0, 0, 0),
   (10, .iload_n 2, 11, 4, .null, 2, 0, 0, 0),
   (11, .bipush 32, 13, 0, .int 32, 0, 0, 0, 0),
   (13, .if_icmp .ge 27, 16, 0, .null, 40, 0, 0, 0)],
  [(16, .aload_n 0, 17, 0, .null, 0, 0, 0, 0),
   (17, .getfield 22, 20, 0, .null, 0, 1, 0, 183),
   (20, .iload_n 2, 21, 0, .null, 2, 0, 0, 0),
   (21, .invokevirtual 49, 24, 0, .ref 2, 74, 6, 1, 683),
   (24, .ifCond .eq 10, 27, 0, .null, 34, 0, 0, 0),
   (27, .iload_n 1, 28, 0, .null, 1, 0, 0, 0),
   (28, .iload_n 2, 29, 0, .null, 2, 0, 0, 0),
   (29, .invokestatic 37, 32, 0, .ref 1, 16, 3, 1, 684)],
  [(32, .ior, 33, 0, .null, 0, 0, 0, 0),
   (33, .istore_n 1, 34, 0, .null, 1, 0, 0, 0),
   (34, .iinc 2 1, 37, 4, .int 1, 2, 0, 0, 0),
   (37, .goto (-27), 40, 0, .null, 10, 0, 0, 0),
   (40, .iconst 0, 41, 0, .int 0, 0, 0, 0, 0),
   (41, .istore_n 2, 42, 0, .null, 2, 0, 0, 0),
   (42, .iload_n 2, 43, 4, .null, 2, 0, 0, 0),
   (43, .iconst 4, 44, 0, .int 4, 0, 0, 0, 0),
   (44, .if_icmp .ge 43, 47, 0, .null, 87, 0, 0, 0),
   (47, .iconst 0, 48, 0, .int 0, 0, 0, 0, 0)],
  [(48, .istore_n 3, 49, 0, .null, 3, 0, 0, 0),
   (49, .iload_n 3, 50, 5, .null, 3, 0, 0, 0),
   (50, .bipush 32, 52, 0, .int 32, 0, 0, 0, 0),
   (52, .if_icmp .ge 29, 55, 0, .null, 81, 0, 0, 0),
   (55, .aload_n 0, 56, 0, .null, 0, 0, 0, 0),
   (56, .getfield 18, 59, 0, .null, 0, 0, 0, 182),
   (59, .iload_n 3, 60, 0, .null, 3, 0, 0, 0),
   (60, .iload_n 1, 61, 0, .null, 1, 0, 0, 0),
   (61, .invokevirtual 66, 64, 0, .ref 6, 70, 5, 2, 685)],
  [(64, .iconst (-1), 65, 0, .int (-1), 0, 0, 0, 0),
   (65, .if_icmp .eq 10, 68, 0, .null, 75, 0, 0, 0),
   (68, .iload_n 1, 69, 0, .null, 1, 0, 0, 0),
   (69, .iload_n 3, 70, 0, .null, 3, 0, 0, 0),
   (70, .invokestatic 37, 73, 0, .ref 1, 16, 3, 1, 684),
   (73, .ior, 74, 0, .null, 0, 0, 0, 0),
   (74, .istore_n 1, 75, 0, .null, 1, 0, 0, 0),
   (75, .iinc 3 1, 78, 5, .int 1, 3, 0, 0, 0),
   (78, .goto (-29), 81, 0, .null, 49, 0, 0, 0)],
  [(81, .iinc 2 1, 84, 0, .int 1, 2, 0, 0, 0),
   (84, .goto (-42), 87, 0, .null, 42, 0, 0, 0),
   (87, .iload_n 1, 88, 0, .null, 1, 0, 0, 0),
   (88, .ireturn, 89, 0, .null, 0, 0, 0, 0)]]
def am_t23 : List (List (Nat × am_E)) := [
  [(0, .aload_n 0, 1, 0, .null, 0, 0, 0, 0),
   (1, .aload_n 0, 2, 0, .null, 0, 0, 0, 0),
   (2, .invokevirtual 26, 5, 0, .ref 4, 22, 0, 0, 678),
   (5, .invokevirtual 30, 8, 0, .ref 3, 25, 0, 1, 689),
   (8, .aload_n 0, 9, 0, .null, 0, 0, 0, 0),
   (9, .invokevirtual 34, 12, 0, .ref 3, 24, 0, 0, 699),
   (12, .return_, 13, 0, .null, 0, 0, 0, 0)]]
def am_t24 : List (List (Nat × am_E)) := [
  [(0, .iconst 0, 1, 0, .int 0, 0, 0, 0, 0),
   (1, .istore_n 1, 2, 0, .null, 1, 0, 0, 0),
   (2, .iload_n 1, 3, 3, .null, 1, 0, 0, 0),
   (3, .bipush 32, 5, 0, .int 32, 0, 0, 0, 0),
   (5, .if_icmp .ge 21, 8, 0, .null, 26, 0, 0, 0),
   (8, .aload_n 0, 9, 0, .null, 0, 0, 0, 0),
   (9, .getfield 15, 12, 0, .null, 0, 3, 0, 185),
   (12, .iload_n 1, 13, 0, .null, 1, 0, 0, 0),
   (13, .aload_n 0, 14, 0, .null, 0, 0, 0, 0),
   (14, .getfield 9, 17, 0, .null, 0, 2, 0, 184)],
  [(17, .iload_n 1, 18, 0, .null, 1, 0, 0, 0),
   (18, .iaload, 19, 0, .null, 0, 0, 0, 0),
   (19, .iastore, 20, 0, .null, 0, 0, 0, 0),
   (20, .iinc 1 1, 23, 0, .int 1, 1, 0, 0, 0),
   (23, .goto (-21), 26, 0, .null, 2, 0, 0, 0),
   (26, .iconst 0, 27, 0, .int 0, 0, 0, 0, 0),
   (27, .istore_n 1, 28, 0, .null, 1, 0, 0, 0),
   (28, .iload_n 1, 29, 3, .null, 1, 0, 0, 0),
   (29, .bipush 32, 31, 0, .int 32, 0, 0, 0, 0),
   (31, .if_icmp .ge 51, 34, 0, .null, 82, 0, 0, 0)],
  [(34, .iconst 0, 35, 0, .int 0, 0, 0, 0, 0),
   (35, .istore_n 2, 36, 0, .null, 2, 0, 0, 0),
   (36, .iload_n 2, 37, 4, .null, 2, 0, 0, 0),
   (37, .bipush 32, 39, 0, .int 32, 0, 0, 0, 0),
   (39, .if_icmp .ge 37, 42, 0, .null, 76, 0, 0, 0),
   (42, .aload_n 0, 43, 0, .null, 0, 0, 0, 0),
   (43, .getfield 15, 46, 0, .null, 0, 3, 0, 185),
   (46, .iload_n 2, 47, 0, .null, 2, 0, 0, 0),
   (47, .iaload, 48, 0, .null, 0, 0, 0, 0)],
  [(48, .iload_n 1, 49, 0, .null, 1, 0, 0, 0),
   (49, .invokestatic 41, 52, 0, .ref 2, 3, 3, 2, 694),
   (52, .ifCond .eq 18, 55, 0, .null, 70, 0, 0, 0),
   (55, .aload_n 0, 56, 0, .null, 0, 0, 0, 0),
   (56, .getfield 15, 59, 0, .null, 0, 3, 0, 185),
   (59, .iload_n 2, 60, 0, .null, 2, 0, 0, 0),
   (60, .dup2, 61, 0, .null, 0, 0, 0, 0),
   (61, .iaload, 62, 0, .null, 0, 0, 0, 0),
   (62, .aload_n 0, 63, 0, .null, 0, 0, 0, 0),
   (63, .getfield 15, 66, 0, .null, 0, 3, 0, 185)],
  [(66, .iload_n 1, 67, 0, .null, 1, 0, 0, 0),
   (67, .iaload, 68, 0, .null, 0, 0, 0, 0),
   (68, .ior, 69, 0, .null, 0, 0, 0, 0),
   (69, .iastore, 70, 0, .null, 0, 0, 0, 0),
   (70, .iinc 2 1, 73, 4, .int 1, 2, 0, 0, 0),
   (73, .goto (-37), 76, 0, .null, 36, 0, 0, 0),
   (76, .iinc 1 1, 79, 0, .int 1, 1, 0, 0, 0),
   (79, .goto (-51), 82, 0, .null, 28, 0, 0, 0)],
  [(82, .return_, 83, 0, .null, 0, 0, 0, 0)]]
def am_t25 : List (List (Nat × am_E)) := [
  [(0, .aload_n 0, 1, 0, .null, 0, 0, 0, 0),
   (1, .aload_n 0, 2, 0, .null, 0, 0, 0, 0),
   (2, .getfield 18, 5, 0, .null, 0, 0, 0, 182),
   (5, .invokevirtual 62, 8, 0, .ref 1, 72, 5, 0, 682),
   (8, .putfield 45, 11, 0, .null, 0, 4, 0, 186),
   (11, .iconst 0, 12, 0, .int 0, 0, 0, 0, 0),
   (12, .istore_n 2, 13, 0, .null, 2, 0, 0, 0),
   (13, .iload_n 2, 14, 4, .null, 2, 0, 0, 0),
   (14, .bipush 32, 16, 0, .int 32, 0, 0, 0, 0)],
  [(16, .if_icmp .ge 51, 19, 0, .null, 67, 0, 0, 0),
   (19, .aload_n 0, 20, 0, .null, 0, 0, 0, 0),
   (20, .getfield 9, 23, 0, .null, 0, 2, 0, 184),
   (23, .iload_n 2, 24, 0, .null, 2, 0, 0, 0),
   (24, .aload_n 0, 25, 0, .null, 0, 0, 0, 0),
   (25, .getfield 18, 28, 0, .null, 0, 0, 0, 182),
   (28, .iload_n 2, 29, 0, .null, 2, 0, 0, 0),
   (29, .invokevirtual 69, 32, 0, .ref 2, 71, 5, 1, 693)],
  [(32, .iastore, 33, 0, .null, 0, 0, 0, 0),
   (33, .aload_n 0, 34, 0, .null, 0, 0, 0, 0),
   (34, .getfield 18, 37, 0, .null, 0, 0, 0, 182),
   (37, .invokevirtual 62, 40, 0, .ref 1, 72, 5, 0, 682),
   (40, .iload_n 2, 41, 0, .null, 2, 0, 0, 0),
   (41, .invokestatic 41, 44, 0, .ref 2, 3, 3, 2, 694),
   (44, .ifCond .ne 17, 47, 0, .null, 61, 0, 0, 0),
   (47, .aload_n 0, 48, 0, .null, 0, 0, 0, 0)],
  [(48, .iload_n 2, 49, 0, .null, 2, 0, 0, 0),
   (49, .aload_n 0, 50, 0, .null, 0, 0, 0, 0),
   (50, .getfield 18, 53, 0, .null, 0, 0, 0, 182),
   (53, .iload_n 2, 54, 0, .null, 2, 0, 0, 0),
   (54, .iload_n 1, 55, 0, .null, 1, 0, 0, 0),
   (55, .invokevirtual 66, 58, 0, .ref 6, 70, 5, 2, 685),
   (58, .invokevirtual 72, 61, 0, .ref 3, 21, 0, 2, 695),
   (61, .iinc 2 1, 64, 4, .int 1, 2, 0, 0, 0)],
  [(64, .goto (-51), 67, 0, .null, 13, 0, 0, 0),
   (67, .return_, 68, 0, .null, 0, 0, 0, 0)]]
def am_t26 : List (List (Nat × am_E)) := [
  [(0, .iconst 0, 1, 0, .int 0, 0, 0, 0, 0),
   (1, .istore_n 2, 2, 0, .null, 2, 0, 0, 0),
   (2, .iload_n 2, 3, 4, .null, 2, 0, 0, 0),
   (3, .bipush 32, 5, 0, .int 32, 0, 0, 0, 0),
   (5, .if_icmp .ge 30, 8, 0, .null, 35, 0, 0, 0),
   (8, .iload_n 1, 9, 0, .null, 1, 0, 0, 0),
   (9, .iload_n 2, 10, 0, .null, 2, 0, 0, 0),
   (10, .invokestatic 41, 13, 0, .ref 2, 3, 3, 2, 694),
   (13, .ifCond .eq 16, 16, 0, .null, 29, 0, 0, 0)],
  [(16, .aload_n 0, 17, 0, .null, 0, 0, 0, 0),
   (17, .getfield 15, 20, 0, .null, 0, 3, 0, 185),
   (20, .iload_n 2, 21, 0, .null, 2, 0, 0, 0),
   (21, .iaload, 22, 0, .null, 0, 0, 0, 0),
   (22, .iload_n 1, 23, 0, .null, 1, 0, 0, 0),
   (23, .iand, 24, 0, .null, 0, 0, 0, 0),
   (24, .ifCond .ne 5, 27, 0, .null, 29, 0, 0, 0),
   (27, .iload_n 2, 28, 0, .null, 2, 0, 0, 0),
   (28, .ireturn, 29, 0, .null, 0, 0, 0, 0),
   (29, .iinc 2 1, 32, 4, .int 1, 2, 0, 0, 0)],
  [(32, .goto (-30), 35, 0, .null, 2, 0, 0, 0),
   (35, .iconst 0, 36, 0, .int 0, 0, 0, 0, 0),
   (36, .ireturn, 37, 0, .null, 0, 0, 0, 0)]]
def am_t27 : List (List (Nat × am_E)) := [
  [(0, .iconst 0, 1, 0, .int 0, 0, 0, 0, 0),
   (1, .istore_n 2, 2, 0, .null, 2, 0, 0, 0),
   (2, .iload_n 2, 3, 4, .null, 2, 0, 0, 0),
   (3, .bipush 32, 5, 0, .int 32, 0, 0, 0, 0),
   (5, .if_icmp .ge 32, 8, 0, .null, 37, 0, 0, 0),
   (8, .iload_n 1, 9, 0, .null, 1, 0, 0, 0),
   (9, .iload_n 2, 10, 0, .null, 2, 0, 0, 0),
   (10, .invokestatic 41, 13, 0, .ref 2, 3, 3, 2, 694),
   (13, .ifCond .eq 18, 16, 0, .null, 31, 0, 0, 0)],
  [(16, .aload_n 0, 17, 0, .null, 0, 0, 0, 0),
   (17, .getfield 15, 20, 0, .null, 0, 3, 0, 185),
   (20, .iload_n 2, 21, 0, .null, 2, 0, 0, 0),
   (21, .iaload, 22, 0, .null, 0, 0, 0, 0),
   (22, .iload_n 2, 23, 0, .null, 2, 0, 0, 0),
   (23, .invokestatic 41, 26, 0, .ref 2, 3, 3, 2, 694),
   (26, .ifCond .eq 5, 29, 0, .null, 31, 0, 0, 0),
   (29, .iconst 1, 30, 0, .int 1, 0, 0, 0, 0),
   (30, .ireturn, 31, 0, .null, 0, 0, 1, 0),
   (31, .iinc 2 1, 34, 4, .int 1, 2, 0, 0, 0)],
  [(34, .goto (-32), 37, 0, .null, 2, 0, 0, 0),
   (37, .iconst 0, 38, 0, .int 0, 0, 0, 0, 0),
   (38, .ireturn, 39, 0, .null, 0, 0, 1, 0)]]
def am_t28 : List (List (Nat × am_E)) := [
  [(0, .iconst 0, 1, 0, .int 0, 0, 0, 0, 0),
   (1, .istore_n 2, 2, 0, .null, 2, 0, 0, 0),
   (2, .iload_n 2, 3, 4, .null, 2, 0, 0, 0),
   (3, .bipush 32, 5, 0, .int 32, 0, 0, 0, 0),
   (5, .if_icmp .ge 43, 8, 0, .null, 48, 0, 0, 0),
   (8, .aload_n 0, 9, 0, .null, 0, 0, 0, 0),
   (9, .getfield 9, 12, 0, .null, 0, 2, 0, 184),
   (12, .iload_n 1, 13, 0, .null, 1, 0, 0, 0),
   (13, .iaload, 14, 0, .null, 0, 0, 0, 0),
   (14, .iload_n 2, 15, 0, .null, 2, 0, 0, 0),
   (15, .invokestatic 41, 18, 0, .ref 2, 3, 3, 2, 694)],
  [(18, .ifCond .eq 24, 21, 0, .null, 42, 0, 0, 0),
   (21, .aload_n 0, 22, 0, .null, 0, 0, 0, 0),
   (22, .getfield 22, 25, 0, .null, 0, 1, 0, 183),
   (25, .iload_n 2, 26, 0, .null, 2, 0, 0, 0),
   (26, .invokevirtual 49, 29, 0, .ref 2, 74, 6, 1, 683),
   (29, .aload_n 0, 30, 0, .null, 0, 0, 0, 0),
   (30, .getfield 22, 33, 0, .null, 0, 1, 0, 183)],
  [(33, .iload_n 1, 34, 0, .null, 1, 0, 0, 0),
   (34, .invokevirtual 49, 37, 0, .ref 2, 74, 6, 1, 683),
   (37, .if_icmp .le 5, 40, 0, .null, 42, 0, 0, 0),
   (40, .iconst 1, 41, 0, .int 1, 0, 0, 0, 0),
   (41, .ireturn, 42, 0, .null, 0, 0, 1, 0),
   (42, .iinc 2 1, 45, 4, .int 1, 2, 0, 0, 0),
   (45, .goto (-43), 48, 0, .null, 2, 0, 0, 0)],
  [(48, .iconst 0, 49, 0, .int 0, 0, 0, 0, 0),
   (49, .ireturn, 50, 0, .null, 0, 0, 1, 0)]]
def am_t29 : List (List (Nat × am_E)) := [
  [(0, .iconst 0, 1, 0, .int 0, 0, 0, 0, 0),
   (1, .istore_n 2, 2, 0, .null, 2, 0, 0, 0),
   (2, .iload_n 2, 3, 4, .null, 2, 0, 0, 0),
   (3, .bipush 32, 5, 0, .int 32, 0, 0, 0, 0),
   (5, .if_icmp .ge 37, 8, 0, .null, 42, 0, 0, 0),
   (8, .iload_n 1, 9, 0, .null, 1, 0, 0, 0),
   (9, .aload_n 0, 10, 0, .null, 0, 0, 0, 0),
   (10, .getfield 45, 13, 0, .null, 0, 4, 0, 186),
   (13, .iconst (-1), 14, 0, .int (-1), 0, 0, 0, 0),
   (14, .ixor, 15, 0, .null, 0, 0, 0, 0),
   (15, .iand, 16, 0, .null, 0, 0, 0, 0)],
  [(16, .iload_n 2, 17, 0, .null, 2, 0, 0, 0),
   (17, .invokestatic 41, 20, 0, .ref 2, 3, 3, 2, 694),
   (20, .ifCond .eq 16, 23, 0, .null, 36, 0, 0, 0),
   (23, .aload_n 0, 24, 0, .null, 0, 0, 0, 0),
   (24, .getfield 22, 27, 0, .null, 0, 1, 0, 183),
   (27, .iload_n 2, 28, 0, .null, 2, 0, 0, 0),
   (28, .invokevirtual 49, 31, 0, .ref 2, 74, 6, 1, 683),
   (31, .ifCond .ne 5, 34, 0, .null, 36, 0, 0, 0)],
  [(34, .iconst 1, 35, 0, .int 1, 0, 0, 0, 0),
   (35, .ireturn, 36, 0, .null, 0, 0, 1, 0),
   (36, .iinc 2 1, 39, 4, .int 1, 2, 0, 0, 0),
   (39, .goto (-37), 42, 0, .null, 2, 0, 0, 0),
   (42, .iconst 0, 43, 0, .int 0, 0, 0, 0, 0),
   (43, .ireturn, 44, 0, .null, 0, 0, 1, 0)]]
def am_t30 : List (List (Nat × am_E)) := [
  [(0, .iconst 0, 1, 0, .int 0, 0, 0, 0, 0),
   (1, .istore_n 2, 2, 0, .null, 2, 0, 0, 0),
   (2, .iconst 1, 3, 0, .int 1, 0, 0, 0, 0),
   (3, .istore_n 3, 4, 0, .null, 3, 0, 0, 0),
   (4, .iconst 0, 5, 0, .int 0, 0, 0, 0, 0),
   (5, .istore 4, 7, 0, .null, 4, 0, 0, 0),
   (7, .iload 4, 9, 6, .null, 4, 0, 0, 0),
   (9, .bipush 32, 11, 0, .int 32, 0, 0, 0, 0),
   (11, .if_icmp .ge 75, 14, 0, .null, 86, 0, 0, 0),
   (14, .iload_n 3, 15, 0, .null, 3, 0, 0, 0),
   (15, .ifCond .eq 71, 18, 0, .null, 86, 0, 0, 0)],
  [(18, .iload_n 2, 19, 0, .null, 2, 0, 0, 0),
   (19, .istore 5, 21, 0, .null, 5, 0, 0, 0),
   (21, .iconst 0, 22, 0, .int 0, 0, 0, 0, 0),
   (22, .istore 6, 24, 0, .null, 6, 0, 0, 0),
   (24, .iload 6, 26, 8, .null, 6, 0, 0, 0),
   (26, .bipush 32, 28, 0, .int 32, 0, 0, 0, 0),
   (28, .if_icmp .ge 40, 31, 0, .null, 68, 0, 0, 0),
   (31, .iload_n 1, 32, 0, .null, 1, 0, 0, 0)],
  [(32, .iload_n 2, 33, 0, .null, 2, 0, 0, 0),
   (33, .iconst (-1), 34, 0, .int (-1), 0, 0, 0, 0),
   (34, .ixor, 35, 0, .null, 0, 0, 0, 0),
   (35, .iand, 36, 0, .null, 0, 0, 0, 0),
   (36, .iload 6, 38, 0, .null, 6, 0, 0, 0),
   (38, .invokestatic 41, 41, 0, .ref 2, 3, 3, 2, 694),
   (41, .ifCond .eq 21, 44, 0, .null, 62, 0, 0, 0),
   (44, .aload_n 0, 45, 0, .null, 0, 0, 0, 0),
   (45, .iload 6, 47, 0, .null, 6, 0, 0, 0),
   (47, .iload_n 2, 48, 0, .null, 2, 0, 0, 0)],
  [(48, .invokevirtual 54, 51, 0, .ref 3, 31, 0, 2, 734),
   (51, .ifCond .eq 11, 54, 0, .null, 62, 0, 0, 0),
   (54, .iload_n 2, 55, 0, .null, 2, 0, 0, 0),
   (55, .iload 6, 57, 0, .null, 6, 0, 0, 0),
   (57, .invokestatic 37, 60, 0, .ref 1, 16, 3, 1, 684),
   (60, .ior, 61, 0, .null, 0, 0, 0, 0),
   (61, .istore_n 2, 62, 0, .null, 2, 0, 0, 0),
   (62, .iinc 6 1, 65, 8, .int 1, 6, 0, 0, 0)],
  [(65, .goto (-41), 68, 0, .null, 24, 0, 0, 0),
   (68, .iload_n 2, 69, 0, .null, 2, 0, 0, 0),
   (69, .iload 5, 71, 0, .null, 5, 0, 0, 0),
   (71, .if_icmp .eq 7, 74, 0, .null, 78, 0, 0, 0),
   (74, .iconst 1, 75, 0, .int 1, 0, 0, 0, 0),
   (75, .goto 4, 78, 0, .null, 79, 0, 0, 0),
   (78, .iconst 0, 79, 0, .int 0, 0, 0, 0, 0),
   (79, .istore_n 3, 80, 6, .null, 3, 0, 0, 0)],
  [(80, .iinc 4 1, 83, 0, .int 1, 4, 0, 0, 0),
   (83, .goto (-76), 86, 0, .null, 7, 0, 0, 0),
   (86, .iload_n 2, 87, 4, .null, 2, 0, 0, 0),
   (87, .ireturn, 88, 0, .null, 0, 0, 0, 0)]]
def am_t31 : List (List (Nat × am_E)) := [
  [(0, .aload_n 0, 1, 0, .null, 0, 0, 0, 0),
   (1, .getfield 45, 4, 0, .null, 0, 4, 0, 186),
   (4, .iload_n 1, 5, 0, .null, 1, 0, 0, 0),
   (5, .invokestatic 41, 8, 0, .ref 2, 3, 3, 2, 694),
   (8, .ifCond .ne 5, 11, 0, .null, 13, 0, 0, 0),
   (11, .iconst 0, 12, 0, .int 0, 0, 0, 0, 0),
   (12, .ireturn, 13, 0, .null, 0, 0, 0, 0),
   (13, .aload_n 0, 14, 0, .null, 0, 0, 0, 0),
   (14, .getfield 22, 17, 0, .null, 0, 1, 0, 183)],
  [(17, .iload_n 1, 18, 0, .null, 1, 0, 0, 0),
   (18, .invokevirtual 49, 21, 0, .ref 2, 74, 6, 1, 683),
   (21, .ifCond .ne 5, 24, 0, .null, 26, 0, 0, 0),
   (24, .iconst 1, 25, 0, .int 1, 0, 0, 0, 0),
   (25, .ireturn, 26, 0, .null, 0, 0, 0, 0),
   (26, .aload_n 0, 27, 0, .null, 0, 0, 0, 0),
   (27, .getfield 9, 30, 0, .null, 0, 2, 0, 184),
   (30, .iload_n 1, 31, 0, .null, 1, 0, 0, 0),
   (31, .iaload, 32, 0, .null, 0, 0, 0, 0)],
  [(32, .iload_n 2, 33, 0, .null, 2, 0, 0, 0),
   (33, .iand, 34, 0, .null, 0, 0, 0, 0),
   (34, .ifCond .eq 5, 37, 0, .null, 39, 0, 0, 0),
   (37, .iconst 2, 38, 0, .int 2, 0, 0, 0, 0),
   (38, .ireturn, 39, 0, .null, 0, 0, 0, 0),
   (39, .aload_n 0, 40, 0, .null, 0, 0, 0, 0),
   (40, .iload_n 1, 41, 0, .null, 1, 0, 0, 0),
   (41, .invokevirtual 58, 44, 0, .ref 3, 28, 0, 1, 738),
   (44, .ifCond .eq 7, 47, 0, .null, 51, 0, 0, 0),
   (47, .iconst 3, 48, 0, .int 3, 0, 0, 0, 0)],
  [(48, .goto 4, 51, 0, .null, 52, 0, 0, 0),
   (51, .iconst 0, 52, 0, .int 0, 0, 0, 0, 0),
   (52, .ireturn, 53, 1, .null, 0, 0, 0, 0)]]
def am_t32 : List (List (Nat × am_E)) := [
  [(0, .aload_n 0, 1, 0, .null, 0, 0, 0, 0),
   (1, .getfield 15, 4, 0, .null, 0, 3, 0, 185),
   (4, .iload_n 1, 5, 0, .null, 1, 0, 0, 0),
   (5, .iaload, 6, 0, .null, 0, 0, 0, 0),
   (6, .iload_n 1, 7, 0, .null, 1, 0, 0, 0),
   (7, .invokestatic 37, 10, 0, .ref 1, 16, 3, 1, 684),
   (10, .ior, 11, 0, .null, 0, 0, 0, 0),
   (11, .ireturn, 12, 0, .null, 0, 0, 0, 0)]]
def am_t33 : List (List (Nat × am_E)) := [
  [(0, .aload_n 0, 1, 0, .null, 0, 0, 0, 0),
   (1, .getfield 25, 4, 0, .null, 1, 3, 0, 92),
   (4, .sipush 240, 7, 0, .int 240, 0, 0, 0, 0),
   (7, .if_icmp .ge 33, 10, 0, .null, 40, 0, 0, 0),
   (10, .aload_n 0, 11, 0, .null, 0, 0, 0, 0),
   (11, .getfield 9, 14, 0, .null, 1, 1, 0, 90),
   (14, .aload_n 0, 15, 0, .null, 0, 0, 0, 0),
   (15, .getfield 25, 18, 0, .null, 1, 3, 0, 92)],
  [(18, .iload_n 1, 19, 0, .null, 1, 0, 0, 0),
   (19, .iastore, 20, 0, .null, 0, 0, 0, 0),
   (20, .aload_n 0, 21, 0, .null, 0, 0, 0, 0),
   (21, .getfield 17, 24, 0, .null, 1, 2, 0, 91),
   (24, .aload_n 0, 25, 0, .null, 0, 0, 0, 0),
   (25, .getfield 25, 28, 0, .null, 1, 3, 0, 92),
   (28, .aload_n 2, 29, 0, .null, 2, 0, 0, 0),
   (29, .aastore, 30, 0, .null, 0, 0, 0, 0),
   (30, .aload_n 0, 31, 0, .null, 0, 0, 0, 0),
   (31, .dup, 32, 0, .null, 0, 0, 0, 0)],
  [(32, .getfield 25, 35, 0, .null, 1, 3, 0, 92),
   (35, .iconst 1, 36, 0, .int 1, 0, 0, 0, 0),
   (36, .iadd, 37, 0, .null, 0, 0, 0, 0),
   (37, .putfield 25, 40, 0, .null, 1, 3, 0, 92),
   (40, .return_, 41, 1, .null, 0, 0, 0, 0)]]
def am_t34 : List (List (Nat × am_E)) := [
  [(0, .aload_n 0, 1, 0, .null, 0, 0, 0, 0),
   (1, .getfield 25, 4, 0, .null, 1, 3, 0, 92),
   (4, .ireturn, 5, 0, .null, 0, 0, 0, 0)]]
def am_t35 : List (List (Nat × am_E)) := [
  [(0, .iconst 0, 1, 0, .int 0, 0, 0, 0, 0),
   (1, .istore_n 1, 2, 0, .null, 1, 0, 0, 0),
   (2, .iload_n 1, 3, 3, .null, 1, 0, 0, 0),
   (3, .aload_n 0, 4, 0, .null, 0, 0, 0, 0),
   (4, .getfield 25, 7, 0, .null, 1, 3, 0, 92),
   (7, .if_icmp .ge 32, 10, 0, .null, 39, 0, 0, 0),
   (10, .aload_n 0, 11, 0, .null, 0, 0, 0, 0),
   (11, .iload_n 1, 12, 0, .null, 1, 0, 0, 0),
   (12, .getstatic 55, 15, 0, .null, 0, 0, 0, 404),
   (15, .invokevirtual 33, 18, 0, .ref 3, 37, 1, 2, 414)],
  [(18, .ifCond .ne 11, 21, 0, .null, 29, 0, 0, 0),
   (21, .aload_n 0, 22, 0, .null, 0, 0, 0, 0),
   (22, .iload_n 1, 23, 0, .null, 1, 0, 0, 0),
   (23, .invokevirtual 58, 26, 0, .ref 2, 42, 1, 1, 418),
   (26, .ifCond .ne 7, 29, 0, .null, 33, 0, 0, 0),
   (29, .iload_n 1, 30, 3, .null, 1, 0, 0, 0),
   (30, .iconst 1, 31, 0, .int 1, 0, 0, 0, 0),
   (31, .iadd, 32, 0, .null, 0, 0, 0, 0)],
  [(32, .ireturn, 33, 0, .null, 0, 0, 0, 0),
   (33, .iinc 1 1, 36, 0, .int 1, 1, 0, 0, 0),
   (36, .goto (-34), 39, 0, .null, 2, 0, 0, 0),
   (39, .aload_n 0, 40, 0, .null, 0, 0, 0, 0),
   (40, .aload_n 0, 41, 0, .null, 0, 0, 0, 0),
   (41, .getfield 25, 44, 0, .null, 1, 3, 0, 92),
   (44, .iconst 1, 45, 0, .int 1, 0, 0, 0, 0),
   (45, .isub, 46, 0, .null, 0, 0, 0, 0),
   (46, .getstatic 62, 49, 0, .null, 4, 0, 0, 396)],
  [(49, .invokevirtual 33, 52, 0, .ref 3, 37, 1, 2, 414),
   (52, .ifCond .eq 10, 55, 0, .null, 62, 0, 0, 0),
   (55, .aload_n 0, 56, 0, .null, 0, 0, 0, 0),
   (56, .getfield 25, 59, 0, .null, 1, 3, 0, 92),
   (59, .goto 4, 62, 0, .null, 63, 0, 0, 0),
   (62, .iconst 0, 63, 0, .int 0, 0, 0, 0, 0),
   (63, .ireturn, 64, 1, .null, 0, 0, 0, 0)]]
def am_t36 : List (List (Nat × am_E)) := [
  [(0, .aload_n 0, 1, 0, .null, 0, 0, 0, 0),
   (1, .iload_n 1, 2, 0, .null, 1, 0, 0, 0),
   (2, .iconst 1, 3, 0, .int 1, 0, 0, 0, 0),
   (3, .iadd, 4, 0, .null, 0, 0, 0, 0),
   (4, .getstatic 29, 7, 0, .null, 5, 0, 0, 357),
   (7, .invokevirtual 33, 10, 0, .ref 3, 37, 1, 2, 414),
   (10, .ireturn, 11, 0, .null, 0, 0, 1, 0)]]
def am_t37 : List (List (Nat × am_E)) := [
  [(0, .iload_n 1, 1, 0, .null, 1, 0, 0, 0),
   (1, .ifCond .lt 25, 4, 0, .null, 26, 0, 0, 0),
   (4, .iload_n 1, 5, 0, .null, 1, 0, 0, 0),
   (5, .aload_n 0, 6, 0, .null, 0, 0, 0, 0),
   (6, .getfield 25, 9, 0, .null, 1, 3, 0, 92),
   (9, .if_icmp .ge 17, 12, 0, .null, 26, 0, 0, 0),
   (12, .aload_n 0, 13, 0, .null, 0, 0, 0, 0),
   (13, .getfield 17, 16, 0, .null, 1, 2, 0, 91)],
  [(16, .iload_n 1, 17, 0, .null, 1, 0, 0, 0),
   (17, .aaload, 18, 0, .null, 0, 0, 0, 0),
   (18, .aload_n 2, 19, 0, .null, 2, 0, 0, 0),
   (19, .if_acmp .ne 7, 22, 0, .null, 26, 0, 0, 0),
   (22, .iconst 1, 23, 0, .int 1, 0, 0, 0, 0),
   (23, .goto 4, 26, 0, .null, 27, 0, 0, 0),
   (26, .iconst 0, 27, 1, .int 0, 0, 0, 0, 0),
   (27, .ireturn, 28, 1, .null, 0, 0, 1, 0)]]
def am_t38 : List (List (Nat × am_E)) := [
  [(0, .aload_n 0, 1, 0, .null, 0, 0, 0, 0),
   (1, .getfield 21, 4, 0, .null, 1, 0, 0, 89),
   (4, .iload_n 1, 5, 0, .null, 1, 0, 0, 0),
   (5, .invokevirtual 43, 8, 0, .ref 2, 78, 7, 1, 349),
   (8, .aload_n 0, 9, 0, .null, 0, 0, 0, 0),
   (9, .getfield 21, 12, 0, .null, 1, 0, 0, 89),
   (12, .iload_n 1, 13, 0, .null, 1, 0, 0, 0),
   (13, .iconst 1, 14, 0, .int 1, 0, 0, 0, 0),
   (14, .iadd, 15, 0, .null, 0, 0, 0, 0),
   (15, .invokevirtual 43, 18, 0, .ref 2, 78, 7, 1, 349)],
  [(18, .invokestatic 87, 21, 0, .ref 2, 5, 3, 2, 370),
   (21, .ifCond .eq 21, 24, 0, .null, 42, 0, 0, 0),
   (24, .aload_n 0, 25, 0, .null, 0, 0, 0, 0),
   (25, .getfield 21, 28, 0, .null, 1, 0, 0, 89),
   (28, .iload_n 1, 29, 0, .null, 1, 0, 0, 0),
   (29, .iconst 2, 30, 0, .int 2, 0, 0, 0, 0),
   (30, .iadd, 31, 0, .null, 0, 0, 0, 0),
   (31, .invokevirtual 91, 34, 0, .ref 3, 88, 7, 1, 373)],
  [(34, .iload_n 2, 35, 0, .null, 2, 0, 0, 0),
   (35, .if_icmp .ne 7, 38, 0, .null, 42, 0, 0, 0),
   (38, .iconst 1, 39, 0, .int 1, 0, 0, 0, 0),
   (39, .goto 4, 42, 0, .null, 43, 0, 0, 0),
   (42, .iconst 0, 43, 1, .int 0, 0, 0, 0, 0),
   (43, .ireturn, 44, 1, .null, 0, 0, 1, 0)]]
def am_t39 : List (List (Nat × am_E)) := [
  [(0, .iload_n 2, 1, 0, .null, 2, 0, 0, 0),
   (1, .iload_n 1, 2, 0, .null, 1, 0, 0, 0),
   (2, .isub, 3, 0, .null, 0, 0, 0, 0),
   (3, .iconst 5, 4, 0, .int 5, 0, 0, 0, 0),
   (4, .if_icmp .ne 72, 7, 0, .null, 76, 0, 0, 0),
   (7, .aload_n 0, 8, 0, .null, 0, 0, 0, 0),
   (8, .getfield 21, 11, 0, .null, 1, 0, 0, 89),
   (11, .iload_n 1, 12, 0, .null, 1, 0, 0, 0),
   (12, .invokevirtual 43, 15, 0, .ref 2, 78, 7, 1, 349),
   (15, .aload_n 0, 16, 0, .null, 0, 0, 0, 0)],
  [(16, .getfield 21, 19, 0, .null, 1, 0, 0, 89),
   (19, .iload_n 1, 20, 0, .null, 1, 0, 0, 0),
   (20, .iconst 1, 21, 0, .int 1, 0, 0, 0, 0),
   (21, .iadd, 22, 0, .null, 0, 0, 0, 0),
   (22, .invokevirtual 43, 25, 0, .ref 2, 78, 7, 1, 349),
   (25, .invokestatic 95, 28, 0, .ref 2, 8, 3, 2, 393),
   (28, .ifCond .eq 48, 31, 0, .null, 76, 0, 0, 0),
   (31, .aload_n 0, 32, 0, .null, 0, 0, 0, 0)],
  [(32, .getfield 21, 35, 0, .null, 1, 0, 0, 89),
   (35, .iload_n 1, 36, 0, .null, 1, 0, 0, 0),
   (36, .iconst 2, 37, 0, .int 2, 0, 0, 0, 0),
   (37, .iadd, 38, 0, .null, 0, 0, 0, 0),
   (38, .invokevirtual 43, 41, 0, .ref 2, 78, 7, 1, 349),
   (41, .bipush 58, 43, 0, .int 58, 0, 0, 0, 0),
   (43, .if_icmp .ne 33, 46, 0, .null, 76, 0, 0, 0),
   (46, .aload_n 0, 47, 0, .null, 0, 0, 0, 0),
   (47, .getfield 21, 50, 0, .null, 1, 0, 0, 89)],
  [(50, .iload_n 1, 51, 0, .null, 1, 0, 0, 0),
   (51, .iconst 3, 52, 0, .int 3, 0, 0, 0, 0),
   (52, .iadd, 53, 0, .null, 0, 0, 0, 0),
   (53, .invokevirtual 43, 56, 0, .ref 2, 78, 7, 1, 349),
   (56, .aload_n 0, 57, 0, .null, 0, 0, 0, 0),
   (57, .getfield 21, 60, 0, .null, 1, 0, 0, 89),
   (60, .iload_n 1, 61, 0, .null, 1, 0, 0, 0),
   (61, .iconst 4, 62, 0, .int 4, 0, 0, 0, 0),
   (62, .iadd, 63, 0, .null, 0, 0, 0, 0),
   (63, .invokevirtual 43, 66, 0, .ref 2, 78, 7, 1, 349)],
  [(66, .invokestatic 95, 69, 0, .ref 2, 8, 3, 2, 393),
   (69, .ifCond .eq 7, 72, 0, .null, 76, 0, 0, 0),
   (72, .iconst 1, 73, 0, .int 1, 0, 0, 0, 0),
   (73, .goto 4, 76, 0, .null, 77, 0, 0, 0),
   (76, .iconst 0, 77, 1, .int 0, 0, 0, 0, 0),
   (77, .ireturn, 78, 1, .null, 0, 0, 1, 0)]]
def am_t40 : List (List (Nat × am_E)) := [
  [(0, .aload_n 0, 1, 0, .null, 0, 0, 0, 0),
   (1, .getfield 21, 4, 0, .null, 1, 0, 0, 89),
   (4, .iload_n 1, 5, 0, .null, 1, 0, 0, 0),
   (5, .invokevirtual 91, 8, 0, .ref 3, 88, 7, 1, 373),
   (8, .istore_n 3, 9, 0, .null, 3, 0, 0, 0),
   (9, .aload_n 0, 10, 0, .null, 0, 0, 0, 0),
   (10, .getfield 21, 13, 0, .null, 1, 0, 0, 89),
   (13, .iload_n 3, 14, 0, .null, 3, 0, 0, 0),
   (14, .invokevirtual 43, 17, 0, .ref 2, 78, 7, 1, 349)],
  [(17, .bipush 58, 19, 0, .int 58, 0, 0, 0, 0),
   (19, .if_icmp .ne 33, 22, 0, .null, 52, 0, 0, 0),
   (22, .aload_n 0, 23, 0, .null, 0, 0, 0, 0),
   (23, .getfield 21, 26, 0, .null, 1, 0, 0, 89),
   (26, .iload_n 1, 27, 0, .null, 1, 0, 0, 0),
   (27, .iload_n 3, 28, 0, .null, 3, 0, 0, 0),
   (28, .invokevirtual 68, 31, 0, .ref 4, 83, 7, 2, 359),
   (31, .ifCond .ne 21, 34, 0, .null, 52, 0, 0, 0)],
  [(34, .aload_n 0, 35, 0, .null, 0, 0, 0, 0),
   (35, .getfield 21, 38, 0, .null, 1, 0, 0, 89),
   (38, .iload_n 3, 39, 0, .null, 3, 0, 0, 0),
   (39, .iconst 1, 40, 0, .int 1, 0, 0, 0, 0),
   (40, .iadd, 41, 0, .null, 0, 0, 0, 0),
   (41, .invokevirtual 91, 44, 0, .ref 3, 88, 7, 1, 373),
   (44, .iload_n 2, 45, 0, .null, 2, 0, 0, 0),
   (45, .if_icmp .ne 7, 48, 0, .null, 52, 0, 0, 0)],
  [(48, .iconst 1, 49, 0, .int 1, 0, 0, 0, 0),
   (49, .goto 4, 52, 0, .null, 53, 0, 0, 0),
   (52, .iconst 0, 53, 1, .int 0, 0, 0, 0, 0),
   (53, .ireturn, 54, 1, .null, 0, 0, 1, 0)]]
def am_t41 : List (List (Nat × am_E)) := [
  [(0, .aload_n 0, 1, 0, .null, 0, 0, 0, 0),
   (1, .getfield 21, 4, 0, .null, 1, 0, 0, 89),
   (4, .iload_n 1, 5, 0, .null, 1, 0, 0, 0),
   (5, .invokevirtual 43, 8, 0, .ref 2, 78, 7, 1, 349),
   (8, .bipush 9, 10, 0, .int 9, 0, 0, 0, 0),
   (10, .if_icmp .ne 7, 13, 0, .null, 17, 0, 0, 0),
   (13, .getstatic 29, 16, 0, .null, 5, 0, 0, 357)],
  [(16, .areturn, 17, 0, .null, 0, 0, 0, 0),
   (17, .aload_n 0, 18, 0, .null, 0, 0, 0, 0),
   (18, .getfield 21, 21, 0, .null, 1, 0, 0, 89),
   (21, .iload_n 1, 22, 0, .null, 1, 0, 0, 0),
   (22, .iload_n 2, 23, 0, .null, 2, 0, 0, 0),
   (23, .invokevirtual 68, 26, 0, .ref 4, 83, 7, 2, 359),
   (26, .ifCond .eq 7, 29, 0, .null, 33, 0, 0, 0),
   (29, .getstatic 72, 32, 0, .null, 1, 0, 0, 364)],
  [(32, .areturn, 33, 0, .null, 0, 0, 0, 0),
   (33, .aload_n 0, 34, 0, .null, 0, 0, 0, 0),
   (34, .iload_n 1, 35, 0, .null, 1, 0, 0, 0),
   (35, .iload_n 2, 36, 0, .null, 2, 0, 0, 0),
   (36, .invokevirtual 75, 39, 0, .ref 3, 38, 1, 2, 366),
   (39, .ifCond .eq 7, 42, 0, .null, 46, 0, 0, 0),
   (42, .getstatic 78, 45, 0, .null, 2, 0, 0, 387),
   (45, .areturn, 46, 0, .null, 0, 0, 0, 0),
   (46, .aload_n 0, 47, 0, .null, 0, 0, 0, 0),
   (47, .iload_n 1, 48, 0, .null, 1, 0, 0, 0)],
  [(48, .iload_n 2, 49, 0, .null, 2, 0, 0, 0),
   (49, .invokevirtual 81, 52, 0, .ref 3, 39, 1, 2, 389),
   (52, .ifCond .eq 7, 55, 0, .null, 59, 0, 0, 0),
   (55, .getstatic 62, 58, 0, .null, 4, 0, 0, 396),
   (58, .areturn, 59, 0, .null, 0, 0, 0, 0),
   (59, .aload_n 0, 60, 0, .null, 0, 0, 0, 0),
   (60, .iload_n 1, 61, 0, .null, 1, 0, 0, 0),
   (61, .iload_n 2, 62, 0, .null, 2, 0, 0, 0),
   (62, .invokevirtual 84, 65, 0, .ref 4, 40, 1, 2, 398)],
  [(65, .ifCond .eq 9, 68, 0, .null, 74, 0, 0, 0),
   (68, .getstatic 65, 71, 0, .null, 3, 0, 0, 402),
   (71, .goto 6, 74, 0, .null, 77, 0, 0, 0),
   (74, .getstatic 55, 77, 0, .null, 0, 0, 0, 404),
   (77, .areturn, 78, 1, .null, 0, 0, 0, 0)]]
def am_t42 : List (List (Nat × am_E)) := [
  [(0, .aload_n 0, 1, 0, .null, 0, 0, 0, 0),
   (1, .iload_n 1, 2, 0, .null, 1, 0, 0, 0),
   (2, .getstatic 29, 5, 0, .null, 5, 0, 0, 357),
   (5, .invokevirtual 33, 8, 0, .ref 3, 37, 1, 2, 414),
   (8, .ifCond .eq 48, 11, 0, .null, 56, 0, 0, 0),
   (11, .aload_n 0, 12, 0, .null, 0, 0, 0, 0),
   (12, .iload_n 1, 13, 0, .null, 1, 0, 0, 0),
   (13, .iconst 1, 14, 0, .int 1, 0, 0, 0, 0),
   (14, .isub, 15, 0, .null, 0, 0, 0, 0),
   (15, .getstatic 65, 18, 0, .null, 3, 0, 0, 402)],
  [(18, .invokevirtual 33, 21, 0, .ref 3, 37, 1, 2, 414),
   (21, .ifCond .ne 29, 24, 0, .null, 50, 0, 0, 0),
   (24, .aload_n 0, 25, 0, .null, 0, 0, 0, 0),
   (25, .iload_n 1, 26, 0, .null, 1, 0, 0, 0),
   (26, .iconst 1, 27, 0, .int 1, 0, 0, 0, 0),
   (27, .isub, 28, 0, .null, 0, 0, 0, 0),
   (28, .getstatic 62, 31, 0, .null, 4, 0, 0, 396),
   (31, .invokevirtual 33, 34, 0, .ref 3, 37, 1, 2, 414)],
  [(34, .ifCond .ne 16, 37, 0, .null, 50, 0, 0, 0),
   (37, .aload_n 0, 38, 0, .null, 0, 0, 0, 0),
   (38, .iload_n 1, 39, 0, .null, 1, 0, 0, 0),
   (39, .iconst 1, 40, 0, .int 1, 0, 0, 0, 0),
   (40, .isub, 41, 0, .null, 0, 0, 0, 0),
   (41, .getstatic 29, 44, 0, .null, 5, 0, 0, 357),
   (44, .invokevirtual 33, 47, 0, .ref 3, 37, 1, 2, 414),
   (47, .ifCond .eq 7, 50, 0, .null, 54, 0, 0, 0)],
  [(50, .iconst 1, 51, 1, .int 1, 0, 0, 0, 0),
   (51, .goto 4, 54, 0, .null, 55, 0, 0, 0),
   (54, .iconst 0, 55, 0, .int 0, 0, 0, 0, 0),
   (55, .ireturn, 56, 1, .null, 0, 0, 1, 0),
   (56, .aload_n 0, 57, 0, .null, 0, 0, 0, 0),
   (57, .iload_n 1, 58, 0, .null, 1, 0, 0, 0),
   (58, .iconst 1, 59, 0, .int 1, 0, 0, 0, 0),
   (59, .isub, 60, 0, .null, 0, 0, 0, 0),
   (60, .getstatic 62, 63, 0, .null, 4, 0, 0, 396),
   (63, .invokevirtual 33, 66, 0, .ref 3, 37, 1, 2, 414)],
  [(66, .ifCond .ne 7, 69, 0, .null, 73, 0, 0, 0),
   (69, .iconst 1, 70, 0, .int 1, 0, 0, 0, 0),
   (70, .goto 4, 73, 0, .null, 74, 0, 0, 0),
   (73, .iconst 0, 74, 0, .int 0, 0, 0, 0, 0),
   (74, .ireturn, 75, 1, .null, 0, 0, 1, 0)]]
def am_t43 : List (List (Nat × am_E)) := [
  [(0, .aload_n 0, 1, 0, .null, 0, 0, 0, 0),
   (1, .iconst 0, 2, 0, .int 0, 0, 0, 0, 0),
   (2, .putfield 25, 5, 0, .null, 1, 3, 0, 92),
   (5, .iconst 0, 6, 0, .int 0, 0, 0, 0, 0),
   (6, .istore_n 1, 7, 0, .null, 1, 0, 0, 0),
   (7, .iconst 0, 8, 0, .int 0, 0, 0, 0, 0),
   (8, .istore_n 2, 9, 0, .null, 2, 0, 0, 0),
   (9, .iload_n 2, 10, 4, .null, 2, 0, 0, 0),
   (10, .aload_n 0, 11, 0, .null, 0, 0, 0, 0),
   (11, .getfield 21, 14, 0, .null, 1, 0, 0, 89),
   (14, .invokevirtual 37, 17, 0, .ref 1, 89, 7, 0, 348)],
  [(17, .if_icmp .ge 37, 20, 0, .null, 54, 0, 0, 0),
   (20, .aload_n 0, 21, 0, .null, 0, 0, 0, 0),
   (21, .getfield 21, 24, 0, .null, 1, 0, 0, 89),
   (24, .iload_n 2, 25, 0, .null, 2, 0, 0, 0),
   (25, .invokevirtual 43, 28, 0, .ref 2, 78, 7, 1, 349),
   (28, .bipush 10, 30, 0, .int 10, 0, 0, 0, 0),
   (30, .if_icmp .ne 18, 33, 0, .null, 48, 0, 0, 0)],
  [(33, .aload_n 0, 34, 0, .null, 0, 0, 0, 0),
   (34, .iload_n 1, 35, 0, .null, 1, 0, 0, 0),
   (35, .aload_n 0, 36, 0, .null, 0, 0, 0, 0),
   (36, .iload_n 1, 37, 0, .null, 1, 0, 0, 0),
   (37, .iload_n 2, 38, 0, .null, 2, 0, 0, 0),
   (38, .invokevirtual 47, 41, 0, .ref 3, 41, 1, 2, 353),
   (41, .invokevirtual 51, 44, 0, .ref 3, 33, 1, 2, 406),
   (44, .iload_n 2, 45, 0, .null, 2, 0, 0, 0),
   (45, .iconst 1, 46, 0, .int 1, 0, 0, 0, 0),
   (46, .iadd, 47, 0, .null, 0, 0, 0, 0),
   (47, .istore_n 1, 48, 0, .null, 1, 0, 0, 0)],
  [(48, .iinc 2 1, 51, 4, .int 1, 2, 0, 0, 0),
   (51, .goto (-42), 54, 0, .null, 9, 0, 0, 0),
   (54, .iload_n 1, 55, 0, .null, 1, 0, 0, 0),
   (55, .aload_n 0, 56, 0, .null, 0, 0, 0, 0),
   (56, .getfield 21, 59, 0, .null, 1, 0, 0, 89),
   (59, .invokevirtual 37, 62, 0, .ref 1, 89, 7, 0, 348),
   (62, .if_icmp .ge 11, 65, 0, .null, 73, 0, 0, 0)],
  [(65, .aload_n 0, 66, 0, .null, 0, 0, 0, 0),
   (66, .iload_n 1, 67, 0, .null, 1, 0, 0, 0),
   (67, .getstatic 55, 70, 0, .null, 0, 0, 0, 404),
   (70, .invokevirtual 51, 73, 0, .ref 3, 33, 1, 2, 406),
   (73, .return_, 74, 1, .null, 0, 0, 0, 0)]]
def am_t44 : List (List (Nat × am_E)) := [
  [(0, .iload_n 1, 1, 0, .null, 1, 0, 0, 0),
   (1, .ifCond .lt 20, 4, 0, .null, 21, 0, 0, 0),
   (4, .iload_n 1, 5, 0, .null, 1, 0, 0, 0),
   (5, .aload_n 0, 6, 0, .null, 0, 0, 0, 0),
   (6, .getfield 25, 9, 0, .null, 1, 3, 0, 92),
   (9, .if_icmp .ge 12, 12, 0, .null, 21, 0, 0, 0),
   (12, .aload_n 0, 13, 0, .null, 0, 0, 0, 0),
   (13, .getfield 9, 16, 0, .null, 1, 1, 0, 90)],
  [(16, .iload_n 1, 17, 0, .null, 1, 0, 0, 0),
   (17, .iaload, 18, 0, .null, 0, 0, 0, 0),
   (18, .goto 4, 21, 0, .null, 22, 0, 0, 0),
   (21, .iconst (-1), 22, 1, .int (-1), 0, 0, 0, 0),
   (22, .ireturn, 23, 1, .null, 0, 0, 0, 0)]]
def am_t45 : List (List (Nat × am_E)) := [
  [(0, .iconst 0, 1, 0, .int 0, 0, 0, 0, 0),
   (1, .istore_n 1, 2, 0, .null, 1, 0, 0, 0),
   (2, .iconst 0, 3, 0, .int 0, 0, 0, 0, 0),
   (3, .istore_n 2, 4, 0, .null, 2, 0, 0, 0),
   (4, .iload_n 2, 5, 4, .null, 2, 0, 0, 0),
   (5, .bipush 26, 7, 0, .int 26, 0, 0, 0, 0),
   (7, .if_icmp .ge 83, 10, 0, .null, 90, 0, 0, 0),
   (10, .iconst 0, 11, 0, .int 0, 0, 0, 0, 0),
   (11, .istore_n 3, 12, 0, .null, 3, 0, 0, 0),
   (12, .iload_n 3, 13, 5, .null, 3, 0, 0, 0),
   (13, .bipush 26, 15, 0, .int 26, 0, 0, 0, 0),
   (15, .if_icmp .ge 69, 18, 0, .null, 84, 0, 0, 0)],
  [(18, .iload_n 1, 19, 0, .null, 1, 0, 0, 0),
   (19, .iload_n 3, 20, 0, .null, 3, 0, 0, 0),
   (20, .invokestatic 99, 23, 0, .ref 2, 3, 3, 2, 525),
   (23, .ifCond .ne 55, 26, 0, .null, 78, 0, 0, 0),
   (26, .aload_n 0, 27, 0, .null, 0, 0, 0, 0),
   (27, .getfield 15, 30, 0, .null, 2, 2, 0, 111),
   (30, .iload_n 3, 31, 0, .null, 3, 0, 0, 0),
   (31, .iaload, 32, 0, .null, 0, 0, 0, 0)],
  [(32, .iload_n 1, 33, 0, .null, 1, 0, 0, 0),
   (33, .iconst (-1), 34, 0, .int (-1), 0, 0, 0, 0),
   (34, .ixor, 35, 0, .null, 0, 0, 0, 0),
   (35, .iand, 36, 0, .null, 0, 0, 0, 0),
   (36, .ifCond .ne 42, 39, 0, .null, 78, 0, 0, 0),
   (39, .aload_n 0, 40, 0, .null, 0, 0, 0, 0),
   (40, .getfield 18, 43, 0, .null, 2, 3, 0, 112),
   (43, .iload_n 3, 44, 0, .null, 3, 0, 0, 0),
   (44, .aload_n 0, 45, 0, .null, 0, 0, 0, 0),
   (45, .aload_n 0, 46, 0, .null, 0, 0, 0, 0),
   (46, .getfield 9, 49, 0, .null, 2, 1, 0, 110)],
  [(49, .iload_n 3, 50, 0, .null, 3, 0, 0, 0),
   (50, .iaload, 51, 0, .null, 0, 0, 0, 0),
   (51, .invokevirtual 103, 54, 0, .ref 5, 46, 2, 1, 534),
   (54, .iastore, 55, 0, .null, 0, 0, 0, 0),
   (55, .aload_n 0, 56, 0, .null, 0, 0, 0, 0),
   (56, .getfield 21, 59, 0, .null, 2, 4, 0, 113),
   (59, .iload_n 3, 60, 0, .null, 3, 0, 0, 0),
   (60, .aload_n 0, 61, 0, .null, 0, 0, 0, 0),
   (61, .aload_n 0, 62, 0, .null, 0, 0, 0, 0),
   (62, .getfield 9, 65, 0, .null, 2, 1, 0, 110)],
  [(65, .iload_n 3, 66, 0, .null, 3, 0, 0, 0),
   (66, .iaload, 67, 0, .null, 0, 0, 0, 0),
   (67, .invokevirtual 106, 70, 0, .ref 5, 52, 2, 1, 550),
   (70, .iastore, 71, 0, .null, 0, 0, 0, 0),
   (71, .iload_n 1, 72, 0, .null, 1, 0, 0, 0),
   (72, .iload_n 3, 73, 0, .null, 3, 0, 0, 0),
   (73, .invokestatic 61, 76, 0, .ref 1, 16, 3, 1, 524),
   (76, .ior, 77, 0, .null, 0, 0, 0, 0),
   (77, .istore_n 1, 78, 0, .null, 1, 0, 0, 0),
   (78, .iinc 3 1, 81, 5, .int 1, 3, 0, 0, 0)],
  [(81, .goto (-69), 84, 0, .null, 12, 0, 0, 0),
   (84, .iinc 2 1, 87, 0, .int 1, 2, 0, 0, 0),
   (87, .goto (-83), 90, 0, .null, 4, 0, 0, 0),
   (90, .return_, 91, 0, .null, 0, 0, 0, 0)]]
def am_t46 : List (List (Nat × am_E)) := [
  [(0, .aload_n 0, 1, 0, .null, 0, 0, 0, 0),
   (1, .getfield 24, 4, 0, .null, 2, 0, 0, 109),
   (4, .iload_n 1, 5, 0, .null, 1, 0, 0, 0),
   (5, .invokevirtual 49, 8, 0, .ref 3, 88, 7, 1, 515),
   (8, .istore_n 2, 9, 0, .null, 2, 0, 0, 0),
   (9, .iconst 0, 10, 0, .int 0, 0, 0, 0, 0),
   (10, .istore_n 3, 11, 0, .null, 3, 0, 0, 0),
   (11, .iload_n 1, 12, 0, .null, 1, 0, 0, 0),
   (12, .istore 4, 14, 0, .null, 4, 0, 0, 0),
   (14, .iload 4, 16, 6, .null, 4, 0, 0, 0)],
  [(16, .iload_n 2, 17, 0, .null, 2, 0, 0, 0),
   (17, .if_icmp .ge 68, 20, 0, .null, 85, 0, 0, 0),
   (20, .aload_n 0, 21, 0, .null, 0, 0, 0, 0),
   (21, .getfield 24, 24, 0, .null, 2, 0, 0, 109),
   (24, .iload 4, 26, 0, .null, 4, 0, 0, 0),
   (26, .invokevirtual 54, 29, 0, .ref 2, 82, 7, 1, 538),
   (29, .ifCond .eq 21, 32, 0, .null, 50, 0, 0, 0)],
  [(32, .iload_n 3, 33, 0, .null, 3, 0, 0, 0),
   (33, .aload_n 0, 34, 0, .null, 0, 0, 0, 0),
   (34, .getfield 24, 37, 0, .null, 2, 0, 0, 109),
   (37, .iload 4, 39, 0, .null, 4, 0, 0, 0),
   (39, .invokevirtual 58, 42, 0, .ref 2, 80, 7, 1, 542),
   (42, .invokestatic 61, 45, 0, .ref 1, 16, 3, 1, 524),
   (45, .ior, 46, 0, .null, 0, 0, 0, 0),
   (46, .istore_n 3, 47, 0, .null, 3, 0, 0, 0),
   (47, .goto 32, 50, 0, .null, 79, 0, 0, 0)],
  [(50, .aload_n 0, 51, 0, .null, 0, 0, 0, 0),
   (51, .getfield 24, 54, 0, .null, 2, 0, 0, 109),
   (54, .iload 4, 56, 0, .null, 4, 0, 0, 0),
   (56, .invokevirtual 64, 59, 0, .ref 2, 81, 7, 1, 516),
   (59, .ifCond .eq 20, 62, 0, .null, 79, 0, 0, 0),
   (62, .iload_n 3, 63, 0, .null, 3, 0, 0, 0),
   (63, .aload_n 0, 64, 0, .null, 0, 0, 0, 0)],
  [(64, .getfield 18, 67, 0, .null, 2, 3, 0, 112),
   (67, .aload_n 0, 68, 0, .null, 0, 0, 0, 0),
   (68, .getfield 24, 71, 0, .null, 2, 0, 0, 109),
   (71, .iload 4, 73, 0, .null, 4, 0, 0, 0),
   (73, .invokevirtual 67, 76, 0, .ref 2, 85, 7, 1, 520),
   (76, .iaload, 77, 0, .null, 0, 0, 0, 0),
   (77, .ior, 78, 0, .null, 0, 0, 0, 0),
   (78, .istore_n 3, 79, 0, .null, 3, 0, 0, 0),
   (79, .iinc 4 1, 82, 6, .int 1, 4, 0, 0, 0)],
  [(82, .goto (-68), 85, 0, .null, 14, 0, 0, 0),
   (85, .iload_n 3, 86, 0, .null, 3, 0, 0, 0),
   (86, .ireturn, 87, 0, .null, 0, 0, 0, 0)]]
def am_t47 : List (List (Nat × am_E)) := [
  [(0, .iconst 0, 1, 0, .int 0, 0, 0, 0, 0),
   (1, .istore_n 1, 2, 0, .null, 1, 0, 0, 0),
   (2, .iload_n 1, 3, 3, .null, 1, 0, 0, 0),
   (3, .bipush 26, 5, 0, .int 26, 0, 0, 0, 0),
   (5, .if_icmp .ge 25, 8, 0, .null, 30, 0, 0, 0),
   (8, .aload_n 0, 9, 0, .null, 0, 0, 0, 0),
   (9, .getfield 15, 12, 0, .null, 2, 2, 0, 111),
   (12, .iload_n 1, 13, 0, .null, 1, 0, 0, 0),
   (13, .aload_n 0, 14, 0, .null, 0, 0, 0, 0),
   (14, .aload_n 0, 15, 0, .null, 0, 0, 0, 0),
   (15, .getfield 9, 18, 0, .null, 2, 1, 0, 110)],
  [(18, .iload_n 1, 19, 0, .null, 1, 0, 0, 0),
   (19, .iaload, 20, 0, .null, 0, 0, 0, 0),
   (20, .invokevirtual 41, 23, 0, .ref 5, 51, 2, 1, 511),
   (23, .iastore, 24, 0, .null, 0, 0, 0, 0),
   (24, .iinc 1 1, 27, 0, .int 1, 1, 0, 0, 0),
   (27, .goto (-25), 30, 0, .null, 2, 0, 0, 0),
   (30, .iconst 0, 31, 0, .int 0, 0, 0, 0, 0),
   (31, .istore_n 1, 32, 0, .null, 1, 0, 0, 0)],
  [(32, .iload_n 1, 33, 3, .null, 1, 0, 0, 0),
   (33, .bipush 26, 35, 0, .int 26, 0, 0, 0, 0),
   (35, .if_icmp .ge 51, 38, 0, .null, 86, 0, 0, 0),
   (38, .iconst 0, 39, 0, .int 0, 0, 0, 0, 0),
   (39, .istore_n 2, 40, 0, .null, 2, 0, 0, 0),
   (40, .iload_n 2, 41, 4, .null, 2, 0, 0, 0),
   (41, .bipush 26, 43, 0, .int 26, 0, 0, 0, 0),
   (43, .if_icmp .ge 37, 46, 0, .null, 80, 0, 0, 0),
   (46, .aload_n 0, 47, 0, .null, 0, 0, 0, 0),
   (47, .getfield 15, 50, 0, .null, 2, 2, 0, 111)],
  [(50, .iload_n 2, 51, 0, .null, 2, 0, 0, 0),
   (51, .iaload, 52, 0, .null, 0, 0, 0, 0),
   (52, .iload_n 1, 53, 0, .null, 1, 0, 0, 0),
   (53, .invokestatic 99, 56, 0, .ref 2, 3, 3, 2, 525),
   (56, .ifCond .eq 18, 59, 0, .null, 74, 0, 0, 0),
   (59, .aload_n 0, 60, 0, .null, 0, 0, 0, 0),
   (60, .getfield 15, 63, 0, .null, 2, 2, 0, 111),
   (63, .iload_n 2, 64, 0, .null, 2, 0, 0, 0)],
  [(64, .dup2, 65, 0, .null, 0, 0, 0, 0),
   (65, .iaload, 66, 0, .null, 0, 0, 0, 0),
   (66, .aload_n 0, 67, 0, .null, 0, 0, 0, 0),
   (67, .getfield 15, 70, 0, .null, 2, 2, 0, 111),
   (70, .iload_n 1, 71, 0, .null, 1, 0, 0, 0),
   (71, .iaload, 72, 0, .null, 0, 0, 0, 0),
   (72, .ior, 73, 0, .null, 0, 0, 0, 0),
   (73, .iastore, 74, 0, .null, 0, 0, 0, 0),
   (74, .iinc 2 1, 77, 4, .int 1, 2, 0, 0, 0),
   (77, .goto (-37), 80, 0, .null, 40, 0, 0, 0)],
  [(80, .iinc 1 1, 83, 0, .int 1, 1, 0, 0, 0),
   (83, .goto (-51), 86, 0, .null, 32, 0, 0, 0),
   (86, .return_, 87, 0, .null, 0, 0, 0, 0)]]
def am_t48 : List (List (Nat × am_E)) := [
  [(0, .iconst 0, 1, 0, .int 0, 0, 0, 0, 0),
   (1, .istore_n 1, 2, 0, .null, 1, 0, 0, 0),
   (2, .iconst 0, 3, 0, .int 0, 0, 0, 0, 0),
   (3, .istore_n 2, 4, 0, .null, 2, 0, 0, 0),
   (4, .iload_n 2, 5, 4, .null, 2, 0, 0, 0),
   (5, .bipush 26, 7, 0, .int 26, 0, 0, 0, 0),
   (7, .if_icmp .ge 23, 10, 0, .null, 30, 0, 0, 0),
   (10, .iload_n 1, 11, 0, .null, 1, 0, 0, 0),
   (11, .aload_n 0, 12, 0, .null, 0, 0, 0, 0),
   (12, .getfield 15, 15, 0, .null, 2, 2, 0, 111),
   (15, .iload_n 2, 16, 0, .null, 2, 0, 0, 0)],
  [(16, .iaload, 17, 0, .null, 0, 0, 0, 0),
   (17, .iload_n 2, 18, 0, .null, 2, 0, 0, 0),
   (18, .invokestatic 61, 21, 0, .ref 1, 16, 3, 1, 524),
   (21, .iand, 22, 0, .null, 0, 0, 0, 0),
   (22, .ior, 23, 0, .null, 0, 0, 0, 0),
   (23, .istore_n 1, 24, 0, .null, 1, 0, 0, 0),
   (24, .iinc 2 1, 27, 0, .int 1, 2, 0, 0, 0),
   (27, .goto (-23), 30, 0, .null, 4, 0, 0, 0),
   (30, .aload_n 0, 31, 0, .null, 0, 0, 0, 0),
   (31, .iconst 0, 32, 0, .int 0, 0, 0, 0, 0)],
  [(32, .putfield 45, 35, 0, .null, 2, 5, 0, 114),
   (35, .iconst 0, 36, 0, .int 0, 0, 0, 0, 0),
   (36, .istore_n 2, 37, 0, .null, 2, 0, 0, 0),
   (37, .iload_n 2, 38, 4, .null, 2, 0, 0, 0),
   (38, .bipush 26, 40, 0, .int 26, 0, 0, 0, 0),
   (40, .if_icmp .ge 33, 43, 0, .null, 73, 0, 0, 0),
   (43, .aload_n 0, 44, 0, .null, 0, 0, 0, 0),
   (44, .getfield 15, 47, 0, .null, 2, 2, 0, 111),
   (47, .iload_n 2, 48, 0, .null, 2, 0, 0, 0)],
  [(48, .iaload, 49, 0, .null, 0, 0, 0, 0),
   (49, .iload_n 1, 50, 0, .null, 1, 0, 0, 0),
   (50, .iand, 51, 0, .null, 0, 0, 0, 0),
   (51, .ifCond .eq 16, 54, 0, .null, 67, 0, 0, 0),
   (54, .aload_n 0, 55, 0, .null, 0, 0, 0, 0),
   (55, .dup, 56, 0, .null, 0, 0, 0, 0),
   (56, .getfield 45, 59, 0, .null, 2, 5, 0, 114),
   (59, .iload_n 2, 60, 0, .null, 2, 0, 0, 0),
   (60, .invokestatic 61, 63, 0, .ref 1, 16, 3, 1, 524),
   (63, .ior, 64, 0, .null, 0, 0, 0, 0)],
  [(64, .putfield 45, 67, 0, .null, 2, 5, 0, 114),
   (67, .iinc 2 1, 70, 4, .int 1, 2, 0, 0, 0),
   (70, .goto (-33), 73, 0, .null, 37, 0, 0, 0),
   (73, .return_, 74, 0, .null, 0, 0, 0, 0)]]
def am_t49 : List (List (Nat × am_E)) := [
  [(0, .iconst 0, 1, 0, .int 0, 0, 0, 0, 0),
   (1, .istore_n 2, 2, 0, .null, 2, 0, 0, 0),
   (2, .iload_n 2, 3, 4, .null, 2, 0, 0, 0),
   (3, .bipush 26, 5, 0, .int 26, 0, 0, 0, 0),
   (5, .if_icmp .ge 16, 8, 0, .null, 21, 0, 0, 0),
   (8, .aload_n 0, 9, 0, .null, 0, 0, 0, 0),
   (9, .getfield 9, 12, 0, .null, 2, 1, 0, 110),
   (12, .iload_n 2, 13, 0, .null, 2, 0, 0, 0),
   (13, .iconst (-1), 14, 0, .int (-1), 0, 0, 0, 0),
   (14, .iastore, 15, 0, .null, 0, 0, 0, 0),
   (15, .iinc 2 1, 18, 0, .int 1, 2, 0, 0, 0)],
  [(18, .goto (-16), 21, 0, .null, 2, 0, 0, 0),
   (21, .iconst 0, 22, 0, .int 0, 0, 0, 0, 0),
   (22, .istore_n 2, 23, 0, .null, 2, 0, 0, 0),
   (23, .iload_n 2, 24, 4, .null, 2, 0, 0, 0),
   (24, .aload_n 1, 25, 0, .null, 1, 0, 0, 0),
   (25, .invokevirtual 76, 28, 0, .ref 1, 34, 1, 0, 496),
   (28, .if_icmp .ge 45, 31, 0, .null, 73, 0, 0, 0),
   (31, .aload_n 1, 32, 0, .null, 1, 0, 0, 0)],
  [(32, .iload_n 2, 33, 0, .null, 2, 0, 0, 0),
   (33, .getstatic 82, 36, 0, .null, 2, 0, 0, 500),
   (36, .invokevirtual 88, 39, 0, .ref 3, 37, 1, 2, 501),
   (39, .ifCond .eq 28, 42, 0, .null, 67, 0, 0, 0),
   (42, .aload_n 1, 43, 0, .null, 1, 0, 0, 0),
   (43, .iload_n 2, 44, 0, .null, 2, 0, 0, 0),
   (44, .invokevirtual 92, 47, 0, .ref 2, 44, 1, 1, 502),
   (47, .istore_n 3, 48, 0, .null, 3, 0, 0, 0)],
  [(48, .aload_n 0, 49, 0, .null, 0, 0, 0, 0),
   (49, .getfield 9, 52, 0, .null, 2, 1, 0, 110),
   (52, .aload_n 0, 53, 0, .null, 0, 0, 0, 0),
   (53, .getfield 24, 56, 0, .null, 2, 0, 0, 109),
   (56, .iload_n 3, 57, 0, .null, 3, 0, 0, 0),
   (57, .invokevirtual 95, 60, 0, .ref 2, 78, 7, 1, 506),
   (60, .bipush 65, 62, 0, .int 65, 0, 0, 0, 0),
   (62, .isub, 63, 0, .null, 0, 0, 0, 0),
   (63, .iload_n 3, 64, 0, .null, 3, 0, 0, 0)],
  [(64, .iconst 2, 65, 0, .int 2, 0, 0, 0, 0),
   (65, .iadd, 66, 0, .null, 0, 0, 0, 0),
   (66, .iastore, 67, 0, .null, 0, 0, 0, 0),
   (67, .iinc 2 1, 70, 4, .int 1, 2, 0, 0, 0),
   (70, .goto (-47), 73, 0, .null, 23, 0, 0, 0),
   (73, .return_, 74, 0, .null, 0, 0, 0, 0)]]
def am_t50 : List (List (Nat × am_E)) := [
  [(0, .aload_n 0, 1, 0, .null, 0, 0, 0, 0),
   (1, .aload_n 1, 2, 0, .null, 1, 0, 0, 0),
   (2, .invokevirtual 28, 5, 0, .ref 4, 49, 2, 1, 492),
   (5, .aload_n 0, 6, 0, .null, 0, 0, 0, 0),
   (6, .invokevirtual 32, 9, 0, .ref 3, 47, 2, 0, 507),
   (9, .aload_n 0, 10, 0, .null, 0, 0, 0, 0),
   (10, .invokevirtual 35, 13, 0, .ref 3, 48, 2, 0, 526),
   (13, .aload_n 0, 14, 0, .null, 0, 0, 0, 0),
   (14, .invokevirtual 38, 17, 0, .ref 4, 45, 2, 0, 530)],
  [(17, .return_, 18, 0, .null, 0, 0, 0, 0)]]
def am_t51 : List (List (Nat × am_E)) := [
  [(0, .aload_n 0, 1, 0, .null, 0, 0, 0, 0),
   (1, .getfield 24, 4, 0, .null, 2, 0, 0, 109),
   (4, .iload_n 1, 5, 0, .null, 1, 0, 0, 0),
   (5, .invokevirtual 49, 8, 0, .ref 3, 88, 7, 1, 515),
   (8, .istore_n 2, 9, 0, .null, 2, 0, 0, 0),
   (9, .iconst 0, 10, 0, .int 0, 0, 0, 0, 0),
   (10, .istore_n 3, 11, 0, .null, 3, 0, 0, 0),
   (11, .iload_n 1, 12, 0, .null, 1, 0, 0, 0),
   (12, .istore 4, 14, 0, .null, 4, 0, 0, 0),
   (14, .iload 4, 16, 6, .null, 4, 0, 0, 0)],
  [(16, .iload_n 2, 17, 0, .null, 2, 0, 0, 0),
   (17, .if_icmp .ge 36, 20, 0, .null, 53, 0, 0, 0),
   (20, .aload_n 0, 21, 0, .null, 0, 0, 0, 0),
   (21, .getfield 24, 24, 0, .null, 2, 0, 0, 109),
   (24, .iload 4, 26, 0, .null, 4, 0, 0, 0),
   (26, .invokevirtual 64, 29, 0, .ref 2, 81, 7, 1, 516),
   (29, .ifCond .eq 18, 32, 0, .null, 47, 0, 0, 0)],
  [(32, .iload_n 3, 33, 0, .null, 3, 0, 0, 0),
   (33, .aload_n 0, 34, 0, .null, 0, 0, 0, 0),
   (34, .getfield 24, 37, 0, .null, 2, 0, 0, 109),
   (37, .iload 4, 39, 0, .null, 4, 0, 0, 0),
   (39, .invokevirtual 67, 42, 0, .ref 2, 85, 7, 1, 520),
   (42, .invokestatic 61, 45, 0, .ref 1, 16, 3, 1, 524),
   (45, .ior, 46, 0, .null, 0, 0, 0, 0),
   (46, .istore_n 3, 47, 0, .null, 3, 0, 0, 0),
   (47, .iinc 4 1, 50, 6, .int 1, 4, 0, 0, 0)],
  [(50, .goto (-36), 53, 0, .null, 14, 0, 0, 0),
   (53, .iload_n 3, 54, 0, .null, 3, 0, 0, 0),
   (54, .ireturn, 55, 0, .null, 0, 0, 0, 0)]]
def am_t52 : List (List (Nat × am_E)) := [
  [(0, .aload_n 0, 1, 0, .null, 0, 0, 0, 0),
   (1, .getfield 24, 4, 0, .null, 2, 0, 0, 109),
   (4, .iload_n 1, 5, 0, .null, 1, 0, 0, 0),
   (5, .invokevirtual 49, 8, 0, .ref 3, 88, 7, 1, 515),
   (8, .istore_n 2, 9, 0, .null, 2, 0, 0, 0),
   (9, .iconst 0, 10, 0, .int 0, 0, 0, 0, 0),
   (10, .istore_n 3, 11, 0, .null, 3, 0, 0, 0),
   (11, .iload_n 1, 12, 0, .null, 1, 0, 0, 0),
   (12, .istore 4, 14, 0, .null, 4, 0, 0, 0),
   (14, .iload 4, 16, 6, .null, 4, 0, 0, 0)],
  [(16, .iload_n 2, 17, 0, .null, 2, 0, 0, 0),
   (17, .if_icmp .ge 56, 20, 0, .null, 73, 0, 0, 0),
   (20, .aload_n 0, 21, 0, .null, 0, 0, 0, 0),
   (21, .getfield 24, 24, 0, .null, 2, 0, 0, 109),
   (24, .iload 4, 26, 0, .null, 4, 0, 0, 0),
   (26, .invokevirtual 54, 29, 0, .ref 2, 82, 7, 1, 538),
   (29, .ifCond .eq 9, 32, 0, .null, 38, 0, 0, 0)],
  [(32, .iinc 3 1, 35, 0, .int 1, 3, 0, 0, 0),
   (35, .goto 32, 38, 0, .null, 67, 0, 0, 0),
   (38, .aload_n 0, 39, 0, .null, 0, 0, 0, 0),
   (39, .getfield 24, 42, 0, .null, 2, 0, 0, 109),
   (42, .iload 4, 44, 0, .null, 4, 0, 0, 0),
   (44, .invokevirtual 64, 47, 0, .ref 2, 81, 7, 1, 516),
   (47, .ifCond .eq 20, 50, 0, .null, 67, 0, 0, 0)],
  [(50, .iload_n 3, 51, 0, .null, 3, 0, 0, 0),
   (51, .aload_n 0, 52, 0, .null, 0, 0, 0, 0),
   (52, .getfield 21, 55, 0, .null, 2, 4, 0, 113),
   (55, .aload_n 0, 56, 0, .null, 0, 0, 0, 0),
   (56, .getfield 24, 59, 0, .null, 2, 0, 0, 109),
   (59, .iload 4, 61, 0, .null, 4, 0, 0, 0),
   (61, .invokevirtual 67, 64, 0, .ref 2, 85, 7, 1, 520)],
  [(64, .iaload, 65, 0, .null, 0, 0, 0, 0),
   (65, .iadd, 66, 0, .null, 0, 0, 0, 0),
   (66, .istore_n 3, 67, 0, .null, 3, 0, 0, 0),
   (67, .iinc 4 1, 70, 6, .int 1, 4, 0, 0, 0),
   (70, .goto (-56), 73, 0, .null, 14, 0, 0, 0),
   (73, .iload_n 3, 74, 0, .null, 3, 0, 0, 0),
   (74, .bipush 65, 76, 0, .int 65, 0, 0, 0, 0),
   (76, .invokestatic 70, 79, 0, .null, 0, 2, 2, 554),
   (79, .ireturn, 80, 0, .null, 0, 0, 0, 0)]]
def am_t53 : List (List (Nat × am_E)) := [
  [(0, .aload_n 0, 1, 0, .null, 0, 0, 0, 0),
   (1, .iload_n 1, 2, 0, .null, 1, 0, 0, 0),
   (2, .invokevirtual 41, 5, 0, .ref 5, 51, 2, 1, 511),
   (5, .aload_n 0, 6, 0, .null, 0, 0, 0, 0),
   (6, .getfield 45, 9, 0, .null, 2, 5, 0, 114),
   (9, .iand, 10, 0, .null, 0, 0, 0, 0),
   (10, .ifCond .eq 7, 13, 0, .null, 17, 0, 0, 0),
   (13, .iconst 1, 14, 0, .int 1, 0, 0, 0, 0),
   (14, .goto 4, 17, 0, .null, 18, 0, 0, 0)],
  [(17, .iconst 0, 18, 0, .int 0, 0, 0, 0, 0),
   (18, .ireturn, 19, 1, .null, 0, 0, 1, 0)]]
def am_t54 : List (List (Nat × am_E)) := [
  [(0, .aload_n 0, 1, 0, .null, 0, 0, 0, 0),
   (1, .getfield 18, 4, 0, .null, 3, 2, 0, 206),
   (4, .bipush 32, 6, 0, .int 32, 0, 0, 0, 0),
   (6, .if_icmp .ge 23, 9, 0, .null, 29, 0, 0, 0),
   (9, .aload_n 0, 10, 0, .null, 0, 0, 0, 0),
   (10, .getfield 9, 13, 0, .null, 3, 0, 0, 204),
   (13, .aload_n 0, 14, 0, .null, 0, 0, 0, 0),
   (14, .getfield 18, 17, 0, .null, 3, 2, 0, 206)],
  [(17, .iload_n 1, 18, 0, .null, 1, 0, 0, 0),
   (18, .iastore, 19, 0, .null, 0, 0, 0, 0),
   (19, .aload_n 0, 20, 0, .null, 0, 0, 0, 0),
   (20, .dup, 21, 0, .null, 0, 0, 0, 0),
   (21, .getfield 18, 24, 0, .null, 3, 2, 0, 206),
   (24, .iconst 1, 25, 0, .int 1, 0, 0, 0, 0),
   (25, .iadd, 26, 0, .null, 0, 0, 0, 0),
   (26, .putfield 18, 29, 0, .null, 3, 2, 0, 206),
   (29, .return_, 30, 1, .null, 0, 0, 0, 0)]]
def am_t55 : List (List (Nat × am_E)) := [
  [(0, .aload_n 0, 1, 0, .null, 0, 0, 0, 0),
   (1, .iconst 0, 2, 0, .int 0, 0, 0, 0, 0),
   (2, .putfield 18, 5, 0, .null, 3, 2, 0, 206),
   (5, .iconst 0, 6, 0, .int 0, 0, 0, 0, 0),
   (6, .istore_n 1, 7, 0, .null, 1, 0, 0, 0),
   (7, .iload_n 1, 8, 3, .null, 1, 0, 0, 0),
   (8, .bipush 32, 10, 0, .int 32, 0, 0, 0, 0),
   (10, .if_icmp .ge 16, 13, 0, .null, 26, 0, 0, 0),
   (13, .aload_n 0, 14, 0, .null, 0, 0, 0, 0),
   (14, .getfield 15, 17, 0, .null, 3, 1, 0, 205)],
  [(17, .iload_n 1, 18, 0, .null, 1, 0, 0, 0),
   (18, .iconst 0, 19, 0, .int 0, 0, 0, 0, 0),
   (19, .iastore, 20, 0, .null, 0, 0, 0, 0),
   (20, .iinc 1 1, 23, 0, .int 1, 1, 0, 0, 0),
   (23, .goto (-16), 26, 0, .null, 7, 0, 0, 0),
   (26, .return_, 27, 0, .null, 0, 0, 0, 0)]]
def am_t56 : List (List (Nat × am_E)) := [
  [(0, .iload_n 1, 1, 0, .null, 1, 0, 0, 0),
   (1, .ifCond .lt 20, 4, 0, .null, 21, 0, 0, 0),
   (4, .iload_n 1, 5, 0, .null, 1, 0, 0, 0),
   (5, .aload_n 0, 6, 0, .null, 0, 0, 0, 0),
   (6, .getfield 18, 9, 0, .null, 3, 2, 0, 206),
   (9, .if_icmp .ge 12, 12, 0, .null, 21, 0, 0, 0),
   (12, .aload_n 0, 13, 0, .null, 0, 0, 0, 0),
   (13, .getfield 9, 16, 0, .null, 3, 0, 0, 204)],
  [(16, .iload_n 1, 17, 0, .null, 1, 0, 0, 0),
   (17, .iaload, 18, 0, .null, 0, 0, 0, 0),
   (18, .goto 4, 21, 0, .null, 22, 0, 0, 0),
   (21, .iconst (-1), 22, 1, .int (-1), 0, 0, 0, 0),
   (22, .ireturn, 23, 1, .null, 0, 0, 0, 0)]]
def am_t57 : List (List (Nat × am_E)) := [
  [(0, .aload_n 0, 1, 0, .null, 0, 0, 0, 0),
   (1, .getfield 15, 4, 0, .null, 3, 1, 0, 205),
   (4, .iload_n 1, 5, 0, .null, 1, 0, 0, 0),
   (5, .iload_n 2, 6, 0, .null, 2, 0, 0, 0),
   (6, .iastore, 7, 0, .null, 0, 0, 0, 0),
   (7, .return_, 8, 0, .null, 0, 0, 0, 0)]]
def am_t58 : List (List (Nat × am_E)) := [
  [(0, .aload_n 0, 1, 0, .null, 0, 0, 0, 0),
   (1, .getfield 15, 4, 0, .null, 3, 1, 0, 205),
   (4, .iload_n 1, 5, 0, .null, 1, 0, 0, 0),
   (5, .iaload, 6, 0, .null, 0, 0, 0, 0),
   (6, .ireturn, 7, 0, .null, 0, 0, 0, 0)]]
def am_t59 : List (List (Nat × am_E)) := [
  [(0, .iconst 0, 1, 0, .int 0, 0, 0, 0, 0),
   (1, .istore_n 2, 2, 0, .null, 2, 0, 0, 0),
   (2, .aload_n 1, 3, 0, .null, 1, 0, 0, 0),
   (3, .invokevirtual 54, 6, 0, .ref 2, 69, 5, 0, 634),
   (6, .iconst 0, 7, 0, .int 0, 0, 0, 0, 0),
   (7, .istore_n 3, 8, 0, .null, 3, 0, 0, 0),
   (8, .iload_n 3, 9, 5, .null, 3, 0, 0, 0),
   (9, .aload_n 0, 10, 0, .null, 0, 0, 0, 0),
   (10, .getfield 15, 13, 0, .null, 4, 1, 0, 135),
   (13, .invokevirtual 23, 16, 0, .ref 1, 34, 1, 0, 561)],
  [(16, .if_icmp .ge 102, 19, 0, .null, 118, 0, 0, 0),
   (19, .aload_n 0, 20, 0, .null, 0, 0, 0, 0),
   (20, .iload_n 3, 21, 0, .null, 3, 0, 0, 0),
   (21, .invokevirtual 29, 24, 0, .ref 2, 63, 4, 1, 562),
   (24, .ifCond .eq 38, 27, 0, .null, 62, 0, 0, 0),
   (27, .aload_n 1, 28, 0, .null, 1, 0, 0, 0),
   (28, .aload_n 0, 29, 0, .null, 0, 0, 0, 0),
   (29, .iload_n 3, 30, 0, .null, 3, 0, 0, 0),
   (30, .invokevirtual 51, 33, 0, .ref 2, 66, 4, 1, 610)],
  [(33, .aload_n 0, 34, 0, .null, 0, 0, 0, 0),
   (34, .getfield 19, 37, 0, .null, 4, 2, 0, 136),
   (37, .aload_n 0, 38, 0, .null, 0, 0, 0, 0),
   (38, .iload_n 3, 39, 0, .null, 3, 0, 0, 0),
   (39, .invokevirtual 42, 42, 0, .ref 2, 64, 4, 1, 577),
   (42, .invokevirtual 59, 45, 0, .ref 5, 46, 2, 1, 614),
   (45, .aload_n 0, 46, 0, .null, 0, 0, 0, 0),
   (46, .getfield 15, 49, 0, .null, 4, 1, 0, 135)],
  [(49, .iload_n 3, 50, 0, .null, 3, 0, 0, 0),
   (50, .invokevirtual 48, 53, 0, .ref 2, 36, 1, 1, 606),
   (53, .invokevirtual 62, 56, 0, .ref 5, 68, 5, 3, 638),
   (56, .iinc 2 1, 59, 0, .int 1, 2, 0, 0, 0),
   (59, .goto 53, 62, 0, .null, 112, 0, 0, 0),
   (62, .aload_n 0, 63, 0, .null, 0, 0, 0, 0),
   (63, .getfield 15, 66, 0, .null, 4, 1, 0, 135)],
  [(66, .iload_n 3, 67, 0, .null, 3, 0, 0, 0),
   (67, .getstatic 66, 70, 0, .null, 4, 0, 0, 643),
   (70, .invokevirtual 72, 73, 0, .ref 3, 37, 1, 2, 567),
   (73, .ifCond .eq 39, 76, 0, .null, 112, 0, 0, 0),
   (76, .aload_n 0, 77, 0, .null, 0, 0, 0, 0),
   (77, .getfield 15, 80, 0, .null, 4, 1, 0, 135)],
  [(80, .iload_n 3, 81, 0, .null, 3, 0, 0, 0),
   (81, .invokevirtual 76, 84, 0, .ref 2, 44, 1, 1, 572),
   (84, .istore 4, 86, 0, .null, 4, 0, 0, 0),
   (86, .aload_n 1, 87, 0, .null, 1, 0, 0, 0),
   (87, .aload_n 0, 88, 0, .null, 0, 0, 0, 0),
   (88, .getfield 9, 91, 0, .null, 4, 0, 0, 134),
   (91, .iload 4, 93, 0, .null, 4, 0, 0, 0),
   (93, .iconst 1, 94, 0, .int 1, 0, 0, 0, 0),
   (94, .iadd, 95, 0, .null, 0, 0, 0, 0),
   (95, .invokevirtual 79, 98, 0, .ref 2, 84, 7, 1, 644)],
  [(98, .aload_n 0, 99, 0, .null, 0, 0, 0, 0),
   (99, .getfield 9, 102, 0, .null, 4, 0, 0, 134),
   (102, .iload 4, 104, 0, .null, 4, 0, 0, 0),
   (104, .iconst 4, 105, 0, .int 4, 0, 0, 0, 0),
   (105, .iadd, 106, 0, .null, 0, 0, 0, 0),
   (106, .invokevirtual 79, 109, 0, .ref 2, 84, 7, 1, 644),
   (109, .invokevirtual 84, 112, 0, .ref 3, 67, 5, 2, 645)],
  [(112, .iinc 3 1, 115, 5, .int 1, 3, 0, 0, 0),
   (115, .goto (-107), 118, 0, .null, 8, 0, 0, 0),
   (118, .iload_n 2, 119, 0, .null, 2, 0, 0, 0),
   (119, .ireturn, 120, 0, .null, 0, 0, 0, 0)]]
def am_t60 : List (List (Nat × am_E)) := [
  [(0, .iconst 0, 1, 0, .int 0, 0, 0, 0, 0),
   (1, .istore_n 1, 2, 0, .null, 1, 0, 0, 0),
   (2, .iconst 0, 3, 0, .int 0, 0, 0, 0, 0),
   (3, .istore_n 2, 4, 0, .null, 2, 0, 0, 0),
   (4, .iload_n 2, 5, 4, .null, 2, 0, 0, 0),
   (5, .aload_n 0, 6, 0, .null, 0, 0, 0, 0),
   (6, .getfield 15, 9, 0, .null, 4, 1, 0, 135),
   (9, .invokevirtual 23, 12, 0, .ref 1, 34, 1, 0, 561),
   (12, .if_icmp .ge 50, 15, 0, .null, 62, 0, 0, 0),
   (15, .aload_n 0, 16, 0, .null, 0, 0, 0, 0)],
  [(16, .iload_n 2, 17, 0, .null, 2, 0, 0, 0),
   (17, .invokevirtual 29, 20, 0, .ref 2, 63, 4, 1, 562),
   (20, .ifCond .eq 36, 23, 0, .null, 56, 0, 0, 0),
   (23, .aload_n 0, 24, 0, .null, 0, 0, 0, 0),
   (24, .getfield 15, 27, 0, .null, 4, 1, 0, 135),
   (27, .iload_n 2, 28, 0, .null, 2, 0, 0, 0),
   (28, .invokevirtual 48, 31, 0, .ref 2, 36, 1, 1, 606),
   (31, .ifCond .eq 25, 34, 0, .null, 56, 0, 0, 0)],
  [(34, .iload_n 1, 35, 0, .null, 1, 0, 0, 0),
   (35, .aload_n 0, 36, 0, .null, 0, 0, 0, 0),
   (36, .iload_n 2, 37, 0, .null, 2, 0, 0, 0),
   (37, .invokevirtual 51, 40, 0, .ref 2, 66, 4, 1, 610),
   (40, .iand, 41, 0, .null, 0, 0, 0, 0),
   (41, .ifCond .eq 7, 44, 0, .null, 48, 0, 0, 0),
   (44, .iload_n 2, 45, 0, .null, 2, 0, 0, 0),
   (45, .iconst 1, 46, 0, .int 1, 0, 0, 0, 0),
   (46, .iadd, 47, 0, .null, 0, 0, 0, 0),
   (47, .ireturn, 48, 0, .null, 0, 0, 0, 0)],
  [(48, .iload_n 1, 49, 0, .null, 1, 0, 0, 0),
   (49, .aload_n 0, 50, 0, .null, 0, 0, 0, 0),
   (50, .iload_n 2, 51, 0, .null, 2, 0, 0, 0),
   (51, .invokevirtual 51, 54, 0, .ref 2, 66, 4, 1, 610),
   (54, .ior, 55, 0, .null, 0, 0, 0, 0),
   (55, .istore_n 1, 56, 0, .null, 1, 0, 0, 0),
   (56, .iinc 2 1, 59, 4, .int 1, 2, 0, 0, 0),
   (59, .goto (-55), 62, 0, .null, 4, 0, 0, 0),
   (62, .iconst 0, 63, 0, .int 0, 0, 0, 0, 0),
   (63, .ireturn, 64, 0, .null, 0, 0, 0, 0)]]
def am_t61 : List (List (Nat × am_E)) := [
  [(0, .iconst 0, 1, 0, .int 0, 0, 0, 0, 0),
   (1, .istore_n 1, 2, 0, .null, 1, 0, 0, 0),
   (2, .iload_n 1, 3, 3, .null, 1, 0, 0, 0),
   (3, .aload_n 0, 4, 0, .null, 0, 0, 0, 0),
   (4, .getfield 15, 7, 0, .null, 4, 1, 0, 135),
   (7, .invokevirtual 23, 10, 0, .ref 1, 34, 1, 0, 561),
   (10, .if_icmp .ge 51, 13, 0, .null, 61, 0, 0, 0),
   (13, .aload_n 0, 14, 0, .null, 0, 0, 0, 0),
   (14, .iload_n 1, 15, 0, .null, 1, 0, 0, 0),
   (15, .invokevirtual 29, 18, 0, .ref 2, 63, 4, 1, 562)],
  [(18, .ifCond .eq 37, 21, 0, .null, 55, 0, 0, 0),
   (21, .aload_n 0, 22, 0, .null, 0, 0, 0, 0),
   (22, .getfield 19, 25, 0, .null, 4, 2, 0, 136),
   (25, .aload_n 0, 26, 0, .null, 0, 0, 0, 0),
   (26, .iload_n 1, 27, 0, .null, 1, 0, 0, 0),
   (27, .invokevirtual 33, 30, 0, .ref 2, 65, 4, 1, 568),
   (30, .invokevirtual 37, 33, 0, .ref 2, 53, 2, 1, 573)],
  [(33, .ifCond .ne 18, 36, 0, .null, 51, 0, 0, 0),
   (36, .aload_n 0, 37, 0, .null, 0, 0, 0, 0),
   (37, .getfield 19, 40, 0, .null, 4, 2, 0, 136),
   (40, .aload_n 0, 41, 0, .null, 0, 0, 0, 0),
   (41, .iload_n 1, 42, 0, .null, 1, 0, 0, 0),
   (42, .invokevirtual 42, 45, 0, .ref 2, 64, 4, 1, 577),
   (45, .invokevirtual 37, 48, 0, .ref 2, 53, 2, 1, 573)],
  [(48, .ifCond .eq 7, 51, 0, .null, 55, 0, 0, 0),
   (51, .iload_n 1, 52, 3, .null, 1, 0, 0, 0),
   (52, .iconst 1, 53, 0, .int 1, 0, 0, 0, 0),
   (53, .iadd, 54, 0, .null, 0, 0, 0, 0),
   (54, .ireturn, 55, 0, .null, 0, 0, 0, 0),
   (55, .iinc 1 1, 58, 3, .int 1, 1, 0, 0, 0),
   (58, .goto (-56), 61, 0, .null, 2, 0, 0, 0),
   (61, .iconst 0, 62, 0, .int 0, 0, 0, 0, 0),
   (62, .ireturn, 63, 0, .null, 0, 0, 0, 0)]]
def am_t62 : List (List (Nat × am_E)) := [
  [(0, .iconst 0, 1, 0, .int 0, 0, 0, 0, 0),
   (1, .istore_n 1, 2, 0, .null, 1, 0, 0, 0),
   (2, .iload_n 1, 3, 3, .null, 1, 0, 0, 0),
   (3, .aload_n 0, 4, 0, .null, 0, 0, 0, 0),
   (4, .getfield 15, 7, 0, .null, 4, 1, 0, 135),
   (7, .invokevirtual 23, 10, 0, .ref 1, 34, 1, 0, 561),
   (10, .if_icmp .ge 51, 13, 0, .null, 61, 0, 0, 0),
   (13, .aload_n 0, 14, 0, .null, 0, 0, 0, 0),
   (14, .iload_n 1, 15, 0, .null, 1, 0, 0, 0),
   (15, .invokevirtual 29, 18, 0, .ref 2, 63, 4, 1, 562)],
  [(18, .ifCond .eq 37, 21, 0, .null, 55, 0, 0, 0),
   (21, .aload_n 0, 22, 0, .null, 0, 0, 0, 0),
   (22, .getfield 19, 25, 0, .null, 4, 2, 0, 136),
   (25, .aload_n 0, 26, 0, .null, 0, 0, 0, 0),
   (26, .iload_n 1, 27, 0, .null, 1, 0, 0, 0),
   (27, .invokevirtual 33, 30, 0, .ref 2, 65, 4, 1, 568),
   (30, .invokevirtual 45, 33, 0, .ref 5, 52, 2, 1, 601)],
  [(33, .aload_n 0, 34, 0, .null, 0, 0, 0, 0),
   (34, .getfield 19, 37, 0, .null, 4, 2, 0, 136),
   (37, .aload_n 0, 38, 0, .null, 0, 0, 0, 0),
   (38, .iload_n 1, 39, 0, .null, 1, 0, 0, 0),
   (39, .invokevirtual 42, 42, 0, .ref 2, 64, 4, 1, 577),
   (42, .invokevirtual 45, 45, 0, .ref 5, 52, 2, 1, 601),
   (45, .iadd, 46, 0, .null, 0, 0, 0, 0),
   (46, .bipush 64, 48, 0, .int 64, 0, 0, 0, 0)],
  [(48, .if_icmp .le 7, 51, 0, .null, 55, 0, 0, 0),
   (51, .iload_n 1, 52, 0, .null, 1, 0, 0, 0),
   (52, .iconst 1, 53, 0, .int 1, 0, 0, 0, 0),
   (53, .iadd, 54, 0, .null, 0, 0, 0, 0),
   (54, .ireturn, 55, 0, .null, 0, 0, 0, 0),
   (55, .iinc 1 1, 58, 3, .int 1, 1, 0, 0, 0),
   (58, .goto (-56), 61, 0, .null, 2, 0, 0, 0),
   (61, .iconst 0, 62, 0, .int 0, 0, 0, 0, 0),
   (62, .ireturn, 63, 0, .null, 0, 0, 0, 0)]]
def am_t63 : List (List (Nat × am_E)) := [
  [(0, .aload_n 0, 1, 0, .null, 0, 0, 0, 0),
   (1, .getfield 15, 4, 0, .null, 4, 1, 0, 135),
   (4, .iload_n 1, 5, 0, .null, 1, 0, 0, 0),
   (5, .getstatic 88, 8, 0, .null, 3, 0, 0, 566),
   (8, .invokevirtual 72, 11, 0, .ref 3, 37, 1, 2, 567),
   (11, .ireturn, 12, 0, .null, 0, 0, 1, 0)]]
def am_t64 : List (List (Nat × am_E)) := [
  [(0, .aload_n 0, 1, 0, .null, 0, 0, 0, 0),
   (1, .getfield 9, 4, 0, .null, 4, 0, 0, 134),
   (4, .aload_n 0, 5, 0, .null, 0, 0, 0, 0),
   (5, .getfield 15, 8, 0, .null, 4, 1, 0, 135),
   (8, .iload_n 1, 9, 0, .null, 1, 0, 0, 0),
   (9, .invokevirtual 76, 12, 0, .ref 2, 44, 1, 1, 572),
   (12, .invokevirtual 91, 15, 0, .ref 3, 88, 7, 1, 581),
   (15, .iconst 1, 16, 0, .int 1, 0, 0, 0, 0)],
  [(16, .iadd, 17, 0, .null, 0, 0, 0, 0),
   (17, .ireturn, 18, 0, .null, 0, 0, 0, 0)]]
def am_t65 : List (List (Nat × am_E)) := [
  [(0, .aload_n 0, 1, 0, .null, 0, 0, 0, 0),
   (1, .getfield 15, 4, 0, .null, 4, 1, 0, 135),
   (4, .iload_n 1, 5, 0, .null, 1, 0, 0, 0),
   (5, .invokevirtual 76, 8, 0, .ref 2, 44, 1, 1, 572),
   (8, .ireturn, 9, 0, .null, 0, 0, 0, 0)]]
def am_t66 : List (List (Nat × am_E)) := [
  [(0, .aload_n 0, 1, 0, .null, 0, 0, 0, 0),
   (1, .getfield 19, 4, 0, .null, 4, 2, 0, 136),
   (4, .aload_n 0, 5, 0, .null, 0, 0, 0, 0),
   (5, .iload_n 1, 6, 0, .null, 1, 0, 0, 0),
   (6, .invokevirtual 33, 9, 0, .ref 2, 65, 4, 1, 568),
   (9, .invokevirtual 59, 12, 0, .ref 5, 46, 2, 1, 614),
   (12, .ireturn, 13, 0, .null, 0, 0, 0, 0)]]
def am_t67 : List (List (Nat × am_E)) := [
  [(0, .aload_n 0, 1, 0, .null, 0, 0, 0, 0),
   (1, .getfield 25, 4, 0, .null, 5, 4, 0, 154),
   (4, .bipush 30, 6, 0, .int 30, 0, 0, 0, 0),
   (6, .if_icmp .ge 33, 9, 0, .null, 39, 0, 0, 0),
   (9, .aload_n 0, 10, 0, .null, 0, 0, 0, 0),
   (10, .getfield 15, 13, 0, .null, 5, 1, 0, 151),
   (13, .aload_n 0, 14, 0, .null, 0, 0, 0, 0),
   (14, .getfield 25, 17, 0, .null, 5, 4, 0, 154)],
  [(17, .iload_n 1, 18, 0, .null, 1, 0, 0, 0),
   (18, .iastore, 19, 0, .null, 0, 0, 0, 0),
   (19, .aload_n 0, 20, 0, .null, 0, 0, 0, 0),
   (20, .getfield 18, 23, 0, .null, 5, 2, 0, 152),
   (23, .aload_n 0, 24, 0, .null, 0, 0, 0, 0),
   (24, .getfield 25, 27, 0, .null, 5, 4, 0, 154),
   (27, .iload_n 2, 28, 0, .null, 2, 0, 0, 0),
   (28, .iastore, 29, 0, .null, 0, 0, 0, 0),
   (29, .aload_n 0, 30, 0, .null, 0, 0, 0, 0),
   (30, .dup, 31, 0, .null, 0, 0, 0, 0),
   (31, .getfield 25, 34, 0, .null, 5, 4, 0, 154)],
  [(34, .iconst 1, 35, 0, .int 1, 0, 0, 0, 0),
   (35, .iadd, 36, 0, .null, 0, 0, 0, 0),
   (36, .putfield 25, 39, 0, .null, 5, 4, 0, 154),
   (39, .return_, 40, 1, .null, 0, 0, 0, 0)]]
def am_t68 : List (List (Nat × am_E)) := [
  [(0, .iconst 0, 1, 0, .int 0, 0, 0, 0, 0),
   (1, .istore 4, 3, 0, .null, 4, 0, 0, 0),
   (3, .iload 4, 5, 6, .null, 4, 0, 0, 0),
   (5, .bipush 32, 7, 0, .int 32, 0, 0, 0, 0),
   (7, .if_icmp .ge 29, 10, 0, .null, 36, 0, 0, 0),
   (10, .iload_n 1, 11, 0, .null, 1, 0, 0, 0),
   (11, .iload 4, 13, 0, .null, 4, 0, 0, 0),
   (13, .invokestatic 28, 16, 0, .ref 2, 3, 3, 2, 642)],
  [(16, .ifCond .eq 14, 19, 0, .null, 30, 0, 0, 0),
   (19, .aload_n 0, 20, 0, .null, 0, 0, 0, 0),
   (20, .getfield 9, 23, 0, .null, 5, 0, 0, 150),
   (23, .iload 4, 25, 0, .null, 4, 0, 0, 0),
   (25, .dup2, 26, 0, .null, 0, 0, 0, 0),
   (26, .iaload, 27, 0, .null, 0, 0, 0, 0),
   (27, .iload_n 2, 28, 0, .null, 2, 0, 0, 0),
   (28, .ior, 29, 0, .null, 0, 0, 0, 0),
   (29, .iastore, 30, 0, .null, 0, 0, 0, 0),
   (30, .iinc 4 1, 33, 6, .int 1, 4, 0, 0, 0)],
  [(33, .goto (-30), 36, 0, .null, 3, 0, 0, 0),
   (36, .iload_n 3, 37, 0, .null, 3, 0, 0, 0),
   (37, .ifCond .eq 13, 40, 0, .null, 50, 0, 0, 0),
   (40, .aload_n 0, 41, 0, .null, 0, 0, 0, 0),
   (41, .dup, 42, 0, .null, 0, 0, 0, 0),
   (42, .getfield 21, 45, 0, .null, 5, 3, 0, 153),
   (45, .iload_n 1, 46, 0, .null, 1, 0, 0, 0),
   (46, .ior, 47, 0, .null, 0, 0, 0, 0),
   (47, .putfield 21, 50, 0, .null, 5, 3, 0, 153)],
  [(50, .return_, 51, 1, .null, 0, 0, 0, 0)]]
def am_t69 : List (List (Nat × am_E)) := [
  [(0, .iconst 0, 1, 0, .int 0, 0, 0, 0, 0),
   (1, .istore_n 1, 2, 0, .null, 1, 0, 0, 0),
   (2, .iload_n 1, 3, 3, .null, 1, 0, 0, 0),
   (3, .bipush 32, 5, 0, .int 32, 0, 0, 0, 0),
   (5, .if_icmp .ge 16, 8, 0, .null, 21, 0, 0, 0),
   (8, .aload_n 0, 9, 0, .null, 0, 0, 0, 0),
   (9, .getfield 9, 12, 0, .null, 5, 0, 0, 150),
   (12, .iload_n 1, 13, 0, .null, 1, 0, 0, 0),
   (13, .iconst 0, 14, 0, .int 0, 0, 0, 0, 0),
   (14, .iastore, 15, 0, .null, 0, 0, 0, 0),
   (15, .iinc 1 1, 18, 0, .int 1, 1, 0, 0, 0)],
  [(18, .goto (-16), 21, 0, .null, 2, 0, 0, 0),
   (21, .aload_n 0, 22, 0, .null, 0, 0, 0, 0),
   (22, .iconst 0, 23, 0, .int 0, 0, 0, 0, 0),
   (23, .putfield 21, 26, 0, .null, 5, 3, 0, 153),
   (26, .aload_n 0, 27, 0, .null, 0, 0, 0, 0),
   (27, .iconst 0, 28, 0, .int 0, 0, 0, 0, 0),
   (28, .putfield 25, 31, 0, .null, 5, 4, 0, 154),
   (31, .return_, 32, 0, .null, 0, 0, 0, 0)]]
def am_t70 : List (List (Nat × am_E)) := [
  [(0, .iload_n 1, 1, 0, .null, 1, 0, 0, 0),
   (1, .iconst 4, 2, 0, .int 4, 0, 0, 0, 0),
   (2, .irem, 3, 0, .null, 0, 0, 0, 0),
   (3, .istore_n 3, 4, 0, .null, 3, 0, 0, 0),
   (4, .iconst 0, 5, 0, .int 0, 0, 0, 0, 0),
   (5, .istore 4, 7, 0, .null, 4, 0, 0, 0),
   (7, .iload 4, 9, 6, .null, 4, 0, 0, 0),
   (9, .aload_n 0, 10, 0, .null, 0, 0, 0, 0),
   (10, .getfield 25, 13, 0, .null, 5, 4, 0, 154),
   (13, .if_icmp .ge 45, 16, 0, .null, 58, 0, 0, 0)],
  [(16, .iload_n 1, 17, 0, .null, 1, 0, 0, 0),
   (17, .iload_n 3, 18, 0, .null, 3, 0, 0, 0),
   (18, .isub, 19, 0, .null, 0, 0, 0, 0),
   (19, .aload_n 0, 20, 0, .null, 0, 0, 0, 0),
   (20, .getfield 18, 23, 0, .null, 5, 2, 0, 152),
   (23, .iload 4, 25, 0, .null, 4, 0, 0, 0),
   (25, .iaload, 26, 0, .null, 0, 0, 0, 0),
   (26, .iadd, 27, 0, .null, 0, 0, 0, 0),
   (27, .istore 5, 29, 0, .null, 5, 0, 0, 0),
   (29, .aload_n 0, 30, 0, .null, 0, 0, 0, 0),
   (30, .getfield 15, 33, 0, .null, 5, 1, 0, 151)],
  [(33, .iload 4, 35, 0, .null, 4, 0, 0, 0),
   (35, .iaload, 36, 0, .null, 0, 0, 0, 0),
   (36, .iload_n 3, 37, 0, .null, 3, 0, 0, 0),
   (37, .if_icmp .ne 15, 40, 0, .null, 52, 0, 0, 0),
   (40, .iload_n 2, 41, 0, .null, 2, 0, 0, 0),
   (41, .iload 5, 43, 0, .null, 5, 0, 0, 0),
   (43, .invokestatic 28, 46, 0, .ref 2, 3, 3, 2, 642),
   (46, .ifCond .eq 6, 49, 0, .null, 52, 0, 0, 0)],
  [(49, .iload 5, 51, 0, .null, 5, 0, 0, 0),
   (51, .ireturn, 52, 0, .null, 0, 0, 0, 0),
   (52, .iinc 4 1, 55, 6, .int 1, 4, 0, 0, 0),
   (55, .goto (-48), 58, 0, .null, 7, 0, 0, 0),
   (58, .iconst (-1), 59, 0, .int (-1), 0, 0, 0, 0),
   (59, .ireturn, 60, 0, .null, 0, 0, 0, 0)]]
def am_t71 : List (List (Nat × am_E)) := [
  [(0, .aload_n 0, 1, 0, .null, 0, 0, 0, 0),
   (1, .getfield 9, 4, 0, .null, 5, 0, 0, 150),
   (4, .iload_n 1, 5, 0, .null, 1, 0, 0, 0),
   (5, .iaload, 6, 0, .null, 0, 0, 0, 0),
   (6, .ireturn, 7, 0, .null, 0, 0, 0, 0)]]
def am_t72 : List (List (Nat × am_E)) := [
  [(0, .aload_n 0, 1, 0, .null, 0, 0, 0, 0),
   (1, .getfield 21, 4, 0, .null, 5, 3, 0, 153),
   (4, .ireturn, 5, 0, .null, 0, 0, 0, 0)]]
def am_t73 : List (List (Nat × am_E)) := [
  [(0, .iconst 0, 1, 0, .int 0, 0, 0, 0, 0),
   (1, .istore_n 1, 2, 0, .null, 1, 0, 0, 0),
   (2, .iconst 0, 3, 0, .int 0, 0, 0, 0, 0),
   (3, .istore_n 2, 4, 0, .null, 2, 0, 0, 0),
   (4, .iload_n 2, 5, 4, .null, 2, 0, 0, 0),
   (5, .bipush 32, 7, 0, .int 32, 0, 0, 0, 0),
   (7, .if_icmp .ge 20, 10, 0, .null, 27, 0, 0, 0),
   (10, .iload_n 1, 11, 0, .null, 1, 0, 0, 0),
   (11, .aload_n 0, 12, 0, .null, 0, 0, 0, 0),
   (12, .getfield 9, 15, 0, .null, 6, 0, 0, 172),
   (15, .iload_n 2, 16, 0, .null, 2, 0, 0, 0)],
  [(16, .iaload, 17, 0, .null, 0, 0, 0, 0),
   (17, .invokestatic 15, 20, 0, .null, 0, 1, 2, 746),
   (20, .istore_n 1, 21, 0, .null, 1, 0, 0, 0),
   (21, .iinc 2 1, 24, 0, .int 1, 2, 0, 0, 0),
   (24, .goto (-20), 27, 0, .null, 4, 0, 0, 0),
   (27, .iload_n 1, 28, 0, .null, 1, 0, 0, 0),
   (28, .ireturn, 29, 0, .null, 0, 0, 0, 0)]]
def am_t74 : List (List (Nat × am_E)) := [
  [(0, .aload_n 0, 1, 0, .null, 0, 0, 0, 0),
   (1, .getfield 9, 4, 0, .null, 6, 0, 0, 172),
   (4, .iload_n 1, 5, 0, .null, 1, 0, 0, 0),
   (5, .iaload, 6, 0, .null, 0, 0, 0, 0),
   (6, .ireturn, 7, 0, .null, 0, 0, 0, 0)]]
def am_t75 : List (List (Nat × am_E)) := [
  [(0, .aload_n 0, 1, 0, .null, 0, 0, 0, 0),
   (1, .getfield 9, 4, 0, .null, 6, 0, 0, 172),
   (4, .iload_n 1, 5, 0, .null, 1, 0, 0, 0),
   (5, .iload_n 2, 6, 0, .null, 2, 0, 0, 0),
   (6, .iastore, 7, 0, .null, 0, 0, 0, 0),
   (7, .return_, 8, 0, .null, 0, 0, 0, 0)]]
def am_t76 : List (List (Nat × am_E)) := [
  [(0, .lload_n 1, 1, 0, .null, 1, 0, 0, 0),
   (1, .invokestatic 19, 4, 0, .ref 4, 79, 0, 1, 250),
   (4, .istore_n 3, 5, 0, .null, 3, 0, 0, 0),
   (5, .iload_n 3, 6, 0, .null, 3, 0, 0, 0),
   (6, .ifCond .lt 15, 9, 0, .null, 21, 0, 0, 0),
   (9, .iload_n 3, 10, 0, .null, 3, 0, 0, 0),
   (10, .sipush 240, 13, 0, .int 240, 0, 0, 0, 0),
   (13, .aload_n 0, 14, 0, .null, 0, 0, 0, 0),
   (14, .getfield 15, 17, 0, .null, 7, 1, 0, 74)],
  [(17, .isub, 18, 0, .null, 0, 0, 0, 0),
   (18, .if_icmp .le 5, 21, 0, .null, 23, 0, 0, 0),
   (21, .iconst (-1), 22, 1, .int (-1), 0, 0, 0, 0),
   (22, .ireturn, 23, 0, .null, 0, 0, 0, 0),
   (23, .iconst 0, 24, 0, .int 0, 0, 0, 0, 0),
   (24, .istore 4, 26, 0, .null, 4, 0, 0, 0),
   (26, .iload 4, 28, 6, .null, 4, 0, 0, 0),
   (28, .iload_n 3, 29, 0, .null, 3, 0, 0, 0),
   (29, .if_icmp .ge 28, 32, 0, .null, 57, 0, 0, 0)],
  [(32, .aload_n 0, 33, 0, .null, 0, 0, 0, 0),
   (33, .getfield 9, 36, 0, .null, 7, 0, 0, 73),
   (36, .aload_n 0, 37, 0, .null, 0, 0, 0, 0),
   (37, .getfield 15, 40, 0, .null, 7, 1, 0, 74),
   (40, .iload 4, 42, 0, .null, 4, 0, 0, 0),
   (42, .iadd, 43, 0, .null, 0, 0, 0, 0),
   (43, .lload_n 1, 44, 0, .null, 1, 0, 0, 0),
   (44, .iload 4, 46, 0, .null, 4, 0, 0, 0),
   (46, .invokestatic 23, 49, 0, .ref 3, 86, 0, 2, 253)],
  [(49, .i2c, 50, 0, .null, 0, 0, 0, 0),
   (50, .castore, 51, 0, .null, 0, 0, 0, 0),
   (51, .iinc 4 1, 54, 0, .int 1, 4, 0, 0, 0),
   (54, .goto (-28), 57, 0, .null, 26, 0, 0, 0),
   (57, .aload_n 0, 58, 0, .null, 0, 0, 0, 0),
   (58, .dup, 59, 0, .null, 0, 0, 0, 0),
   (59, .getfield 15, 62, 0, .null, 7, 1, 0, 74),
   (62, .iload_n 3, 63, 0, .null, 3, 0, 0, 0),
   (63, .iadd, 64, 0, .null, 0, 0, 0, 0)],
  [(64, .putfield 15, 67, 0, .null, 7, 1, 0, 74),
   (67, .iload_n 3, 68, 0, .null, 3, 0, 0, 0),
   (68, .ireturn, 69, 0, .null, 0, 0, 0, 0)]]
def am_t77 : List (List (Nat × am_E)) := [
  [(0, .aload_n 0, 1, 0, .null, 0, 0, 0, 0),
   (1, .getfield 15, 4, 0, .null, 7, 1, 0, 74),
   (4, .istore_n 1, 5, 0, .null, 1, 0, 0, 0),
   (5, .aload_n 0, 6, 0, .null, 0, 0, 0, 0),
   (6, .iconst 0, 7, 0, .int 0, 0, 0, 0, 0),
   (7, .putfield 15, 10, 0, .null, 7, 1, 0, 74),
   (10, .iload_n 1, 11, 0, .null, 1, 0, 0, 0),
   (11, .ireturn, 12, 0, .null, 0, 0, 0, 0)]]
def am_t78 : List (List (Nat × am_E)) := [
  [(0, .iload_n 1, 1, 0, .null, 1, 0, 0, 0),
   (1, .ifCond .lt 20, 4, 0, .null, 21, 0, 0, 0),
   (4, .iload_n 1, 5, 0, .null, 1, 0, 0, 0),
   (5, .aload_n 0, 6, 0, .null, 0, 0, 0, 0),
   (6, .getfield 15, 9, 0, .null, 7, 1, 0, 74),
   (9, .if_icmp .ge 12, 12, 0, .null, 21, 0, 0, 0),
   (12, .aload_n 0, 13, 0, .null, 0, 0, 0, 0),
   (13, .getfield 9, 16, 0, .null, 7, 0, 0, 73)],
  [(16, .iload_n 1, 17, 0, .null, 1, 0, 0, 0),
   (17, .caload, 18, 0, .null, 0, 0, 0, 0),
   (18, .goto 4, 21, 0, .null, 22, 0, 0, 0),
   (21, .iconst 0, 22, 1, .int 0, 0, 0, 0, 0),
   (22, .ireturn, 23, 1, .null, 0, 0, 2, 0)]]
def am_t79 : List (List (Nat × am_E)) := [
  [(0, .iconst 0, 1, 0, .int 0, 0, 0, 0, 0),
   (1, .istore_n 2, 2, 0, .null, 2, 0, 0, 0),
   (2, .iload_n 2, 3, 4, .null, 2, 0, 0, 0),
   (3, .bipush 8, 5, 0, .int 8, 0, 0, 0, 0),
   (5, .if_icmp .ge 29, 8, 0, .null, 34, 0, 0, 0),
   (8, .lload_n 0, 9, 0, .null, 0, 0, 0, 0),
   (9, .iload_n 2, 10, 0, .null, 2, 0, 0, 0),
   (10, .invokestatic 23, 13, 0, .ref 3, 86, 0, 2, 253),
   (13, .istore_n 3, 14, 0, .null, 3, 0, 0, 0),
   (14, .iload_n 3, 15, 0, .null, 3, 0, 0, 0),
   (15, .ifCond .ne 5, 18, 0, .null, 20, 0, 0, 0)],
  [(18, .iload_n 2, 19, 0, .null, 2, 0, 0, 0),
   (19, .ireturn, 20, 0, .null, 0, 0, 0, 0),
   (20, .iload_n 3, 21, 0, .null, 3, 0, 0, 0),
   (21, .bipush 127, 23, 0, .int 127, 0, 0, 0, 0),
   (23, .if_icmp .le 5, 26, 0, .null, 28, 0, 0, 0),
   (26, .iconst (-1), 27, 0, .int (-1), 0, 0, 0, 0),
   (27, .ireturn, 28, 0, .null, 0, 0, 0, 0),
   (28, .iinc 2 1, 31, 0, .int 1, 2, 0, 0, 0),
   (31, .goto (-29), 34, 0, .null, 2, 0, 0, 0)],
  [(34, .bipush 8, 36, 0, .int 8, 0, 0, 0, 0),
   (36, .ireturn, 37, 0, .null, 0, 0, 0, 0)]]
def am_t80 : List (List (Nat × am_E)) := [
  [(0, .iconst 4, 1, 0, .int 4, 0, 0, 0, 0),
   (1, .aload_n 0, 2, 0, .null, 0, 0, 0, 0),
   (2, .iload_n 1, 3, 0, .null, 1, 0, 0, 0),
   (3, .invokevirtual 27, 6, 0, .ref 2, 78, 7, 1, 363),
   (6, .bipush 97, 8, 0, .int 97, 0, 0, 0, 0),
   (8, .isub, 9, 0, .null, 0, 0, 0, 0),
   (9, .imul, 10, 0, .null, 0, 0, 0, 0),
   (10, .aload_n 0, 11, 0, .null, 0, 0, 0, 0),
   (11, .iload_n 1, 12, 0, .null, 1, 0, 0, 0),
   (12, .iconst 1, 13, 0, .int 1, 0, 0, 0, 0),
   (13, .iadd, 14, 0, .null, 0, 0, 0, 0),
   (14, .invokevirtual 35, 17, 0, .ref 2, 84, 7, 1, 546)],
  [(17, .iadd, 18, 0, .null, 0, 0, 0, 0),
   (18, .ireturn, 19, 0, .null, 0, 0, 0, 0)]]
def am_t81 : List (List (Nat × am_E)) := [
  [(0, .aload_n 0, 1, 0, .null, 0, 0, 0, 0),
   (1, .iload_n 1, 2, 0, .null, 1, 0, 0, 0),
   (2, .invokevirtual 27, 5, 0, .ref 2, 78, 7, 1, 363),
   (5, .aload_n 0, 6, 0, .null, 0, 0, 0, 0),
   (6, .iload_n 1, 7, 0, .null, 1, 0, 0, 0),
   (7, .iconst 1, 8, 0, .int 1, 0, 0, 0, 0),
   (8, .iadd, 9, 0, .null, 0, 0, 0, 0),
   (9, .invokevirtual 27, 12, 0, .ref 2, 78, 7, 1, 363),
   (12, .invokestatic 39, 15, 0, .ref 2, 6, 3, 2, 384),
   (15, .ireturn, 16, 0, .null, 0, 0, 1, 0)]]
def am_t82 : List (List (Nat × am_E)) := [
  [(0, .aload_n 0, 1, 0, .null, 0, 0, 0, 0),
   (1, .iload_n 1, 2, 0, .null, 1, 0, 0, 0),
   (2, .invokevirtual 27, 5, 0, .ref 2, 78, 7, 1, 363),
   (5, .aload_n 0, 6, 0, .null, 0, 0, 0, 0),
   (6, .iload_n 1, 7, 0, .null, 1, 0, 0, 0),
   (7, .iconst 1, 8, 0, .int 1, 0, 0, 0, 0),
   (8, .iadd, 9, 0, .null, 0, 0, 0, 0),
   (9, .invokevirtual 27, 12, 0, .ref 2, 78, 7, 1, 363),
   (12, .invokestatic 31, 15, 0, .ref 2, 7, 3, 2, 381),
   (15, .ireturn, 16, 0, .null, 0, 0, 1, 0)]]
def am_t83 : List (List (Nat × am_E)) := [
  [(0, .iload_n 1, 1, 0, .null, 1, 0, 0, 0),
   (1, .istore_n 3, 2, 0, .null, 3, 0, 0, 0),
   (2, .iload_n 3, 3, 5, .null, 3, 0, 0, 0),
   (3, .iload_n 2, 4, 0, .null, 2, 0, 0, 0),
   (4, .if_icmp .ge 21, 7, 0, .null, 25, 0, 0, 0),
   (7, .aload_n 0, 8, 0, .null, 0, 0, 0, 0),
   (8, .iload_n 3, 9, 0, .null, 3, 0, 0, 0),
   (9, .invokevirtual 27, 12, 0, .ref 2, 78, 7, 1, 363),
   (12, .bipush 32, 14, 0, .int 32, 0, 0, 0, 0),
   (14, .if_icmp .eq 5, 17, 0, .null, 19, 0, 0, 0)],
  [(17, .iconst 0, 18, 0, .int 0, 0, 0, 0, 0),
   (18, .ireturn, 19, 0, .null, 0, 0, 1, 0),
   (19, .iinc 3 1, 22, 0, .int 1, 3, 0, 0, 0),
   (22, .goto (-20), 25, 0, .null, 2, 0, 0, 0),
   (25, .iconst 1, 26, 0, .int 1, 0, 0, 0, 0),
   (26, .ireturn, 27, 0, .null, 0, 0, 1, 0)]]
def am_t84 : List (List (Nat × am_E)) := [
  [(0, .aload_n 0, 1, 0, .null, 0, 0, 0, 0),
   (1, .iload_n 1, 2, 0, .null, 1, 0, 0, 0),
   (2, .invokevirtual 27, 5, 0, .ref 2, 78, 7, 1, 363),
   (5, .bipush 48, 7, 0, .int 48, 0, 0, 0, 0),
   (7, .isub, 8, 0, .null, 0, 0, 0, 0),
   (8, .ireturn, 9, 0, .null, 0, 0, 0, 0)]]
def am_t85 : List (List (Nat × am_E)) := [
  [(0, .aload_n 0, 1, 0, .null, 0, 0, 0, 0),
   (1, .iload_n 1, 2, 0, .null, 1, 0, 0, 0),
   (2, .iconst 1, 3, 0, .int 1, 0, 0, 0, 0),
   (3, .iadd, 4, 0, .null, 0, 0, 0, 0),
   (4, .invokevirtual 27, 7, 0, .ref 2, 78, 7, 1, 363),
   (7, .bipush 65, 9, 0, .int 65, 0, 0, 0, 0),
   (9, .isub, 10, 0, .null, 0, 0, 0, 0),
   (10, .ireturn, 11, 0, .null, 0, 0, 0, 0)]]
def am_t86 : List (List (Nat × am_E)) := [
  [(0, .lload_n 0, 1, 0, .null, 0, 0, 0, 0),
   (1, .bipush 8, 3, 0, .int 8, 0, 0, 0, 0),
   (3, .iload_n 2, 4, 0, .null, 2, 0, 0, 0),
   (4, .imul, 5, 0, .null, 0, 0, 0, 0),
   (5, .lushr, 6, 0, .null, 0, 0, 0, 0),
   (6, .l2i, 7, 0, .null, 0, 0, 0, 0),
   (7, .sipush 255, 10, 0, .int 255, 0, 0, 0, 0),
   (10, .iand, 11, 0, .null, 0, 0, 0, 0),
   (11, .ireturn, 12, 0, .null, 0, 0, 0, 0)]]
def am_t87 : List (List (Nat × am_E)) := [
  [(0, .aload_n 0, 1, 0, .null, 0, 0, 0, 0),
   (1, .iload_n 1, 2, 0, .null, 1, 0, 0, 0),
   (2, .invokevirtual 27, 5, 0, .ref 2, 78, 7, 1, 363),
   (5, .istore_n 2, 6, 0, .null, 2, 0, 0, 0),
   (6, .aload_n 0, 7, 0, .null, 0, 0, 0, 0),
   (7, .iload_n 1, 8, 0, .null, 1, 0, 0, 0),
   (8, .iconst 1, 9, 0, .int 1, 0, 0, 0, 0),
   (9, .iadd, 10, 0, .null, 0, 0, 0, 0),
   (10, .invokevirtual 27, 13, 0, .ref 2, 78, 7, 1, 363),
   (13, .istore_n 3, 14, 0, .null, 3, 0, 0, 0),
   (14, .iload_n 2, 15, 0, .null, 2, 0, 0, 0),
   (15, .bipush 32, 17, 0, .int 32, 0, 0, 0, 0)],
  [(17, .if_icmp .ne 5, 20, 0, .null, 22, 0, 0, 0),
   (20, .iconst 1, 21, 0, .int 1, 0, 0, 0, 0),
   (21, .ireturn, 22, 0, .null, 0, 0, 0, 0),
   (22, .iload_n 2, 23, 0, .null, 2, 0, 0, 0),
   (23, .iload_n 3, 24, 0, .null, 3, 0, 0, 0),
   (24, .invokestatic 31, 27, 0, .ref 2, 7, 3, 2, 381),
   (27, .ifCond .ne 11, 30, 0, .null, 38, 0, 0, 0),
   (30, .iload_n 2, 31, 0, .null, 2, 0, 0, 0),
   (31, .iload_n 3, 32, 0, .null, 3, 0, 0, 0)],
  [(32, .invokestatic 39, 35, 0, .ref 2, 6, 3, 2, 384),
   (35, .ifCond .eq 7, 38, 0, .null, 42, 0, 0, 0),
   (38, .iconst 2, 39, 1, .int 2, 0, 0, 0, 0),
   (39, .goto 4, 42, 0, .null, 43, 0, 0, 0),
   (42, .iconst 0, 43, 0, .int 0, 0, 0, 0, 0),
   (43, .ireturn, 44, 1, .null, 0, 0, 0, 0)]]
def am_t88 : List (List (Nat × am_E)) := [
  [(0, .iload_n 1, 1, 0, .null, 1, 0, 0, 0),
   (1, .istore_n 2, 2, 0, .null, 2, 0, 0, 0),
   (2, .iload_n 2, 3, 4, .null, 2, 0, 0, 0),
   (3, .aload_n 0, 4, 0, .null, 0, 0, 0, 0),
   (4, .getfield 15, 7, 0, .null, 7, 1, 0, 74),
   (7, .if_icmp .ge 22, 10, 0, .null, 29, 0, 0, 0),
   (10, .aload_n 0, 11, 0, .null, 0, 0, 0, 0),
   (11, .iload_n 2, 12, 0, .null, 2, 0, 0, 0),
   (12, .invokevirtual 42, 15, 0, .ref 4, 87, 7, 1, 377),
   (15, .ifCond .le 14, 18, 0, .null, 29, 0, 0, 0)],
  [(18, .iload_n 2, 19, 0, .null, 2, 0, 0, 0),
   (19, .aload_n 0, 20, 0, .null, 0, 0, 0, 0),
   (20, .iload_n 2, 21, 0, .null, 2, 0, 0, 0),
   (21, .invokevirtual 42, 24, 0, .ref 4, 87, 7, 1, 377),
   (24, .iadd, 25, 0, .null, 0, 0, 0, 0),
   (25, .istore_n 2, 26, 0, .null, 2, 0, 0, 0),
   (26, .goto (-24), 29, 0, .null, 2, 0, 0, 0),
   (29, .iload_n 2, 30, 4, .null, 2, 0, 0, 0),
   (30, .ireturn, 31, 0, .null, 0, 0, 0, 0)]]
def am_t89 : List (List (Nat × am_E)) := [
  [(0, .aload_n 0, 1, 0, .null, 0, 0, 0, 0),
   (1, .getfield 15, 4, 0, .null, 7, 1, 0, 74),
   (4, .ireturn, 5, 0, .null, 0, 0, 0, 0)]]
def am_t90 : List (List (Nat × am_E)) := [
  [(0, .aload_n 2, 1, 0, .null, 2, 0, 0, 0),
   (1, .iconst 0, 2, 0, .int 0, 0, 0, 0, 0),
   (2, .aload_n 0, 3, 0, .null, 0, 0, 0, 0),
   (3, .iload_n 1, 4, 0, .null, 1, 0, 0, 0),
   (4, .invokevirtual 19, 7, 0, .ref 4, 10, 8, 1, 655),
   (7, .i2l, 8, 0, .null, 0, 0, 0, 0),
   (8, .lastore, 9, 0, .null, 0, 0, 0, 0),
   (9, .goto 15, 12, 0, .null, 24, 0, 0, 0),
   (13, .iconst 1, 14, 0, .int 1, 0, 0, 0, 0),
   (14, .ireturn, 15, 0, .null, 0, 0, 3, 0)],
  [(16, .iconst 2, 17, 0, .int 2, 0, 0, 0, 0),
   (17, .ireturn, 18, 0, .null, 0, 0, 3, 0),
   (19, .iconst 3, 20, 0, .int 3, 0, 0, 0, 0),
   (20, .ireturn, 21, 0, .null, 0, 0, 3, 0),
   (22, .iconst 4, 23, 0, .int 4, 0, 0, 0, 0),
   (23, .ireturn, 24, 0, .null, 0, 0, 3, 0),
   (24, .iconst 0, 25, 0, .int 0, 0, 0, 0, 0),
   (25, .ireturn, 26, 0, .null, 0, 0, 3, 0)]]
def am_t91 : List (List (Nat × am_E)) := [
  [(0, .aload_n 1, 1, 0, .null, 1, 0, 0, 0),
   (1, .iconst 0, 2, 0, .int 0, 0, 0, 0, 0),
   (2, .aload_n 0, 3, 0, .null, 0, 0, 0, 0),
   (3, .invokevirtual 7, 6, 0, .ref 1, 12, 8, 0, 340),
   (6, .i2l, 7, 0, .null, 0, 0, 0, 0),
   (7, .lastore, 8, 0, .null, 0, 0, 0, 0),
   (8, .goto 12, 11, 0, .null, 20, 0, 0, 0),
   (12, .iconst 1, 13, 0, .int 1, 0, 0, 0, 0),
   (13, .ireturn, 14, 0, .null, 0, 0, 3, 0),
   (15, .iconst 2, 16, 0, .int 2, 0, 0, 0, 0)],
  [(16, .ireturn, 17, 0, .null, 0, 0, 3, 0),
   (18, .iconst 3, 19, 0, .int 3, 0, 0, 0, 0),
   (19, .ireturn, 20, 0, .null, 0, 0, 3, 0),
   (20, .iconst 0, 21, 0, .int 0, 0, 0, 0, 0),
   (21, .ireturn, 22, 0, .null, 0, 0, 3, 0)]]
def am_t92 : List (List (Nat × am_E)) := [
  [(0, .iload_n 1, 1, 0, .null, 1, 0, 0, 0),
   (1, .iload_n 2, 2, 0, .null, 2, 0, 0, 0),
   (2, .if_icmp .ge 12, 5, 0, .null, 14, 0, 0, 0),
   (5, .aload_n 0, 6, 0, .null, 0, 0, 0, 0),
   (6, .getfield 7, 9, 0, .null, 9, 0, 0, 797),
   (9, .iload_n 1, 10, 0, .null, 1, 0, 0, 0),
   (10, .iaload, 11, 0, .null, 0, 0, 0, 0),
   (11, .goto 4, 14, 0, .null, 15, 0, 0, 0),
   (14, .iconst (-1), 15, 0, .int (-1), 0, 0, 0, 0),
   (15, .ireturn, 16, 1, .null, 0, 0, 0, 0)]]
def am_t93 : List (List (Nat × am_E)) := [
  [(0, .iload_n 1, 1, 0, .null, 1, 0, 0, 0),
   (1, .istore_n 3, 2, 0, .null, 3, 0, 0, 0),
   (2, .iload_n 3, 3, 5, .null, 3, 0, 0, 0),
   (3, .iload_n 2, 4, 0, .null, 2, 0, 0, 0),
   (4, .if_icmp .ge 20, 7, 0, .null, 24, 0, 0, 0),
   (7, .aload_n 0, 8, 0, .null, 0, 0, 0, 0),
   (8, .getfield 7, 11, 0, .null, 9, 0, 0, 797),
   (11, .iload_n 3, 12, 0, .null, 3, 0, 0, 0),
   (12, .iaload, 13, 0, .null, 0, 0, 0, 0),
   (13, .bipush 58, 15, 0, .int 58, 0, 0, 0, 0),
   (15, .if_icmp .eq 9, 18, 0, .null, 24, 0, 0, 0)],
  [(18, .iinc 3 1, 21, 0, .int 1, 3, 0, 0, 0),
   (21, .goto (-19), 24, 0, .null, 2, 0, 0, 0),
   (24, .iload_n 3, 25, 5, .null, 3, 0, 0, 0),
   (25, .ireturn, 26, 0, .null, 0, 0, 0, 0)]]
def am_t94 : List (List (Nat × am_E)) := [
  [(0, .aload_n 0, 1, 0, .null, 0, 0, 0, 0),
   (1, .iconst 0, 2, 0, .int 0, 0, 0, 0, 0),
   (2, .putfield 71, 5, 0, .null, 9, 2, 0, 799),
   (5, .aload_n 0, 6, 0, .null, 0, 0, 0, 0),
   (6, .getfield 75, 9, 0, .null, 9, 1, 0, 798),
   (9, .istore_n 1, 10, 0, .null, 1, 0, 0, 0),
   (10, .aload_n 0, 11, 0, .null, 0, 0, 0, 0),
   (11, .iconst 0, 12, 0, .int 0, 0, 0, 0, 0),
   (12, .putfield 75, 15, 0, .null, 9, 1, 0, 798),
   (15, .iload_n 1, 16, 0, .null, 1, 0, 0, 0)],
  [(16, .ireturn, 17, 0, .null, 0, 0, 0, 0)]]
def am_t95 : List (List (Nat × am_E)) := [
  [(0, .aload_n 0, 1, 0, .null, 0, 0, 0, 0),
   (1, .iload_n 1, 2, 0, .null, 1, 0, 0, 0),
   (2, .putfield 71, 5, 0, .null, 9, 2, 0, 799),
   (5, .aload_n 0, 6, 0, .null, 0, 0, 0, 0),
   (6, .iload_n 2, 7, 0, .null, 2, 0, 0, 0),
   (7, .putfield 114, 10, 0, .null, 9, 3, 0, 800),
   (10, .iconst 0, 11, 0, .int 0, 0, 0, 0, 0),
   (11, .ireturn, 12, 0, .null, 0, 0, 0, 0)]]
def am_t96 : List (List (Nat × am_E)) := [
  [(0, .aload_n 0, 1, 0, .null, 0, 0, 0, 0),
   (1, .iconst 0, 2, 0, .int 0, 0, 0, 0, 0),
   (2, .putfield 71, 5, 0, .null, 9, 2, 0, 799),
   (5, .aload_n 0, 6, 0, .null, 0, 0, 0, 0),
   (6, .getfield 114, 9, 0, .null, 9, 3, 0, 800),
   (9, .ireturn, 10, 0, .null, 0, 0, 0, 0)]]
def am_t97 : List (List (Nat × am_E)) := [
  [(0, .iconst 0, 1, 0, .int 0, 0, 0, 0, 0),
   (1, .istore_n 2, 2, 0, .null, 2, 0, 0, 0),
   (2, .iload_n 2, 3, 4, .null, 2, 0, 0, 0),
   (3, .aload_n 0, 4, 0, .null, 0, 0, 0, 0),
   (4, .getfield 137, 7, 0, .null, 9, 20, 0, 817),
   (7, .if_icmp .ge 49, 10, 0, .null, 56, 0, 0, 0),
   (10, .aload_n 0, 11, 0, .null, 0, 0, 0, 0),
   (11, .getfield 50, 14, 0, .null, 9, 19, 0, 816),
   (14, .iload_n 2, 15, 0, .null, 2, 0, 0, 0),
   (15, .iaload, 16, 0, .null, 0, 0, 0, 0)],
  [(16, .iconst 4, 17, 0, .int 4, 0, 0, 0, 0),
   (17, .idiv, 18, 0, .null, 0, 0, 0, 0),
   (18, .iload_n 1, 19, 0, .null, 1, 0, 0, 0),
   (19, .iconst 4, 20, 0, .int 4, 0, 0, 0, 0),
   (20, .irem, 21, 0, .null, 0, 0, 0, 0),
   (21, .if_icmp .ne 29, 24, 0, .null, 50, 0, 0, 0),
   (24, .aload_n 0, 25, 0, .null, 0, 0, 0, 0),
   (25, .getfield 141, 28, 0, .null, 9, 22, 0, 819),
   (28, .iload_n 1, 29, 0, .null, 1, 0, 0, 0),
   (29, .iconst 4, 30, 0, .int 4, 0, 0, 0, 0),
   (30, .idiv, 31, 0, .null, 0, 0, 0, 0),
   (31, .iconst 4, 32, 0, .int 4, 0, 0, 0, 0)],
  [(32, .imul, 33, 0, .null, 0, 0, 0, 0),
   (33, .aload_n 0, 34, 0, .null, 0, 0, 0, 0),
   (34, .getfield 50, 37, 0, .null, 9, 19, 0, 816),
   (37, .iload_n 2, 38, 0, .null, 2, 0, 0, 0),
   (38, .iaload, 39, 0, .null, 0, 0, 0, 0),
   (39, .iconst 4, 40, 0, .int 4, 0, 0, 0, 0),
   (40, .irem, 41, 0, .null, 0, 0, 0, 0),
   (41, .iadd, 42, 0, .null, 0, 0, 0, 0),
   (42, .invokestatic 144, 45, 0, .ref 2, 99, 0, 2, 994),
   (45, .ifCond .eq 5, 48, 0, .null, 50, 0, 0, 0)],
  [(48, .iload_n 2, 49, 0, .null, 2, 0, 0, 0),
   (49, .ireturn, 50, 0, .null, 0, 0, 0, 0),
   (50, .iinc 2 1, 53, 4, .int 1, 2, 0, 0, 0),
   (53, .goto (-51), 56, 0, .null, 2, 0, 0, 0),
   (56, .iconst (-1), 57, 0, .int (-1), 0, 0, 0, 0),
   (57, .ireturn, 58, 0, .null, 0, 0, 0, 0)]]
def am_t98 : List (List (Nat × am_E)) := [
  [(0, .aload_n 0, 1, 0, .null, 0, 0, 0, 0),
   (1, .aload_n 0, 2, 0, .null, 0, 0, 0, 0),
   (2, .getfield 134, 5, 0, .null, 9, 18, 0, 815),
   (5, .putfield 141, 8, 0, .null, 9, 22, 0, 819),
   (8, .iconst 0, 9, 0, .int 0, 0, 0, 0, 0),
   (9, .istore_n 1, 10, 0, .null, 1, 0, 0, 0),
   (10, .iload_n 1, 11, 3, .null, 1, 0, 0, 0),
   (11, .bipush 32, 13, 0, .int 32, 0, 0, 0, 0),
   (13, .if_icmp .ge 30, 16, 0, .null, 43, 0, 0, 0)],
  [(16, .aload_n 0, 17, 0, .null, 0, 0, 0, 0),
   (17, .getfield 53, 20, 0, .null, 9, 21, 0, 818),
   (20, .iload_n 1, 21, 0, .null, 1, 0, 0, 0),
   (21, .iaload, 22, 0, .null, 0, 0, 0, 0),
   (22, .ifCond .eq 15, 25, 0, .null, 37, 0, 0, 0),
   (25, .aload_n 0, 26, 0, .null, 0, 0, 0, 0),
   (26, .aload_n 0, 27, 0, .null, 0, 0, 0, 0),
   (27, .getfield 141, 30, 0, .null, 9, 22, 0, 819),
   (30, .iconst 1, 31, 0, .int 1, 0, 0, 0, 0),
   (31, .iload_n 1, 32, 0, .null, 1, 0, 0, 0)],
  [(32, .ishl, 33, 0, .null, 0, 0, 0, 0),
   (33, .ior, 34, 0, .null, 0, 0, 0, 0),
   (34, .putfield 141, 37, 0, .null, 9, 22, 0, 819),
   (37, .iinc 1 1, 40, 3, .int 1, 1, 0, 0, 0),
   (40, .goto (-30), 43, 0, .null, 10, 0, 0, 0),
   (43, .iconst 0, 44, 0, .int 0, 0, 0, 0, 0),
   (44, .istore_n 1, 45, 0, .null, 1, 0, 0, 0),
   (45, .iload_n 1, 46, 3, .null, 1, 0, 0, 0),
   (46, .bipush 32, 48, 0, .int 32, 0, 0, 0, 0)],
  [(48, .if_icmp .ge 43, 51, 0, .null, 91, 0, 0, 0),
   (51, .iconst 0, 52, 0, .int 0, 0, 0, 0, 0),
   (52, .istore_n 2, 53, 0, .null, 2, 0, 0, 0),
   (53, .iload_n 2, 54, 4, .null, 2, 0, 0, 0),
   (54, .bipush 32, 56, 0, .int 32, 0, 0, 0, 0),
   (56, .if_icmp .ge 29, 59, 0, .null, 85, 0, 0, 0),
   (59, .aload_n 0, 60, 0, .null, 0, 0, 0, 0),
   (60, .iload_n 2, 61, 0, .null, 2, 0, 0, 0),
   (61, .invokevirtual 147, 64, 0, .ref 3, 97, 9, 1, 990)],
  [(64, .ifCond .lt 15, 67, 0, .null, 79, 0, 0, 0),
   (67, .aload_n 0, 68, 0, .null, 0, 0, 0, 0),
   (68, .aload_n 0, 69, 0, .null, 0, 0, 0, 0),
   (69, .getfield 141, 72, 0, .null, 9, 22, 0, 819),
   (72, .iconst 1, 73, 0, .int 1, 0, 0, 0, 0),
   (73, .iload_n 2, 74, 0, .null, 2, 0, 0, 0),
   (74, .ishl, 75, 0, .null, 0, 0, 0, 0),
   (75, .ior, 76, 0, .null, 0, 0, 0, 0),
   (76, .putfield 141, 79, 0, .null, 9, 22, 0, 819),
   (79, .iinc 2 1, 82, 4, .int 1, 2, 0, 0, 0)],
  [(82, .goto (-29), 85, 0, .null, 53, 0, 0, 0),
   (85, .iinc 1 1, 88, 0, .int 1, 1, 0, 0, 0),
   (88, .goto (-43), 91, 0, .null, 45, 0, 0, 0),
   (91, .aload_n 0, 92, 0, .null, 0, 0, 0, 0),
   (92, .aload_n 0, 93, 0, .null, 0, 0, 0, 0),
   (93, .getfield 134, 96, 0, .null, 9, 18, 0, 815)],
  [(96, .putfield 151, 99, 0, .null, 9, 23, 0, 820),
   (99, .iconst 0, 100, 0, .int 0, 0, 0, 0, 0),
   (100, .istore_n 1, 101, 0, .null, 1, 0, 0, 0),
   (101, .iload_n 1, 102, 3, .null, 1, 0, 0, 0),
   (102, .bipush 32, 104, 0, .int 32, 0, 0, 0, 0),
   (104, .if_icmp .ge 89, 107, 0, .null, 193, 0, 0, 0),
   (107, .aload_n 0, 108, 0, .null, 0, 0, 0, 0),
   (108, .getfield 56, 111, 0, .null, 9, 24, 0, 821),
   (111, .iload_n 1, 112, 0, .null, 1, 0, 0, 0)],
  [(112, .aload_n 0, 113, 0, .null, 0, 0, 0, 0),
   (113, .getfield 47, 116, 0, .null, 9, 17, 0, 814),
   (116, .iload_n 1, 117, 0, .null, 1, 0, 0, 0),
   (117, .iaload, 118, 0, .null, 0, 0, 0, 0),
   (118, .iastore, 119, 0, .null, 0, 0, 0, 0),
   (119, .aload_n 0, 120, 0, .null, 0, 0, 0, 0),
   (120, .getfield 134, 123, 0, .null, 9, 18, 0, 815),
   (123, .iload_n 1, 124, 0, .null, 1, 0, 0, 0),
   (124, .invokestatic 144, 127, 0, .ref 2, 99, 0, 2, 994),
   (127, .ifCond .eq 6, 130, 0, .null, 133, 0, 0, 0)],
  [(130, .goto 57, 133, 0, .null, 187, 0, 0, 0),
   (133, .aload_n 0, 134, 0, .null, 0, 0, 0, 0),
   (134, .iload_n 1, 135, 0, .null, 1, 0, 0, 0),
   (135, .invokevirtual 147, 138, 0, .ref 3, 97, 9, 1, 990),
   (138, .istore_n 2, 139, 0, .null, 2, 0, 0, 0),
   (139, .iload_n 2, 140, 0, .null, 2, 0, 0, 0),
   (140, .ifCond .ge 6, 143, 0, .null, 146, 0, 0, 0),
   (143, .goto 44, 146, 0, .null, 187, 0, 0, 0)],
  [(146, .aload_n 0, 147, 0, .null, 0, 0, 0, 0),
   (147, .aload_n 0, 148, 0, .null, 0, 0, 0, 0),
   (148, .getfield 151, 151, 0, .null, 9, 23, 0, 820),
   (151, .iconst 1, 152, 0, .int 1, 0, 0, 0, 0),
   (152, .iload_n 1, 153, 0, .null, 1, 0, 0, 0),
   (153, .ishl, 154, 0, .null, 0, 0, 0, 0),
   (154, .ior, 155, 0, .null, 0, 0, 0, 0),
   (155, .putfield 151, 158, 0, .null, 9, 23, 0, 820),
   (158, .aload_n 0, 159, 0, .null, 0, 0, 0, 0),
   (159, .getfield 56, 162, 0, .null, 9, 24, 0, 821)],
  [(162, .iload_n 1, 163, 0, .null, 1, 0, 0, 0),
   (163, .aload_n 0, 164, 0, .null, 0, 0, 0, 0),
   (164, .getfield 56, 167, 0, .null, 9, 24, 0, 821),
   (167, .iload_n 1, 168, 0, .null, 1, 0, 0, 0),
   (168, .iaload, 169, 0, .null, 0, 0, 0, 0),
   (169, .iconst 1, 170, 0, .int 1, 0, 0, 0, 0),
   (170, .iload_n 1, 171, 0, .null, 1, 0, 0, 0),
   (171, .iconst 4, 172, 0, .int 4, 0, 0, 0, 0),
   (172, .idiv, 173, 0, .null, 0, 0, 0, 0),
   (173, .iconst 4, 174, 0, .int 4, 0, 0, 0, 0),
   (174, .imul, 175, 0, .null, 0, 0, 0, 0),
   (175, .aload_n 0, 176, 0, .null, 0, 0, 0, 0)],
  [(176, .getfield 50, 179, 0, .null, 9, 19, 0, 816),
   (179, .iload_n 2, 180, 0, .null, 2, 0, 0, 0),
   (180, .iaload, 181, 0, .null, 0, 0, 0, 0),
   (181, .iconst 4, 182, 0, .int 4, 0, 0, 0, 0),
   (182, .irem, 183, 0, .null, 0, 0, 0, 0),
   (183, .iadd, 184, 0, .null, 0, 0, 0, 0),
   (184, .ishl, 185, 0, .null, 0, 0, 0, 0),
   (185, .ior, 186, 0, .null, 0, 0, 0, 0),
   (186, .iastore, 187, 0, .null, 0, 0, 0, 0),
   (187, .iinc 1 1, 190, 3, .int 1, 1, 0, 0, 0),
   (190, .goto (-89), 193, 0, .null, 101, 0, 0, 0)],
  [(193, .iconst 0, 194, 0, .int 0, 0, 0, 0, 0),
   (194, .istore_n 1, 195, 0, .null, 1, 0, 0, 0),
   (195, .iload_n 1, 196, 3, .null, 1, 0, 0, 0),
   (196, .bipush 32, 198, 0, .int 32, 0, 0, 0, 0),
   (198, .if_icmp .ge 21, 201, 0, .null, 219, 0, 0, 0),
   (201, .aload_n 0, 202, 0, .null, 0, 0, 0, 0),
   (202, .getfield 59, 205, 0, .null, 9, 25, 0, 822),
   (205, .iload_n 1, 206, 0, .null, 1, 0, 0, 0),
   (206, .aload_n 0, 207, 0, .null, 0, 0, 0, 0),
   (207, .getfield 56, 210, 0, .null, 9, 24, 0, 821)],
  [(210, .iload_n 1, 211, 0, .null, 1, 0, 0, 0),
   (211, .iaload, 212, 0, .null, 0, 0, 0, 0),
   (212, .iastore, 213, 0, .null, 0, 0, 0, 0),
   (213, .iinc 1 1, 216, 0, .int 1, 1, 0, 0, 0),
   (216, .goto (-21), 219, 0, .null, 195, 0, 0, 0),
   (219, .iconst 0, 220, 0, .int 0, 0, 0, 0, 0),
   (220, .istore_n 1, 221, 0, .null, 1, 0, 0, 0),
   (221, .iload_n 1, 222, 3, .null, 1, 0, 0, 0),
   (222, .bipush 32, 224, 0, .int 32, 0, 0, 0, 0)],
  [(224, .if_icmp .ge 77, 227, 0, .null, 301, 0, 0, 0),
   (227, .iconst 0, 228, 0, .int 0, 0, 0, 0, 0),
   (228, .istore_n 2, 229, 0, .null, 2, 0, 0, 0),
   (229, .iload_n 2, 230, 4, .null, 2, 0, 0, 0),
   (230, .bipush 32, 232, 0, .int 32, 0, 0, 0, 0),
   (232, .if_icmp .ge 63, 235, 0, .null, 295, 0, 0, 0),
   (235, .aload_n 0, 236, 0, .null, 0, 0, 0, 0),
   (236, .getfield 59, 239, 0, .null, 9, 25, 0, 822),
   (239, .iload_n 2, 240, 0, .null, 2, 0, 0, 0)],
  [(240, .iaload, 241, 0, .null, 0, 0, 0, 0),
   (241, .istore_n 3, 242, 0, .null, 3, 0, 0, 0),
   (242, .iconst 0, 243, 0, .int 0, 0, 0, 0, 0),
   (243, .istore 4, 245, 0, .null, 4, 0, 0, 0),
   (245, .iload 4, 247, 6, .null, 4, 0, 0, 0),
   (247, .bipush 32, 249, 0, .int 32, 0, 0, 0, 0),
   (249, .if_icmp .ge 33, 252, 0, .null, 282, 0, 0, 0),
   (252, .aload_n 0, 253, 0, .null, 0, 0, 0, 0),
   (253, .getfield 59, 256, 0, .null, 9, 25, 0, 822)],
  [(256, .iload_n 2, 257, 0, .null, 2, 0, 0, 0),
   (257, .iaload, 258, 0, .null, 0, 0, 0, 0),
   (258, .iload 4, 260, 0, .null, 4, 0, 0, 0),
   (260, .invokestatic 144, 263, 0, .ref 2, 99, 0, 2, 994),
   (263, .ifCond .eq 13, 266, 0, .null, 276, 0, 0, 0),
   (266, .iload_n 3, 267, 0, .null, 3, 0, 0, 0),
   (267, .aload_n 0, 268, 0, .null, 0, 0, 0, 0),
   (268, .getfield 56, 271, 0, .null, 9, 24, 0, 821),
   (271, .iload 4, 273, 0, .null, 4, 0, 0, 0)],
  [(273, .iaload, 274, 0, .null, 0, 0, 0, 0),
   (274, .ior, 275, 0, .null, 0, 0, 0, 0),
   (275, .istore_n 3, 276, 0, .null, 3, 0, 0, 0),
   (276, .iinc 4 1, 279, 6, .int 1, 4, 0, 0, 0),
   (279, .goto (-34), 282, 0, .null, 245, 0, 0, 0),
   (282, .aload_n 0, 283, 0, .null, 0, 0, 0, 0),
   (283, .getfield 59, 286, 0, .null, 9, 25, 0, 822),
   (286, .iload_n 2, 287, 0, .null, 2, 0, 0, 0),
   (287, .iload_n 3, 288, 0, .null, 3, 0, 0, 0)],
  [(288, .iastore, 289, 0, .null, 0, 0, 0, 0),
   (289, .iinc 2 1, 292, 0, .int 1, 2, 0, 0, 0),
   (292, .goto (-63), 295, 0, .null, 229, 0, 0, 0),
   (295, .iinc 1 1, 298, 0, .int 1, 1, 0, 0, 0),
   (298, .goto (-77), 301, 0, .null, 221, 0, 0, 0),
   (301, .return_, 302, 0, .null, 0, 0, 0, 0)]]
def am_t99 : List (List (Nat × am_E)) := [
  [(0, .iload_n 0, 1, 0, .null, 0, 0, 0, 0),
   (1, .iload_n 1, 2, 0, .null, 1, 0, 0, 0),
   (2, .ishr, 3, 0, .null, 0, 0, 0, 0),
   (3, .iconst 1, 4, 0, .int 1, 0, 0, 0, 0),
   (4, .iand, 5, 0, .null, 0, 0, 0, 0),
   (5, .iconst 1, 6, 0, .int 1, 0, 0, 0, 0),
   (6, .if_icmp .ne 7, 9, 0, .null, 13, 0, 0, 0),
   (9, .iconst 1, 10, 0, .int 1, 0, 0, 0, 0),
   (10, .goto 4, 13, 0, .null, 14, 0, 0, 0),
   (13, .iconst 0, 14, 0, .int 0, 0, 0, 0, 0),
   (14, .ireturn, 15, 1, .null, 0, 0, 1, 0)]]
def am_t100 : List (List (Nat × am_E)) := [
  [(0, .aload_n 0, 1, 0, .null, 0, 0, 0, 0),
   (1, .iload_n 1, 2, 0, .null, 1, 0, 0, 0),
   (2, .iload_n 2, 3, 0, .null, 2, 0, 0, 0),
   (3, .invokevirtual 95, 6, 0, .ref 4, 113, 9, 2, 926),
   (6, .ifCond .eq 5, 9, 0, .null, 11, 0, 0, 0),
   (9, .iconst 1, 10, 0, .int 1, 0, 0, 0, 0),
   (10, .ireturn, 11, 0, .null, 0, 0, 0, 0),
   (11, .aload_n 0, 12, 0, .null, 0, 0, 0, 0),
   (12, .getfield 7, 15, 0, .null, 9, 0, 0, 797),
   (15, .iload_n 1, 16, 0, .null, 1, 0, 0, 0)],
  [(16, .iaload, 17, 0, .null, 0, 0, 0, 0),
   (17, .bipush 9, 19, 0, .int 9, 0, 0, 0, 0),
   (19, .if_icmp .ne 5, 22, 0, .null, 24, 0, 0, 0),
   (22, .iconst 5, 23, 0, .int 5, 0, 0, 0, 0),
   (23, .ireturn, 24, 0, .null, 0, 0, 0, 0),
   (24, .iload_n 2, 25, 0, .null, 2, 0, 0, 0),
   (25, .iload_n 1, 26, 0, .null, 1, 0, 0, 0),
   (26, .isub, 27, 0, .null, 0, 0, 0, 0),
   (27, .iconst 5, 28, 0, .int 5, 0, 0, 0, 0),
   (28, .if_icmp .ne 78, 31, 0, .null, 106, 0, 0, 0),
   (31, .aload_n 0, 32, 0, .null, 0, 0, 0, 0)],
  [(32, .getfield 7, 35, 0, .null, 9, 0, 0, 797),
   (35, .iload_n 1, 36, 0, .null, 1, 0, 0, 0),
   (36, .iaload, 37, 0, .null, 0, 0, 0, 0),
   (37, .bipush 37, 39, 0, .int 37, 0, 0, 0, 0),
   (39, .if_icmp .ne 67, 42, 0, .null, 106, 0, 0, 0),
   (42, .aload_n 0, 43, 0, .null, 0, 0, 0, 0),
   (43, .getfield 7, 46, 0, .null, 9, 0, 0, 797),
   (46, .iload_n 1, 47, 0, .null, 1, 0, 0, 0),
   (47, .iconst 1, 48, 0, .int 1, 0, 0, 0, 0)],
  [(48, .iadd, 49, 0, .null, 0, 0, 0, 0),
   (49, .iaload, 50, 0, .null, 0, 0, 0, 0),
   (50, .bipush 48, 52, 0, .int 48, 0, 0, 0, 0),
   (52, .bipush 51, 54, 0, .int 51, 0, 0, 0, 0),
   (54, .invokestatic 91, 57, 0, .ref 3, 118, 0, 3, 930),
   (57, .ifCond .eq 49, 60, 0, .null, 106, 0, 0, 0),
   (60, .aload_n 0, 61, 0, .null, 0, 0, 0, 0),
   (61, .getfield 7, 64, 0, .null, 9, 0, 0, 797)],
  [(64, .iload_n 1, 65, 0, .null, 1, 0, 0, 0),
   (65, .iconst 2, 66, 0, .int 2, 0, 0, 0, 0),
   (66, .iadd, 67, 0, .null, 0, 0, 0, 0),
   (67, .iaload, 68, 0, .null, 0, 0, 0, 0),
   (68, .bipush 58, 70, 0, .int 58, 0, 0, 0, 0),
   (70, .if_icmp .ne 36, 73, 0, .null, 106, 0, 0, 0),
   (73, .aload_n 0, 74, 0, .null, 0, 0, 0, 0),
   (74, .getfield 7, 77, 0, .null, 9, 0, 0, 797),
   (77, .iload_n 1, 78, 0, .null, 1, 0, 0, 0),
   (78, .iconst 3, 79, 0, .int 3, 0, 0, 0, 0),
   (79, .iadd, 80, 0, .null, 0, 0, 0, 0)],
  [(80, .iaload, 81, 0, .null, 0, 0, 0, 0),
   (81, .bipush 37, 83, 0, .int 37, 0, 0, 0, 0),
   (83, .if_icmp .ne 23, 86, 0, .null, 106, 0, 0, 0),
   (86, .aload_n 0, 87, 0, .null, 0, 0, 0, 0),
   (87, .getfield 7, 90, 0, .null, 9, 0, 0, 797),
   (90, .iload_n 1, 91, 0, .null, 1, 0, 0, 0),
   (91, .iconst 4, 92, 0, .int 4, 0, 0, 0, 0),
   (92, .iadd, 93, 0, .null, 0, 0, 0, 0),
   (93, .iaload, 94, 0, .null, 0, 0, 0, 0),
   (94, .bipush 48, 96, 0, .int 48, 0, 0, 0, 0)],
  [(96, .bipush 51, 98, 0, .int 51, 0, 0, 0, 0),
   (98, .invokestatic 91, 101, 0, .ref 3, 118, 0, 3, 930),
   (101, .ifCond .eq 5, 104, 0, .null, 106, 0, 0, 0),
   (104, .iconst 4, 105, 0, .int 4, 0, 0, 0, 0),
   (105, .ireturn, 106, 0, .null, 0, 0, 0, 0),
   (106, .aload_n 0, 107, 4, .null, 0, 0, 0, 0),
   (107, .getfield 7, 110, 0, .null, 9, 0, 0, 797),
   (110, .iload_n 1, 111, 0, .null, 1, 0, 0, 0),
   (111, .iaload, 112, 0, .null, 0, 0, 0, 0)],
  [(112, .bipush 65, 114, 0, .int 65, 0, 0, 0, 0),
   (114, .bipush 90, 116, 0, .int 90, 0, 0, 0, 0),
   (116, .invokestatic 91, 119, 0, .ref 3, 118, 0, 3, 930),
   (119, .ifCond .eq 33, 122, 0, .null, 152, 0, 0, 0),
   (122, .aload_n 0, 123, 0, .null, 0, 0, 0, 0),
   (123, .iload_n 1, 124, 0, .null, 1, 0, 0, 0),
   (124, .iconst 1, 125, 0, .int 1, 0, 0, 0, 0),
   (125, .iadd, 126, 0, .null, 0, 0, 0, 0),
   (126, .iload_n 2, 127, 0, .null, 2, 0, 0, 0),
   (127, .invokevirtual 87, 130, 0, .ref 3, 92, 9, 2, 933)],
  [(130, .bipush 61, 132, 0, .int 61, 0, 0, 0, 0),
   (132, .if_icmp .ne 18, 135, 0, .null, 150, 0, 0, 0),
   (135, .aload_n 0, 136, 0, .null, 0, 0, 0, 0),
   (136, .iload_n 1, 137, 0, .null, 1, 0, 0, 0),
   (137, .iconst 2, 138, 0, .int 2, 0, 0, 0, 0),
   (138, .iadd, 139, 0, .null, 0, 0, 0, 0),
   (139, .iload_n 2, 140, 0, .null, 2, 0, 0, 0),
   (140, .invokevirtual 99, 143, 0, .ref 7, 111, 9, 2, 937),
   (143, .ifCond .eq 7, 146, 0, .null, 150, 0, 0, 0)],
  [(146, .iconst 2, 147, 0, .int 2, 0, 0, 0, 0),
   (147, .goto 4, 150, 0, .null, 151, 0, 0, 0),
   (150, .iconst 0, 151, 1, .int 0, 0, 0, 0, 0),
   (151, .ireturn, 152, 1, .null, 0, 0, 0, 0),
   (152, .aload_n 0, 153, 0, .null, 0, 0, 0, 0),
   (153, .iload_n 1, 154, 0, .null, 1, 0, 0, 0),
   (154, .iload_n 2, 155, 0, .null, 2, 0, 0, 0),
   (155, .invokevirtual 102, 158, 0, .ref 4, 93, 9, 2, 941),
   (158, .istore_n 3, 159, 0, .null, 3, 0, 0, 0),
   (159, .iload_n 3, 160, 0, .null, 3, 0, 0, 0)],
  [(160, .iload_n 2, 161, 0, .null, 2, 0, 0, 0),
   (161, .if_icmp .eq 12, 164, 0, .null, 173, 0, 0, 0),
   (164, .aload_n 0, 165, 0, .null, 0, 0, 0, 0),
   (165, .iload_n 1, 166, 0, .null, 1, 0, 0, 0),
   (166, .iload_n 3, 167, 0, .null, 3, 0, 0, 0),
   (167, .invokevirtual 95, 170, 0, .ref 4, 113, 9, 2, 926),
   (170, .ifCond .eq 5, 173, 0, .null, 175, 0, 0, 0),
   (173, .iconst 0, 174, 1, .int 0, 0, 0, 0, 0),
   (174, .ireturn, 175, 0, .null, 0, 0, 0, 0),
   (175, .aload_n 0, 176, 0, .null, 0, 0, 0, 0)],
  [(176, .iload_n 1, 177, 0, .null, 1, 0, 0, 0),
   (177, .iload_n 3, 178, 0, .null, 3, 0, 0, 0),
   (178, .invokevirtual 99, 181, 0, .ref 7, 111, 9, 2, 937),
   (181, .ifCond .eq 18, 184, 0, .null, 199, 0, 0, 0),
   (184, .aload_n 0, 185, 0, .null, 0, 0, 0, 0),
   (185, .iload_n 3, 186, 0, .null, 3, 0, 0, 0),
   (186, .iconst 1, 187, 0, .int 1, 0, 0, 0, 0),
   (187, .iadd, 188, 0, .null, 0, 0, 0, 0),
   (188, .iload_n 2, 189, 0, .null, 2, 0, 0, 0),
   (189, .invokevirtual 99, 192, 0, .ref 7, 111, 9, 2, 937)],
  [(192, .ifCond .eq 7, 195, 0, .null, 199, 0, 0, 0),
   (195, .iconst 3, 196, 0, .int 3, 0, 0, 0, 0),
   (196, .goto 4, 199, 0, .null, 200, 0, 0, 0),
   (199, .iconst 0, 200, 1, .int 0, 0, 0, 0, 0),
   (200, .ireturn, 201, 1, .null, 0, 0, 0, 0)]]
def am_t101 : List (List (Nat × am_E)) := [
  [(0, .aload_n 0, 1, 0, .null, 0, 0, 0, 0),
   (1, .iconst 0, 2, 0, .int 0, 0, 0, 0, 0),
   (2, .putfield 71, 5, 0, .null, 9, 2, 0, 799),
   (5, .aload_n 0, 6, 0, .null, 0, 0, 0, 0),
   (6, .getfield 75, 9, 0, .null, 9, 1, 0, 798),
   (9, .ireturn, 10, 0, .null, 0, 0, 0, 0)]]
def am_t102 : List (List (Nat × am_E)) := [
  [(0, .iconst 0, 1, 0, .int 0, 0, 0, 0, 0),
   (1, .istore_n 1, 2, 0, .null, 1, 0, 0, 0),
   (2, .iconst 0, 3, 0, .int 0, 0, 0, 0, 0),
   (3, .istore_n 2, 4, 0, .null, 2, 0, 0, 0),
   (4, .iconst 0, 5, 0, .int 0, 0, 0, 0, 0),
   (5, .istore_n 3, 6, 0, .null, 3, 0, 0, 0),
   (6, .aload_n 0, 7, 0, .null, 0, 0, 0, 0),
   (7, .iconst 0, 8, 0, .int 0, 0, 0, 0, 0),
   (8, .putfield 105, 11, 0, .null, 9, 14, 0, 811),
   (11, .aload_n 0, 12, 0, .null, 0, 0, 0, 0),
   (12, .iconst 0, 13, 0, .int 0, 0, 0, 0, 0),
   (13, .putfield 108, 16, 0, .null, 9, 16, 0, 813)],
  [(16, .iconst 0, 17, 0, .int 0, 0, 0, 0, 0),
   (17, .istore 4, 19, 0, .null, 4, 0, 0, 0),
   (19, .iload 4, 21, 6, .null, 4, 0, 0, 0),
   (21, .bipush 26, 23, 0, .int 26, 0, 0, 0, 0),
   (23, .if_icmp .ge 33, 26, 0, .null, 56, 0, 0, 0),
   (26, .aload_n 0, 27, 0, .null, 0, 0, 0, 0),
   (27, .getfield 13, 30, 0, .null, 9, 4, 0, 801),
   (30, .iload 4, 32, 0, .null, 4, 0, 0, 0)],
  [(32, .iconst (-1), 33, 0, .int (-1), 0, 0, 0, 0),
   (33, .iastore, 34, 0, .null, 0, 0, 0, 0),
   (34, .aload_n 0, 35, 0, .null, 0, 0, 0, 0),
   (35, .getfield 22, 38, 0, .null, 9, 7, 0, 804),
   (38, .iload 4, 40, 0, .null, 4, 0, 0, 0),
   (40, .iconst 0, 41, 0, .int 0, 0, 0, 0, 0),
   (41, .iastore, 42, 0, .null, 0, 0, 0, 0),
   (42, .aload_n 0, 43, 0, .null, 0, 0, 0, 0),
   (43, .getfield 25, 46, 0, .null, 9, 8, 0, 805),
   (46, .iload 4, 48, 0, .null, 4, 0, 0, 0)],
  [(48, .iconst 0, 49, 0, .int 0, 0, 0, 0, 0),
   (49, .iastore, 50, 0, .null, 0, 0, 0, 0),
   (50, .iinc 4 1, 53, 0, .int 1, 4, 0, 0, 0),
   (53, .goto (-34), 56, 0, .null, 19, 0, 0, 0),
   (56, .iconst 0, 57, 0, .int 0, 0, 0, 0, 0),
   (57, .istore 4, 59, 0, .null, 4, 0, 0, 0),
   (59, .iload 4, 61, 6, .null, 4, 0, 0, 0),
   (61, .sipush 241, 64, 0, .int 241, 0, 0, 0, 0)],
  [(64, .if_icmp .ge 294, 67, 0, .null, 358, 0, 0, 0),
   (67, .iload_n 1, 68, 0, .null, 1, 0, 0, 0),
   (68, .aload_n 0, 69, 0, .null, 0, 0, 0, 0),
   (69, .getfield 75, 72, 0, .null, 9, 1, 0, 798),
   (72, .if_icmp .ge 286, 75, 0, .null, 358, 0, 0, 0),
   (75, .iload_n 1, 76, 0, .null, 1, 0, 0, 0),
   (76, .istore 5, 78, 0, .null, 5, 0, 0, 0),
   (78, .iload 5, 80, 7, .null, 5, 0, 0, 0)],
  [(80, .aload_n 0, 81, 0, .null, 0, 0, 0, 0),
   (81, .getfield 75, 84, 0, .null, 9, 1, 0, 798),
   (84, .if_icmp .ge 21, 87, 0, .null, 105, 0, 0, 0),
   (87, .aload_n 0, 88, 0, .null, 0, 0, 0, 0),
   (88, .getfield 7, 91, 0, .null, 9, 0, 0, 797),
   (91, .iload 5, 93, 0, .null, 5, 0, 0, 0),
   (93, .iaload, 94, 0, .null, 0, 0, 0, 0),
   (94, .bipush 10, 96, 0, .int 10, 0, 0, 0, 0)],
  [(96, .if_icmp .eq 9, 99, 0, .null, 105, 0, 0, 0),
   (99, .iinc 5 1, 102, 0, .int 1, 5, 0, 0, 0),
   (102, .goto (-24), 105, 0, .null, 78, 0, 0, 0),
   (105, .iinc 2 1, 108, 7, .int 1, 2, 0, 0, 0),
   (108, .iload 5, 110, 0, .null, 5, 0, 0, 0),
   (110, .aload_n 0, 111, 0, .null, 0, 0, 0, 0),
   (111, .getfield 75, 114, 0, .null, 9, 1, 0, 798)],
  [(114, .if_icmp .ne 7, 117, 0, .null, 121, 0, 0, 0),
   (117, .iconst 0, 118, 0, .int 0, 0, 0, 0, 0),
   (118, .goto 10, 121, 0, .null, 128, 0, 0, 0),
   (121, .aload_n 0, 122, 0, .null, 0, 0, 0, 0),
   (122, .iload_n 1, 123, 0, .null, 1, 0, 0, 0),
   (123, .iload 5, 125, 0, .null, 5, 0, 0, 0),
   (125, .invokevirtual 111, 128, 0, .ref 4, 100, 9, 2, 922)],
  [(128, .istore 6, 130, 7, .null, 6, 0, 0, 0),
   (130, .iload 6, 132, 0, .null, 6, 0, 0, 0),
   (132, .ifCond .eq 25, 135, 0, .null, 157, 0, 0, 0),
   (135, .iload_n 3, 136, 0, .null, 3, 0, 0, 0),
   (136, .iconst 4, 137, 0, .int 4, 0, 0, 0, 0),
   (137, .if_icmp .ne 9, 140, 0, .null, 146, 0, 0, 0),
   (140, .iload 6, 142, 0, .null, 6, 0, 0, 0),
   (142, .iconst 5, 143, 0, .int 5, 0, 0, 0, 0),
   (143, .if_icmp .ne 14, 146, 0, .null, 157, 0, 0, 0)],
  [(146, .iload 6, 148, 8, .null, 6, 0, 0, 0),
   (148, .iconst 5, 149, 0, .int 5, 0, 0, 0, 0),
   (149, .if_icmp .ne 10, 152, 0, .null, 159, 0, 0, 0),
   (152, .iload_n 3, 153, 0, .null, 3, 0, 0, 0),
   (153, .iconst 3, 154, 0, .int 3, 0, 0, 0, 0),
   (154, .if_icmp .ge 5, 157, 0, .null, 159, 0, 0, 0),
   (157, .iload_n 2, 158, 4, .null, 2, 0, 0, 0),
   (158, .ireturn, 159, 0, .null, 0, 0, 0, 0),
   (159, .iload 6, 161, 8, .null, 6, 0, 0, 0)],
  [(161, .iconst 5, 162, 0, .int 5, 0, 0, 0, 0),
   (162, .if_icmp .ne 20, 165, 0, .null, 182, 0, 0, 0),
   (165, .iload_n 3, 166, 0, .null, 3, 0, 0, 0),
   (166, .iconst 3, 167, 0, .int 3, 0, 0, 0, 0),
   (167, .if_icmp .ne 15, 170, 0, .null, 182, 0, 0, 0),
   (170, .aload_n 0, 171, 0, .null, 0, 0, 0, 0),
   (171, .getfield 40, 174, 0, .null, 9, 13, 0, 810),
   (174, .aload_n 0, 175, 0, .null, 0, 0, 0, 0),
   (175, .getfield 105, 178, 0, .null, 9, 14, 0, 811)],
  [(178, .iconst 1, 179, 0, .int 1, 0, 0, 0, 0),
   (179, .isub, 180, 0, .null, 0, 0, 0, 0),
   (180, .iconst 1, 181, 0, .int 1, 0, 0, 0, 0),
   (181, .bastore, 182, 0, .null, 0, 0, 0, 0),
   (182, .iload 6, 184, 8, .null, 6, 0, 0, 0),
   (184, .iconst 2, 185, 0, .int 2, 0, 0, 0, 0),
   (185, .if_icmp .ne 36, 188, 0, .null, 221, 0, 0, 0),
   (188, .aload_n 0, 189, 0, .null, 0, 0, 0, 0),
   (189, .getfield 13, 192, 0, .null, 9, 4, 0, 801)],
  [(192, .aload_n 0, 193, 0, .null, 0, 0, 0, 0),
   (193, .getfield 7, 196, 0, .null, 9, 0, 0, 797),
   (196, .iload_n 1, 197, 0, .null, 1, 0, 0, 0),
   (197, .iaload, 198, 0, .null, 0, 0, 0, 0),
   (198, .bipush 65, 200, 0, .int 65, 0, 0, 0, 0),
   (200, .isub, 201, 0, .null, 0, 0, 0, 0),
   (201, .iload_n 1, 202, 0, .null, 1, 0, 0, 0),
   (202, .iconst 2, 203, 0, .int 2, 0, 0, 0, 0),
   (203, .iadd, 204, 0, .null, 0, 0, 0, 0),
   (204, .iastore, 205, 0, .null, 0, 0, 0, 0),
   (205, .aload_n 0, 206, 0, .null, 0, 0, 0, 0),
   (206, .getfield 16, 209, 0, .null, 9, 5, 0, 802)],
  [(209, .aload_n 0, 210, 0, .null, 0, 0, 0, 0),
   (210, .getfield 7, 213, 0, .null, 9, 0, 0, 797),
   (213, .iload_n 1, 214, 0, .null, 1, 0, 0, 0),
   (214, .iaload, 215, 0, .null, 0, 0, 0, 0),
   (215, .bipush 65, 217, 0, .int 65, 0, 0, 0, 0),
   (217, .isub, 218, 0, .null, 0, 0, 0, 0),
   (218, .iload 5, 220, 0, .null, 5, 0, 0, 0),
   (220, .iastore, 221, 0, .null, 0, 0, 0, 0),
   (221, .iload 6, 223, 8, .null, 6, 0, 0, 0),
   (223, .iconst 3, 224, 0, .int 3, 0, 0, 0, 0)],
  [(224, .if_icmp .ne 70, 227, 0, .null, 294, 0, 0, 0),
   (227, .aload_n 0, 228, 0, .null, 0, 0, 0, 0),
   (228, .getfield 28, 231, 0, .null, 9, 9, 0, 806),
   (231, .aload_n 0, 232, 0, .null, 0, 0, 0, 0),
   (232, .getfield 105, 235, 0, .null, 9, 14, 0, 811),
   (235, .iload_n 1, 236, 0, .null, 1, 0, 0, 0),
   (236, .iastore, 237, 0, .null, 0, 0, 0, 0),
   (237, .aload_n 0, 238, 0, .null, 0, 0, 0, 0),
   (238, .getfield 31, 241, 0, .null, 9, 10, 0, 807)],
  [(241, .aload_n 0, 242, 0, .null, 0, 0, 0, 0),
   (242, .getfield 105, 245, 0, .null, 9, 14, 0, 811),
   (245, .aload_n 0, 246, 0, .null, 0, 0, 0, 0),
   (246, .iload_n 1, 247, 0, .null, 1, 0, 0, 0),
   (247, .iload 5, 249, 0, .null, 5, 0, 0, 0),
   (249, .invokevirtual 102, 252, 0, .ref 4, 93, 9, 2, 941),
   (252, .iastore, 253, 0, .null, 0, 0, 0, 0),
   (253, .aload_n 0, 254, 0, .null, 0, 0, 0, 0),
   (254, .getfield 34, 257, 0, .null, 9, 11, 0, 808)],
  [(257, .aload_n 0, 258, 0, .null, 0, 0, 0, 0),
   (258, .getfield 105, 261, 0, .null, 9, 14, 0, 811),
   (261, .iload 5, 263, 0, .null, 5, 0, 0, 0),
   (263, .iastore, 264, 0, .null, 0, 0, 0, 0),
   (264, .aload_n 0, 265, 0, .null, 0, 0, 0, 0),
   (265, .getfield 37, 268, 0, .null, 9, 12, 0, 809),
   (268, .aload_n 0, 269, 0, .null, 0, 0, 0, 0),
   (269, .getfield 105, 272, 0, .null, 9, 14, 0, 811)],
  [(272, .iload_n 2, 273, 0, .null, 2, 0, 0, 0),
   (273, .iastore, 274, 0, .null, 0, 0, 0, 0),
   (274, .aload_n 0, 275, 0, .null, 0, 0, 0, 0),
   (275, .getfield 40, 278, 0, .null, 9, 13, 0, 810),
   (278, .aload_n 0, 279, 0, .null, 0, 0, 0, 0),
   (279, .getfield 105, 282, 0, .null, 9, 14, 0, 811),
   (282, .iconst 0, 283, 0, .int 0, 0, 0, 0, 0),
   (283, .bastore, 284, 0, .null, 0, 0, 0, 0),
   (284, .aload_n 0, 285, 0, .null, 0, 0, 0, 0),
   (285, .dup, 286, 0, .null, 0, 0, 0, 0),
   (286, .getfield 105, 289, 0, .null, 9, 14, 0, 811)],
  [(289, .iconst 1, 290, 0, .int 1, 0, 0, 0, 0),
   (290, .iadd, 291, 0, .null, 0, 0, 0, 0),
   (291, .putfield 105, 294, 0, .null, 9, 14, 0, 811),
   (294, .iload 6, 296, 8, .null, 6, 0, 0, 0),
   (296, .iconst 4, 297, 0, .int 4, 0, 0, 0, 0),
   (297, .if_icmp .ne 47, 300, 0, .null, 344, 0, 0, 0),
   (300, .aload_n 0, 301, 0, .null, 0, 0, 0, 0),
   (301, .getfield 44, 304, 0, .null, 9, 15, 0, 812)],
  [(304, .aload_n 0, 305, 0, .null, 0, 0, 0, 0),
   (305, .getfield 108, 308, 0, .null, 9, 16, 0, 813),
   (308, .iconst 4, 309, 0, .int 4, 0, 0, 0, 0),
   (309, .aload_n 0, 310, 0, .null, 0, 0, 0, 0),
   (310, .getfield 7, 313, 0, .null, 9, 0, 0, 797),
   (313, .iload_n 1, 314, 0, .null, 1, 0, 0, 0),
   (314, .iconst 1, 315, 0, .int 1, 0, 0, 0, 0),
   (315, .iadd, 316, 0, .null, 0, 0, 0, 0),
   (316, .iaload, 317, 0, .null, 0, 0, 0, 0),
   (317, .bipush 48, 319, 0, .int 48, 0, 0, 0, 0),
   (319, .isub, 320, 0, .null, 0, 0, 0, 0)],
  [(320, .imul, 321, 0, .null, 0, 0, 0, 0),
   (321, .aload_n 0, 322, 0, .null, 0, 0, 0, 0),
   (322, .getfield 7, 325, 0, .null, 9, 0, 0, 797),
   (325, .iload_n 1, 326, 0, .null, 1, 0, 0, 0),
   (326, .iconst 4, 327, 0, .int 4, 0, 0, 0, 0),
   (327, .iadd, 328, 0, .null, 0, 0, 0, 0),
   (328, .iaload, 329, 0, .null, 0, 0, 0, 0),
   (329, .iadd, 330, 0, .null, 0, 0, 0, 0),
   (330, .bipush 48, 332, 0, .int 48, 0, 0, 0, 0),
   (332, .isub, 333, 0, .null, 0, 0, 0, 0),
   (333, .iastore, 334, 0, .null, 0, 0, 0, 0),
   (334, .aload_n 0, 335, 0, .null, 0, 0, 0, 0),
   (335, .dup, 336, 0, .null, 0, 0, 0, 0)],
  [(336, .getfield 108, 339, 0, .null, 9, 16, 0, 813),
   (339, .iconst 1, 340, 0, .int 1, 0, 0, 0, 0),
   (340, .iadd, 341, 0, .null, 0, 0, 0, 0),
   (341, .putfield 108, 344, 0, .null, 9, 16, 0, 813),
   (344, .iload 6, 346, 8, .null, 6, 0, 0, 0),
   (346, .istore_n 3, 347, 0, .null, 3, 0, 0, 0),
   (347, .iload 5, 349, 0, .null, 5, 0, 0, 0),
   (349, .iconst 1, 350, 0, .int 1, 0, 0, 0, 0),
   (350, .iadd, 351, 0, .null, 0, 0, 0, 0),
   (351, .istore_n 1, 352, 0, .null, 1, 0, 0, 0)],
  [(352, .iinc 4 1, 355, 0, .int 1, 4, 0, 0, 0),
   (355, .goto (-296), 358, 0, .null, 59, 0, 0, 0),
   (358, .iload_n 3, 359, 5, .null, 3, 0, 0, 0),
   (359, .iconst 4, 360, 0, .int 4, 0, 0, 0, 0),
   (360, .if_icmp .ne 7, 363, 0, .null, 367, 0, 0, 0),
   (363, .iload_n 2, 364, 0, .null, 2, 0, 0, 0),
   (364, .goto 4, 367, 0, .null, 368, 0, 0, 0),
   (367, .iconst 0, 368, 0, .int 0, 0, 0, 0, 0)],
  [(368, .ireturn, 369, 1, .null, 0, 0, 0, 0)]]
def am_t103 : List (List (Nat × am_E)) := [
  [(0, .iconst 0, 1, 0, .int 0, 0, 0, 0, 0),
   (1, .istore_n 1, 2, 0, .null, 1, 0, 0, 0),
   (2, .iload_n 1, 3, 3, .null, 1, 0, 0, 0),
   (3, .bipush 26, 5, 0, .int 26, 0, 0, 0, 0),
   (5, .if_icmp .ge 16, 8, 0, .null, 21, 0, 0, 0),
   (8, .aload_n 0, 9, 0, .null, 0, 0, 0, 0),
   (9, .getfield 19, 12, 0, .null, 9, 6, 0, 803),
   (12, .iload_n 1, 13, 0, .null, 1, 0, 0, 0),
   (13, .iconst 0, 14, 0, .int 0, 0, 0, 0, 0),
   (14, .iastore, 15, 0, .null, 0, 0, 0, 0),
   (15, .iinc 1 1, 18, 0, .int 1, 1, 0, 0, 0)],
  [(18, .goto (-16), 21, 0, .null, 2, 0, 0, 0),
   (21, .iconst 0, 22, 0, .int 0, 0, 0, 0, 0),
   (22, .istore_n 1, 23, 0, .null, 1, 0, 0, 0),
   (23, .iload_n 1, 24, 3, .null, 1, 0, 0, 0),
   (24, .bipush 27, 26, 0, .int 27, 0, 0, 0, 0),
   (26, .if_icmp .ge 127, 29, 0, .null, 153, 0, 0, 0),
   (29, .iconst 0, 30, 0, .int 0, 0, 0, 0, 0),
   (30, .istore_n 2, 31, 0, .null, 2, 0, 0, 0),
   (31, .iload_n 2, 32, 4, .null, 2, 0, 0, 0)],
  [(32, .bipush 26, 34, 0, .int 26, 0, 0, 0, 0),
   (34, .if_icmp .ge 113, 37, 0, .null, 147, 0, 0, 0),
   (37, .aload_n 0, 38, 0, .null, 0, 0, 0, 0),
   (38, .getfield 13, 41, 0, .null, 9, 4, 0, 801),
   (41, .iload_n 2, 42, 0, .null, 2, 0, 0, 0),
   (42, .iaload, 43, 0, .null, 0, 0, 0, 0),
   (43, .ifCond .ge 6, 46, 0, .null, 49, 0, 0, 0),
   (46, .goto 95, 49, 0, .null, 141, 0, 0, 0)],
  [(49, .aload_n 0, 50, 0, .null, 0, 0, 0, 0),
   (50, .aload_n 0, 51, 0, .null, 0, 0, 0, 0),
   (51, .getfield 13, 54, 0, .null, 9, 4, 0, 801),
   (54, .iload_n 2, 55, 0, .null, 2, 0, 0, 0),
   (55, .iaload, 56, 0, .null, 0, 0, 0, 0),
   (56, .aload_n 0, 57, 0, .null, 0, 0, 0, 0),
   (57, .getfield 16, 60, 0, .null, 9, 5, 0, 802),
   (60, .iload_n 2, 61, 0, .null, 2, 0, 0, 0),
   (61, .iaload, 62, 0, .null, 0, 0, 0, 0),
   (62, .invokevirtual 99, 65, 0, .ref 7, 111, 9, 2, 937)],
  [(65, .istore_n 3, 66, 0, .null, 3, 0, 0, 0),
   (66, .aload_n 0, 67, 0, .null, 0, 0, 0, 0),
   (67, .getfield 22, 70, 0, .null, 9, 7, 0, 804),
   (70, .iload_n 2, 71, 0, .null, 2, 0, 0, 0),
   (71, .aload_n 0, 72, 0, .null, 0, 0, 0, 0),
   (72, .getfield 78, 75, 0, .null, 9, 30, 0, 827),
   (75, .iastore, 76, 0, .null, 0, 0, 0, 0),
   (76, .aload_n 0, 77, 0, .null, 0, 0, 0, 0),
   (77, .getfield 25, 80, 0, .null, 9, 8, 0, 805)],
  [(80, .iload_n 2, 81, 0, .null, 2, 0, 0, 0),
   (81, .aload_n 0, 82, 0, .null, 0, 0, 0, 0),
   (82, .getfield 81, 85, 0, .null, 9, 31, 0, 828),
   (85, .iastore, 86, 0, .null, 0, 0, 0, 0),
   (86, .aload_n 0, 87, 0, .null, 0, 0, 0, 0),
   (87, .getfield 84, 90, 0, .null, 9, 32, 0, 829),
   (90, .istore 4, 92, 0, .null, 4, 0, 0, 0),
   (92, .iconst 0, 93, 0, .int 0, 0, 0, 0, 0),
   (93, .istore 5, 95, 0, .null, 5, 0, 0, 0),
   (95, .iload 5, 97, 7, .null, 5, 0, 0, 0)],
  [(97, .bipush 26, 99, 0, .int 26, 0, 0, 0, 0),
   (99, .if_icmp .ge 34, 102, 0, .null, 133, 0, 0, 0),
   (102, .aload_n 0, 103, 0, .null, 0, 0, 0, 0),
   (103, .getfield 84, 106, 0, .null, 9, 32, 0, 829),
   (106, .iload 5, 108, 0, .null, 5, 0, 0, 0),
   (108, .ishr, 109, 0, .null, 0, 0, 0, 0),
   (109, .iconst 1, 110, 0, .int 1, 0, 0, 0, 0),
   (110, .iand, 111, 0, .null, 0, 0, 0, 0),
   (111, .iconst 1, 112, 0, .int 1, 0, 0, 0, 0)],
  [(112, .if_icmp .ne 15, 115, 0, .null, 127, 0, 0, 0),
   (115, .iload 4, 117, 0, .null, 4, 0, 0, 0),
   (117, .aload_n 0, 118, 0, .null, 0, 0, 0, 0),
   (118, .getfield 19, 121, 0, .null, 9, 6, 0, 803),
   (121, .iload 5, 123, 0, .null, 5, 0, 0, 0),
   (123, .iaload, 124, 0, .null, 0, 0, 0, 0),
   (124, .ior, 125, 0, .null, 0, 0, 0, 0),
   (125, .istore 4, 127, 0, .null, 4, 0, 0, 0),
   (127, .iinc 5 1, 130, 7, .int 1, 5, 0, 0, 0)],
  [(130, .goto (-35), 133, 0, .null, 95, 0, 0, 0),
   (133, .aload_n 0, 134, 0, .null, 0, 0, 0, 0),
   (134, .getfield 19, 137, 0, .null, 9, 6, 0, 803),
   (137, .iload_n 2, 138, 0, .null, 2, 0, 0, 0),
   (138, .iload 4, 140, 0, .null, 4, 0, 0, 0),
   (140, .iastore, 141, 0, .null, 0, 0, 0, 0),
   (141, .iinc 2 1, 144, 4, .int 1, 2, 0, 0, 0)],
  [(144, .goto (-113), 147, 0, .null, 31, 0, 0, 0),
   (147, .iinc 1 1, 150, 0, .int 1, 1, 0, 0, 0),
   (150, .goto (-127), 153, 0, .null, 23, 0, 0, 0),
   (153, .return_, 154, 0, .null, 0, 0, 0, 0)]]
def am_t104 : List (List (Nat × am_E)) := [
  [(0, .aload_n 0, 1, 0, .null, 0, 0, 0, 0),
   (1, .iconst 1, 2, 0, .int 1, 0, 0, 0, 0),
   (2, .putfield 71, 5, 0, .null, 9, 2, 0, 799),
   (5, .iload_n 1, 6, 0, .null, 1, 0, 0, 0),
   (6, .iconst 0, 7, 0, .int 0, 0, 0, 0, 0),
   (7, .bipush 31, 9, 0, .int 31, 0, 0, 0, 0),
   (9, .invokestatic 91, 12, 0, .ref 3, 118, 0, 3, 930),
   (12, .ifCond .ne 5, 15, 0, .null, 17, 0, 0, 0),
   (15, .iconst 0, 16, 0, .int 0, 0, 0, 0, 0)],
  [(16, .ireturn, 17, 0, .null, 0, 0, 0, 0),
   (17, .aload_n 0, 18, 0, .null, 0, 0, 0, 0),
   (18, .invokevirtual 154, 21, 0, .ref 5, 98, 9, 0, 986),
   (21, .aload_n 0, 22, 0, .null, 0, 0, 0, 0),
   (22, .getfield 59, 25, 0, .null, 9, 25, 0, 822),
   (25, .iload_n 1, 26, 0, .null, 1, 0, 0, 0),
   (26, .iaload, 27, 0, .null, 0, 0, 0, 0),
   (27, .iconst 1, 28, 0, .int 1, 0, 0, 0, 0),
   (28, .iload_n 1, 29, 0, .null, 1, 0, 0, 0),
   (29, .ishl, 30, 0, .null, 0, 0, 0, 0),
   (30, .ior, 31, 0, .null, 0, 0, 0, 0),
   (31, .istore_n 2, 32, 0, .null, 2, 0, 0, 0)],
  [(32, .iconst 0, 33, 0, .int 0, 0, 0, 0, 0),
   (33, .istore_n 3, 34, 0, .null, 3, 0, 0, 0),
   (34, .iconst 0, 35, 0, .int 0, 0, 0, 0, 0),
   (35, .istore 4, 37, 0, .null, 4, 0, 0, 0),
   (37, .iconst 0, 38, 0, .int 0, 0, 0, 0, 0),
   (38, .istore 5, 40, 0, .null, 5, 0, 0, 0),
   (40, .iload 5, 42, 7, .null, 5, 0, 0, 0),
   (42, .bipush 32, 44, 0, .int 32, 0, 0, 0, 0),
   (44, .if_icmp .ge 30, 47, 0, .null, 74, 0, 0, 0),
   (47, .aload_n 0, 48, 0, .null, 0, 0, 0, 0)],
  [(48, .getfield 53, 51, 0, .null, 9, 21, 0, 818),
   (51, .iload 5, 53, 0, .null, 5, 0, 0, 0),
   (53, .iaload, 54, 0, .null, 0, 0, 0, 0),
   (54, .iload 4, 56, 0, .null, 4, 0, 0, 0),
   (56, .if_icmp .le 12, 59, 0, .null, 68, 0, 0, 0),
   (59, .aload_n 0, 60, 0, .null, 0, 0, 0, 0),
   (60, .getfield 53, 63, 0, .null, 9, 21, 0, 818),
   (63, .iload 5, 65, 0, .null, 5, 0, 0, 0)],
  [(65, .iaload, 66, 0, .null, 0, 0, 0, 0),
   (66, .istore 4, 68, 0, .null, 4, 0, 0, 0),
   (68, .iinc 5 1, 71, 7, .int 1, 5, 0, 0, 0),
   (71, .goto (-31), 74, 0, .null, 40, 0, 0, 0),
   (74, .aload_n 0, 75, 0, .null, 0, 0, 0, 0),
   (75, .iconst 2, 76, 0, .int 2, 0, 0, 0, 0),
   (76, .putfield 71, 79, 0, .null, 9, 2, 0, 799),
   (79, .iconst 0, 80, 0, .int 0, 0, 0, 0, 0)],
  [(80, .istore 5, 82, 0, .null, 5, 0, 0, 0),
   (82, .iload 5, 84, 7, .null, 5, 0, 0, 0),
   (84, .bipush 32, 86, 0, .int 32, 0, 0, 0, 0),
   (86, .if_icmp .ge 35, 89, 0, .null, 121, 0, 0, 0),
   (89, .iload_n 2, 90, 0, .null, 2, 0, 0, 0),
   (90, .iload 5, 92, 0, .null, 5, 0, 0, 0),
   (92, .invokestatic 144, 95, 0, .ref 2, 99, 0, 2, 994),
   (95, .ifCond .eq 20, 98, 0, .null, 115, 0, 0, 0)],
  [(98, .aload_n 0, 99, 0, .null, 0, 0, 0, 0),
   (99, .getfield 59, 102, 0, .null, 9, 25, 0, 822),
   (102, .iload 5, 104, 0, .null, 5, 0, 0, 0),
   (104, .iaload, 105, 0, .null, 0, 0, 0, 0),
   (105, .iload 5, 107, 0, .null, 5, 0, 0, 0),
   (107, .invokestatic 144, 110, 0, .ref 2, 99, 0, 2, 994),
   (110, .ifCond .eq 5, 113, 0, .null, 115, 0, 0, 0)],
  [(113, .iconst 0, 114, 0, .int 0, 0, 0, 0, 0),
   (114, .ireturn, 115, 0, .null, 0, 0, 0, 0),
   (115, .iinc 5 1, 118, 7, .int 1, 5, 0, 0, 0),
   (118, .goto (-36), 121, 0, .null, 82, 0, 0, 0),
   (121, .aload_n 0, 122, 0, .null, 0, 0, 0, 0),
   (122, .iconst 3, 123, 0, .int 3, 0, 0, 0, 0),
   (123, .putfield 71, 126, 0, .null, 9, 2, 0, 799),
   (126, .iconst 0, 127, 0, .int 0, 0, 0, 0, 0),
   (127, .istore 5, 129, 0, .null, 5, 0, 0, 0)],
  [(129, .iload 5, 131, 7, .null, 5, 0, 0, 0),
   (131, .bipush 32, 133, 0, .int 32, 0, 0, 0, 0),
   (133, .if_icmp .ge 42, 136, 0, .null, 175, 0, 0, 0),
   (136, .iload_n 2, 137, 0, .null, 2, 0, 0, 0),
   (137, .iload 5, 139, 0, .null, 5, 0, 0, 0),
   (139, .invokestatic 144, 142, 0, .ref 2, 99, 0, 2, 994),
   (142, .ifCond .eq 27, 145, 0, .null, 169, 0, 0, 0)],
  [(145, .aload_n 0, 146, 0, .null, 0, 0, 0, 0),
   (146, .getfield 151, 149, 0, .null, 9, 23, 0, 820),
   (149, .iload 5, 151, 0, .null, 5, 0, 0, 0),
   (151, .invokestatic 144, 154, 0, .ref 2, 99, 0, 2, 994),
   (154, .ifCond .ne 15, 157, 0, .null, 169, 0, 0, 0),
   (157, .aload_n 0, 158, 0, .null, 0, 0, 0, 0),
   (158, .getfield 53, 161, 0, .null, 9, 21, 0, 818)],
  [(161, .iload 5, 163, 0, .null, 5, 0, 0, 0),
   (163, .iaload, 164, 0, .null, 0, 0, 0, 0),
   (164, .ifCond .ne 5, 167, 0, .null, 169, 0, 0, 0),
   (167, .iconst 0, 168, 0, .int 0, 0, 0, 0, 0),
   (168, .ireturn, 169, 0, .null, 0, 0, 0, 0),
   (169, .iinc 5 1, 172, 7, .int 1, 5, 0, 0, 0),
   (172, .goto (-43), 175, 0, .null, 129, 0, 0, 0),
   (175, .aload_n 0, 176, 0, .null, 0, 0, 0, 0)],
  [(176, .iload_n 2, 177, 0, .null, 2, 0, 0, 0),
   (177, .invokevirtual 157, 180, 0, .ref 7, 108, 9, 1, 997),
   (180, .iconst 0, 181, 0, .int 0, 0, 0, 0, 0),
   (181, .istore 5, 183, 0, .null, 5, 0, 0, 0),
   (183, .iconst 0, 184, 0, .int 0, 0, 0, 0, 0),
   (184, .istore 6, 186, 0, .null, 6, 0, 0, 0),
   (186, .iload 6, 188, 8, .null, 6, 0, 0, 0),
   (188, .bipush 32, 190, 0, .int 32, 0, 0, 0, 0),
   (190, .if_icmp .ge 32, 193, 0, .null, 222, 0, 0, 0)],
  [(193, .aload_n 0, 194, 0, .null, 0, 0, 0, 0),
   (194, .getfield 62, 197, 0, .null, 9, 26, 0, 823),
   (197, .iload 6, 199, 0, .null, 6, 0, 0, 0),
   (199, .iaload, 200, 0, .null, 0, 0, 0, 0),
   (200, .ifCond .ne 6, 203, 0, .null, 206, 0, 0, 0),
   (203, .goto 13, 206, 0, .null, 216, 0, 0, 0),
   (206, .iload_n 3, 207, 0, .null, 3, 0, 0, 0),
   (207, .iconst 1, 208, 0, .int 1, 0, 0, 0, 0)],
  [(208, .iload 6, 210, 0, .null, 6, 0, 0, 0),
   (210, .ishl, 211, 0, .null, 0, 0, 0, 0),
   (211, .ior, 212, 0, .null, 0, 0, 0, 0),
   (212, .istore_n 3, 213, 0, .null, 3, 0, 0, 0),
   (213, .iinc 5 1, 216, 0, .int 1, 5, 0, 0, 0),
   (216, .iinc 6 1, 219, 8, .int 1, 6, 0, 0, 0),
   (219, .goto (-33), 222, 0, .null, 186, 0, 0, 0),
   (222, .aload_n 0, 223, 0, .null, 0, 0, 0, 0),
   (223, .iconst 4, 224, 0, .int 4, 0, 0, 0, 0)],
  [(224, .putfield 71, 227, 0, .null, 9, 2, 0, 799),
   (227, .iload 5, 229, 0, .null, 5, 0, 0, 0),
   (229, .ifCond .le 15, 232, 0, .null, 244, 0, 0, 0),
   (232, .iload 4, 234, 0, .null, 4, 0, 0, 0),
   (234, .iload 5, 236, 0, .null, 5, 0, 0, 0),
   (236, .iadd, 237, 0, .null, 0, 0, 0, 0),
   (237, .ldc 140, 239, 0, .int 1000000000, 0, 0, 0, 977),
   (239, .if_icmp .le 5, 242, 0, .null, 244, 0, 0, 0)],
  [(242, .iconst 0, 243, 0, .int 0, 0, 0, 0, 0),
   (243, .ireturn, 244, 0, .null, 0, 0, 0, 0),
   (244, .aload_n 0, 245, 7, .null, 0, 0, 0, 0),
   (245, .iconst 0, 246, 0, .int 0, 0, 0, 0, 0),
   (246, .putfield 71, 249, 0, .null, 9, 2, 0, 799),
   (249, .aload_n 0, 250, 0, .null, 0, 0, 0, 0),
   (250, .iconst 0, 251, 0, .int 0, 0, 0, 0, 0),
   (251, .putfield 161, 254, 0, .null, 9, 28, 0, 825),
   (254, .iconst 0, 255, 0, .int 0, 0, 0, 0, 0),
   (255, .istore 6, 257, 0, .null, 6, 0, 0, 0)],
  [(257, .iload 6, 259, 8, .null, 6, 0, 0, 0),
   (259, .bipush 32, 261, 0, .int 32, 0, 0, 0, 0),
   (261, .if_icmp .ge 23, 264, 0, .null, 284, 0, 0, 0),
   (264, .aload_n 0, 265, 0, .null, 0, 0, 0, 0),
   (265, .getfield 68, 268, 0, .null, 9, 29, 0, 826),
   (268, .iload 6, 270, 0, .null, 6, 0, 0, 0),
   (270, .aload_n 0, 271, 0, .null, 0, 0, 0, 0),
   (271, .getfield 62, 274, 0, .null, 9, 26, 0, 823)],
  [(274, .iload 6, 276, 0, .null, 6, 0, 0, 0),
   (276, .iaload, 277, 0, .null, 0, 0, 0, 0),
   (277, .iastore, 278, 0, .null, 0, 0, 0, 0),
   (278, .iinc 6 1, 281, 0, .int 1, 6, 0, 0, 0),
   (281, .goto (-24), 284, 0, .null, 257, 0, 0, 0),
   (284, .iconst 0, 285, 0, .int 0, 0, 0, 0, 0),
   (285, .istore 6, 287, 0, .null, 6, 0, 0, 0),
   (287, .iload 6, 289, 8, .null, 6, 0, 0, 0)],
  [(289, .iload 5, 291, 0, .null, 5, 0, 0, 0),
   (291, .if_icmp .ge 90, 294, 0, .null, 381, 0, 0, 0),
   (294, .iconst 0, 295, 0, .int 0, 0, 0, 0, 0),
   (295, .istore 7, 297, 0, .null, 7, 0, 0, 0),
   (297, .iload 7, 299, 9, .null, 7, 0, 0, 0),
   (299, .bipush 31, 301, 0, .int 31, 0, 0, 0, 0),
   (301, .if_icmp .ge 30, 304, 0, .null, 331, 0, 0, 0)],
  [(304, .iload_n 3, 305, 0, .null, 3, 0, 0, 0),
   (305, .iload 7, 307, 0, .null, 7, 0, 0, 0),
   (307, .invokestatic 144, 310, 0, .ref 2, 99, 0, 2, 994),
   (310, .ifCond .eq 15, 313, 0, .null, 325, 0, 0, 0),
   (313, .aload_n 0, 314, 0, .null, 0, 0, 0, 0),
   (314, .getfield 59, 317, 0, .null, 9, 25, 0, 822),
   (317, .iload 7, 319, 0, .null, 7, 0, 0, 0),
   (319, .iaload, 320, 0, .null, 0, 0, 0, 0)],
  [(320, .iload_n 3, 321, 0, .null, 3, 0, 0, 0),
   (321, .iand, 322, 0, .null, 0, 0, 0, 0),
   (322, .ifCond .eq 9, 325, 0, .null, 331, 0, 0, 0),
   (325, .iinc 7 1, 328, 9, .int 1, 7, 0, 0, 0),
   (328, .goto (-31), 331, 0, .null, 297, 0, 0, 0),
   (331, .iload_n 3, 332, 9, .null, 3, 0, 0, 0),
   (332, .iconst 1, 333, 0, .int 1, 0, 0, 0, 0),
   (333, .iload 7, 335, 0, .null, 7, 0, 0, 0),
   (335, .ishl, 336, 0, .null, 0, 0, 0, 0)],
  [(336, .iconst (-1), 337, 0, .int (-1), 0, 0, 0, 0),
   (337, .ixor, 338, 0, .null, 0, 0, 0, 0),
   (338, .iand, 339, 0, .null, 0, 0, 0, 0),
   (339, .istore_n 3, 340, 0, .null, 3, 0, 0, 0),
   (340, .aload_n 0, 341, 0, .null, 0, 0, 0, 0),
   (341, .getfield 65, 344, 0, .null, 9, 27, 0, 824),
   (344, .aload_n 0, 345, 0, .null, 0, 0, 0, 0),
   (345, .getfield 161, 348, 0, .null, 9, 28, 0, 825),
   (348, .iload 7, 350, 0, .null, 7, 0, 0, 0),
   (350, .iastore, 351, 0, .null, 0, 0, 0, 0),
   (351, .aload_n 0, 352, 0, .null, 0, 0, 0, 0)],
  [(352, .dup, 353, 0, .null, 0, 0, 0, 0),
   (353, .getfield 161, 356, 0, .null, 9, 28, 0, 825),
   (356, .iconst 1, 357, 0, .int 1, 0, 0, 0, 0),
   (357, .iadd, 358, 0, .null, 0, 0, 0, 0),
   (358, .putfield 161, 361, 0, .null, 9, 28, 0, 825),
   (361, .aload_n 0, 362, 0, .null, 0, 0, 0, 0),
   (362, .getfield 53, 365, 0, .null, 9, 21, 0, 818),
   (365, .iload 7, 367, 0, .null, 7, 0, 0, 0),
   (367, .iload 4, 369, 0, .null, 4, 0, 0, 0)],
  [(369, .aload_n 0, 370, 0, .null, 0, 0, 0, 0),
   (370, .getfield 161, 373, 0, .null, 9, 28, 0, 825),
   (373, .iadd, 374, 0, .null, 0, 0, 0, 0),
   (374, .iastore, 375, 0, .null, 0, 0, 0, 0),
   (375, .iinc 6 1, 378, 0, .int 1, 6, 0, 0, 0),
   (378, .goto (-91), 381, 0, .null, 287, 0, 0, 0),
   (381, .iload 5, 383, 0, .null, 5, 0, 0, 0),
   (383, .ireturn, 384, 0, .null, 0, 0, 0, 0)]]
def am_t105 : List (List (Nat × am_E)) := [
  [(0, .aload_n 0, 1, 0, .null, 0, 0, 0, 0),
   (1, .iconst 0, 2, 0, .int 0, 0, 0, 0, 0),
   (2, .putfield 71, 5, 0, .null, 9, 2, 0, 799),
   (5, .iload_n 1, 6, 0, .null, 1, 0, 0, 0),
   (6, .iconst 0, 7, 0, .int 0, 0, 0, 0, 0),
   (7, .aload_n 0, 8, 0, .null, 0, 0, 0, 0),
   (8, .getfield 161, 11, 0, .null, 9, 28, 0, 825),
   (11, .iconst 1, 12, 0, .int 1, 0, 0, 0, 0),
   (12, .isub, 13, 0, .null, 0, 0, 0, 0),
   (13, .invokestatic 91, 16, 0, .ref 3, 118, 0, 3, 930)],
  [(16, .ifCond .eq 12, 19, 0, .null, 28, 0, 0, 0),
   (19, .aload_n 0, 20, 0, .null, 0, 0, 0, 0),
   (20, .getfield 65, 23, 0, .null, 9, 27, 0, 824),
   (23, .iload_n 1, 24, 0, .null, 1, 0, 0, 0),
   (24, .iaload, 25, 0, .null, 0, 0, 0, 0),
   (25, .goto 4, 28, 0, .null, 29, 0, 0, 0),
   (28, .iconst (-1), 29, 0, .int (-1), 0, 0, 0, 0),
   (29, .ireturn, 30, 1, .null, 0, 0, 0, 0)]]
def am_t106 : List (List (Nat × am_E)) := [
  [(0, .aload_n 0, 1, 0, .null, 0, 0, 0, 0),
   (1, .iconst 0, 2, 0, .int 0, 0, 0, 0, 0),
   (2, .putfield 71, 5, 0, .null, 9, 2, 0, 799),
   (5, .aload_n 0, 6, 0, .null, 0, 0, 0, 0),
   (6, .invokevirtual 117, 9, 0, .ref 7, 102, 9, 0, 918),
   (9, .istore_n 1, 10, 0, .null, 1, 0, 0, 0),
   (10, .iload_n 1, 11, 0, .null, 1, 0, 0, 0),
   (11, .ifCond .le 10, 14, 0, .null, 21, 0, 0, 0),
   (14, .aload_n 0, 15, 0, .null, 0, 0, 0, 0),
   (15, .iconst 1, 16, 0, .int 1, 0, 0, 0, 0)],
  [(16, .iload_n 1, 17, 0, .null, 1, 0, 0, 0),
   (17, .invokevirtual 121, 20, 0, .ref 3, 95, 9, 2, 945),
   (20, .ireturn, 21, 0, .null, 0, 0, 0, 0),
   (21, .aload_n 0, 22, 0, .null, 0, 0, 0, 0),
   (22, .invokevirtual 124, 25, 0, .ref 6, 103, 9, 0, 949),
   (25, .iconst 0, 26, 0, .int 0, 0, 0, 0, 0),
   (26, .istore_n 2, 27, 0, .null, 2, 0, 0, 0),
   (27, .iload_n 2, 28, 4, .null, 2, 0, 0, 0),
   (28, .aload_n 0, 29, 0, .null, 0, 0, 0, 0),
   (29, .getfield 105, 32, 0, .null, 9, 14, 0, 811)],
  [(32, .if_icmp .ge 77, 35, 0, .null, 109, 0, 0, 0),
   (35, .aload_n 0, 36, 0, .null, 0, 0, 0, 0),
   (36, .aload_n 0, 37, 0, .null, 0, 0, 0, 0),
   (37, .getfield 28, 40, 0, .null, 9, 9, 0, 806),
   (40, .iload_n 2, 41, 0, .null, 2, 0, 0, 0),
   (41, .iaload, 42, 0, .null, 0, 0, 0, 0),
   (42, .aload_n 0, 43, 0, .null, 0, 0, 0, 0),
   (43, .getfield 31, 46, 0, .null, 9, 10, 0, 807),
   (46, .iload_n 2, 47, 0, .null, 2, 0, 0, 0),
   (47, .iaload, 48, 0, .null, 0, 0, 0, 0)],
  [(48, .invokevirtual 99, 51, 0, .ref 7, 111, 9, 2, 937),
   (51, .istore_n 3, 52, 0, .null, 3, 0, 0, 0),
   (52, .aload_n 0, 53, 0, .null, 0, 0, 0, 0),
   (53, .getfield 84, 56, 0, .null, 9, 32, 0, 829),
   (56, .istore 4, 58, 0, .null, 4, 0, 0, 0),
   (58, .aload_n 0, 59, 0, .null, 0, 0, 0, 0),
   (59, .aload_n 0, 60, 0, .null, 0, 0, 0, 0),
   (60, .getfield 31, 63, 0, .null, 9, 10, 0, 807),
   (63, .iload_n 2, 64, 0, .null, 2, 0, 0, 0)],
  [(64, .iaload, 65, 0, .null, 0, 0, 0, 0),
   (65, .iconst 1, 66, 0, .int 1, 0, 0, 0, 0),
   (66, .iadd, 67, 0, .null, 0, 0, 0, 0),
   (67, .aload_n 0, 68, 0, .null, 0, 0, 0, 0),
   (68, .getfield 34, 71, 0, .null, 9, 11, 0, 808),
   (71, .iload_n 2, 72, 0, .null, 2, 0, 0, 0),
   (72, .iaload, 73, 0, .null, 0, 0, 0, 0),
   (73, .invokevirtual 99, 76, 0, .ref 7, 111, 9, 2, 937),
   (76, .istore_n 3, 77, 0, .null, 3, 0, 0, 0),
   (77, .aload_n 0, 78, 0, .null, 0, 0, 0, 0),
   (78, .iload 4, 80, 0, .null, 4, 0, 0, 0)],
  [(80, .aload_n 0, 81, 0, .null, 0, 0, 0, 0),
   (81, .getfield 84, 84, 0, .null, 9, 32, 0, 829),
   (84, .ior, 85, 0, .null, 0, 0, 0, 0),
   (85, .invokevirtual 127, 88, 0, .ref 4, 110, 9, 1, 953),
   (88, .ifCond .eq 15, 91, 0, .null, 103, 0, 0, 0),
   (91, .aload_n 0, 92, 0, .null, 0, 0, 0, 0),
   (92, .iconst 2, 93, 0, .int 2, 0, 0, 0, 0),
   (93, .aload_n 0, 94, 0, .null, 0, 0, 0, 0),
   (94, .getfield 37, 97, 0, .null, 9, 12, 0, 809)],
  [(97, .iload_n 2, 98, 0, .null, 2, 0, 0, 0),
   (98, .iaload, 99, 0, .null, 0, 0, 0, 0),
   (99, .invokevirtual 121, 102, 0, .ref 3, 95, 9, 2, 945),
   (102, .ireturn, 103, 0, .null, 0, 0, 0, 0),
   (103, .iinc 2 1, 106, 0, .int 1, 2, 0, 0, 0),
   (106, .goto (-79), 109, 0, .null, 27, 0, 0, 0),
   (109, .iconst 0, 110, 0, .int 0, 0, 0, 0, 0),
   (110, .istore_n 2, 111, 0, .null, 2, 0, 0, 0),
   (111, .iload_n 2, 112, 4, .null, 2, 0, 0, 0)],
  [(112, .aload_n 0, 113, 0, .null, 0, 0, 0, 0),
   (113, .getfield 105, 116, 0, .null, 9, 14, 0, 811),
   (116, .if_icmp .ge 75, 119, 0, .null, 191, 0, 0, 0),
   (119, .aload_n 0, 120, 0, .null, 0, 0, 0, 0),
   (120, .aload_n 0, 121, 0, .null, 0, 0, 0, 0),
   (121, .getfield 28, 124, 0, .null, 9, 9, 0, 806),
   (124, .iload_n 2, 125, 0, .null, 2, 0, 0, 0),
   (125, .iaload, 126, 0, .null, 0, 0, 0, 0),
   (126, .aload_n 0, 127, 0, .null, 0, 0, 0, 0),
   (127, .getfield 31, 130, 0, .null, 9, 10, 0, 807)],
  [(130, .iload_n 2, 131, 0, .null, 2, 0, 0, 0),
   (131, .iaload, 132, 0, .null, 0, 0, 0, 0),
   (132, .invokevirtual 99, 135, 0, .ref 7, 111, 9, 2, 937),
   (135, .istore_n 3, 136, 0, .null, 3, 0, 0, 0),
   (136, .aload_n 0, 137, 0, .null, 0, 0, 0, 0),
   (137, .getfield 78, 140, 0, .null, 9, 30, 0, 827),
   (140, .istore 4, 142, 0, .null, 4, 0, 0, 0),
   (142, .aload_n 0, 143, 0, .null, 0, 0, 0, 0),
   (143, .aload_n 0, 144, 0, .null, 0, 0, 0, 0)],
  [(144, .getfield 31, 147, 0, .null, 9, 10, 0, 807),
   (147, .iload_n 2, 148, 0, .null, 2, 0, 0, 0),
   (148, .iaload, 149, 0, .null, 0, 0, 0, 0),
   (149, .iconst 1, 150, 0, .int 1, 0, 0, 0, 0),
   (150, .iadd, 151, 0, .null, 0, 0, 0, 0),
   (151, .aload_n 0, 152, 0, .null, 0, 0, 0, 0),
   (152, .getfield 34, 155, 0, .null, 9, 11, 0, 808),
   (155, .iload_n 2, 156, 0, .null, 2, 0, 0, 0),
   (156, .iaload, 157, 0, .null, 0, 0, 0, 0),
   (157, .invokevirtual 99, 160, 0, .ref 7, 111, 9, 2, 937)],
  [(160, .istore_n 3, 161, 0, .null, 3, 0, 0, 0),
   (161, .iload 4, 163, 0, .null, 4, 0, 0, 0),
   (163, .aload_n 0, 164, 0, .null, 0, 0, 0, 0),
   (164, .getfield 78, 167, 0, .null, 9, 30, 0, 827),
   (167, .iadd, 168, 0, .null, 0, 0, 0, 0),
   (168, .bipush 64, 170, 0, .int 64, 0, 0, 0, 0),
   (170, .if_icmp .le 15, 173, 0, .null, 185, 0, 0, 0),
   (173, .aload_n 0, 174, 0, .null, 0, 0, 0, 0),
   (174, .iconst 3, 175, 0, .int 3, 0, 0, 0, 0),
   (175, .aload_n 0, 176, 0, .null, 0, 0, 0, 0)],
  [(176, .getfield 37, 179, 0, .null, 9, 12, 0, 809),
   (179, .iload_n 2, 180, 0, .null, 2, 0, 0, 0),
   (180, .iaload, 181, 0, .null, 0, 0, 0, 0),
   (181, .invokevirtual 121, 184, 0, .ref 3, 95, 9, 2, 945),
   (184, .ireturn, 185, 0, .null, 0, 0, 0, 0),
   (185, .iinc 2 1, 188, 0, .int 1, 2, 0, 0, 0),
   (188, .goto (-77), 191, 0, .null, 111, 0, 0, 0),
   (191, .iconst 0, 192, 0, .int 0, 0, 0, 0, 0)],
  [(192, .istore_n 2, 193, 0, .null, 2, 0, 0, 0),
   (193, .iconst 0, 194, 0, .int 0, 0, 0, 0, 0),
   (194, .istore_n 3, 195, 0, .null, 3, 0, 0, 0),
   (195, .iload_n 3, 196, 5, .null, 3, 0, 0, 0),
   (196, .aload_n 0, 197, 0, .null, 0, 0, 0, 0),
   (197, .getfield 105, 200, 0, .null, 9, 14, 0, 811),
   (200, .if_icmp .ge 67, 203, 0, .null, 267, 0, 0, 0),
   (203, .aload_n 0, 204, 0, .null, 0, 0, 0, 0),
   (204, .aload_n 0, 205, 0, .null, 0, 0, 0, 0),
   (205, .getfield 28, 208, 0, .null, 9, 9, 0, 806)],
  [(208, .iload_n 3, 209, 0, .null, 3, 0, 0, 0),
   (209, .iaload, 210, 0, .null, 0, 0, 0, 0),
   (210, .aload_n 0, 211, 0, .null, 0, 0, 0, 0),
   (211, .getfield 31, 214, 0, .null, 9, 10, 0, 807),
   (214, .iload_n 3, 215, 0, .null, 3, 0, 0, 0),
   (215, .iaload, 216, 0, .null, 0, 0, 0, 0),
   (216, .invokevirtual 99, 219, 0, .ref 7, 111, 9, 2, 937),
   (219, .istore 4, 221, 0, .null, 4, 0, 0, 0),
   (221, .aload_n 0, 222, 0, .null, 0, 0, 0, 0),
   (222, .getfield 40, 225, 0, .null, 9, 13, 0, 810)],
  [(225, .iload_n 3, 226, 0, .null, 3, 0, 0, 0),
   (226, .baload, 227, 0, .null, 0, 0, 0, 0),
   (227, .ifCond .ne 6, 230, 0, .null, 233, 0, 0, 0),
   (230, .goto 31, 233, 0, .null, 261, 0, 0, 0),
   (233, .iload_n 2, 234, 0, .null, 2, 0, 0, 0),
   (234, .aload_n 0, 235, 0, .null, 0, 0, 0, 0),
   (235, .getfield 81, 238, 0, .null, 9, 31, 0, 828),
   (238, .iand, 239, 0, .null, 0, 0, 0, 0),
   (239, .ifCond .eq 15, 242, 0, .null, 254, 0, 0, 0)],
  [(242, .aload_n 0, 243, 0, .null, 0, 0, 0, 0),
   (243, .iconst 3, 244, 0, .int 3, 0, 0, 0, 0),
   (244, .aload_n 0, 245, 0, .null, 0, 0, 0, 0),
   (245, .getfield 37, 248, 0, .null, 9, 12, 0, 809),
   (248, .iload_n 3, 249, 0, .null, 3, 0, 0, 0),
   (249, .iaload, 250, 0, .null, 0, 0, 0, 0),
   (250, .invokevirtual 121, 253, 0, .ref 3, 95, 9, 2, 945),
   (253, .ireturn, 254, 0, .null, 0, 0, 0, 0),
   (254, .iload_n 2, 255, 0, .null, 2, 0, 0, 0),
   (255, .aload_n 0, 256, 0, .null, 0, 0, 0, 0)],
  [(256, .getfield 81, 259, 0, .null, 9, 31, 0, 828),
   (259, .ior, 260, 0, .null, 0, 0, 0, 0),
   (260, .istore_n 2, 261, 0, .null, 2, 0, 0, 0),
   (261, .iinc 3 1, 264, 5, .int 1, 3, 0, 0, 0),
   (264, .goto (-69), 267, 0, .null, 195, 0, 0, 0),
   (267, .aload_n 0, 268, 0, .null, 0, 0, 0, 0),
   (268, .invokevirtual 131, 271, 0, .ref 5, 116, 9, 0, 957),
   (271, .aload_n 0, 272, 0, .null, 0, 0, 0, 0)],
  [(272, .iload_n 2, 273, 0, .null, 2, 0, 0, 0),
   (273, .putfield 134, 276, 0, .null, 9, 18, 0, 815),
   (276, .aload_n 0, 277, 0, .null, 0, 0, 0, 0),
   (277, .iconst 0, 278, 0, .int 0, 0, 0, 0, 0),
   (278, .putfield 114, 281, 0, .null, 9, 3, 0, 800),
   (281, .aload_n 0, 282, 0, .null, 0, 0, 0, 0),
   (282, .getfield 105, 285, 0, .null, 9, 14, 0, 811),
   (285, .ireturn, 286, 0, .null, 0, 0, 0, 0)]]
def am_t107 : List (List (Nat × am_E)) := [
  [(0, .aload_n 0, 1, 0, .null, 0, 0, 0, 0),
   (1, .iconst 0, 2, 0, .int 0, 0, 0, 0, 0),
   (2, .putfield 71, 5, 0, .null, 9, 2, 0, 799),
   (5, .iload_n 1, 6, 0, .null, 1, 0, 0, 0),
   (6, .iconst 0, 7, 0, .int 0, 0, 0, 0, 0),
   (7, .bipush 31, 9, 0, .int 31, 0, 0, 0, 0),
   (9, .invokestatic 91, 12, 0, .ref 3, 118, 0, 3, 930),
   (12, .ifCond .eq 12, 15, 0, .null, 24, 0, 0, 0),
   (15, .aload_n 0, 16, 0, .null, 0, 0, 0, 0)],
  [(16, .getfield 68, 19, 0, .null, 9, 29, 0, 826),
   (19, .iload_n 1, 20, 0, .null, 1, 0, 0, 0),
   (20, .iaload, 21, 0, .null, 0, 0, 0, 0),
   (21, .goto 4, 24, 0, .null, 25, 0, 0, 0),
   (24, .iconst (-1), 25, 0, .int (-1), 0, 0, 0, 0),
   (25, .ireturn, 26, 1, .null, 0, 0, 0, 0)]]
def am_t108 : List (List (Nat × am_E)) := [
  [(0, .iconst 0, 1, 0, .int 0, 0, 0, 0, 0),
   (1, .istore_n 2, 2, 0, .null, 2, 0, 0, 0),
   (2, .iload_n 2, 3, 4, .null, 2, 0, 0, 0),
   (3, .bipush 32, 5, 0, .int 32, 0, 0, 0, 0),
   (5, .if_icmp .ge 16, 8, 0, .null, 21, 0, 0, 0),
   (8, .aload_n 0, 9, 0, .null, 0, 0, 0, 0),
   (9, .getfield 62, 12, 0, .null, 9, 26, 0, 823),
   (12, .iload_n 2, 13, 0, .null, 2, 0, 0, 0),
   (13, .iconst 0, 14, 0, .int 0, 0, 0, 0, 0),
   (14, .iastore, 15, 0, .null, 0, 0, 0, 0),
   (15, .iinc 2 1, 18, 0, .int 1, 2, 0, 0, 0)],
  [(18, .goto (-16), 21, 0, .null, 2, 0, 0, 0),
   (21, .iconst 0, 22, 0, .int 0, 0, 0, 0, 0),
   (22, .istore_n 2, 23, 0, .null, 2, 0, 0, 0),
   (23, .iload_n 2, 24, 4, .null, 2, 0, 0, 0),
   (24, .bipush 33, 26, 0, .int 33, 0, 0, 0, 0),
   (26, .if_icmp .ge 154, 29, 0, .null, 180, 0, 0, 0),
   (29, .iconst 0, 30, 0, .int 0, 0, 0, 0, 0),
   (30, .istore_n 3, 31, 0, .null, 3, 0, 0, 0),
   (31, .iload_n 3, 32, 5, .null, 3, 0, 0, 0)],
  [(32, .bipush 32, 34, 0, .int 32, 0, 0, 0, 0),
   (34, .if_icmp .ge 140, 37, 0, .null, 174, 0, 0, 0),
   (37, .iload_n 1, 38, 0, .null, 1, 0, 0, 0),
   (38, .iload_n 3, 39, 0, .null, 3, 0, 0, 0),
   (39, .invokestatic 144, 42, 0, .ref 2, 99, 0, 2, 994),
   (42, .ifCond .eq 126, 45, 0, .null, 168, 0, 0, 0),
   (45, .aload_n 0, 46, 0, .null, 0, 0, 0, 0),
   (46, .getfield 151, 49, 0, .null, 9, 23, 0, 820)],
  [(49, .iload_n 3, 50, 0, .null, 3, 0, 0, 0),
   (50, .invokestatic 144, 53, 0, .ref 2, 99, 0, 2, 994),
   (53, .ifCond .ne 6, 56, 0, .null, 59, 0, 0, 0),
   (56, .goto 112, 59, 0, .null, 168, 0, 0, 0),
   (59, .iconst 0, 60, 0, .int 0, 0, 0, 0, 0),
   (60, .istore 4, 62, 0, .null, 4, 0, 0, 0),
   (62, .iconst 0, 63, 0, .int 0, 0, 0, 0, 0),
   (63, .istore 5, 65, 0, .null, 5, 0, 0, 0)],
  [(65, .iconst 0, 66, 0, .int 0, 0, 0, 0, 0),
   (66, .istore 6, 68, 0, .null, 6, 0, 0, 0),
   (68, .iload 6, 70, 8, .null, 6, 0, 0, 0),
   (70, .bipush 32, 72, 0, .int 32, 0, 0, 0, 0),
   (72, .if_icmp .ge 58, 75, 0, .null, 130, 0, 0, 0),
   (75, .aload_n 0, 76, 0, .null, 0, 0, 0, 0),
   (76, .getfield 56, 79, 0, .null, 9, 24, 0, 821),
   (79, .iload_n 3, 80, 0, .null, 3, 0, 0, 0)],
  [(80, .iaload, 81, 0, .null, 0, 0, 0, 0),
   (81, .iload 6, 83, 0, .null, 6, 0, 0, 0),
   (83, .invokestatic 144, 86, 0, .ref 2, 99, 0, 2, 994),
   (86, .ifCond .ne 6, 89, 0, .null, 92, 0, 0, 0),
   (89, .goto 35, 92, 0, .null, 124, 0, 0, 0),
   (92, .aload_n 0, 93, 0, .null, 0, 0, 0, 0),
   (93, .getfield 62, 96, 0, .null, 9, 26, 0, 823)],
  [(96, .iload 6, 98, 0, .null, 6, 0, 0, 0),
   (98, .iaload, 99, 0, .null, 0, 0, 0, 0),
   (99, .ifCond .le 6, 102, 0, .null, 105, 0, 0, 0),
   (102, .iconst 1, 103, 0, .int 1, 0, 0, 0, 0),
   (103, .istore 4, 105, 0, .null, 4, 0, 0, 0),
   (105, .aload_n 0, 106, 8, .null, 0, 0, 0, 0),
   (106, .getfield 53, 109, 0, .null, 9, 21, 0, 818),
   (109, .iload 6, 111, 0, .null, 6, 0, 0, 0),
   (111, .iaload, 112, 0, .null, 0, 0, 0, 0)],
  [(112, .aload_n 0, 113, 0, .null, 0, 0, 0, 0),
   (113, .getfield 53, 116, 0, .null, 9, 21, 0, 818),
   (116, .iload_n 3, 117, 0, .null, 3, 0, 0, 0),
   (117, .iaload, 118, 0, .null, 0, 0, 0, 0),
   (118, .if_icmp .le 6, 121, 0, .null, 124, 0, 0, 0),
   (121, .iconst 1, 122, 0, .int 1, 0, 0, 0, 0),
   (122, .istore 5, 124, 0, .null, 5, 0, 0, 0),
   (124, .iinc 6 1, 127, 8, .int 1, 6, 0, 0, 0),
   (127, .goto (-59), 130, 0, .null, 68, 0, 0, 0)],
  [(130, .aload_n 0, 131, 0, .null, 0, 0, 0, 0),
   (131, .getfield 62, 134, 0, .null, 9, 26, 0, 823),
   (134, .iload_n 3, 135, 0, .null, 3, 0, 0, 0),
   (135, .aload_n 0, 136, 0, .null, 0, 0, 0, 0),
   (136, .getfield 53, 139, 0, .null, 9, 21, 0, 818),
   (139, .iload_n 3, 140, 0, .null, 3, 0, 0, 0),
   (140, .iaload, 141, 0, .null, 0, 0, 0, 0),
   (141, .ifCond .ne 7, 144, 0, .null, 148, 0, 0, 0)],
  [(144, .iconst 1, 145, 0, .int 1, 0, 0, 0, 0),
   (145, .goto 22, 148, 0, .null, 167, 0, 0, 0),
   (148, .iload 4, 150, 0, .null, 4, 0, 0, 0),
   (150, .ifCond .eq 7, 153, 0, .null, 157, 0, 0, 0),
   (153, .iconst 2, 154, 0, .int 2, 0, 0, 0, 0),
   (154, .goto 13, 157, 0, .null, 167, 0, 0, 0),
   (157, .iload 5, 159, 0, .null, 5, 0, 0, 0),
   (159, .ifCond .eq 7, 162, 0, .null, 166, 0, 0, 0)],
  [(162, .iconst 3, 163, 0, .int 3, 0, 0, 0, 0),
   (163, .goto 4, 166, 0, .null, 167, 0, 0, 0),
   (166, .iconst 0, 167, 0, .int 0, 0, 0, 0, 0),
   (167, .iastore, 168, 5, .null, 0, 0, 0, 0),
   (168, .iinc 3 1, 171, 5, .int 1, 3, 0, 0, 0),
   (171, .goto (-140), 174, 0, .null, 31, 0, 0, 0),
   (174, .iinc 2 1, 177, 0, .int 1, 2, 0, 0, 0)],
  [(177, .goto (-154), 180, 0, .null, 23, 0, 0, 0),
   (180, .return_, 181, 0, .null, 0, 0, 0, 0)]]
def am_t109 : List (List (Nat × am_E)) := [
  [(0, .aload_n 0, 1, 0, .null, 0, 0, 0, 0),
   (1, .iconst 0, 2, 0, .int 0, 0, 0, 0, 0),
   (2, .putfield 71, 5, 0, .null, 9, 2, 0, 799),
   (5, .iload_n 1, 6, 0, .null, 1, 0, 0, 0),
   (6, .iconst 0, 7, 0, .int 0, 0, 0, 0, 0),
   (7, .bipush 31, 9, 0, .int 31, 0, 0, 0, 0),
   (9, .invokestatic 91, 12, 0, .ref 3, 118, 0, 3, 930),
   (12, .ifCond .eq 14, 15, 0, .null, 26, 0, 0, 0),
   (15, .aload_n 0, 16, 0, .null, 0, 0, 0, 0)],
  [(16, .getfield 134, 19, 0, .null, 9, 18, 0, 815),
   (19, .iload_n 1, 20, 0, .null, 1, 0, 0, 0),
   (20, .ishr, 21, 0, .null, 0, 0, 0, 0),
   (21, .iconst 1, 22, 0, .int 1, 0, 0, 0, 0),
   (22, .iand, 23, 0, .null, 0, 0, 0, 0),
   (23, .goto 4, 26, 0, .null, 27, 0, 0, 0),
   (26, .iconst (-1), 27, 0, .int (-1), 0, 0, 0, 0),
   (27, .ireturn, 28, 1, .null, 0, 0, 0, 0)]]
def am_t110 : List (List (Nat × am_E)) := [
  [(0, .iload_n 1, 1, 0, .null, 1, 0, 0, 0),
   (1, .istore_n 2, 2, 0, .null, 2, 0, 0, 0),
   (2, .iconst 0, 3, 0, .int 0, 0, 0, 0, 0),
   (3, .istore_n 3, 4, 0, .null, 3, 0, 0, 0),
   (4, .iload_n 3, 5, 5, .null, 3, 0, 0, 0),
   (5, .bipush 26, 7, 0, .int 26, 0, 0, 0, 0),
   (7, .if_icmp .ge 27, 10, 0, .null, 34, 0, 0, 0),
   (10, .iload_n 1, 11, 0, .null, 1, 0, 0, 0),
   (11, .iload_n 3, 12, 0, .null, 3, 0, 0, 0),
   (12, .ishr, 13, 0, .null, 0, 0, 0, 0),
   (13, .iconst 1, 14, 0, .int 1, 0, 0, 0, 0),
   (14, .iand, 15, 0, .null, 0, 0, 0, 0),
   (15, .iconst 1, 16, 0, .int 1, 0, 0, 0, 0)],
  [(16, .if_icmp .ne 12, 19, 0, .null, 28, 0, 0, 0),
   (19, .iload_n 2, 20, 0, .null, 2, 0, 0, 0),
   (20, .aload_n 0, 21, 0, .null, 0, 0, 0, 0),
   (21, .getfield 19, 24, 0, .null, 9, 6, 0, 803),
   (24, .iload_n 3, 25, 0, .null, 3, 0, 0, 0),
   (25, .iaload, 26, 0, .null, 0, 0, 0, 0),
   (26, .ior, 27, 0, .null, 0, 0, 0, 0),
   (27, .istore_n 2, 28, 0, .null, 2, 0, 0, 0),
   (28, .iinc 3 1, 31, 5, .int 1, 3, 0, 0, 0),
   (31, .goto (-27), 34, 0, .null, 4, 0, 0, 0)],
  [(34, .iconst 0, 35, 0, .int 0, 0, 0, 0, 0),
   (35, .istore_n 3, 36, 0, .null, 3, 0, 0, 0),
   (36, .iload_n 3, 37, 5, .null, 3, 0, 0, 0),
   (37, .bipush 26, 39, 0, .int 26, 0, 0, 0, 0),
   (39, .if_icmp .ge 34, 42, 0, .null, 73, 0, 0, 0),
   (42, .iload_n 2, 43, 0, .null, 2, 0, 0, 0),
   (43, .iload_n 3, 44, 0, .null, 3, 0, 0, 0),
   (44, .ishr, 45, 0, .null, 0, 0, 0, 0),
   (45, .iconst 1, 46, 0, .int 1, 0, 0, 0, 0),
   (46, .iand, 47, 0, .null, 0, 0, 0, 0),
   (47, .iconst 1, 48, 0, .int 1, 0, 0, 0, 0)],
  [(48, .if_icmp .ne 19, 51, 0, .null, 67, 0, 0, 0),
   (51, .aload_n 0, 52, 0, .null, 0, 0, 0, 0),
   (52, .getfield 19, 55, 0, .null, 9, 6, 0, 803),
   (55, .iload_n 3, 56, 0, .null, 3, 0, 0, 0),
   (56, .iaload, 57, 0, .null, 0, 0, 0, 0),
   (57, .iload_n 3, 58, 0, .null, 3, 0, 0, 0),
   (58, .ishr, 59, 0, .null, 0, 0, 0, 0),
   (59, .iconst 1, 60, 0, .int 1, 0, 0, 0, 0),
   (60, .iand, 61, 0, .null, 0, 0, 0, 0),
   (61, .iconst 1, 62, 0, .int 1, 0, 0, 0, 0),
   (62, .if_icmp .ne 5, 65, 0, .null, 67, 0, 0, 0)],
  [(65, .iconst 1, 66, 0, .int 1, 0, 0, 0, 0),
   (66, .ireturn, 67, 0, .null, 0, 0, 1, 0),
   (67, .iinc 3 1, 70, 5, .int 1, 3, 0, 0, 0),
   (70, .goto (-34), 73, 0, .null, 36, 0, 0, 0),
   (73, .iconst 0, 74, 0, .int 0, 0, 0, 0, 0),
   (74, .ireturn, 75, 0, .null, 0, 0, 1, 0)]]
def am_t111 : List (List (Nat × am_E)) := [
  [(0, .aload_n 0, 1, 0, .null, 0, 0, 0, 0),
   (1, .iconst 0, 2, 0, .int 0, 0, 0, 0, 0),
   (2, .putfield 78, 5, 0, .null, 9, 30, 0, 827),
   (5, .aload_n 0, 6, 0, .null, 0, 0, 0, 0),
   (6, .iconst 0, 7, 0, .int 0, 0, 0, 0, 0),
   (7, .putfield 81, 10, 0, .null, 9, 31, 0, 828),
   (10, .aload_n 0, 11, 0, .null, 0, 0, 0, 0),
   (11, .iconst 0, 12, 0, .int 0, 0, 0, 0, 0),
   (12, .putfield 84, 15, 0, .null, 9, 32, 0, 829),
   (15, .iload_n 1, 16, 0, .null, 1, 0, 0, 0)],
  [(16, .istore_n 3, 17, 0, .null, 3, 0, 0, 0),
   (17, .iconst 0, 18, 0, .int 0, 0, 0, 0, 0),
   (18, .istore 4, 20, 0, .null, 4, 0, 0, 0),
   (20, .iload 4, 22, 6, .null, 4, 0, 0, 0),
   (22, .sipush 240, 25, 0, .int 240, 0, 0, 0, 0),
   (25, .if_icmp .ge 202, 28, 0, .null, 227, 0, 0, 0),
   (28, .iload_n 3, 29, 0, .null, 3, 0, 0, 0),
   (29, .iload_n 2, 30, 0, .null, 2, 0, 0, 0),
   (30, .if_icmp .ge 197, 33, 0, .null, 227, 0, 0, 0)],
  [(33, .aload_n 0, 34, 0, .null, 0, 0, 0, 0),
   (34, .getfield 7, 37, 0, .null, 9, 0, 0, 797),
   (37, .iload_n 3, 38, 0, .null, 3, 0, 0, 0),
   (38, .iaload, 39, 0, .null, 0, 0, 0, 0),
   (39, .istore 5, 41, 0, .null, 5, 0, 0, 0),
   (41, .aload_n 0, 42, 0, .null, 0, 0, 0, 0),
   (42, .iload_n 3, 43, 0, .null, 3, 0, 0, 0),
   (43, .iconst 1, 44, 0, .int 1, 0, 0, 0, 0),
   (44, .iadd, 45, 0, .null, 0, 0, 0, 0),
   (45, .iload_n 2, 46, 0, .null, 2, 0, 0, 0),
   (46, .invokevirtual 87, 49, 0, .ref 3, 92, 9, 2, 933)],
  [(49, .istore 6, 51, 0, .null, 6, 0, 0, 0),
   (51, .iload 5, 53, 0, .null, 5, 0, 0, 0),
   (53, .bipush 32, 55, 0, .int 32, 0, 0, 0, 0),
   (55, .if_icmp .ne 9, 58, 0, .null, 64, 0, 0, 0),
   (58, .iinc 3 1, 61, 0, .int 1, 3, 0, 0, 0),
   (61, .goto 160, 64, 0, .null, 221, 0, 0, 0)],
  [(64, .iload 5, 66, 0, .null, 5, 0, 0, 0),
   (66, .bipush 36, 68, 0, .int 36, 0, 0, 0, 0),
   (68, .if_icmp .ne 72, 71, 0, .null, 140, 0, 0, 0),
   (71, .iload 6, 73, 0, .null, 6, 0, 0, 0),
   (73, .bipush 65, 75, 0, .int 65, 0, 0, 0, 0),
   (75, .bipush 90, 77, 0, .int 90, 0, 0, 0, 0),
   (77, .invokestatic 91, 80, 0, .ref 3, 118, 0, 3, 930)],
  [(80, .ifCond .eq 60, 83, 0, .null, 140, 0, 0, 0),
   (83, .aload_n 0, 84, 0, .null, 0, 0, 0, 0),
   (84, .dup, 85, 0, .null, 0, 0, 0, 0),
   (85, .getfield 78, 88, 0, .null, 9, 30, 0, 827),
   (88, .aload_n 0, 89, 0, .null, 0, 0, 0, 0),
   (89, .getfield 22, 92, 0, .null, 9, 7, 0, 804),
   (92, .iload 6, 94, 0, .null, 6, 0, 0, 0),
   (94, .bipush 65, 96, 0, .int 65, 0, 0, 0, 0)],
  [(96, .isub, 97, 0, .null, 0, 0, 0, 0),
   (97, .iaload, 98, 0, .null, 0, 0, 0, 0),
   (98, .iadd, 99, 0, .null, 0, 0, 0, 0),
   (99, .putfield 78, 102, 0, .null, 9, 30, 0, 827),
   (102, .aload_n 0, 103, 0, .null, 0, 0, 0, 0),
   (103, .aload_n 0, 104, 0, .null, 0, 0, 0, 0),
   (104, .getfield 81, 107, 0, .null, 9, 31, 0, 828),
   (107, .aload_n 0, 108, 0, .null, 0, 0, 0, 0),
   (108, .getfield 25, 111, 0, .null, 9, 8, 0, 805),
   (111, .iload 6, 113, 0, .null, 6, 0, 0, 0)],
  [(113, .bipush 65, 115, 0, .int 65, 0, 0, 0, 0),
   (115, .isub, 116, 0, .null, 0, 0, 0, 0),
   (116, .iaload, 117, 0, .null, 0, 0, 0, 0),
   (117, .ior, 118, 0, .null, 0, 0, 0, 0),
   (118, .putfield 81, 121, 0, .null, 9, 31, 0, 828),
   (121, .aload_n 0, 122, 0, .null, 0, 0, 0, 0),
   (122, .aload_n 0, 123, 0, .null, 0, 0, 0, 0),
   (123, .getfield 84, 126, 0, .null, 9, 32, 0, 829),
   (126, .iconst 1, 127, 0, .int 1, 0, 0, 0, 0),
   (127, .iload 6, 129, 0, .null, 6, 0, 0, 0)],
  [(129, .bipush 65, 131, 0, .int 65, 0, 0, 0, 0),
   (131, .isub, 132, 0, .null, 0, 0, 0, 0),
   (132, .ishl, 133, 0, .null, 0, 0, 0, 0),
   (133, .ior, 134, 0, .null, 0, 0, 0, 0),
   (134, .putfield 84, 137, 0, .null, 9, 32, 0, 829),
   (137, .goto 66, 140, 0, .null, 203, 0, 0, 0),
   (140, .iload 5, 142, 8, .null, 5, 0, 0, 0),
   (142, .bipush 97, 144, 0, .int 97, 0, 0, 0, 0)],
  [(144, .bipush 104, 146, 0, .int 104, 0, 0, 0, 0),
   (146, .invokestatic 91, 149, 0, .ref 3, 118, 0, 3, 930),
   (149, .ifCond .eq 52, 152, 0, .null, 201, 0, 0, 0),
   (152, .iload 6, 154, 0, .null, 6, 0, 0, 0),
   (154, .bipush 48, 156, 0, .int 48, 0, 0, 0, 0),
   (156, .bipush 51, 158, 0, .int 51, 0, 0, 0, 0),
   (158, .invokestatic 91, 161, 0, .ref 3, 118, 0, 3, 930)],
  [(161, .ifCond .eq 40, 164, 0, .null, 201, 0, 0, 0),
   (164, .aload_n 0, 165, 0, .null, 0, 0, 0, 0),
   (165, .dup, 166, 0, .null, 0, 0, 0, 0),
   (166, .getfield 78, 169, 0, .null, 9, 30, 0, 827),
   (169, .iconst 1, 170, 0, .int 1, 0, 0, 0, 0),
   (170, .iadd, 171, 0, .null, 0, 0, 0, 0),
   (171, .putfield 78, 174, 0, .null, 9, 30, 0, 827),
   (174, .aload_n 0, 175, 0, .null, 0, 0, 0, 0),
   (175, .aload_n 0, 176, 0, .null, 0, 0, 0, 0)],
  [(176, .getfield 81, 179, 0, .null, 9, 31, 0, 828),
   (179, .iconst 1, 180, 0, .int 1, 0, 0, 0, 0),
   (180, .iconst 4, 181, 0, .int 4, 0, 0, 0, 0),
   (181, .iload 5, 183, 0, .null, 5, 0, 0, 0),
   (183, .bipush 97, 185, 0, .int 97, 0, 0, 0, 0),
   (185, .isub, 186, 0, .null, 0, 0, 0, 0),
   (186, .imul, 187, 0, .null, 0, 0, 0, 0),
   (187, .iload 6, 189, 0, .null, 6, 0, 0, 0),
   (189, .iadd, 190, 0, .null, 0, 0, 0, 0),
   (190, .bipush 48, 192, 0, .int 48, 0, 0, 0, 0)],
  [(192, .isub, 193, 0, .null, 0, 0, 0, 0),
   (193, .ishl, 194, 0, .null, 0, 0, 0, 0),
   (194, .ior, 195, 0, .null, 0, 0, 0, 0),
   (195, .putfield 81, 198, 0, .null, 9, 31, 0, 828),
   (198, .goto 5, 201, 0, .null, 203, 0, 0, 0),
   (201, .iconst 0, 202, 1, .int 0, 0, 0, 0, 0),
   (202, .ireturn, 203, 0, .null, 0, 0, 1, 0),
   (203, .aload_n 0, 204, 6, .null, 0, 0, 0, 0),
   (204, .getfield 78, 207, 0, .null, 9, 30, 0, 827),
   (207, .bipush 65, 209, 0, .int 65, 0, 0, 0, 0)],
  [(209, .if_icmp .le 9, 212, 0, .null, 218, 0, 0, 0),
   (212, .aload_n 0, 213, 0, .null, 0, 0, 0, 0),
   (213, .bipush 65, 215, 0, .int 65, 0, 0, 0, 0),
   (215, .putfield 78, 218, 0, .null, 9, 30, 0, 827),
   (218, .iinc 3 2, 221, 6, .int 2, 3, 0, 0, 0),
   (221, .iinc 4 1, 224, 6, .int 1, 4, 0, 0, 0)],
  [(224, .goto (-204), 227, 0, .null, 20, 0, 0, 0),
   (227, .iconst 1, 228, 1, .int 1, 0, 0, 0, 0),
   (228, .ireturn, 229, 0, .null, 0, 0, 1, 0)]]
def am_t112 : List (List (Nat × am_E)) := [
  [(0, .aload_n 0, 1, 0, .null, 0, 0, 0, 0),
   (1, .iconst 0, 2, 0, .int 0, 0, 0, 0, 0),
   (2, .putfield 71, 5, 0, .null, 9, 2, 0, 799),
   (5, .iload_n 1, 6, 0, .null, 1, 0, 0, 0),
   (6, .iconst 0, 7, 0, .int 0, 0, 0, 0, 0),
   (7, .bipush 31, 9, 0, .int 31, 0, 0, 0, 0),
   (9, .invokestatic 91, 12, 0, .ref 3, 118, 0, 3, 930),
   (12, .ifCond .eq 12, 15, 0, .null, 24, 0, 0, 0),
   (15, .aload_n 0, 16, 0, .null, 0, 0, 0, 0)],
  [(16, .getfield 47, 19, 0, .null, 9, 17, 0, 814),
   (19, .iload_n 1, 20, 0, .null, 1, 0, 0, 0),
   (20, .iaload, 21, 0, .null, 0, 0, 0, 0),
   (21, .goto 4, 24, 0, .null, 25, 0, 0, 0),
   (24, .iconst 0, 25, 0, .int 0, 0, 0, 0, 0),
   (25, .ireturn, 26, 1, .null, 0, 0, 0, 0)]]
def am_t113 : List (List (Nat × am_E)) := [
  [(0, .iload_n 1, 1, 0, .null, 1, 0, 0, 0),
   (1, .istore_n 3, 2, 0, .null, 3, 0, 0, 0),
   (2, .iload_n 3, 3, 5, .null, 3, 0, 0, 0),
   (3, .iload_n 2, 4, 0, .null, 2, 0, 0, 0),
   (4, .if_icmp .ge 22, 7, 0, .null, 26, 0, 0, 0),
   (7, .aload_n 0, 8, 0, .null, 0, 0, 0, 0),
   (8, .getfield 7, 11, 0, .null, 9, 0, 0, 797),
   (11, .iload_n 3, 12, 0, .null, 3, 0, 0, 0),
   (12, .iaload, 13, 0, .null, 0, 0, 0, 0),
   (13, .bipush 32, 15, 0, .int 32, 0, 0, 0, 0),
   (15, .if_icmp .eq 5, 18, 0, .null, 20, 0, 0, 0)],
  [(18, .iconst 0, 19, 0, .int 0, 0, 0, 0, 0),
   (19, .ireturn, 20, 0, .null, 0, 0, 1, 0),
   (20, .iinc 3 1, 23, 0, .int 1, 3, 0, 0, 0),
   (23, .goto (-21), 26, 0, .null, 2, 0, 0, 0),
   (26, .iconst 1, 27, 0, .int 1, 0, 0, 0, 0),
   (27, .ireturn, 28, 0, .null, 0, 0, 1, 0)]]
def am_t114 : List (List (Nat × am_E)) := [
  [(0, .aload_n 0, 1, 0, .null, 0, 0, 0, 0),
   (1, .iconst 0, 2, 0, .int 0, 0, 0, 0, 0),
   (2, .putfield 71, 5, 0, .null, 9, 2, 0, 799),
   (5, .iload_n 1, 6, 0, .null, 1, 0, 0, 0),
   (6, .iconst 0, 7, 0, .int 0, 0, 0, 0, 0),
   (7, .bipush 31, 9, 0, .int 31, 0, 0, 0, 0),
   (9, .invokestatic 91, 12, 0, .ref 3, 118, 0, 3, 930),
   (12, .ifCond .eq 13, 15, 0, .null, 25, 0, 0, 0),
   (15, .iload_n 2, 16, 0, .null, 2, 0, 0, 0)],
  [(16, .iconst 0, 17, 0, .int 0, 0, 0, 0, 0),
   (17, .ldc 140, 19, 0, .int 1000000000, 0, 0, 0, 977),
   (19, .invokestatic 91, 22, 0, .ref 3, 118, 0, 3, 930),
   (22, .ifCond .ne 5, 25, 0, .null, 27, 0, 0, 0),
   (25, .iconst 0, 26, 1, .int 0, 0, 0, 0, 0),
   (26, .ireturn, 27, 0, .null, 0, 0, 1, 0),
   (27, .aload_n 0, 28, 0, .null, 0, 0, 0, 0),
   (28, .getfield 53, 31, 0, .null, 9, 21, 0, 818),
   (31, .iload_n 1, 32, 0, .null, 1, 0, 0, 0)],
  [(32, .iload_n 2, 33, 0, .null, 2, 0, 0, 0),
   (33, .iastore, 34, 0, .null, 0, 0, 0, 0),
   (34, .iconst 1, 35, 0, .int 1, 0, 0, 0, 0),
   (35, .ireturn, 36, 0, .null, 0, 0, 1, 0)]]
def am_t115 : List (List (Nat × am_E)) := [
  [(0, .aload_n 0, 1, 0, .null, 0, 0, 0, 0),
   (1, .iconst 0, 2, 0, .int 0, 0, 0, 0, 0),
   (2, .putfield 71, 5, 0, .null, 9, 2, 0, 799),
   (5, .iload_n 1, 6, 0, .null, 1, 0, 0, 0),
   (6, .iconst 0, 7, 0, .int 0, 0, 0, 0, 0),
   (7, .bipush 31, 9, 0, .int 31, 0, 0, 0, 0),
   (9, .invokestatic 91, 12, 0, .ref 3, 118, 0, 3, 930),
   (12, .ifCond .eq 12, 15, 0, .null, 24, 0, 0, 0),
   (15, .aload_n 0, 16, 0, .null, 0, 0, 0, 0)],
  [(16, .getfield 53, 19, 0, .null, 9, 21, 0, 818),
   (19, .iload_n 1, 20, 0, .null, 1, 0, 0, 0),
   (20, .iaload, 21, 0, .null, 0, 0, 0, 0),
   (21, .goto 4, 24, 0, .null, 25, 0, 0, 0),
   (24, .iconst (-1), 25, 0, .int (-1), 0, 0, 0, 0),
   (25, .ireturn, 26, 1, .null, 0, 0, 0, 0)]]
def am_t116 : List (List (Nat × am_E)) := [
  [(0, .iconst 0, 1, 0, .int 0, 0, 0, 0, 0),
   (1, .istore_n 1, 2, 0, .null, 1, 0, 0, 0),
   (2, .iload_n 1, 3, 3, .null, 1, 0, 0, 0),
   (3, .bipush 32, 5, 0, .int 32, 0, 0, 0, 0),
   (5, .if_icmp .ge 16, 8, 0, .null, 21, 0, 0, 0),
   (8, .aload_n 0, 9, 0, .null, 0, 0, 0, 0),
   (9, .getfield 47, 12, 0, .null, 9, 17, 0, 814),
   (12, .iload_n 1, 13, 0, .null, 1, 0, 0, 0),
   (13, .iconst 0, 14, 0, .int 0, 0, 0, 0, 0),
   (14, .iastore, 15, 0, .null, 0, 0, 0, 0),
   (15, .iinc 1 1, 18, 0, .int 1, 1, 0, 0, 0)],
  [(18, .goto (-16), 21, 0, .null, 2, 0, 0, 0),
   (21, .iconst 0, 22, 0, .int 0, 0, 0, 0, 0),
   (22, .istore_n 1, 23, 0, .null, 1, 0, 0, 0),
   (23, .iload_n 1, 24, 3, .null, 1, 0, 0, 0),
   (24, .aload_n 0, 25, 0, .null, 0, 0, 0, 0),
   (25, .getfield 105, 28, 0, .null, 9, 14, 0, 811),
   (28, .if_icmp .ge 95, 31, 0, .null, 123, 0, 0, 0),
   (31, .aload_n 0, 32, 0, .null, 0, 0, 0, 0)],
  [(32, .aload_n 0, 33, 0, .null, 0, 0, 0, 0),
   (33, .getfield 28, 36, 0, .null, 9, 9, 0, 806),
   (36, .iload_n 1, 37, 0, .null, 1, 0, 0, 0),
   (37, .iaload, 38, 0, .null, 0, 0, 0, 0),
   (38, .aload_n 0, 39, 0, .null, 0, 0, 0, 0),
   (39, .getfield 31, 42, 0, .null, 9, 10, 0, 807),
   (42, .iload_n 1, 43, 0, .null, 1, 0, 0, 0),
   (43, .iaload, 44, 0, .null, 0, 0, 0, 0),
   (44, .invokevirtual 99, 47, 0, .ref 7, 111, 9, 2, 937),
   (47, .istore_n 2, 48, 0, .null, 2, 0, 0, 0)],
  [(48, .aload_n 0, 49, 0, .null, 0, 0, 0, 0),
   (49, .getfield 81, 52, 0, .null, 9, 31, 0, 828),
   (52, .istore_n 3, 53, 0, .null, 3, 0, 0, 0),
   (53, .aload_n 0, 54, 0, .null, 0, 0, 0, 0),
   (54, .aload_n 0, 55, 0, .null, 0, 0, 0, 0),
   (55, .getfield 31, 58, 0, .null, 9, 10, 0, 807),
   (58, .iload_n 1, 59, 0, .null, 1, 0, 0, 0),
   (59, .iaload, 60, 0, .null, 0, 0, 0, 0),
   (60, .iconst 1, 61, 0, .int 1, 0, 0, 0, 0),
   (61, .iadd, 62, 0, .null, 0, 0, 0, 0),
   (62, .aload_n 0, 63, 0, .null, 0, 0, 0, 0),
   (63, .getfield 34, 66, 0, .null, 9, 11, 0, 808)],
  [(66, .iload_n 1, 67, 0, .null, 1, 0, 0, 0),
   (67, .iaload, 68, 0, .null, 0, 0, 0, 0),
   (68, .invokevirtual 99, 71, 0, .ref 7, 111, 9, 2, 937),
   (71, .istore_n 2, 72, 0, .null, 2, 0, 0, 0),
   (72, .iconst 0, 73, 0, .int 0, 0, 0, 0, 0),
   (73, .istore 4, 75, 0, .null, 4, 0, 0, 0),
   (75, .iload 4, 77, 6, .null, 4, 0, 0, 0),
   (77, .bipush 32, 79, 0, .int 32, 0, 0, 0, 0),
   (79, .if_icmp .ge 38, 82, 0, .null, 117, 0, 0, 0)],
  [(82, .iload_n 3, 83, 0, .null, 3, 0, 0, 0),
   (83, .iload 4, 85, 0, .null, 4, 0, 0, 0),
   (85, .ishr, 86, 0, .null, 0, 0, 0, 0),
   (86, .iconst 1, 87, 0, .int 1, 0, 0, 0, 0),
   (87, .iand, 88, 0, .null, 0, 0, 0, 0),
   (88, .iconst 1, 89, 0, .int 1, 0, 0, 0, 0),
   (89, .if_icmp .ne 22, 92, 0, .null, 111, 0, 0, 0),
   (92, .aload_n 0, 93, 0, .null, 0, 0, 0, 0),
   (93, .getfield 47, 96, 0, .null, 9, 17, 0, 814)],
  [(96, .iload 4, 98, 0, .null, 4, 0, 0, 0),
   (98, .aload_n 0, 99, 0, .null, 0, 0, 0, 0),
   (99, .getfield 47, 102, 0, .null, 9, 17, 0, 814),
   (102, .iload 4, 104, 0, .null, 4, 0, 0, 0),
   (104, .iaload, 105, 0, .null, 0, 0, 0, 0),
   (105, .aload_n 0, 106, 0, .null, 0, 0, 0, 0),
   (106, .getfield 81, 109, 0, .null, 9, 31, 0, 828),
   (109, .ior, 110, 0, .null, 0, 0, 0, 0),
   (110, .iastore, 111, 0, .null, 0, 0, 0, 0),
   (111, .iinc 4 1, 114, 6, .int 1, 4, 0, 0, 0)],
  [(114, .goto (-39), 117, 0, .null, 75, 0, 0, 0),
   (117, .iinc 1 1, 120, 0, .int 1, 1, 0, 0, 0),
   (120, .goto (-97), 123, 0, .null, 23, 0, 0, 0),
   (123, .iconst 0, 124, 0, .int 0, 0, 0, 0, 0),
   (124, .istore_n 1, 125, 0, .null, 1, 0, 0, 0),
   (125, .iload_n 1, 126, 3, .null, 1, 0, 0, 0),
   (126, .aload_n 0, 127, 0, .null, 0, 0, 0, 0),
   (127, .getfield 108, 130, 0, .null, 9, 16, 0, 813)],
  [(130, .if_icmp .ge 21, 133, 0, .null, 151, 0, 0, 0),
   (133, .aload_n 0, 134, 0, .null, 0, 0, 0, 0),
   (134, .getfield 50, 137, 0, .null, 9, 19, 0, 816),
   (137, .iload_n 1, 138, 0, .null, 1, 0, 0, 0),
   (138, .aload_n 0, 139, 0, .null, 0, 0, 0, 0),
   (139, .getfield 44, 142, 0, .null, 9, 15, 0, 812),
   (142, .iload_n 1, 143, 0, .null, 1, 0, 0, 0),
   (143, .iaload, 144, 0, .null, 0, 0, 0, 0)],
  [(144, .iastore, 145, 0, .null, 0, 0, 0, 0),
   (145, .iinc 1 1, 148, 0, .int 1, 1, 0, 0, 0),
   (148, .goto (-23), 151, 0, .null, 125, 0, 0, 0),
   (151, .aload_n 0, 152, 0, .null, 0, 0, 0, 0),
   (152, .aload_n 0, 153, 0, .null, 0, 0, 0, 0),
   (153, .getfield 108, 156, 0, .null, 9, 16, 0, 813),
   (156, .putfield 137, 159, 0, .null, 9, 20, 0, 817),
   (159, .return_, 160, 0, .null, 0, 0, 0, 0)]]
def am_t117 : List (List (Nat × am_E)) := [
  [(0, .aload_n 0, 1, 0, .null, 0, 0, 0, 0),
   (1, .getfield 71, 4, 0, .null, 9, 2, 0, 799),
   (4, .ireturn, 5, 0, .null, 0, 0, 0, 0)]]
def am_t118 : List (List (Nat × am_E)) := [
  [(0, .iload_n 0, 1, 0, .null, 0, 0, 0, 0),
   (1, .iload_n 1, 2, 0, .null, 1, 0, 0, 0),
   (2, .if_icmp .lt 12, 5, 0, .null, 14, 0, 0, 0),
   (5, .iload_n 0, 6, 0, .null, 0, 0, 0, 0),
   (6, .iload_n 2, 7, 0, .null, 2, 0, 0, 0),
   (7, .if_icmp .gt 7, 10, 0, .null, 14, 0, 0, 0),
   (10, .iconst 1, 11, 0, .int 1, 0, 0, 0, 0),
   (11, .goto 4, 14, 0, .null, 15, 0, 0, 0),
   (14, .iconst 0, 15, 1, .int 0, 0, 0, 0, 0),
   (15, .ireturn, 16, 1, .null, 0, 0, 1, 0)]]
def am_t119 : List (List (Nat × am_E)) := [
  [(0, .aload_n 0, 1, 0, .null, 0, 0, 0, 0),
   (1, .iconst 0, 2, 0, .int 0, 0, 0, 0, 0),
   (2, .putfield 71, 5, 0, .null, 9, 2, 0, 799),
   (5, .iconst 0, 6, 0, .int 0, 0, 0, 0, 0),
   (6, .istore_n 3, 7, 0, .null, 3, 0, 0, 0),
   (7, .iconst 0, 8, 0, .int 0, 0, 0, 0, 0),
   (8, .istore 4, 10, 0, .null, 4, 0, 0, 0),
   (10, .iload 4, 12, 6, .null, 4, 0, 0, 0),
   (12, .bipush 8, 14, 0, .int 8, 0, 0, 0, 0),
   (14, .if_icmp .ge 43, 17, 0, .null, 57, 0, 0, 0)],
  [(17, .lload_n 1, 18, 0, .null, 1, 0, 0, 0),
   (18, .bipush 8, 20, 0, .int 8, 0, 0, 0, 0),
   (20, .iload 4, 22, 0, .null, 4, 0, 0, 0),
   (22, .imul, 23, 0, .null, 0, 0, 0, 0),
   (23, .lshr, 24, 0, .null, 0, 0, 0, 0),
   (24, .l2i, 25, 0, .null, 0, 0, 0, 0),
   (25, .sipush 255, 28, 0, .int 255, 0, 0, 0, 0),
   (28, .iand, 29, 0, .null, 0, 0, 0, 0),
   (29, .istore 5, 31, 0, .null, 5, 0, 0, 0),
   (31, .iload 5, 33, 0, .null, 5, 0, 0, 0)],
  [(33, .ifCond .ne 6, 36, 0, .null, 39, 0, 0, 0),
   (36, .goto 21, 39, 0, .null, 57, 0, 0, 0),
   (39, .iload 5, 41, 0, .null, 5, 0, 0, 0),
   (41, .bipush 127, 43, 0, .int 127, 0, 0, 0, 0),
   (43, .if_icmp .le 5, 46, 0, .null, 48, 0, 0, 0),
   (46, .iconst (-1), 47, 0, .int (-1), 0, 0, 0, 0),
   (47, .ireturn, 48, 0, .null, 0, 0, 0, 0)],
  [(48, .iinc 3 1, 51, 0, .int 1, 3, 0, 0, 0),
   (51, .iinc 4 1, 54, 0, .int 1, 4, 0, 0, 0),
   (54, .goto (-44), 57, 0, .null, 10, 0, 0, 0),
   (57, .aload_n 0, 58, 5, .null, 0, 0, 0, 0),
   (58, .getfield 75, 61, 0, .null, 9, 1, 0, 798),
   (61, .iload_n 3, 62, 0, .null, 3, 0, 0, 0),
   (62, .iadd, 63, 0, .null, 0, 0, 0, 0),
   (63, .sipush 240, 66, 0, .int 240, 0, 0, 0, 0)],
  [(66, .if_icmp .le 5, 69, 0, .null, 71, 0, 0, 0),
   (69, .iconst (-1), 70, 0, .int (-1), 0, 0, 0, 0),
   (70, .ireturn, 71, 0, .null, 0, 0, 0, 0),
   (71, .iconst 0, 72, 0, .int 0, 0, 0, 0, 0),
   (72, .istore 4, 74, 0, .null, 4, 0, 0, 0),
   (74, .iload 4, 76, 6, .null, 4, 0, 0, 0),
   (76, .iload_n 3, 77, 0, .null, 3, 0, 0, 0),
   (77, .if_icmp .ge 32, 80, 0, .null, 109, 0, 0, 0)],
  [(80, .aload_n 0, 81, 0, .null, 0, 0, 0, 0),
   (81, .getfield 7, 84, 0, .null, 9, 0, 0, 797),
   (84, .aload_n 0, 85, 0, .null, 0, 0, 0, 0),
   (85, .getfield 75, 88, 0, .null, 9, 1, 0, 798),
   (88, .iload 4, 90, 0, .null, 4, 0, 0, 0),
   (90, .iadd, 91, 0, .null, 0, 0, 0, 0),
   (91, .lload_n 1, 92, 0, .null, 1, 0, 0, 0),
   (92, .bipush 8, 94, 0, .int 8, 0, 0, 0, 0),
   (94, .iload 4, 96, 0, .null, 4, 0, 0, 0)],
  [(96, .imul, 97, 0, .null, 0, 0, 0, 0),
   (97, .lshr, 98, 0, .null, 0, 0, 0, 0),
   (98, .l2i, 99, 0, .null, 0, 0, 0, 0),
   (99, .bipush 127, 101, 0, .int 127, 0, 0, 0, 0),
   (101, .iand, 102, 0, .null, 0, 0, 0, 0),
   (102, .iastore, 103, 0, .null, 0, 0, 0, 0),
   (103, .iinc 4 1, 106, 0, .int 1, 4, 0, 0, 0),
   (106, .goto (-32), 109, 0, .null, 74, 0, 0, 0),
   (109, .aload_n 0, 110, 0, .null, 0, 0, 0, 0),
   (110, .dup, 111, 0, .null, 0, 0, 0, 0),
   (111, .getfield 75, 114, 0, .null, 9, 1, 0, 798)],
  [(114, .iload_n 3, 115, 0, .null, 3, 0, 0, 0),
   (115, .iadd, 116, 0, .null, 0, 0, 0, 0),
   (116, .putfield 75, 119, 0, .null, 9, 1, 0, 798),
   (119, .iload_n 3, 120, 0, .null, 3, 0, 0, 0),
   (120, .ireturn, 121, 0, .null, 0, 0, 0, 0)]]
def am_t120 : List (List (Nat × am_E)) := [
  [(0, .iload_n 0, 1, 0, .null, 0, 0, 0, 0),
   (1, .iload_n 0, 2, 0, .null, 0, 0, 0, 0),
   (2, .iconst 1, 3, 0, .int 1, 0, 0, 0, 0),
   (3, .iushr, 4, 0, .null, 0, 0, 0, 0),
   (4, .ldc_w 265, 7, 0, .int 1431655765, 0, 0, 0, 752),
   (7, .iand, 8, 0, .null, 0, 0, 0, 0),
   (8, .isub, 9, 0, .null, 0, 0, 0, 0),
   (9, .istore_n 0, 10, 0, .null, 0, 0, 0, 0),
   (10, .iload_n 0, 11, 0, .null, 0, 0, 0, 0),
   (11, .ldc_w 266, 14, 0, .int 858993459, 0, 0, 0, 753),
   (14, .iand, 15, 0, .null, 0, 0, 0, 0),
   (15, .iload_n 0, 16, 0, .null, 0, 0, 0, 0)],
  [(16, .iconst 2, 17, 0, .int 2, 0, 0, 0, 0),
   (17, .iushr, 18, 0, .null, 0, 0, 0, 0),
   (18, .ldc_w 266, 21, 0, .int 858993459, 0, 0, 0, 753),
   (21, .iand, 22, 0, .null, 0, 0, 0, 0),
   (22, .iadd, 23, 0, .null, 0, 0, 0, 0),
   (23, .istore_n 0, 24, 0, .null, 0, 0, 0, 0),
   (24, .iload_n 0, 25, 0, .null, 0, 0, 0, 0),
   (25, .iload_n 0, 26, 0, .null, 0, 0, 0, 0),
   (26, .iconst 4, 27, 0, .int 4, 0, 0, 0, 0),
   (27, .iushr, 28, 0, .null, 0, 0, 0, 0),
   (28, .iadd, 29, 0, .null, 0, 0, 0, 0),
   (29, .ldc_w 267, 32, 0, .int 252645135, 0, 0, 0, 754)],
  [(32, .iand, 33, 0, .null, 0, 0, 0, 0),
   (33, .istore_n 0, 34, 0, .null, 0, 0, 0, 0),
   (34, .iload_n 0, 35, 0, .null, 0, 0, 0, 0),
   (35, .iload_n 0, 36, 0, .null, 0, 0, 0, 0),
   (36, .bipush 8, 38, 0, .int 8, 0, 0, 0, 0),
   (38, .iushr, 39, 0, .null, 0, 0, 0, 0),
   (39, .iadd, 40, 0, .null, 0, 0, 0, 0),
   (40, .istore_n 0, 41, 0, .null, 0, 0, 0, 0),
   (41, .iload_n 0, 42, 0, .null, 0, 0, 0, 0),
   (42, .iload_n 0, 43, 0, .null, 0, 0, 0, 0),
   (43, .bipush 16, 45, 0, .int 16, 0, 0, 0, 0),
   (45, .iushr, 46, 0, .null, 0, 0, 0, 0),
   (46, .iadd, 47, 0, .null, 0, 0, 0, 0),
   (47, .istore_n 0, 48, 0, .null, 0, 0, 0, 0)],
  [(48, .iload_n 0, 49, 0, .null, 0, 0, 0, 0),
   (49, .bipush 63, 51, 0, .int 63, 0, 0, 0, 0),
   (51, .iand, 52, 0, .null, 0, 0, 0, 0),
   (52, .ireturn, 53, 0, .null, 0, 0, 0, 0)]]
def am_ms : List (MethodName × ByteArray × Nat × Option FieldType × Nat × Nat × Nat × Nat × Nat × Nat × Nat) := [
  (⟨"RebuildDeskLaw", "law", "([I)Z"⟩, code, 7, (some .boolean), 8, 177, 0, 0, 35, 0, 0),
  (⟨"RebuildDesk", "erase", "()I"⟩, prog_1_method_3_code, 1, (some .int), 1, 21, 2, 259, 36, 257, 258),
  (⟨"RebuildDesk", "fault", "()I"⟩, prog_1_method_6_code, 1, (some .int), 0, 0, 2, 275, 36, 273, 274),
  (⟨"RebuildDesk", "holds", "(II)Z"⟩, prog_1_method_17_code, 2, (some .boolean), 1, 20, 1, 297, 36, 296, 0),
  (⟨"RebuildDesk", "isFile", "(I)Z"⟩, prog_1_method_15_code, 1, (some .boolean), 0, 0, 1, 282, 36, 281, 0),
  (⟨"RebuildDesk", "isMacroHead", "(CC)Z"⟩, prog_1_method_20_code, 2, (some .boolean), 0, 0, 1, 372, 36, 371, 0),
  (⟨"RebuildDesk", "isMacroUse", "(CC)Z"⟩, prog_1_method_19_code, 2, (some .boolean), 0, 0, 1, 386, 36, 385, 0),
  (⟨"RebuildDesk", "isName", "(CC)Z"⟩, prog_1_method_18_code, 2, (some .boolean), 0, 0, 1, 383, 36, 382, 0),
  (⟨"RebuildDesk", "isPatternHalf", "(CC)Z"⟩, prog_1_method_21_code, 2, (some .boolean), 0, 0, 1, 395, 36, 394, 0),
  (⟨"RebuildDesk", "length", "()I"⟩, prog_1_method_4_code, 1, (some .int), 1, 20, 2, 267, 36, 265, 266),
  (⟨"RebuildDesk", "make", "(I)I"⟩, prog_1_method_11_code, 4, (some .int), 6, 111, 4, 658, 36, 656, 657),
  (⟨"RebuildDesk", "ran", "(I)I"⟩, prog_1_method_12_code, 2, (some .int), 1, 21, 2, 321, 36, 319, 320),
  (⟨"RebuildDesk", "read", "()I"⟩, prog_1_method_5_code, 1, (some .int), 6, 135, 4, 343, 36, 341, 342),
  (⟨"RebuildDesk", "reason", "(I)I"⟩, prog_1_method_13_code, 2, (some .int), 1, 21, 2, 329, 36, 327, 328),
  (⟨"RebuildDesk", "recipe", "(I)I"⟩, prog_1_method_8_code, 2, (some .int), 2, 41, 2, 290, 36, 288, 289),
  (⟨"RebuildDesk", "runRecipes", "(I)V"⟩, prog_1_method_14_code, 6, none, 4, 85, 2, 773, 36, 772, 21),
  (⟨"RebuildDesk", "setOf", "(I)I"⟩, prog_1_method_16_code, 1, (some .int), 0, 0, 1, 300, 36, 299, 0),
  (⟨"RebuildDesk", "sources", "(I)I"⟩, prog_1_method_7_code, 2, (some .int), 1, 21, 2, 279, 36, 277, 278),
  (⟨"RebuildDesk", "stamp", "(II)Z"⟩, prog_1_method_9_code, 3, (some .boolean), 1, 22, 2, 304, 36, 302, 303),
  (⟨"RebuildDesk", "stampOf", "(I)I"⟩, prog_1_method_10_code, 2, (some .int), 1, 21, 2, 313, 36, 311, 312),
  (⟨"RebuildDesk", "write", "(J)I"⟩, prog_1_method_2_code, 3, (some .int), 3, 69, 2, 245, 36, 243, 244),
  (⟨"RebuildDesk$Graph", "addPatternSource", "(II)V"⟩, prog_2_method_12_code, 3, none, 1, 20, 2, 698, 43, 697, 18),
  (⟨"RebuildDesk$Graph", "available", "()I"⟩, prog_2_method_10_code, 4, (some .int), 3, 66, 2, 681, 43, 680, 16),
  (⟨"RebuildDesk$Graph", "build", "()V"⟩, prog_2_method_2_code, 1, none, 4, 89, 2, 677, 43, 675, 676),
  (⟨"RebuildDesk$Graph", "findFoundations", "()V"⟩, prog_2_method_13_code, 3, none, 2, 41, 2, 702, 43, 701, 19),
  (⟨"RebuildDesk$Graph", "findSources", "(I)V"⟩, prog_2_method_11_code, 3, none, 3, 66, 2, 692, 43, 691, 17),
  (⟨"RebuildDesk$Graph", "firstReady", "(I)I"⟩, prog_2_method_8_code, 3, (some .int), 2, 41, 2, 786, 43, 784, 785),
  (⟨"RebuildDesk$Graph", "hasLoop", "(I)Z"⟩, prog_2_method_4_code, 3, (some .boolean), 2, 41, 2, 710, 43, 708, 709),
  (⟨"RebuildDesk$Graph", "hasNewerSource", "(I)Z"⟩, prog_2_method_9_code, 3, (some .boolean), 2, 41, 2, 741, 43, 740, 20),
  (⟨"RebuildDesk$Graph", "hasUnmakeable", "(I)Z"⟩, prog_2_method_5_code, 3, (some .boolean), 2, 41, 2, 714, 43, 712, 713),
  (⟨"RebuildDesk$Graph", "outOfDate", "(I)I"⟩, prog_2_method_6_code, 7, (some .int), 4, 85, 2, 733, 43, 731, 732),
  (⟨"RebuildDesk$Graph", "reasonOf", "(II)I"⟩, prog_2_method_7_code, 3, (some .int), 3, 63, 2, 737, 43, 735, 736),
  (⟨"RebuildDesk$Graph", "withFoundation", "(I)I"⟩, prog_2_method_3_code, 2, (some .int), 1, 20, 2, 706, 43, 704, 705),
  (⟨"RebuildDesk$Lines", "add", "(ILRebuildDesk$LineKind;)V"⟩, prog_4_method_9_code, 3, none, 0, 0, 2, 409, 38, 408, 4),
  (⟨"RebuildDesk$Lines", "count", "()I"⟩, prog_4_method_2_code, 1, (some .int), 0, 0, 2, 499, 38, 497, 498),
  (⟨"RebuildDesk$Lines", "firstIllFormed", "()I"⟩, prog_4_method_7_code, 2, (some .int), 2, 43, 2, 413, 38, 411, 412),
  (⟨"RebuildDesk$Lines", "hasRecipe", "(I)Z"⟩, prog_4_method_5_code, 2, (some .boolean), 1, 22, 2, 609, 38, 607, 608),
  (⟨"RebuildDesk$Lines", "isKind", "(ILRebuildDesk$LineKind;)Z"⟩, prog_4_method_4_code, 3, (some .boolean), 0, 0, 2, 417, 38, 415, 416),
  (⟨"RebuildDesk$Lines", "isMacro", "(II)Z"⟩, prog_4_method_11_code, 3, (some .boolean), 3, 66, 2, 369, 38, 368, 1),
  (⟨"RebuildDesk$Lines", "isPattern", "(II)Z"⟩, prog_4_method_12_code, 3, (some .boolean), 1, 21, 2, 392, 38, 391, 2),
  (⟨"RebuildDesk$Lines", "isRule", "(II)Z"⟩, prog_4_method_13_code, 4, (some .boolean), 3, 66, 2, 401, 38, 400, 3),
  (⟨"RebuildDesk$Lines", "kindOf", "(II)LRebuildDesk$LineKind;"⟩, prog_4_method_10_code, 3, (some (.object "RebuildDesk$LineKind")), 4, 89, 2, 356, 38, 355, 0),
  (⟨"RebuildDesk$Lines", "maySucceed", "(I)Z"⟩, prog_4_method_8_code, 2, (some .boolean), 1, 22, 2, 421, 38, 420, 5),
  (⟨"RebuildDesk$Lines", "split", "()V"⟩, prog_4_method_6_code, 3, none, 5, 111, 2, 347, 38, 345, 346),
  (⟨"RebuildDesk$Lines", "startOf", "(I)I"⟩, prog_4_method_3_code, 2, (some .int), 0, 0, 2, 505, 38, 503, 504),
  (⟨"RebuildDesk$Macros", "expandValues", "()V"⟩, prog_5_method_10_code, 4, none, 4, 90, 2, 533, 39, 532, 11),
  (⟨"RebuildDesk$Macros", "filesIn", "(I)I"⟩, prog_5_method_4_code, 5, (some .int), 3, 66, 2, 537, 39, 535, 536),
  (⟨"RebuildDesk$Macros", "findLeads", "()V"⟩, prog_5_method_8_code, 3, none, 4, 90, 2, 510, 39, 509, 8),
  (⟨"RebuildDesk$Macros", "findLooping", "()V"⟩, prog_5_method_9_code, 3, none, 1, 20, 2, 529, 39, 528, 10),
  (⟨"RebuildDesk$Macros", "findValues", "(LRebuildDesk$Lines;)V"⟩, prog_5_method_7_code, 4, none, 1, 22, 2, 495, 39, 494, 7),
  (⟨"RebuildDesk$Macros", "learn", "(LRebuildDesk$Lines;)V"⟩, prog_5_method_2_code, 2, none, 5, 113, 2, 491, 39, 489, 490),
  (⟨"RebuildDesk$Macros", "macrosIn", "(I)I"⟩, prog_5_method_6_code, 5, (some .int), 3, 66, 2, 514, 39, 513, 9),
  (⟨"RebuildDesk$Macros", "namesIn", "(I)I"⟩, prog_5_method_5_code, 5, (some .int), 3, 66, 2, 553, 39, 551, 552),
  (⟨"RebuildDesk$Macros", "usesLooping", "(I)Z"⟩, prog_5_method_3_code, 2, (some .boolean), 4, 90, 2, 576, 39, 574, 575),
  (⟨"RebuildDesk$Report", "addRun", "(I)V"⟩, prog_6_method_3_code, 2, none, 0, 0, 2, 790, 44, 788, 789),
  (⟨"RebuildDesk$Report", "clear", "()V"⟩, prog_6_method_2_code, 2, none, 0, 0, 2, 777, 44, 775, 776),
  (⟨"RebuildDesk$Report", "fileAt", "(I)I"⟩, prog_6_method_5_code, 2, (some .int), 0, 0, 2, 325, 44, 323, 324),
  (⟨"RebuildDesk$Report", "putReason", "(II)V"⟩, prog_6_method_4_code, 3, none, 0, 0, 2, 782, 44, 780, 781),
  (⟨"RebuildDesk$Report", "reasonOf", "(I)I"⟩, prog_6_method_6_code, 2, (some .int), 0, 0, 2, 333, 44, 331, 332),
  (⟨"RebuildDesk$RuleLines", "fill", "(LRebuildDesk$Rules;)I"⟩, prog_7_method_5_code, 5, (some .int), 5, 111, 2, 633, 40, 631, 632),
  (⟨"RebuildDesk$RuleLines", "firstDoubled", "()I"⟩, prog_7_method_4_code, 3, (some .int), 5, 111, 2, 605, 40, 603, 604),
  (⟨"RebuildDesk$RuleLines", "firstLooping", "()I"⟩, prog_7_method_2_code, 2, (some .int), 5, 111, 2, 560, 40, 558, 559),
  (⟨"RebuildDesk$RuleLines", "firstTooLong", "()I"⟩, prog_7_method_3_code, 2, (some .int), 4, 90, 2, 600, 40, 598, 599),
  (⟨"RebuildDesk$RuleLines", "isRule", "(I)Z"⟩, prog_7_method_6_code, 2, (some .boolean), 1, 22, 2, 565, 40, 564, 12),
  (⟨"RebuildDesk$RuleLines", "sourcePhrase", "(I)I"⟩, prog_7_method_9_code, 2, (some .int), 3, 66, 2, 580, 40, 579, 14),
  (⟨"RebuildDesk$RuleLines", "targetPhrase", "(I)I"⟩, prog_7_method_8_code, 2, (some .int), 1, 21, 2, 571, 40, 570, 13),
  (⟨"RebuildDesk$RuleLines", "targets", "(I)I"⟩, prog_7_method_7_code, 2, (some .int), 4, 90, 2, 613, 40, 612, 15),
  (⟨"RebuildDesk$Rules", "addPattern", "(II)V"⟩, prog_8_method_4_code, 3, none, 0, 0, 2, 648, 41, 646, 647),
  (⟨"RebuildDesk$Rules", "addRule", "(IIZ)V"⟩, prog_8_method_3_code, 5, none, 2, 41, 2, 641, 41, 639, 640),
  (⟨"RebuildDesk$Rules", "clear", "()V"⟩, prog_8_method_2_code, 2, none, 0, 0, 2, 637, 41, 635, 636),
  (⟨"RebuildDesk$Rules", "patternSource", "(II)I"⟩, prog_8_method_7_code, 6, (some .int), 2, 41, 2, 688, 41, 686, 687),
  (⟨"RebuildDesk$Rules", "sourcesOf", "(I)I"⟩, prog_8_method_5_code, 2, (some .int), 0, 0, 2, 286, 41, 284, 285),
  (⟨"RebuildDesk$Rules", "withRecipe", "()I"⟩, prog_8_method_6_code, 1, (some .int), 0, 0, 2, 294, 41, 292, 293),
  (⟨"RebuildDesk$Stamps", "greatest", "()I"⟩, prog_9_method_4_code, 3, (some .int), 1, 21, 2, 745, 42, 743, 744),
  (⟨"RebuildDesk$Stamps", "of", "(I)I"⟩, prog_9_method_2_code, 2, (some .int), 0, 0, 2, 317, 42, 315, 316),
  (⟨"RebuildDesk$Stamps", "put", "(II)V"⟩, prog_9_method_3_code, 3, none, 0, 0, 2, 309, 42, 307, 308),
  (⟨"RebuildDesk$Text", "append", "(J)I"⟩, prog_10_method_4_code, 5, (some .int), 2, 45, 2, 249, 37, 247, 248),
  (⟨"RebuildDesk$Text", "clear", "()I"⟩, prog_10_method_3_code, 2, (some .int), 0, 0, 2, 263, 37, 261, 262),
  (⟨"RebuildDesk$Text", "codeAt", "(I)C"⟩, prog_10_method_7_code, 2, (some .char), 0, 0, 2, 352, 37, 350, 351),
  (⟨"RebuildDesk$Text", "countCodes", "(J)I"⟩, prog_10_method_6_code, 4, (some .int), 1, 22, 1, 252, 37, 251, 0),
  (⟨"RebuildDesk$Text", "fileAt", "(I)I"⟩, prog_10_method_9_code, 2, (some .int), 2, 42, 2, 545, 37, 543, 544),
  (⟨"RebuildDesk$Text", "isMacroUseAt", "(I)Z"⟩, prog_10_method_11_code, 2, (some .boolean), 1, 21, 2, 519, 37, 517, 518),
  (⟨"RebuildDesk$Text", "isNameAt", "(I)Z"⟩, prog_10_method_8_code, 2, (some .boolean), 1, 21, 2, 541, 37, 539, 540),
  (⟨"RebuildDesk$Text", "isOnlySpaces", "(II)Z"⟩, prog_10_method_15_code, 4, (some .boolean), 1, 21, 2, 362, 37, 360, 361),
  (⟨"RebuildDesk$Text", "kindAt", "(I)I"⟩, prog_10_method_10_code, 2, (some .int), 1, 21, 2, 549, 37, 547, 548),
  (⟨"RebuildDesk$Text", "macroUsedAt", "(I)I"⟩, prog_10_method_12_code, 2, (some .int), 1, 21, 2, 523, 37, 521, 522),
  (⟨"RebuildDesk$Text", "packedCode", "(JI)I"⟩, prog_10_method_5_code, 3, (some .int), 0, 0, 1, 255, 37, 254, 0),
  (⟨"RebuildDesk$Text", "partAt", "(I)I"⟩, prog_10_method_13_code, 4, (some .int), 1, 21, 2, 380, 37, 378, 379),
  (⟨"RebuildDesk$Text", "phraseEnd", "(I)I"⟩, prog_10_method_14_code, 3, (some .int), 2, 44, 2, 376, 37, 374, 375),
  (⟨"RebuildDesk$Text", "size", "()I"⟩, prog_10_method_2_code, 1, (some .int), 0, 0, 2, 271, 37, 269, 270),
  (⟨"RebuildDeskLaw", "make", "(LRebuildDesk;I[J)I"⟩, method_4_code, 4, (some .int), 7, 134, 3, 651, 35, 650, 0),
  (⟨"RebuildDeskLaw", "read", "(LRebuildDesk;[J)I"⟩, method_3_code, 3, (some .int), 7, 155, 3, 336, 35, 335, 0),
  (⟨"RebuildDeskModel", "at", "(II)I"⟩, prog_12_method_7_code, 3, (some .int), 0, 0, 2, 936, 45, 935, 25),
  (⟨"RebuildDeskModel", "colon", "(II)I"⟩, prog_12_method_10_code, 4, (some .int), 0, 0, 2, 944, 45, 943, 27),
  (⟨"RebuildDeskModel", "erase", "()I"⟩, prog_12_method_5_code, 2, (some .int), 0, 0, 2, 909, 45, 907, 908),
  (⟨"RebuildDeskModel", "fail", "(II)I"⟩, prog_12_method_15_code, 3, (some .int), 0, 0, 2, 948, 45, 947, 28),
  (⟨"RebuildDeskModel", "fault", "()I"⟩, prog_12_method_18_code, 1, (some .int), 0, 0, 2, 964, 45, 962, 963),
  (⟨"RebuildDeskModel", "first", "(I)I"⟩, prog_12_method_24_code, 3, (some .int), 1, 21, 2, 993, 45, 992, 33),
  (⟨"RebuildDeskModel", "graph", "()V"⟩, prog_12_method_25_code, 5, none, 2, 43, 2, 989, 45, 988, 32),
  (⟨"RebuildDeskModel", "has", "(II)Z"⟩, prog_12_method_23_code, 2, (some .boolean), 0, 0, 1, 996, 45, 995, 0),
  (⟨"RebuildDeskModel", "kind", "(II)I"⟩, prog_12_method_11_code, 4, (some .int), 2, 48, 2, 925, 45, 924, 23),
  (⟨"RebuildDeskModel", "length", "()I"⟩, prog_12_method_6_code, 1, (some .int), 0, 0, 2, 913, 45, 911, 912),
  (⟨"RebuildDeskModel", "lines", "()I"⟩, prog_12_method_12_code, 7, (some .int), 3, 71, 2, 921, 45, 920, 22),
  (⟨"RebuildDeskModel", "macros", "()V"⟩, prog_12_method_13_code, 6, none, 2, 48, 2, 952, 45, 951, 29),
  (⟨"RebuildDeskModel", "make", "(I)I"⟩, prog_12_method_27_code, 8, (some .int), 3, 67, 2, 985, 45, 983, 984),
  (⟨"RebuildDeskModel", "ran", "(I)I"⟩, prog_12_method_28_code, 2, (some .int), 1, 22, 2, 1004, 45, 1002, 1003),
  (⟨"RebuildDeskModel", "read", "()I"⟩, prog_12_method_16_code, 5, (some .int), 4, 97, 2, 917, 45, 915, 916),
  (⟨"RebuildDeskModel", "reason", "(I)I"⟩, prog_12_method_29_code, 2, (some .int), 1, 22, 2, 1008, 45, 1006, 1007),
  (⟨"RebuildDeskModel", "reasonsOf", "(I)V"⟩, prog_12_method_26_code, 7, none, 1, 21, 2, 1000, 45, 999, 34),
  (⟨"RebuildDeskModel", "recipe", "(I)I"⟩, prog_12_method_20_code, 2, (some .int), 1, 22, 2, 972, 45, 970, 971),
  (⟨"RebuildDeskModel", "ring", "(I)Z"⟩, prog_12_method_14_code, 4, (some .boolean), 0, 0, 2, 956, 45, 955, 30),
  (⟨"RebuildDeskModel", "segment", "(II)Z"⟩, prog_12_method_8_code, 7, (some .boolean), 1, 22, 2, 940, 45, 939, 26),
  (⟨"RebuildDeskModel", "sources", "(I)I"⟩, prog_12_method_19_code, 2, (some .int), 1, 22, 2, 968, 45, 966, 967),
  (⟨"RebuildDeskModel", "spaces", "(II)Z"⟩, prog_12_method_9_code, 4, (some .boolean), 0, 0, 2, 929, 45, 928, 24),
  (⟨"RebuildDeskModel", "stamp", "(II)Z"⟩, prog_12_method_21_code, 3, (some .boolean), 1, 22, 2, 976, 45, 974, 975),
  (⟨"RebuildDeskModel", "stampOf", "(I)I"⟩, prog_12_method_22_code, 2, (some .int), 1, 22, 2, 981, 45, 979, 980),
  (⟨"RebuildDeskModel", "take", "()V"⟩, prog_12_method_17_code, 5, none, 2, 48, 2, 960, 45, 959, 31),
  (⟨"RebuildDeskModel", "thrown", "()I"⟩, prog_12_method_2_code, 1, (some .int), 0, 0, 2, 901, 45, 899, 900),
  (⟨"RebuildDeskModel", "within", "(III)Z"⟩, prog_12_method_3_code, 3, (some .boolean), 0, 0, 1, 932, 45, 931, 0),
  (⟨"RebuildDeskModel", "write", "(J)I"⟩, prog_12_method_4_code, 6, (some .int), 0, 0, 2, 905, 45, 903, 904),
  (⟨"java/lang/Integer", "bitCount", "(I)I"⟩, prog_19_method_49_code, 1, (some .int), 0, 0, 1, 751, 57, 750, 0)]
def am_tabs : List (List (List (List (Nat × am_E)))) := [[am_t0, am_t1, am_t2, am_t3, am_t4, am_t5, am_t6, am_t7, am_t8, am_t9, am_t10, am_t11], [am_t12, am_t13, am_t14, am_t15, am_t16, am_t17, am_t18, am_t19, am_t20, am_t21, am_t22, am_t23], [am_t24, am_t25, am_t26, am_t27, am_t28, am_t29, am_t30, am_t31, am_t32, am_t33, am_t34, am_t35], [am_t36, am_t37, am_t38, am_t39, am_t40, am_t41, am_t42, am_t43, am_t44, am_t45, am_t46, am_t47], [am_t48, am_t49, am_t50, am_t51, am_t52, am_t53, am_t54, am_t55, am_t56, am_t57, am_t58, am_t59], [am_t60, am_t61, am_t62, am_t63, am_t64, am_t65, am_t66, am_t67, am_t68, am_t69, am_t70, am_t71], [am_t72, am_t73, am_t74, am_t75, am_t76, am_t77, am_t78, am_t79, am_t80, am_t81, am_t82, am_t83], [am_t84, am_t85, am_t86, am_t87, am_t88, am_t89, am_t90, am_t91, am_t92, am_t93, am_t94, am_t95], [am_t96, am_t97, am_t98, am_t99, am_t100, am_t101, am_t102, am_t103, am_t104, am_t105, am_t106, am_t107], [am_t108, am_t109, am_t110, am_t111, am_t112, am_t113, am_t114, am_t115, am_t116, am_t117, am_t118, am_t119], [am_t120]]
def am_hands : List (Nat × Nat × Nat × Nat) := [(90, 4, 3, 13), (90, 4, 1, 16), (90, 4, 4, 19), (90, 4, 5, 22), (91, 3, 0, 12), (91, 3, 1, 15), (91, 3, 2, 18)]
end
section
def am_nth {α : Type} : List α → Nat → Option α
  | [], _ => none
  | x :: _, 0 => some x
  | _ :: r, n + 1 => am_nth r n
def am_w3 (a : Nat) (as : List Value) : Bool := bif Nat.beq a 91 then (match as with
    | [.ref x, .ref y] => Nat.beq x 8 && Nat.beq y 53
    | _ => false) else bif Nat.beq a 90 then (match as with
    | [.ref x, .int _, .ref y] => Nat.beq x 8 && Nat.beq y 53
    | _ => false) else true
def am_find {α : Type} : List (Nat × α) → Nat → Option α
  | [], _ => none
  | (j, x) :: r, i => bif Nat.beq j i then some x else am_find r i
def am_del : am_L → Nat → am_L
  | [], _ => []
  | (j, x) :: r, i => bif Nat.beq j i then am_del r i else (j, x) :: am_del r i
def am_ins : am_L → Nat → Value → am_L
  | [], i, v => [(i, v)]
  | (j, x) :: r, i, v => bif Nat.ble i j then (i, v) :: (j, x) :: r else (j, x) :: am_ins r i v
def am_put (L : am_L) (i : Nat) (v : Value) : am_L := am_ins (am_del L i) i v
def am_trim : am_L → Nat → am_L
  | [], _ => []
  | (j, x) :: r, n => bif Nat.ble n j then am_trim r n else (j, x) :: am_trim r n
def am_two (v : Value) : Bool := match v with
  | .long _ => true
  | .double _ => true
  | _ => false
def am_nol : am_L → Nat → Bool
  | [], _ => true
  | (j, x) :: r, i => !(Nat.beq (j + 1) i && am_two x) && am_nol r i
def am_args : Nat → List Value → am_L
  | _, [] => []
  | n, v :: r => (n, v) :: am_args (bif am_two v then n + 2 else n + 1) r
def am_code (mi pc : Nat) : Option am_E := match am_nth am_tabs (mi / 12) with
  | some u => match am_nth u (mi % 12) with
    | some t => match am_nth t (pc / 16) with
      | some c => am_find c pc
      | none => none
    | none => none
  | none => none
def am_ob (k : Nat) : Option ((Nat × Nat) ⊕ (Nat × List (Option Nat))) := bif Nat.ble 8 k then am_nth am_obs (k - 8) else none
def am_w (g : am_G) (k i : Nat) (v : Int32) : am_G := fun k' => if k' = k then (fun i' => if i' = i then v else g k i') else g k'
def am_in (i : Int32) (n : Nat) : Bool := !(decide (i < 0)) && decide (i.toNatClampNeg < n)
def am_cmp (c : ClassFile.Cond) (x y : Int32) : Bool := match c with
  | .eq => decide (x = y)
  | .ne => decide (¬ x = y)
  | .lt => decide (x < y)
  | .ge => decide (y ≤ x)
  | .gt => decide (y < x)
  | .le => decide (x ≤ y)
def am_cP (c : ClassFile.Cond) (x y : Int32) : Prop := match c with
  | .eq => x = y
  | .ne => ¬ x = y
  | .lt => x < y
  | .ge => y ≤ x
  | .gt => y < x
  | .le => x ≤ y
def am_ng (c : ClassFile.Cond) : ClassFile.Cond := match c with
  | .eq => .ne
  | .ne => .eq
  | .lt => .ge
  | .ge => .lt
  | .gt => .le
  | .le => .gt
theorem am_cP_ng (c : ClassFile.Cond) (x y : Int32) (h : ¬ am_cP c x y) : am_cP (am_ng c) x y := by
  cases c with
  | eq => exact h
  | ne => exact Decidable.of_not_not (p := x = y) h
  | lt => exact Int32.not_lt.mp h
  | ge => exact Int32.not_le.mp h
  | gt => exact Int32.not_lt.mp h
  | le => exact Int32.not_le.mp h
theorem am_cmp_iff (c : ClassFile.Cond) (x y : Int32) : am_cmp c x y = true ↔ am_cP c x y := by cases c <;> exact decide_eq_true_iff
def am_chr (x : Int32) : Int32 := (x.toUInt32 % 65536).toInt32
def am_isb (v : Int32) : Bool := decide (v = 0) || decide (v = 1)
def am_isc (v : Int32) : Bool := decide (0 ≤ v) && decide (v < 65536)
def am_wt : List Value → Nat
  | [] => 0
  | v :: r => bif am_two v then am_wt r + 2 else am_wt r + 1
def am_pop : Nat → List Value → List Value → Option (List Value × List Value)
  | 0, S, acc => some (acc, S)
  | _ + 1, [], _ => none
  | n + 1, v :: S, acc => am_pop n S (v :: acc)
def am_call (mi pc : Nat) (L : am_L) (g : am_G) (t a ml : Nat) (as r : List Value) : Option am_A := bif Nat.ble (am_wt r) 8 && Nat.ble (am_wt as) ml then am_ca (a, 0, am_args 0 as, [], g, t) (mi, pc, L, r, g, t) else none
def am_ts (pc : Nat) (df lo hi : Int) (offs : Array Int) (x : Int32) : Nat := bif decide (x.toInt < lo) || decide (hi < x.toInt) then ((pc : Int) + df).toNat else ((pc : Int) + offs.getD (x.toInt - lo).toNat 0).toNat
section
variable (mi pc nxt : Nat) (L : am_L) (S : List Value) (g : am_G) (t : Nat)
def am_iLd (a : Nat) : Option am_A := match am_find L a with
  | some (.int x) => am_nx (mi, nxt, L, .int x :: S, g, t)
  | _ => none
def am_lLd (a : Nat) : Option am_A := match am_find L a with
  | some (.long x) => am_nx (mi, nxt, L, .long x :: S, g, t)
  | _ => none
def am_aLd (a : Nat) : Option am_A := match am_find L a with
  | some (.ref x) => am_nx (mi, nxt, L, .ref x :: S, g, t)
  | _ => none
def am_iSt (a : Nat) : Option am_A := match S with
  | .int x :: r => bif am_nol L a then am_nx (mi, nxt, am_put L a (.int x), r, g, t) else none
  | _ => none
def am_iInc (a : Nat) (v : Value) : Option am_A := match am_find L a, v with
  | some (.int x), .int z => bif am_nol L a then am_nx (mi, nxt, am_put L a (.int (x + z)), S, g, t) else none
  | _, _ => none
def am_bin (f : Int32 → Int32 → Int32) : Option am_A := match S with
  | .int y :: .int x :: r => am_nx (mi, nxt, L, .int (f x y) :: r, g, t)
  | _ => none
def am_div (f : Int32 → Int32 → Int32) : Option am_A := match S with
  | .int y :: .int x :: r => am_ck (decide (¬ y = 0)) (mi, nxt, L, .int (f x y) :: r, g, t)
  | _ => none
def am_un (f : Int32 → Value) : Option am_A := match S with
  | .int x :: r => am_nx (mi, nxt, L, f x :: r, g, t)
  | _ => none
def am_l2 : Option am_A := match S with
  | .long x :: r => am_nx (mi, nxt, L, .int x.toInt32 :: r, g, t)
  | _ => none
def am_lbin (f : Int64 → Int64 → Value) : Option am_A := match S with
  | .long y :: .long x :: r => am_nx (mi, nxt, L, f x y :: r, g, t)
  | _ => none
def am_lsh (f : Int64 → Int32 → Int64) : Option am_A := match S with
  | .int y :: .long x :: r => am_nx (mi, nxt, L, .long (f x y) :: r, g, t)
  | _ => none
def am_dup : Option am_A := match S with
  | .int x :: r => am_nx (mi, nxt, L, .int x :: .int x :: r, g, t)
  | .ref x :: r => am_nx (mi, nxt, L, .ref x :: .ref x :: r, g, t)
  | _ => none
def am_dup2 : Option am_A := match S with
  | .int y :: .ref x :: r => am_nx (mi, nxt, L, .int y :: .ref x :: .int y :: .ref x :: r, g, t)
  | _ => none
def am_if1 (a : Nat) (q : ClassFile.Cond) : Option am_A := match S with
  | .int x :: r => am_br q x 0 (mi, a, L, r, g, t) (mi, nxt, L, r, g, t)
  | _ => none
def am_if2 (a : Nat) (q : ClassFile.Cond) : Option am_A := match S with
  | .int y :: .int x :: r => am_br q x y (mi, a, L, r, g, t) (mi, nxt, L, r, g, t)
  | _ => none
def am_ifa (a : Nat) (q : ClassFile.ACond) : Option am_A := match q, S with
  | .ne, .ref y :: .ref x :: r => am_bc (Nat.blt x 6 && Nat.blt y 6) .ne (Int32.ofNat x) (Int32.ofNat y) (mi, a, L, r, g, t) (mi, nxt, L, r, g, t)
  | _, _ => none
def am_sw (df lo hi : Int) (offs : Array Int) : Option am_A := match S with
  | .int x :: r => am_ju (mi, am_ts pc df lo hi offs x, L, r, g, t)
  | _ => none
def am_gs (a : Nat) : Option am_A := bif Nat.blt a 6 then am_nx (mi, nxt, L, .ref a :: S, g, t) else none
def am_gf (a b : Nat) : Option am_A := match S with
  | .ref k :: r => match am_ob k with
    | some (.inr (ci, fs)) => bif Nat.beq ci a then (match am_nth fs b with
      | some (some q) => am_nx (mi, nxt, L, .ref q :: r, g, t)
      | some none => am_nx (mi, nxt, L, .int (g k b) :: r, g, t)
      | none => none) else none
    | _ => none
  | _ => none
def am_pf (a b : Nat) : Option am_A := match S with
  | .int x :: .ref k :: r => match am_ob k with
    | some (.inr (ci, fs)) => bif Nat.beq ci a then (match am_nth fs b with
      | some none => am_nx (mi, nxt, L, r, am_w g k b x, t)
      | _ => none) else none
    | _ => none
  | _ => none
def am_len : Option am_A := match S with
  | .ref k :: r => bif Nat.beq k 6 then am_nx (mi, nxt, L, .int (g 7 0) :: r, g, t) else none
  | _ => none
def am_ald (ty : Nat) (f : Int32 → Value) : Option am_A := match S with
  | .int j :: .ref k :: r => match am_ob k with
    | some (.inl (ty', m)) => bif Nat.beq ty' ty then am_ck (am_in j m) (mi, nxt, L, f (g k j.toNatClampNeg) :: r, g, t) else none
    | _ => none
  | _ => none
def am_ild : Option am_A := match S with
  | .int j :: .ref k :: r => bif Nat.beq k 6 then am_ck (am_in j (g 7 0).toNatClampNeg) (mi, nxt, L, .int (g 6 j.toNatClampNeg) :: r, g, t) else match am_ob k with
    | some (.inl (ty', m)) => bif Nat.beq ty' 0 then am_ck (am_in j m) (mi, nxt, L, .int (g k j.toNatClampNeg) :: r, g, t) else none
    | _ => none
  | _ => none
def am_rld : Option am_A := match S with
  | .int j :: .ref k :: r => match am_ob k with
    | some (.inl (ty', m)) => bif Nat.beq ty' 4 then am_ck (am_in j m && am_in (g k j.toNatClampNeg - 1) 6) (mi, nxt, L, .ref (g k j.toNatClampNeg - 1).toNatClampNeg :: r, g, t) else none
    | _ => none
  | _ => none
def am_ast (ty : Nat) (ck : Bool → Int32 → Bool) (f : Int32 → Int32) : Option am_A := match S with
  | .int x :: .int j :: .ref k :: r => match am_ob k with
    | some (.inl (ty', m)) => bif Nat.beq ty' ty then am_ck (ck (am_in j m) x) (mi, nxt, L, r, am_w g k j.toNatClampNeg (f x), t) else none
    | _ => none
  | _ => none
def am_lst : Option am_A := match S with
  | .long x :: .int j :: .ref k :: r => match am_ob k with
    | some (.inl (ty', m)) => bif Nat.beq ty' 2 then am_ck (am_in j m && decide (x = x.toInt32.toInt64)) (mi, nxt, L, r, am_w g k j.toNatClampNeg x.toInt32, t) else none
    | _ => none
  | _ => none
def am_rst : Option am_A := match S with
  | .ref x :: .int j :: .ref k :: r => match am_ob k with
    | some (.inl (ty', m)) => bif Nat.beq ty' 4 then am_ck (am_in j m && Nat.blt x 6) (mi, nxt, L, r, am_w g k j.toNatClampNeg (Int32.ofNat x + 1), t) else none
    | _ => none
  | _ => none
def am_iv (v : Value) (a b d : Nat) : Option am_A := match v, am_pop d S [] with
  | .ref ml, some (as, .ref k :: r) => match am_ob k with
    | some (.inr (ci, _)) => bif Nat.beq ci b then am_call mi pc L g t a ml (.ref k :: as) r else none
    | _ => none
  | _, _ => none
def am_mx (f : Int32 → Int32 → Int32) : Option am_A := match S with
  | .int y :: .int x :: r => bif Nat.ble (am_wt r) 8 then am_nx (mi, nxt, L, .int (f x y) :: r, g, t) else none
  | _ => none
def am_is (v : Value) (a d : Nat) : Option am_A := match v, am_pop d S [] with
  | .ref ml, some (as, r) => bif am_w3 a as then am_call mi pc L g t a ml as r else none
  | _, _ => none
def am_irt (d : Nat) : Option am_A := match S with
  | [.int x] => match d with
    | 0 => am_en (.inl (some (.int x)), g, t)
    | 1 => am_ec (am_isb x) (.inl (some (.int x)), g, t)
    | 2 => am_ec (am_isc x) (.inl (some (.int x)), g, t)
    | _ => am_en (.inl (some (.int x)), g, t + 1)
  | _ => none
def am_art : Option am_A := match S with
  | [.ref k] => am_ec (Nat.blt k 6) (.inl (some (.ref k)), g, t)
  | _ => none
def am_vrt : Option am_A := match S with
  | [] => am_en (.inl none, g, t)
  | _ => none
def am_thr (a : Nat) : Option am_A := match S with
  | [] => am_en (.inr a, g, t)
  | _ => none
end
def am_do (i : Instr) (nxt : Nat) (v : Value) (a b d mi pc : Nat) (L : am_L) (S : List Value) (g : am_G) (t : Nat) : Option am_A :=
  match i with
  | .iconst _ => am_nx (mi, nxt, L, v :: S, g, t)
  | .bipush _ => am_nx (mi, nxt, L, v :: S, g, t)
  | .sipush _ => am_nx (mi, nxt, L, v :: S, g, t)
  | .ldc _ => am_nx (mi, nxt, L, v :: S, g, t)
  | .ldc_w _ => am_nx (mi, nxt, L, v :: S, g, t)
  | .ldc2_w _ => am_nx (mi, nxt, L, v :: S, g, t)
  | .iload_n _ => am_iLd mi nxt L S g t a
  | .iload _ => am_iLd mi nxt L S g t a
  | .lload_n _ => am_lLd mi nxt L S g t a
  | .aload_n _ => am_aLd mi nxt L S g t a
  | .aload _ => am_aLd mi nxt L S g t a
  | .istore_n _ => am_iSt mi nxt L S g t a
  | .istore _ => am_iSt mi nxt L S g t a
  | .iinc _ _ => am_iInc mi nxt L S g t a v
  | .iadd => am_bin mi nxt L S g t (fun x y => x + y)
  | .isub => am_bin mi nxt L S g t (fun x y => x - y)
  | .imul => am_bin mi nxt L S g t (fun x y => x * y)
  | .iand => am_bin mi nxt L S g t (fun x y => x &&& y)
  | .ior => am_bin mi nxt L S g t (fun x y => x ||| y)
  | .ixor => am_bin mi nxt L S g t (fun x y => x ^^^ y)
  | .ishl => am_bin mi nxt L S g t (fun x y => x <<< (y &&& 31))
  | .ishr => am_bin mi nxt L S g t (fun x y => x >>> (y &&& 31))
  | .iushr => am_bin mi nxt L S g t (fun x y => (x.toUInt32 >>> (y.toUInt32 &&& Int32.toUInt32 31)).toInt32)
  | .idiv => am_div mi nxt L S g t (fun x y => x / y)
  | .irem => am_div mi nxt L S g t (fun x y => x - x / y * y)
  | .i2l => am_un mi nxt L S g t (fun x => .long x.toInt64)
  | .l2i => am_l2 mi nxt L S g t
  | .i2c => am_un mi nxt L S g t (fun x => .int (am_chr x))
  | .land => am_lbin mi nxt L S g t (fun x y => .long (x &&& y))
  | .lor => am_lbin mi nxt L S g t (fun x y => .long (x ||| y))
  | .lcmp => am_lbin mi nxt L S g t (fun x y => .int (lg_cmp x y))
  | .lshl => am_lsh mi nxt L S g t (fun x y => x <<< (y.toInt64 &&& 63))
  | .lshr => am_lsh mi nxt L S g t (fun x y => x >>> (y.toInt64 &&& 63))
  | .lushr => am_lsh mi nxt L S g t (fun x y => (x.toUInt64 >>> (y.toInt64.toUInt64 &&& Int64.toUInt64 63)).toInt64)
  | .dup => am_dup mi nxt L S g t
  | .dup2 => am_dup2 mi nxt L S g t
  | .ifCond q _ => am_if1 mi nxt L S g t a q
  | .if_icmp q _ => am_if2 mi nxt L S g t a q
  | .if_acmp q _ => am_ifa mi nxt L S g t a q
  | .goto _ => am_nx (mi, a, L, S, g, t)
  | .tableswitch df lo hi offs => am_sw mi pc L S g t df lo hi offs
  | .getstatic _ => am_gs mi nxt L S g t a
  | .getfield _ => am_gf mi nxt L S g t a b
  | .putfield _ => am_pf mi nxt L S g t a b
  | .arraylength => am_len mi nxt L S g t
  | .iaload => am_ild mi nxt L S g t
  | .caload => am_ald mi nxt L S g t 1 (fun x => .int x)
  | .baload => am_ald mi nxt L S g t 3 (fun x => .int x)
  | .laload => am_ald mi nxt L S g t 2 (fun x => .long x.toInt64)
  | .aaload => am_rld mi nxt L S g t
  | .iastore => am_ast mi nxt L S g t 0 (fun b _ => b) (fun x => x)
  | .castore => am_ast mi nxt L S g t 1 (fun b _ => b) (fun x => am_chr x)
  | .bastore => am_ast mi nxt L S g t 3 (fun b x => b && am_isb x) (fun x => x)
  | .lastore => am_lst mi nxt L S g t
  | .aastore => am_rst mi nxt L S g t
  | .invokevirtual _ => am_iv mi pc L S g t v a b d
  | .invokestatic _ => bif Nat.beq b 1 then am_mx mi nxt L S g t (fun x y => if x < y then y else x) else bif Nat.beq b 2 then am_mx mi nxt L S g t (fun x y => if y < x then y else x) else am_is mi pc L S g t v a d
  | .ireturn => am_irt S g t d
  | .areturn => am_art S g t
  | .return_ => am_vrt S g t
  | .new _ => am_thr S g t a
  | _ => none
def am_step (st : am_S) : Option am_A := match st with
  | (mi, pc, L, S, g, t) => match am_code mi pc with
    | some (i, nxt, kp, v, a, b, d, _) => match kp with
      | 0 => am_do i nxt v a b d mi pc L S g t
      | q + 1 => am_do i nxt v a b d mi pc (am_trim L q) S g t
    | none => none
def am_catch : List (Nat × Nat × Nat × Nat) → Nat → Nat → Nat → Option Nat
  | [], _, _, _ => none
  | (m, p, x, t) :: r, mi, pc, y => bif Nat.beq m mi && (Nat.beq p pc && Nat.beq x y) then some t else am_catch r mi pc y
def am_cont (rs : am_S) (f : am_R) : Option am_S := match rs, f with
  | (mi, pc, L, r, _, _), (.inl (some v), g, t) => some (mi, pc + 3, L, v :: r, g, t)
  | (mi, pc, L, r, _, _), (.inl none, g, t) => some (mi, pc + 3, L, r, g, t)
  | (mi, pc, L, _, _, _), (.inr x, g, t) => match am_catch am_hands mi pc x with
    | some h => some (mi, h, L, [], g, t)
    | none => none
def am_eval : Nat → am_S → Option am_R
  | 0, _ => none
  | k + 1, st => match am_step st with
    | some (.inl s) => am_eval k s
    | some (.inr (.inr (.inr (.inr (.inr (.inr s)))))) => am_eval k s
    | some (.inr (.inl (b, s))) => bif b then am_eval k s else none
    | some (.inr (.inr (.inl (.inl (q, x, y, s1, s2))))) => bif am_cmp q x y then am_eval k s1 else am_eval k s2
    | some (.inr (.inr (.inl (.inr (b, q, x, y, s1, s2))))) => bif b then (bif am_cmp q x y then am_eval k s1 else am_eval k s2) else none
    | some (.inr (.inr (.inr (.inl r)))) => some r
    | some (.inr (.inr (.inr (.inr (.inl (b, r)))))) => bif b then some r else none
    | some (.inr (.inr (.inr (.inr (.inr (.inl (e, rs))))))) => match am_eval k e with
      | some r => match am_cont rs r with
        | some s => am_eval k s
        | none => none
      | none => none
    | none => none
theorem am_eval_mono : ∀ (k : Nat) (st : am_S) (r : am_R), am_eval k st = some r → am_eval (k + 1) st = some r := by
  intro k
  induction k with
  | zero => intro st r h; simp [am_eval] at h
  | succ k ih =>
    intro st r h
    rw [am_eval] at h ⊢
    cases hs : am_step st with
    | none => rw [hs] at h; cases h
    | some q =>
      rw [hs] at h
      rcases q with s | ⟨b, s⟩ | (⟨q, x, y, s1, s2⟩ | ⟨b, q, x, y, s1, s2⟩) | r' | ⟨b, r'⟩ | ⟨e, rs⟩ | s
      · exact ih _ _ h
      · cases b with
        | true => exact ih _ _ h
        | false => cases h
      · dsimp only at h ⊢
        cases hb : am_cmp q x y with
        | true => rw [hb] at h; exact ih _ _ h
        | false => rw [hb] at h; exact ih _ _ h
      · cases b with
        | false => cases h
        | true =>
          dsimp only [cond_true] at h ⊢
          cases hb : am_cmp q x y with
          | true => rw [hb] at h; exact ih _ _ h
          | false => rw [hb] at h; exact ih _ _ h
      · exact h
      · exact h
      · dsimp only at h ⊢
        cases he : am_eval k e with
        | none => rw [he] at h; cases h
        | some f =>
          rw [he] at h
          rw [ih _ _ he]
          dsimp only at h ⊢
          cases hc : am_cont rs f with
          | none => rw [hc] at h; cases h
          | some st' =>
            rw [hc] at h
            exact ih _ _ h
      · exact ih _ _ h
theorem am_eval_le {k k' : Nat} (hk : k ≤ k') {st : am_S} {r : am_R} (h : am_eval k st = some r) : am_eval k' st = some r := by
  induction hk with
  | refl => exact h
  | step _ ih => exact am_eval_mono _ _ _ ih
def am_GQ (st : am_S) (Q : am_R → Prop) : Prop := ∃ k r, am_eval k st = some r ∧ Q r
def am_af (mi pc : Nat) (L : am_L) (S : List Value) (Q : am_R → Prop) (f : am_R) : Prop := match f with
  | (.inl (some v), g, t) => am_GQ (mi, pc + 3, L, v :: S, g, t) Q
  | (.inl none, g, t) => am_GQ (mi, pc + 3, L, S, g, t) Q
  | (.inr x, g, t) => match am_catch am_hands mi pc x with
    | some h => am_GQ (mi, h, L, [], g, t) Q
    | none => False
def am_chk (b : Bool) (P : Prop) : Prop := b = true ∧ P
theorem am_chk_i {b : Bool} {P : Prop} (h : b = true) (k : P) : am_chk b P := ⟨h, k⟩
theorem am_chk_e {b : Bool} {P : Prop} (h : am_chk b P) : b = true ∧ P := h
def am_mem : List Nat → Nat → Bool
  | [], _ => false
  | x :: r, n => bif Nat.beq x n then true else am_mem r n
def am_tr (s : am_S) : am_S := match s with
  | (mi, pc, L, S, g, t) => match am_code mi pc with
    | some (_, _, kp, _) => match kp with
      | 0 => (mi, pc, L, S, g, t)
      | q + 1 => (mi, pc, am_trim L q, S, g, t)
    | none => (mi, pc, L, S, g, t)
theorem am_trim_trim : ∀ (L : am_L) (n : Nat), am_trim (am_trim L n) n = am_trim L n
  | [], _ => rfl
  | (j, x) :: r, n => by
    rw [am_trim]
    cases hb : Nat.ble n j with
    | true => exact am_trim_trim r n
    | false =>
      dsimp only [cond_false]
      rw [am_trim, hb]
      dsimp only [cond_false]
      rw [am_trim_trim r n]
theorem am_step_tr (s : am_S) : am_step (am_tr s) = am_step s := by
  obtain ⟨mi, pc, L, S, g, t⟩ := s
  cases hc : am_code mi pc with
  | none => simp only [am_tr, hc]
  | some e =>
    obtain ⟨i, nxt, kp, v, a, b, d, w⟩ := e
    cases kp with
    | zero => simp only [am_tr, hc]
    | succ q => simp only [am_tr, am_step, hc, am_trim_trim]
theorem am_eval_tr (s : am_S) : ∀ k, am_eval k (am_tr s) = am_eval k s
  | 0 => rfl
  | k + 1 => by rw [am_eval, am_eval, am_step_tr]
theorem am_GQ_tr {s : am_S} {Q : am_R → Prop} (h : am_GQ (am_tr s) Q) : am_GQ s Q := by
  obtain ⟨k, r, hk, hr⟩ := h
  exact ⟨k, r, by rw [← am_eval_tr]; exact hk, hr⟩
def am_wp (stops : List Nat) : Nat → am_S → (am_R → Prop) → Prop
  | 0, st, Q => am_GQ st Q
  | n + 1, st, Q => match am_step st with
    | some (.inl s) => bif am_mem stops s.2.1 then am_GQ (am_tr s) Q else am_wp stops n s Q
    | some (.inr (.inl (b, s))) => am_chk b (bif am_mem stops s.2.1 then am_GQ (am_tr s) Q else am_wp stops n s Q)
    | some (.inr (.inr (.inl (.inl (q, x, y, s1, s2))))) => (am_cP q x y → bif am_mem stops s1.2.1 then am_GQ (am_tr s1) Q else am_wp stops n s1 Q) ∧ (am_cP (am_ng q) x y → bif am_mem stops s2.2.1 then am_GQ (am_tr s2) Q else am_wp stops n s2 Q)
    | some (.inr (.inr (.inl (.inr (b, q, x, y, s1, s2))))) => am_chk b ((am_cP q x y → bif am_mem stops s1.2.1 then am_GQ (am_tr s1) Q else am_wp stops n s1 Q) ∧ (am_cP (am_ng q) x y → bif am_mem stops s2.2.1 then am_GQ (am_tr s2) Q else am_wp stops n s2 Q))
    | some (.inr (.inr (.inr (.inl r)))) => Q r
    | some (.inr (.inr (.inr (.inr (.inl (b, r)))))) => am_chk b (Q r)
    | some (.inr (.inr (.inr (.inr (.inr (.inl (e, (mi, pc, L, S, _, _)))))))) => am_GQ e (am_af mi pc L S Q)
    | some (.inr (.inr (.inr (.inr (.inr (.inr s)))))) => am_GQ s Q
    | none => False
theorem am_GQ_nx {st s : am_S} {Q : am_R → Prop} (h : am_step st = some (.inl s)) (k : am_GQ s Q) : am_GQ st Q := by
  obtain ⟨n, r, hn, hr⟩ := k
  refine ⟨n + 1, r, ?_, hr⟩
  rw [am_eval, h]
  exact hn
theorem am_GQ_ju {st s : am_S} {Q : am_R → Prop} (h : am_step st = some (.inr (.inr (.inr (.inr (.inr (.inr s))))))) (k : am_GQ s Q) : am_GQ st Q := by
  obtain ⟨n, r, hn, hr⟩ := k
  refine ⟨n + 1, r, ?_, hr⟩
  rw [am_eval, h]
  exact hn
theorem am_GQ_ca {st e : am_S} {mi pc : Nat} {L : am_L} {S : List Value} {g : am_G} {t : Nat} {Q : am_R → Prop} (h : am_step st = some (.inr (.inr (.inr (.inr (.inr (.inl (e, (mi, pc, L, S, g, t))))))))) (k : am_GQ e (am_af mi pc L S Q)) : am_GQ st Q := by
  obtain ⟨n, r, hn, hr⟩ := k
  have fin : ∀ s, am_cont (mi, pc, L, S, g, t) r = some s → am_GQ s Q → am_GQ st Q := by
    rintro s hc ⟨n2, r2, hn2, hr2⟩
    refine ⟨max n n2 + 1, r2, ?_, hr2⟩
    rw [am_eval, h]
    dsimp only
    rw [am_eval_le (Nat.le_max_left n n2) hn]
    dsimp only
    rw [hc]
    exact am_eval_le (Nat.le_max_right n n2) hn2
  obtain ⟨o, g', t'⟩ := r
  rcases o with (_ | v) | x
  · exact fin _ rfl hr
  · exact fin _ rfl hr
  · cases hc : am_catch am_hands mi pc x with
    | none =>
      simp only [am_af, hc] at hr
    | some y =>
      simp only [am_af, hc] at hr
      refine fin _ ?_ hr
      simp only [am_cont, hc]
theorem am_wp_ok (stops : List Nat) : ∀ (n : Nat) {st : am_S} {Q : am_R → Prop}, am_wp stops n st Q → am_GQ st Q := by
  intro n
  induction n with
  | zero => intro st Q h; exact h
  | succ n ih =>
    intro st Q h
    have sp : ∀ s : am_S, (bif am_mem stops s.2.1 then am_GQ (am_tr s) Q else am_wp stops n s Q) → am_GQ s Q := by
      intro s k
      cases hm : am_mem stops s.2.1 with
      | true => rw [hm] at k; exact am_GQ_tr k
      | false => rw [hm] at k; exact ih k
    rw [am_wp] at h
    cases hs : am_step st with
    | none => rw [hs] at h; exact h.elim
    | some q =>
      rw [hs] at h
      rcases q with s | ⟨b, s⟩ | (⟨q, x, y, s1, s2⟩ | ⟨b, q, x, y, s1, s2⟩) | r' | ⟨b, r'⟩ | ⟨e, mi, pc, L, S, g, t⟩ | s
      · exact am_GQ_nx hs (sp _ h)
      · obtain ⟨hb, h2⟩ := am_chk_e h
        subst hb
        obtain ⟨n, r, hn, hr⟩ := sp _ h2
        refine ⟨n + 1, r, ?_, hr⟩
        rw [am_eval, hs]
        exact hn
      · dsimp only at h
        cases hb : am_cmp q x y with
        | true =>
          obtain ⟨n, r, hn, hr⟩ := sp _ (h.1 ((am_cmp_iff q x y).mp hb))
          refine ⟨n + 1, r, ?_, hr⟩
          rw [am_eval, hs]
          dsimp only
          rw [hb]
          exact hn
        | false =>
          obtain ⟨n, r, hn, hr⟩ := sp _ (h.2 (am_cP_ng q x y (fun hq => by rw [(am_cmp_iff q x y).mpr hq] at hb; cases hb)))
          refine ⟨n + 1, r, ?_, hr⟩
          rw [am_eval, hs]
          dsimp only
          rw [hb]
          exact hn
      · obtain ⟨hbb, h2⟩ := am_chk_e h
        subst hbb
        cases hb : am_cmp q x y with
        | true =>
          obtain ⟨n, r, hn, hr⟩ := sp _ (h2.1 ((am_cmp_iff q x y).mp hb))
          refine ⟨n + 1, r, ?_, hr⟩
          rw [am_eval, hs]
          dsimp only [cond_true]
          rw [hb]
          exact hn
        | false =>
          obtain ⟨n, r, hn, hr⟩ := sp _ (h2.2 (am_cP_ng q x y (fun hq => by rw [(am_cmp_iff q x y).mpr hq] at hb; cases hb)))
          refine ⟨n + 1, r, ?_, hr⟩
          rw [am_eval, hs]
          dsimp only [cond_true]
          rw [hb]
          exact hn
      · exact ⟨1, r', by rw [am_eval, hs], h⟩
      · obtain ⟨hb, h2⟩ := am_chk_e h
        subst hb
        exact ⟨1, r', by rw [am_eval, hs]; rfl, h2⟩
      · exact am_GQ_ca hs h
      · exact am_GQ_ju hs h
theorem am_GQ_mono {st : am_S} {Q Q' : am_R → Prop} (h : am_GQ st Q) (k : ∀ r, Q r → Q' r) : am_GQ st Q' := by
  obtain ⟨n, r, hn, hr⟩ := h
  exact ⟨n, r, hn, k r hr⟩
end
section
theorem B_L_law_20 {g : am_G} {t : Nat} {Q : am_R → Prop}
    (h : am_GQ (0, 23, [(0, .ref 6), (1, .ref 8), (2, .ref 32), (3, .ref 53), (4, .int (Int32.ofNat 0))], [], g, t) Q) :
    am_GQ (0, 20, [(0, .ref 6), (1, .ref 8), (2, .ref 32), (3, .ref 53)], [], g, t) Q := am_wp_ok [23, 224, 405, 458] 2 h
theorem B_L_law_23 {g : am_G} {t : Nat} {Q : am_R → Prop} {x4 : Int32}
    (h : (((g 7 0) - (Int32.ofNat 3)) < x4 → am_chk (am_isb (Int32.ofNat 1)) (Q (.inl (some (.int (Int32.ofNat 1))), g, t))) ∧ (x4 ≤ ((g 7 0) - (Int32.ofNat 3)) → am_chk (am_in x4 (Int32.toNatClampNeg (g 7 0))) (am_GQ (0, am_ts 39 419 0 11 #[61, 118, 131, 144, 188, 201, 226, 251, 288, 313, 369, 394] ((g 6 (Int32.toNatClampNeg x4)) &&& (Int32.ofNat 15)), [(0, .ref 6), (1, .ref 8), (2, .ref 32), (3, .ref 53), (4, .int x4)], [], g, t) Q))) :
    am_GQ (0, 23, [(0, .ref 6), (1, .ref 8), (2, .ref 32), (3, .ref 53), (4, .int x4)], [], g, t) Q := am_wp_ok [23, 224, 405, 458] 12 h
theorem B_D_erase_0 {g : am_G} {t : Nat} {Q : am_R → Prop}
    (h : am_GQ (77, 0, [(0, .ref 9)], [], g, t) (am_af 1 4 [(0, .ref 8)] [] Q)) :
    am_GQ (1, 0, [(0, .ref 8)], [], g, t) Q := am_wp_ok [] 3 h
theorem B_D_erase_7 {g : am_G} {t : Nat} {Q : am_R → Prop} {s0 : Int32}
    (h : Q (.inl (some (.int s0)), g, t)) :
    am_GQ (1, 7, [(0, .ref 8)], [.int s0], g, t) Q := am_wp_ok [] 1 h
theorem B_D_fault_0 {g : am_G} {t : Nat} {Q : am_R → Prop}
    (h : Q (.inl (some (.int (g 8 8))), g, t)) :
    am_GQ (2, 0, [(0, .ref 8)], [], g, t) Q := am_wp_ok [] 3 h
theorem B_D_holds_0 {g : am_G} {t : Nat} {Q : am_R → Prop} {x0 : Int32} {x1 : Int32}
    (h : am_GQ (16, 0, [(0, .int x1)], [], g, t) (am_af 3 2 [(0, .int x0), (1, .int x1)] [.int x0] Q)) :
    am_GQ (3, 0, [(0, .int x0), (1, .int x1)], [], g, t) Q := am_wp_ok [] 3 h
theorem B_D_holds_5 {g : am_G} {t : Nat} {Q : am_R → Prop} {x0 : Int32} {x1 : Int32} {s0 : Int32} {s1 : Int32}
    (h : ((s1 &&& s0) = (Int32.ofNat 0) → am_chk (am_isb (Int32.ofNat 0)) (Q (.inl (some (.int (Int32.ofNat 0))), g, t))) ∧ (¬ (s1 &&& s0) = (Int32.ofNat 0) → am_chk (am_isb (Int32.ofNat 1)) (Q (.inl (some (.int (Int32.ofNat 1))), g, t)))) :
    am_GQ (3, 5, [(0, .int x0), (1, .int x1)], [.int s0, .int s1], g, t) Q := am_wp_ok [] 5 h
theorem B_D_isFile_0 {g : am_G} {t : Nat} {Q : am_R → Prop} {x0 : Int32}
    (h : (x0 < (Int32.ofNat 0) → am_chk (am_isb (Int32.ofNat 0)) (Q (.inl (some (.int (Int32.ofNat 0))), g, t))) ∧ ((Int32.ofNat 0) ≤ x0 → ((Int32.ofNat 32) ≤ x0 → am_chk (am_isb (Int32.ofNat 0)) (Q (.inl (some (.int (Int32.ofNat 0))), g, t))) ∧ (x0 < (Int32.ofNat 32) → am_chk (am_isb (Int32.ofNat 1)) (Q (.inl (some (.int (Int32.ofNat 1))), g, t))))) :
    am_GQ (4, 0, [(0, .int x0)], [], g, t) Q := am_wp_ok [] 8 h
theorem B_D_isMacroHead_0 {g : am_G} {t : Nat} {Q : am_R → Prop} {x0 : Int32} {x1 : Int32}
    (h : (x0 < (Int32.ofNat 65) → am_chk (am_isb (Int32.ofNat 0)) (Q (.inl (some (.int (Int32.ofNat 0))), g, t))) ∧ ((Int32.ofNat 65) ≤ x0 → ((Int32.ofNat 90) < x0 → am_chk (am_isb (Int32.ofNat 0)) (Q (.inl (some (.int (Int32.ofNat 0))), g, t))) ∧ (x0 ≤ (Int32.ofNat 90) → (¬ x1 = (Int32.ofNat 61) → am_chk (am_isb (Int32.ofNat 0)) (Q (.inl (some (.int (Int32.ofNat 0))), g, t))) ∧ (x1 = (Int32.ofNat 61) → am_chk (am_isb (Int32.ofNat 1)) (Q (.inl (some (.int (Int32.ofNat 1))), g, t)))))) :
    am_GQ (5, 0, [(0, .int x0), (1, .int x1)], [], g, t) Q := am_wp_ok [] 12 h
theorem B_D_isMacroUse_0 {g : am_G} {t : Nat} {Q : am_R → Prop} {x0 : Int32} {x1 : Int32}
    (h : (¬ x0 = (Int32.ofNat 36) → am_chk (am_isb (Int32.ofNat 0)) (Q (.inl (some (.int (Int32.ofNat 0))), g, t))) ∧ (x0 = (Int32.ofNat 36) → (x1 < (Int32.ofNat 65) → am_chk (am_isb (Int32.ofNat 0)) (Q (.inl (some (.int (Int32.ofNat 0))), g, t))) ∧ ((Int32.ofNat 65) ≤ x1 → ((Int32.ofNat 90) < x1 → am_chk (am_isb (Int32.ofNat 0)) (Q (.inl (some (.int (Int32.ofNat 0))), g, t))) ∧ (x1 ≤ (Int32.ofNat 90) → am_chk (am_isb (Int32.ofNat 1)) (Q (.inl (some (.int (Int32.ofNat 1))), g, t)))))) :
    am_GQ (6, 0, [(0, .int x0), (1, .int x1)], [], g, t) Q := am_wp_ok [] 12 h
theorem B_D_isName_0 {g : am_G} {t : Nat} {Q : am_R → Prop} {x0 : Int32} {x1 : Int32}
    (h : (x0 < (Int32.ofNat 97) → am_chk (am_isb (Int32.ofNat 0)) (Q (.inl (some (.int (Int32.ofNat 0))), g, t))) ∧ ((Int32.ofNat 97) ≤ x0 → ((Int32.ofNat 104) < x0 → am_chk (am_isb (Int32.ofNat 0)) (Q (.inl (some (.int (Int32.ofNat 0))), g, t))) ∧ (x0 ≤ (Int32.ofNat 104) → (x1 < (Int32.ofNat 48) → am_chk (am_isb (Int32.ofNat 0)) (Q (.inl (some (.int (Int32.ofNat 0))), g, t))) ∧ ((Int32.ofNat 48) ≤ x1 → ((Int32.ofNat 51) < x1 → am_chk (am_isb (Int32.ofNat 0)) (Q (.inl (some (.int (Int32.ofNat 0))), g, t))) ∧ (x1 ≤ (Int32.ofNat 51) → am_chk (am_isb (Int32.ofNat 1)) (Q (.inl (some (.int (Int32.ofNat 1))), g, t))))))) :
    am_GQ (7, 0, [(0, .int x0), (1, .int x1)], [], g, t) Q := am_wp_ok [] 15 h
theorem B_D_isPatternHalf_0 {g : am_G} {t : Nat} {Q : am_R → Prop} {x0 : Int32} {x1 : Int32}
    (h : (¬ x0 = (Int32.ofNat 37) → am_chk (am_isb (Int32.ofNat 0)) (Q (.inl (some (.int (Int32.ofNat 0))), g, t))) ∧ (x0 = (Int32.ofNat 37) → (x1 < (Int32.ofNat 48) → am_chk (am_isb (Int32.ofNat 0)) (Q (.inl (some (.int (Int32.ofNat 0))), g, t))) ∧ ((Int32.ofNat 48) ≤ x1 → ((Int32.ofNat 51) < x1 → am_chk (am_isb (Int32.ofNat 0)) (Q (.inl (some (.int (Int32.ofNat 0))), g, t))) ∧ (x1 ≤ (Int32.ofNat 51) → am_chk (am_isb (Int32.ofNat 1)) (Q (.inl (some (.int (Int32.ofNat 1))), g, t)))))) :
    am_GQ (8, 0, [(0, .int x0), (1, .int x1)], [], g, t) Q := am_wp_ok [] 12 h
theorem B_D_length_0 {g : am_G} {t : Nat} {Q : am_R → Prop}
    (h : am_GQ (89, 0, [(0, .ref 9)], [], g, t) (am_af 9 4 [(0, .ref 8)] [] Q)) :
    am_GQ (9, 0, [(0, .ref 8)], [], g, t) Q := am_wp_ok [] 3 h
theorem B_D_length_7 {g : am_G} {t : Nat} {Q : am_R → Prop} {s0 : Int32}
    (h : Q (.inl (some (.int s0)), g, t)) :
    am_GQ (9, 7, [(0, .ref 8)], [.int s0], g, t) Q := am_wp_ok [] 1 h
theorem B_D_make_0 {g : am_G} {t : Nat} {Q : am_R → Prop} {x1 : Int32}
    (h : am_GQ (4, 0, [(0, .int x1)], [], g, t) (am_af 10 1 [(0, .ref 8), (1, .int x1)] [] Q)) :
    am_GQ (10, 0, [(0, .ref 8), (1, .int x1)], [], g, t) Q := am_wp_ok [] 2 h
theorem B_D_make_4 {g : am_G} {t : Nat} {Q : am_R → Prop} {x1 : Int32} {s0 : Int32}
    (h : (¬ s0 = (Int32.ofNat 0) → am_GQ (23, 0, [(0, .ref 26)], [], g, t) (am_af 10 19 [(0, .ref 8), (1, .int x1)] [] Q)) ∧ (s0 = (Int32.ofNat 0) → Q (.inr 3, g, t))) :
    am_GQ (10, 4, [(0, .ref 8), (1, .int x1)], [.int s0], g, t) Q := am_wp_ok [] 4 h
theorem B_D_make_22 {g : am_G} {t : Nat} {Q : am_R → Prop} {x1 : Int32}
    (h : am_GQ (32, 0, [(0, .ref 26), (1, .int x1)], [], g, t) (am_af 10 27 [(0, .ref 8), (1, .int x1)] [] Q)) :
    am_GQ (10, 22, [(0, .ref 8), (1, .int x1)], [], g, t) Q := am_wp_ok [] 4 h
theorem B_D_make_30 {g : am_G} {t : Nat} {Q : am_R → Prop} {x1 : Int32} {s0 : Int32}
    (h : am_GQ (27, 0, [(0, .ref 26), (1, .int s0)], [], g, t) (am_af 10 36 [(0, .ref 8), (1, .int x1), (2, .int s0)] [] Q)) :
    am_GQ (10, 30, [(0, .ref 8), (1, .int x1)], [.int s0], g, t) Q := am_wp_ok [] 5 h
theorem B_D_make_39 {g : am_G} {t : Nat} {Q : am_R → Prop} {x1 : Int32} {x2 : Int32} {s0 : Int32}
    (h : (s0 = (Int32.ofNat 0) → am_GQ (29, 0, [(0, .ref 26), (1, .int x2)], [], g, t) (am_af 10 55 [(0, .ref 8), (1, .int x1), (2, .int x2)] [] Q)) ∧ (¬ s0 = (Int32.ofNat 0) → Q (.inr 1, g, t))) :
    am_GQ (10, 39, [(0, .ref 8), (1, .int x1), (2, .int x2)], [.int s0], g, t) Q := am_wp_ok [] 5 h
theorem B_D_make_58 {g : am_G} {t : Nat} {Q : am_R → Prop} {x1 : Int32} {x2 : Int32} {s0 : Int32}
    (h : (s0 = (Int32.ofNat 0) → am_GQ (30, 0, [(0, .ref 26), (1, .int x2)], [], g, t) (am_af 10 74 [(0, .ref 8), (1, .int x1), (2, .int x2)] [] Q)) ∧ (¬ s0 = (Int32.ofNat 0) → Q (.inr 4, g, t))) :
    am_GQ (10, 58, [(0, .ref 8), (1, .int x1), (2, .int x2)], [.int s0], g, t) Q := am_wp_ok [] 5 h
theorem B_D_make_77 {g : am_G} {t : Nat} {Q : am_R → Prop} {x1 : Int32} {x2 : Int32} {s0 : Int32}
    (h : am_GQ (73, 0, [(0, .ref 24)], [], g, t) (am_af 10 82 [(0, .ref 8), (1, .int x1), (2, .int x2), (3, .int s0)] [] Q)) :
    am_GQ (10, 77, [(0, .ref 8), (1, .int x1), (2, .int x2)], [.int s0], g, t) Q := am_wp_ok [] 4 h
theorem B_D_make_85 {g : am_G} {t : Nat} {Q : am_R → Prop} {x1 : Int32} {x2 : Int32} {x3 : Int32} {s0 : Int32}
    (h : am_GQ (120, 0, [(0, .int x3)], [], g, t) (am_af 10 86 [(0, .ref 8), (1, .int x1), (2, .int x2), (3, .int x3)] [.int s0] Q)) :
    am_GQ (10, 85, [(0, .ref 8), (1, .int x1), (2, .int x2), (3, .int x3)], [.int s0], g, t) Q := am_wp_ok [] 2 h
theorem B_D_make_89 {g : am_G} {t : Nat} {Q : am_R → Prop} {x1 : Int32} {x2 : Int32} {x3 : Int32} {s0 : Int32} {s1 : Int32}
    (h : ((s1 + s0) ≤ (Int32.ofNat 1000000000) → am_GQ (15, 0, [(0, .ref 8), (1, .int x3)], [], g, t) (am_af 10 105 [(0, .ref 8), (1, .int x1), (2, .int x2), (3, .int x3)] [] Q)) ∧ ((Int32.ofNat 1000000000) < (s1 + s0) → Q (.inr 5, g, t))) :
    am_GQ (10, 89, [(0, .ref 8), (1, .int x1), (2, .int x2), (3, .int x3)], [.int s0, .int s1], g, t) Q := am_wp_ok [] 6 h
theorem B_D_make_108 {g : am_G} {t : Nat} {Q : am_R → Prop} {x1 : Int32} {x2 : Int32} {x3 : Int32}
    (h : am_GQ (120, 0, [(0, .int x3)], [], g, t) (am_af 10 109 [(0, .ref 8), (1, .int x1), (2, .int x2), (3, .int x3)] [] Q)) :
    am_GQ (10, 108, [(0, .ref 8), (1, .int x1), (2, .int x2), (3, .int x3)], [], g, t) Q := am_wp_ok [] 2 h
theorem B_D_make_112 {g : am_G} {t : Nat} {Q : am_R → Prop} {x1 : Int32} {x2 : Int32} {x3 : Int32} {s0 : Int32}
    (h : Q (.inl (some (.int s0)), g, t)) :
    am_GQ (10, 112, [(0, .ref 8), (1, .int x1), (2, .int x2), (3, .int x3)], [.int s0], g, t) Q := am_wp_ok [] 1 h
theorem B_D_ran_0 {g : am_G} {t : Nat} {Q : am_R → Prop} {x1 : Int32}
    (h : am_GQ (56, 0, [(0, .ref 29), (1, .int x1)], [], g, t) (am_af 11 5 [(0, .ref 8), (1, .int x1)] [] Q)) :
    am_GQ (11, 0, [(0, .ref 8), (1, .int x1)], [], g, t) Q := am_wp_ok [] 4 h
theorem B_D_ran_8 {g : am_G} {t : Nat} {Q : am_R → Prop} {x1 : Int32} {s0 : Int32}
    (h : Q (.inl (some (.int s0)), g, t)) :
    am_GQ (11, 8, [(0, .ref 8), (1, .int x1)], [.int s0], g, t) Q := am_wp_ok [] 1 h
theorem B_D_read_0 {g : am_G} {t : Nat} {Q : am_R → Prop}
    (h : am_GQ (43, 0, [(0, .ref 11)], [], g, t) (am_af 12 4 [(0, .ref 8)] [] Q)) :
    am_GQ (12, 0, [(0, .ref 8)], [], g, t) Q := am_wp_ok [99] 3 h
theorem B_D_read_7 {g : am_G} {t : Nat} {Q : am_R → Prop}
    (h : am_GQ (35, 0, [(0, .ref 11)], [], g, t) (am_af 12 12 [(0, .ref 8)] [.ref 8] Q)) :
    am_GQ (12, 7, [(0, .ref 8)], [], g, t) Q := am_wp_ok [99] 4 h
theorem B_D_read_15 {g : am_G} {t : Nat} {Q : am_R → Prop} {s0 : Int32}
    (h : (((am_w g 8 8 s0) 8 8) = (Int32.ofNat 0) → am_GQ (50, 0, [(0, .ref 14), (1, .ref 11)], [], (am_w g 8 8 s0), t) (am_af 12 41 [(0, .ref 8)] [] Q)) ∧ (¬ ((am_w g 8 8 s0) 8 8) = (Int32.ofNat 0) → Q (.inr 0, (am_w g 8 8 s0), t))) :
    am_GQ (12, 15, [(0, .ref 8)], [.int s0, .ref 8], g, t) Q := am_wp_ok [99] 9 h
theorem B_D_read_44 {g : am_G} {t : Nat} {Q : am_R → Prop}
    (h : am_GQ (61, 0, [(0, .ref 19)], [], g, t) (am_af 12 49 [(0, .ref 8)] [.ref 8] Q)) :
    am_GQ (12, 44, [(0, .ref 8)], [], g, t) Q := am_wp_ok [99] 4 h
theorem B_D_read_52 {g : am_G} {t : Nat} {Q : am_R → Prop} {s0 : Int32}
    (h : (((am_w g 8 8 s0) 8 8) = (Int32.ofNat 0) → am_GQ (62, 0, [(0, .ref 19)], [], (am_w g 8 8 s0), t) (am_af 12 75 [(0, .ref 8)] [.ref 8] Q)) ∧ (¬ ((am_w g 8 8 s0) 8 8) = (Int32.ofNat 0) → Q (.inr 1, (am_w g 8 8 s0), t))) :
    am_GQ (12, 52, [(0, .ref 8)], [.int s0, .ref 8], g, t) Q := am_wp_ok [99] 8 h
theorem B_D_read_78 {g : am_G} {t : Nat} {Q : am_R → Prop} {s0 : Int32}
    (h : (¬ ((am_w g 8 8 s0) 8 8) = (Int32.ofNat 0) → am_GQ (12, 99, [(0, .ref 8)], [], (am_w g 8 8 s0), t) Q) ∧ (((am_w g 8 8 s0) 8 8) = (Int32.ofNat 0) → am_GQ (60, 0, [(0, .ref 19)], [], (am_w g 8 8 s0), t) (am_af 12 93 [(0, .ref 8)] [.ref 8] Q))) :
    am_GQ (12, 78, [(0, .ref 8)], [.int s0, .ref 8], g, t) Q := am_wp_ok [99] 8 h
theorem B_D_read_99 {g : am_G} {t : Nat} {Q : am_R → Prop}
    (h : ((g 8 8) = (Int32.ofNat 0) → am_GQ (59, 0, [(0, .ref 19), (1, .ref 20)], [], g, t) (am_af 12 122 [(0, .ref 8)] [] Q)) ∧ (¬ (g 8 8) = (Int32.ofNat 0) → Q (.inr 2, g, t))) :
    am_GQ (12, 99, [(0, .ref 8)], [], g, t) Q := am_wp_ok [99] 8 h
theorem B_D_read_96 {g : am_G} {t : Nat} {Q : am_R → Prop} {s0 : Int32}
    (h : am_GQ (12, 99, [(0, .ref 8)], [], (am_w g 8 8 s0), t) Q) :
    am_GQ (12, 96, [(0, .ref 8)], [.int s0, .ref 8], g, t) Q := am_wp_ok [99] 1 h
theorem B_D_read_125 {g : am_G} {t : Nat} {Q : am_R → Prop} {s0 : Int32}
    (h : Q (.inl (some (.int s0)), g, t)) :
    am_GQ (12, 125, [(0, .ref 8)], [.int s0], g, t) Q := am_wp_ok [99] 1 h
theorem B_D_reason_0 {g : am_G} {t : Nat} {Q : am_R → Prop} {x1 : Int32}
    (h : am_GQ (4, 0, [(0, .int x1)], [], g, t) (am_af 13 1 [(0, .ref 8), (1, .int x1)] [] Q)) :
    am_GQ (13, 0, [(0, .ref 8), (1, .int x1)], [], g, t) Q := am_wp_ok [] 2 h
theorem B_D_reason_4 {g : am_G} {t : Nat} {Q : am_R → Prop} {x1 : Int32} {s0 : Int32}
    (h : (s0 = (Int32.ofNat 0) → Q (.inl (some (.int (-1))), g, t)) ∧ (¬ s0 = (Int32.ofNat 0) → am_GQ (58, 0, [(0, .ref 29), (1, .int x1)], [], g, t) (am_af 13 12 [(0, .ref 8), (1, .int x1)] [] Q))) :
    am_GQ (13, 4, [(0, .ref 8), (1, .int x1)], [.int s0], g, t) Q := am_wp_ok [] 5 h
theorem B_D_reason_15 {g : am_G} {t : Nat} {Q : am_R → Prop} {x1 : Int32} {s0 : Int32}
    (h : Q (.inl (some (.int s0)), g, t)) :
    am_GQ (13, 15, [(0, .ref 8), (1, .int x1)], [.int s0], g, t) Q := am_wp_ok [] 2 h
theorem B_D_recipe_0 {g : am_G} {t : Nat} {Q : am_R → Prop} {x1 : Int32}
    (h : am_GQ (4, 0, [(0, .int x1)], [], g, t) (am_af 14 1 [(0, .ref 8), (1, .int x1)] [] Q)) :
    am_GQ (14, 0, [(0, .ref 8), (1, .int x1)], [], g, t) Q := am_wp_ok [] 2 h
theorem B_D_recipe_4 {g : am_G} {t : Nat} {Q : am_R → Prop} {x1 : Int32} {s0 : Int32}
    (h : (¬ s0 = (Int32.ofNat 0) → am_GQ (72, 0, [(0, .ref 20)], [], g, t) (am_af 14 13 [(0, .ref 8), (1, .int x1)] [] Q)) ∧ (s0 = (Int32.ofNat 0) → Q (.inl (some (.int (-1))), g, t))) :
    am_GQ (14, 4, [(0, .ref 8), (1, .int x1)], [.int s0], g, t) Q := am_wp_ok [] 4 h
theorem B_D_recipe_16 {g : am_G} {t : Nat} {Q : am_R → Prop} {x1 : Int32} {s0 : Int32}
    (h : am_GQ (3, 0, [(0, .int s0), (1, .int x1)], [], g, t) (am_af 14 17 [(0, .ref 8), (1, .int x1)] [] Q)) :
    am_GQ (14, 16, [(0, .ref 8), (1, .int x1)], [.int s0], g, t) Q := am_wp_ok [] 2 h
theorem B_D_recipe_20 {g : am_G} {t : Nat} {Q : am_R → Prop} {x1 : Int32} {s0 : Int32}
    (h : (s0 = (Int32.ofNat 0) → Q (.inl (some (.int (Int32.ofNat 0))), g, t)) ∧ (¬ s0 = (Int32.ofNat 0) → Q (.inl (some (.int (Int32.ofNat 1))), g, t))) :
    am_GQ (14, 20, [(0, .ref 8), (1, .int x1)], [.int s0], g, t) Q := am_wp_ok [] 4 h
theorem B_D_runRecipes_0 {g : am_G} {t : Nat} {Q : am_R → Prop} {x1 : Int32}
    (h : am_GQ (55, 0, [(0, .ref 29)], [], g, t) (am_af 15 4 [(0, .ref 8), (1, .int x1)] [] Q)) :
    am_GQ (15, 0, [(0, .ref 8), (1, .int x1)], [], g, t) Q := am_wp_ok [9, 40, 59] 3 h
theorem B_D_runRecipes_7 {g : am_G} {t : Nat} {Q : am_R → Prop} {x1 : Int32}
    (h : am_GQ (15, 9, [(0, .ref 8), (1, .int x1), (2, .int (Int32.ofNat 0))], [], g, t) Q) :
    am_GQ (15, 7, [(0, .ref 8), (1, .int x1)], [], g, t) Q := am_wp_ok [9, 40, 59] 2 h
theorem B_D_runRecipes_9 {g : am_G} {t : Nat} {Q : am_R → Prop} {x1 : Int32} {x2 : Int32}
    (h : ((Int32.ofNat 32) ≤ x2 → am_GQ (73, 0, [(0, .ref 24)], [], g, t) (am_af 15 50 [(0, .ref 8), (1, .int x1), (2, .int x2)] [] Q)) ∧ (x2 < (Int32.ofNat 32) → am_GQ (3, 0, [(0, .int x1), (1, .int x2)], [], g, t) (am_af 15 17 [(0, .ref 8), (1, .int x1), (2, .int x2)] [] Q))) :
    am_GQ (15, 9, [(0, .ref 8), (1, .int x1), (2, .int x2)], [], g, t) Q := am_wp_ok [9, 40, 59] 6 h
theorem B_D_runRecipes_53 {g : am_G} {t : Nat} {Q : am_R → Prop} {x1 : Int32} {x2 : Int32} {s0 : Int32}
    (h : am_GQ (15, 59, [(0, .ref 8), (1, .int x1), (2, .int s0), (3, .int x1), (4, .int (Int32.ofNat 1))], [], g, t) Q) :
    am_GQ (15, 53, [(0, .ref 8), (1, .int x1), (2, .int x2)], [.int s0], g, t) Q := am_wp_ok [9, 40, 59] 5 h
theorem B_D_runRecipes_20 {g : am_G} {t : Nat} {Q : am_R → Prop} {x1 : Int32} {x2 : Int32} {s0 : Int32}
    (h : (s0 = (Int32.ofNat 0) → am_GQ (15, 40, [(0, .ref 8), (1, .int x1), (2, .int x2)], [], g, t) Q) ∧ (¬ s0 = (Int32.ofNat 0) → am_GQ (31, 0, [(0, .ref 26), (1, .int x2), (2, .int x1)], [], g, t) (am_af 15 34 [(0, .ref 8), (1, .int x1), (2, .int x2)] [.int x2, .ref 29] Q))) :
    am_GQ (15, 20, [(0, .ref 8), (1, .int x1), (2, .int x2)], [.int s0], g, t) Q := am_wp_ok [9, 40, 59] 9 h
theorem B_D_runRecipes_59 {g : am_G} {t : Nat} {Q : am_R → Prop} {x1 : Int32} {x2 : Int32} {x3 : Int32} {x4 : Int32}
    (h : ((Int32.ofNat 32) < x4 → Q (.inl none, g, t)) ∧ (x4 ≤ (Int32.ofNat 32) → (x3 = (Int32.ofNat 0) → Q (.inl none, g, t)) ∧ (¬ x3 = (Int32.ofNat 0) → am_GQ (26, 0, [(0, .ref 26), (1, .int x3)], [], g, t) (am_af 15 75 [(0, .ref 8), (1, .int x1), (2, .int x2), (3, .int x3), (4, .int x4)] [] Q)))) :
    am_GQ (15, 59, [(0, .ref 8), (1, .int x1), (2, .int x2), (3, .int x3), (4, .int x4)], [], g, t) Q := am_wp_ok [9, 40, 59] 9 h
theorem B_D_runRecipes_40 {g : am_G} {t : Nat} {Q : am_R → Prop} {x1 : Int32} {x2 : Int32}
    (h : am_GQ (15, 9, [(0, .ref 8), (1, .int x1), (2, .int (x2 + (Int32.ofNat 1)))], [], g, t) Q) :
    am_GQ (15, 40, [(0, .ref 8), (1, .int x1), (2, .int x2)], [], g, t) Q := am_wp_ok [9, 40, 59] 2 h
theorem B_D_runRecipes_37 {g : am_G} {t : Nat} {Q : am_R → Prop} {x1 : Int32} {x2 : Int32} {s0 : Int32} {s1 : Int32}
    (h : am_GQ (57, 0, [(0, .ref 29), (1, .int s1), (2, .int s0)], [], g, t) (am_af 15 37 [(0, .ref 8), (1, .int x1), (2, .int x2)] [] Q)) :
    am_GQ (15, 37, [(0, .ref 8), (1, .int x1), (2, .int x2)], [.int s0, .int s1, .ref 29], g, t) Q := am_wp_ok [9, 40, 59] 1 h
theorem B_D_runRecipes_78 {g : am_G} {t : Nat} {Q : am_R → Prop} {x1 : Int32} {x2 : Int32} {x3 : Int32} {x4 : Int32} {s0 : Int32}
    (h : am_GQ (75, 0, [(0, .ref 24), (1, .int s0), (2, .int (x2 + x4))], [], g, t) (am_af 15 90 [(0, .ref 8), (1, .int x1), (2, .int x2), (3, .int x3), (4, .int x4), (5, .int s0)] [] Q)) :
    am_GQ (15, 78, [(0, .ref 8), (1, .int x1), (2, .int x2), (3, .int x3), (4, .int x4)], [.int s0], g, t) Q := am_wp_ok [9, 40, 59] 8 h
theorem B_D_runRecipes_93 {g : am_G} {t : Nat} {Q : am_R → Prop} {x1 : Int32} {x2 : Int32} {x3 : Int32} {x4 : Int32} {x5 : Int32}
    (h : am_GQ (54, 0, [(0, .ref 29), (1, .int x5)], [], g, t) (am_af 15 99 [(0, .ref 8), (1, .int x1), (2, .int x2), (3, .int x3), (4, .int x4), (5, .int x5)] [] Q)) :
    am_GQ (15, 93, [(0, .ref 8), (1, .int x1), (2, .int x2), (3, .int x3), (4, .int x4), (5, .int x5)], [], g, t) Q := am_wp_ok [9, 40, 59] 4 h
theorem B_D_runRecipes_102 {g : am_G} {t : Nat} {Q : am_R → Prop} {x1 : Int32} {x2 : Int32} {x3 : Int32} {x4 : Int32} {x5 : Int32}
    (h : am_GQ (16, 0, [(0, .int x5)], [], g, t) (am_af 15 105 [(0, .ref 8), (1, .int x1), (2, .int x2), (3, .int x3), (4, .int x4), (5, .int x5)] [.int x3] Q)) :
    am_GQ (15, 102, [(0, .ref 8), (1, .int x1), (2, .int x2), (3, .int x3), (4, .int x4), (5, .int x5)], [], g, t) Q := am_wp_ok [9, 40, 59] 3 h
theorem B_D_runRecipes_108 {g : am_G} {t : Nat} {Q : am_R → Prop} {x1 : Int32} {x2 : Int32} {x3 : Int32} {x4 : Int32} {x5 : Int32} {s0 : Int32} {s1 : Int32}
    (h : am_GQ (15, 59, [(0, .ref 8), (1, .int x1), (2, .int x2), (3, .int (s1 &&& (s0 ^^^ (-1)))), (4, .int (x4 + (Int32.ofNat 1)))], [], g, t) Q) :
    am_GQ (15, 108, [(0, .ref 8), (1, .int x1), (2, .int x2), (3, .int x3), (4, .int x4), (5, .int x5)], [.int s0, .int s1], g, t) Q := am_wp_ok [9, 40, 59] 6 h
theorem B_D_setOf_0 {g : am_G} {t : Nat} {Q : am_R → Prop} {x0 : Int32}
    (h : Q (.inl (some (.int ((Int32.ofNat 1) <<< (x0 &&& Int32.ofNat 31)))), g, t)) :
    am_GQ (16, 0, [(0, .int x0)], [], g, t) Q := am_wp_ok [] 4 h
theorem B_D_sources_0 {g : am_G} {t : Nat} {Q : am_R → Prop} {x1 : Int32}
    (h : am_GQ (4, 0, [(0, .int x1)], [], g, t) (am_af 17 1 [(0, .ref 8), (1, .int x1)] [] Q)) :
    am_GQ (17, 0, [(0, .ref 8), (1, .int x1)], [], g, t) Q := am_wp_ok [] 2 h
theorem B_D_sources_4 {g : am_G} {t : Nat} {Q : am_R → Prop} {x1 : Int32} {s0 : Int32}
    (h : (s0 = (Int32.ofNat 0) → Q (.inl (some (.int (Int32.ofNat 0))), g, t)) ∧ (¬ s0 = (Int32.ofNat 0) → am_GQ (71, 0, [(0, .ref 20), (1, .int x1)], [], g, t) (am_af 17 12 [(0, .ref 8), (1, .int x1)] [] Q))) :
    am_GQ (17, 4, [(0, .ref 8), (1, .int x1)], [.int s0], g, t) Q := am_wp_ok [] 5 h
theorem B_D_sources_15 {g : am_G} {t : Nat} {Q : am_R → Prop} {x1 : Int32} {s0 : Int32}
    (h : Q (.inl (some (.int s0)), g, t)) :
    am_GQ (17, 15, [(0, .ref 8), (1, .int x1)], [.int s0], g, t) Q := am_wp_ok [] 2 h
theorem B_D_stamp_0 {g : am_G} {t : Nat} {Q : am_R → Prop} {x1 : Int32} {x2 : Int32}
    (h : am_GQ (4, 0, [(0, .int x1)], [], g, t) (am_af 18 1 [(0, .ref 8), (1, .int x1), (2, .int x2)] [] Q)) :
    am_GQ (18, 0, [(0, .ref 8), (1, .int x1), (2, .int x2)], [], g, t) Q := am_wp_ok [] 2 h
theorem B_D_stamp_4 {g : am_G} {t : Nat} {Q : am_R → Prop} {x1 : Int32} {x2 : Int32} {s0 : Int32}
    (h : (s0 = (Int32.ofNat 0) → am_chk (am_isb (Int32.ofNat 0)) (Q (.inl (some (.int (Int32.ofNat 0))), g, t))) ∧ (¬ s0 = (Int32.ofNat 0) → (x2 < (Int32.ofNat 0) → am_chk (am_isb (Int32.ofNat 0)) (Q (.inl (some (.int (Int32.ofNat 0))), g, t))) ∧ ((Int32.ofNat 0) ≤ x2 → (x2 ≤ (Int32.ofNat 1000000000) → am_GQ (75, 0, [(0, .ref 24), (1, .int x1), (2, .int x2)], [], g, t) (am_af 18 25 [(0, .ref 8), (1, .int x1), (2, .int x2)] [] Q)) ∧ ((Int32.ofNat 1000000000) < x2 → am_chk (am_isb (Int32.ofNat 0)) (Q (.inl (some (.int (Int32.ofNat 0))), g, t)))))) :
    am_GQ (18, 4, [(0, .ref 8), (1, .int x1), (2, .int x2)], [.int s0], g, t) Q := am_wp_ok [] 11 h
theorem B_D_stamp_28 {g : am_G} {t : Nat} {Q : am_R → Prop} {x1 : Int32} {x2 : Int32}
    (h : am_chk (am_isb (Int32.ofNat 1)) (Q (.inl (some (.int (Int32.ofNat 1))), g, t))) :
    am_GQ (18, 28, [(0, .ref 8), (1, .int x1), (2, .int x2)], [], g, t) Q := am_wp_ok [] 2 h
theorem B_D_stampOf_0 {g : am_G} {t : Nat} {Q : am_R → Prop} {x1 : Int32}
    (h : am_GQ (4, 0, [(0, .int x1)], [], g, t) (am_af 19 1 [(0, .ref 8), (1, .int x1)] [] Q)) :
    am_GQ (19, 0, [(0, .ref 8), (1, .int x1)], [], g, t) Q := am_wp_ok [] 2 h
theorem B_D_stampOf_4 {g : am_G} {t : Nat} {Q : am_R → Prop} {x1 : Int32} {s0 : Int32}
    (h : (s0 = (Int32.ofNat 0) → Q (.inl (some (.int (-1))), g, t)) ∧ (¬ s0 = (Int32.ofNat 0) → am_GQ (74, 0, [(0, .ref 24), (1, .int x1)], [], g, t) (am_af 19 12 [(0, .ref 8), (1, .int x1)] [] Q))) :
    am_GQ (19, 4, [(0, .ref 8), (1, .int x1)], [.int s0], g, t) Q := am_wp_ok [] 5 h
theorem B_D_stampOf_15 {g : am_G} {t : Nat} {Q : am_R → Prop} {x1 : Int32} {s0 : Int32}
    (h : Q (.inl (some (.int s0)), g, t)) :
    am_GQ (19, 15, [(0, .ref 8), (1, .int x1)], [.int s0], g, t) Q := am_wp_ok [] 2 h
theorem B_D_write_0 {g : am_G} {t : Nat} {Q : am_R → Prop} {x1 : Int64}
    (h : am_GQ (76, 0, [(0, .ref 9), (1, .long x1)], [], g, t) (am_af 20 5 [(0, .ref 8), (1, .long x1)] [] Q)) :
    am_GQ (20, 0, [(0, .ref 8), (1, .long x1)], [], g, t) Q := am_wp_ok [] 4 h
theorem B_D_write_8 {g : am_G} {t : Nat} {Q : am_R → Prop} {x1 : Int64} {s0 : Int32}
    (h : Q (.inl (some (.int s0)), g, t)) :
    am_GQ (20, 8, [(0, .ref 8), (1, .long x1)], [.int s0], g, t) Q := am_wp_ok [] 1 h
theorem B_Graph_addPatternSource_0 {g : am_G} {t : Nat} {Q : am_R → Prop} {x1 : Int32} {x2 : Int32}
    (h : (x2 = (-1) → Q (.inl none, g, t)) ∧ (¬ x2 = (-1) → am_chk (am_in x1 32) (am_GQ (16, 0, [(0, .int x2)], [], g, t) (am_af 21 13 [(0, .ref 26), (1, .int x1), (2, .int x2)] [.int (g 27 (Int32.toNatClampNeg x1)), .int x1, .ref 27] Q)))) :
    am_GQ (21, 0, [(0, .ref 26), (1, .int x1), (2, .int x2)], [], g, t) Q := am_wp_ok [] 10 h
theorem B_Graph_addPatternSource_16 {g : am_G} {t : Nat} {Q : am_R → Prop} {x1 : Int32} {x2 : Int32} {s0 : Int32} {s1 : Int32} {s2 : Int32}
    (h : am_chk (am_in s2 32) (am_GQ (16, 0, [(0, .int x1)], [], (am_w g 27 (Int32.toNatClampNeg s2) (s1 ||| s0)), t) (am_af 21 24 [(0, .ref 26), (1, .int x1), (2, .int x2)] [.int ((am_w g 27 (Int32.toNatClampNeg s2) (s1 ||| s0)) 26 4), .ref 26] Q))) :
    am_GQ (21, 16, [(0, .ref 26), (1, .int x1), (2, .int x2)], [.int s0, .int s1, .int s2, .ref 27], g, t) Q := am_wp_ok [] 7 h
theorem B_Graph_addPatternSource_27 {g : am_G} {t : Nat} {Q : am_R → Prop} {x1 : Int32} {x2 : Int32} {s0 : Int32} {s1 : Int32}
    (h : Q (.inl none, (am_w g 26 4 (s1 ||| s0)), t)) :
    am_GQ (21, 27, [(0, .ref 26), (1, .int x1), (2, .int x2)], [.int s0, .int s1, .ref 26], g, t) Q := am_wp_ok [] 3 h
theorem B_Graph_available_0 {g : am_G} {t : Nat} {Q : am_R → Prop}
    (h : am_GQ (72, 0, [(0, .ref 20)], [], g, t) (am_af 22 4 [(0, .ref 26)] [] Q)) :
    am_GQ (22, 0, [(0, .ref 26)], [], g, t) Q := am_wp_ok [10, 34, 42, 49, 75] 3 h
theorem B_Graph_available_7 {g : am_G} {t : Nat} {Q : am_R → Prop} {s0 : Int32}
    (h : am_GQ (22, 10, [(0, .ref 26), (1, .int s0), (2, .int (Int32.ofNat 0))], [], g, t) Q) :
    am_GQ (22, 7, [(0, .ref 26)], [.int s0], g, t) Q := am_wp_ok [10, 34, 42, 49, 75] 3 h
theorem B_Graph_available_10 {g : am_G} {t : Nat} {Q : am_R → Prop} {x1 : Int32} {x2 : Int32}
    (h : ((Int32.ofNat 32) ≤ x2 → am_GQ (22, 42, [(0, .ref 26), (1, .int x1), (2, .int (Int32.ofNat 0))], [], g, t) Q) ∧ (x2 < (Int32.ofNat 32) → am_GQ (74, 0, [(0, .ref 24), (1, .int x2)], [], g, t) (am_af 22 21 [(0, .ref 26), (1, .int x1), (2, .int x2)] [] Q))) :
    am_GQ (22, 10, [(0, .ref 26), (1, .int x1), (2, .int x2)], [], g, t) Q := am_wp_ok [10, 34, 42, 49, 75] 7 h
theorem B_Graph_available_42 {g : am_G} {t : Nat} {Q : am_R → Prop} {x1 : Int32} {x2 : Int32}
    (h : ((Int32.ofNat 4) ≤ x2 → Q (.inl (some (.int x1)), g, t)) ∧ (x2 < (Int32.ofNat 4) → am_GQ (22, 49, [(0, .ref 26), (1, .int x1), (2, .int x2), (3, .int (Int32.ofNat 0))], [], g, t) Q)) :
    am_GQ (22, 42, [(0, .ref 26), (1, .int x1), (2, .int x2)], [], g, t) Q := am_wp_ok [10, 34, 42, 49, 75] 5 h
theorem B_Graph_available_24 {g : am_G} {t : Nat} {Q : am_R → Prop} {x1 : Int32} {x2 : Int32} {s0 : Int32}
    (h : (s0 = (Int32.ofNat 0) → am_GQ (22, 34, [(0, .ref 26), (1, .int x1), (2, .int x2)], [], g, t) Q) ∧ (¬ s0 = (Int32.ofNat 0) → am_GQ (16, 0, [(0, .int x2)], [], g, t) (am_af 22 29 [(0, .ref 26), (1, .int x1), (2, .int x2)] [.int x1] Q))) :
    am_GQ (22, 24, [(0, .ref 26), (1, .int x1), (2, .int x2)], [.int s0], g, t) Q := am_wp_ok [10, 34, 42, 49, 75] 4 h
theorem B_Graph_available_49 {g : am_G} {t : Nat} {Q : am_R → Prop} {x1 : Int32} {x2 : Int32} {x3 : Int32}
    (h : ((Int32.ofNat 32) ≤ x3 → am_GQ (22, 42, [(0, .ref 26), (1, .int x1), (2, .int (x2 + (Int32.ofNat 1)))], [], g, t) Q) ∧ (x3 < (Int32.ofNat 32) → am_GQ (70, 0, [(0, .ref 20), (1, .int x3), (2, .int x1)], [], g, t) (am_af 22 61 [(0, .ref 26), (1, .int x1), (2, .int x2), (3, .int x3)] [] Q))) :
    am_GQ (22, 49, [(0, .ref 26), (1, .int x1), (2, .int x2), (3, .int x3)], [], g, t) Q := am_wp_ok [10, 34, 42, 49, 75] 8 h
theorem B_Graph_available_34 {g : am_G} {t : Nat} {Q : am_R → Prop} {x1 : Int32} {x2 : Int32}
    (h : am_GQ (22, 10, [(0, .ref 26), (1, .int x1), (2, .int (x2 + (Int32.ofNat 1)))], [], g, t) Q) :
    am_GQ (22, 34, [(0, .ref 26), (1, .int x1), (2, .int x2)], [], g, t) Q := am_wp_ok [10, 34, 42, 49, 75] 2 h
theorem B_Graph_available_32 {g : am_G} {t : Nat} {Q : am_R → Prop} {x1 : Int32} {x2 : Int32} {s0 : Int32} {s1 : Int32}
    (h : am_GQ (22, 34, [(0, .ref 26), (1, .int (s1 ||| s0)), (2, .int x2)], [], g, t) Q) :
    am_GQ (22, 32, [(0, .ref 26), (1, .int x1), (2, .int x2)], [.int s0, .int s1], g, t) Q := am_wp_ok [10, 34, 42, 49, 75] 2 h
theorem B_Graph_available_64 {g : am_G} {t : Nat} {Q : am_R → Prop} {x1 : Int32} {x2 : Int32} {x3 : Int32} {s0 : Int32}
    (h : (s0 = (-1) → am_GQ (22, 75, [(0, .ref 26), (1, .int x1), (2, .int x2), (3, .int x3)], [], g, t) Q) ∧ (¬ s0 = (-1) → am_GQ (16, 0, [(0, .int x3)], [], g, t) (am_af 22 70 [(0, .ref 26), (1, .int x1), (2, .int x2), (3, .int x3)] [.int x1] Q))) :
    am_GQ (22, 64, [(0, .ref 26), (1, .int x1), (2, .int x2), (3, .int x3)], [.int s0], g, t) Q := am_wp_ok [10, 34, 42, 49, 75] 5 h
theorem B_Graph_available_75 {g : am_G} {t : Nat} {Q : am_R → Prop} {x1 : Int32} {x2 : Int32} {x3 : Int32}
    (h : am_GQ (22, 49, [(0, .ref 26), (1, .int x1), (2, .int x2), (3, .int (x3 + (Int32.ofNat 1)))], [], g, t) Q) :
    am_GQ (22, 75, [(0, .ref 26), (1, .int x1), (2, .int x2), (3, .int x3)], [], g, t) Q := am_wp_ok [10, 34, 42, 49, 75] 2 h
theorem B_Graph_available_73 {g : am_G} {t : Nat} {Q : am_R → Prop} {x1 : Int32} {x2 : Int32} {x3 : Int32} {s0 : Int32} {s1 : Int32}
    (h : am_GQ (22, 75, [(0, .ref 26), (1, .int (s1 ||| s0)), (2, .int x2), (3, .int x3)], [], g, t) Q) :
    am_GQ (22, 73, [(0, .ref 26), (1, .int x1), (2, .int x2), (3, .int x3)], [.int s0, .int s1], g, t) Q := am_wp_ok [10, 34, 42, 49, 75] 2 h
theorem B_Graph_build_0 {g : am_G} {t : Nat} {Q : am_R → Prop}
    (h : am_GQ (22, 0, [(0, .ref 26)], [], g, t) (am_af 23 2 [(0, .ref 26)] [.ref 26] Q)) :
    am_GQ (23, 0, [(0, .ref 26)], [], g, t) Q := am_wp_ok [] 3 h
theorem B_Graph_build_5 {g : am_G} {t : Nat} {Q : am_R → Prop} {s0 : Int32}
    (h : am_GQ (25, 0, [(0, .ref 26), (1, .int s0)], [], g, t) (am_af 23 5 [(0, .ref 26)] [] Q)) :
    am_GQ (23, 5, [(0, .ref 26)], [.int s0, .ref 26], g, t) Q := am_wp_ok [] 1 h
theorem B_Graph_build_8 {g : am_G} {t : Nat} {Q : am_R → Prop}
    (h : am_GQ (24, 0, [(0, .ref 26)], [], g, t) (am_af 23 9 [(0, .ref 26)] [] Q)) :
    am_GQ (23, 8, [(0, .ref 26)], [], g, t) Q := am_wp_ok [] 2 h
theorem B_Graph_build_12 {g : am_G} {t : Nat} {Q : am_R → Prop}
    (h : Q (.inl none, g, t)) :
    am_GQ (23, 12, [(0, .ref 26)], [], g, t) Q := am_wp_ok [] 1 h
theorem B_Graph_findFoundations_0 {g : am_G} {t : Nat} {Q : am_R → Prop}
    (h : am_GQ (24, 2, [(0, .ref 26), (1, .int (Int32.ofNat 0))], [], g, t) Q) :
    am_GQ (24, 0, [(0, .ref 26)], [], g, t) Q := am_wp_ok [2, 28, 36, 70] 2 h
theorem B_Graph_findFoundations_2 {g : am_G} {t : Nat} {Q : am_R → Prop} {x1 : Int32}
    (h : ((Int32.ofNat 32) ≤ x1 → am_GQ (24, 28, [(0, .ref 26), (1, .int (Int32.ofNat 0))], [], g, t) Q) ∧ (x1 < (Int32.ofNat 32) → am_chk (am_in x1 32) (am_chk (am_in x1 32) (am_GQ (24, 2, [(0, .ref 26), (1, .int (x1 + (Int32.ofNat 1)))], [], (am_w g 28 (Int32.toNatClampNeg x1) (g 27 (Int32.toNatClampNeg x1))), t) Q)))) :
    am_GQ (24, 2, [(0, .ref 26), (1, .int x1)], [], g, t) Q := am_wp_ok [2, 28, 36, 70] 13 h
theorem B_Graph_findFoundations_28 {g : am_G} {t : Nat} {Q : am_R → Prop} {x1 : Int32}
    (h : ((Int32.ofNat 32) ≤ x1 → Q (.inl none, g, t)) ∧ (x1 < (Int32.ofNat 32) → am_GQ (24, 36, [(0, .ref 26), (1, .int x1), (2, .int (Int32.ofNat 0))], [], g, t) Q)) :
    am_GQ (24, 28, [(0, .ref 26), (1, .int x1)], [], g, t) Q := am_wp_ok [2, 28, 36, 70] 5 h
theorem B_Graph_findFoundations_36 {g : am_G} {t : Nat} {Q : am_R → Prop} {x1 : Int32} {x2 : Int32}
    (h : ((Int32.ofNat 32) ≤ x2 → am_GQ (24, 28, [(0, .ref 26), (1, .int (x1 + (Int32.ofNat 1)))], [], g, t) Q) ∧ (x2 < (Int32.ofNat 32) → am_chk (am_in x2 32) (am_GQ (3, 0, [(0, .int (g 28 (Int32.toNatClampNeg x2))), (1, .int x1)], [], g, t) (am_af 24 49 [(0, .ref 26), (1, .int x1), (2, .int x2)] [] Q)))) :
    am_GQ (24, 36, [(0, .ref 26), (1, .int x1), (2, .int x2)], [], g, t) Q := am_wp_ok [2, 28, 36, 70] 9 h
theorem B_Graph_findFoundations_52 {g : am_G} {t : Nat} {Q : am_R → Prop} {x1 : Int32} {x2 : Int32} {s0 : Int32}
    (h : (s0 = (Int32.ofNat 0) → am_GQ (24, 70, [(0, .ref 26), (1, .int x1), (2, .int x2)], [], g, t) Q) ∧ (¬ s0 = (Int32.ofNat 0) → am_chk (am_in x2 32) (am_chk (am_in x1 32) (am_chk (am_in x2 32) (am_GQ (24, 70, [(0, .ref 26), (1, .int x1), (2, .int x2)], [], (am_w g 28 (Int32.toNatClampNeg x2) ((g 28 (Int32.toNatClampNeg x2)) ||| (g 28 (Int32.toNatClampNeg x1)))), t) Q))))) :
    am_GQ (24, 52, [(0, .ref 26), (1, .int x1), (2, .int x2)], [.int s0], g, t) Q := am_wp_ok [2, 28, 36, 70] 12 h
theorem B_Graph_findFoundations_70 {g : am_G} {t : Nat} {Q : am_R → Prop} {x1 : Int32} {x2 : Int32}
    (h : am_GQ (24, 36, [(0, .ref 26), (1, .int x1), (2, .int (x2 + (Int32.ofNat 1)))], [], g, t) Q) :
    am_GQ (24, 70, [(0, .ref 26), (1, .int x1), (2, .int x2)], [], g, t) Q := am_wp_ok [2, 28, 36, 70] 2 h
theorem B_Graph_findSources_0 {g : am_G} {t : Nat} {Q : am_R → Prop} {x1 : Int32}
    (h : am_GQ (72, 0, [(0, .ref 20)], [], g, t) (am_af 25 5 [(0, .ref 26), (1, .int x1)] [.ref 26] Q)) :
    am_GQ (25, 0, [(0, .ref 26), (1, .int x1)], [], g, t) Q := am_wp_ok [13, 61] 4 h
theorem B_Graph_findSources_8 {g : am_G} {t : Nat} {Q : am_R → Prop} {x1 : Int32} {s0 : Int32}
    (h : am_GQ (25, 13, [(0, .ref 26), (1, .int x1), (2, .int (Int32.ofNat 0))], [], (am_w g 26 4 s0), t) Q) :
    am_GQ (25, 8, [(0, .ref 26), (1, .int x1)], [.int s0, .ref 26], g, t) Q := am_wp_ok [13, 61] 3 h
theorem B_Graph_findSources_13 {g : am_G} {t : Nat} {Q : am_R → Prop} {x1 : Int32} {x2 : Int32}
    (h : ((Int32.ofNat 32) ≤ x2 → Q (.inl none, g, t)) ∧ (x2 < (Int32.ofNat 32) → am_GQ (71, 0, [(0, .ref 20), (1, .int x2)], [], g, t) (am_af 25 29 [(0, .ref 26), (1, .int x1), (2, .int x2)] [.int x2, .ref 27] Q))) :
    am_GQ (25, 13, [(0, .ref 26), (1, .int x1), (2, .int x2)], [], g, t) Q := am_wp_ok [13, 61] 10 h
theorem B_Graph_findSources_32 {g : am_G} {t : Nat} {Q : am_R → Prop} {x1 : Int32} {x2 : Int32} {s0 : Int32} {s1 : Int32}
    (h : am_chk (am_in s1 32) (am_GQ (72, 0, [(0, .ref 20)], [], (am_w g 27 (Int32.toNatClampNeg s1) s0), t) (am_af 25 37 [(0, .ref 26), (1, .int x1), (2, .int x2)] [] Q))) :
    am_GQ (25, 32, [(0, .ref 26), (1, .int x1), (2, .int x2)], [.int s0, .int s1, .ref 27], g, t) Q := am_wp_ok [13, 61] 4 h
theorem B_Graph_findSources_40 {g : am_G} {t : Nat} {Q : am_R → Prop} {x1 : Int32} {x2 : Int32} {s0 : Int32}
    (h : am_GQ (3, 0, [(0, .int s0), (1, .int x2)], [], g, t) (am_af 25 41 [(0, .ref 26), (1, .int x1), (2, .int x2)] [] Q)) :
    am_GQ (25, 40, [(0, .ref 26), (1, .int x1), (2, .int x2)], [.int s0], g, t) Q := am_wp_ok [13, 61] 2 h
theorem B_Graph_findSources_44 {g : am_G} {t : Nat} {Q : am_R → Prop} {x1 : Int32} {x2 : Int32} {s0 : Int32}
    (h : (¬ s0 = (Int32.ofNat 0) → am_GQ (25, 61, [(0, .ref 26), (1, .int x1), (2, .int x2)], [], g, t) Q) ∧ (s0 = (Int32.ofNat 0) → am_GQ (70, 0, [(0, .ref 20), (1, .int x2), (2, .int x1)], [], g, t) (am_af 25 55 [(0, .ref 26), (1, .int x1), (2, .int x2)] [.int x2, .ref 26] Q))) :
    am_GQ (25, 44, [(0, .ref 26), (1, .int x1), (2, .int x2)], [.int s0], g, t) Q := am_wp_ok [13, 61] 8 h
theorem B_Graph_findSources_61 {g : am_G} {t : Nat} {Q : am_R → Prop} {x1 : Int32} {x2 : Int32}
    (h : am_GQ (25, 13, [(0, .ref 26), (1, .int x1), (2, .int (x2 + (Int32.ofNat 1)))], [], g, t) Q) :
    am_GQ (25, 61, [(0, .ref 26), (1, .int x1), (2, .int x2)], [], g, t) Q := am_wp_ok [13, 61] 2 h
theorem B_Graph_findSources_58 {g : am_G} {t : Nat} {Q : am_R → Prop} {x1 : Int32} {x2 : Int32} {s0 : Int32} {s1 : Int32}
    (h : am_GQ (21, 0, [(0, .ref 26), (1, .int s1), (2, .int s0)], [], g, t) (am_af 25 58 [(0, .ref 26), (1, .int x1), (2, .int x2)] [] Q)) :
    am_GQ (25, 58, [(0, .ref 26), (1, .int x1), (2, .int x2)], [.int s0, .int s1, .ref 26], g, t) Q := am_wp_ok [13, 61] 1 h
theorem B_Graph_firstReady_0 {g : am_G} {t : Nat} {Q : am_R → Prop} {x1 : Int32}
    (h : am_GQ (26, 2, [(0, .ref 26), (1, .int x1), (2, .int (Int32.ofNat 0))], [], g, t) Q) :
    am_GQ (26, 0, [(0, .ref 26), (1, .int x1)], [], g, t) Q := am_wp_ok [2, 29] 2 h
theorem B_Graph_firstReady_2 {g : am_G} {t : Nat} {Q : am_R → Prop} {x1 : Int32} {x2 : Int32}
    (h : ((Int32.ofNat 32) ≤ x2 → Q (.inl (some (.int (Int32.ofNat 0))), g, t)) ∧ (x2 < (Int32.ofNat 32) → am_GQ (3, 0, [(0, .int x1), (1, .int x2)], [], g, t) (am_af 26 10 [(0, .ref 26), (1, .int x1), (2, .int x2)] [] Q))) :
    am_GQ (26, 2, [(0, .ref 26), (1, .int x1), (2, .int x2)], [], g, t) Q := am_wp_ok [2, 29] 6 h
theorem B_Graph_firstReady_13 {g : am_G} {t : Nat} {Q : am_R → Prop} {x1 : Int32} {x2 : Int32} {s0 : Int32}
    (h : (s0 = (Int32.ofNat 0) → am_GQ (26, 29, [(0, .ref 26), (1, .int x1), (2, .int x2)], [], g, t) Q) ∧ (¬ s0 = (Int32.ofNat 0) → am_chk (am_in x2 32) ((¬ ((g 28 (Int32.toNatClampNeg x2)) &&& x1) = (Int32.ofNat 0) → am_GQ (26, 29, [(0, .ref 26), (1, .int x1), (2, .int x2)], [], g, t) Q) ∧ (((g 28 (Int32.toNatClampNeg x2)) &&& x1) = (Int32.ofNat 0) → Q (.inl (some (.int x2)), g, t))))) :
    am_GQ (26, 13, [(0, .ref 26), (1, .int x1), (2, .int x2)], [.int s0], g, t) Q := am_wp_ok [2, 29] 10 h
theorem B_Graph_firstReady_29 {g : am_G} {t : Nat} {Q : am_R → Prop} {x1 : Int32} {x2 : Int32}
    (h : am_GQ (26, 2, [(0, .ref 26), (1, .int x1), (2, .int (x2 + (Int32.ofNat 1)))], [], g, t) Q) :
    am_GQ (26, 29, [(0, .ref 26), (1, .int x1), (2, .int x2)], [], g, t) Q := am_wp_ok [2, 29] 2 h
theorem B_Graph_hasLoop_0 {g : am_G} {t : Nat} {Q : am_R → Prop} {x1 : Int32}
    (h : am_GQ (27, 2, [(0, .ref 26), (1, .int x1), (2, .int (Int32.ofNat 0))], [], g, t) Q) :
    am_GQ (27, 0, [(0, .ref 26), (1, .int x1)], [], g, t) Q := am_wp_ok [2, 31] 2 h
theorem B_Graph_hasLoop_2 {g : am_G} {t : Nat} {Q : am_R → Prop} {x1 : Int32} {x2 : Int32}
    (h : ((Int32.ofNat 32) ≤ x2 → am_chk (am_isb (Int32.ofNat 0)) (Q (.inl (some (.int (Int32.ofNat 0))), g, t))) ∧ (x2 < (Int32.ofNat 32) → am_GQ (3, 0, [(0, .int x1), (1, .int x2)], [], g, t) (am_af 27 10 [(0, .ref 26), (1, .int x1), (2, .int x2)] [] Q))) :
    am_GQ (27, 2, [(0, .ref 26), (1, .int x1), (2, .int x2)], [], g, t) Q := am_wp_ok [2, 31] 6 h
theorem B_Graph_hasLoop_13 {g : am_G} {t : Nat} {Q : am_R → Prop} {x1 : Int32} {x2 : Int32} {s0 : Int32}
    (h : (s0 = (Int32.ofNat 0) → am_GQ (27, 31, [(0, .ref 26), (1, .int x1), (2, .int x2)], [], g, t) Q) ∧ (¬ s0 = (Int32.ofNat 0) → am_chk (am_in x2 32) (am_GQ (3, 0, [(0, .int (g 28 (Int32.toNatClampNeg x2))), (1, .int x2)], [], g, t) (am_af 27 23 [(0, .ref 26), (1, .int x1), (2, .int x2)] [] Q)))) :
    am_GQ (27, 13, [(0, .ref 26), (1, .int x1), (2, .int x2)], [.int s0], g, t) Q := am_wp_ok [2, 31] 7 h
theorem B_Graph_hasLoop_31 {g : am_G} {t : Nat} {Q : am_R → Prop} {x1 : Int32} {x2 : Int32}
    (h : am_GQ (27, 2, [(0, .ref 26), (1, .int x1), (2, .int (x2 + (Int32.ofNat 1)))], [], g, t) Q) :
    am_GQ (27, 31, [(0, .ref 26), (1, .int x1), (2, .int x2)], [], g, t) Q := am_wp_ok [2, 31] 2 h
theorem B_Graph_hasLoop_26 {g : am_G} {t : Nat} {Q : am_R → Prop} {x1 : Int32} {x2 : Int32} {s0 : Int32}
    (h : (s0 = (Int32.ofNat 0) → am_GQ (27, 31, [(0, .ref 26), (1, .int x1), (2, .int x2)], [], g, t) Q) ∧ (¬ s0 = (Int32.ofNat 0) → am_chk (am_isb (Int32.ofNat 1)) (Q (.inl (some (.int (Int32.ofNat 1))), g, t)))) :
    am_GQ (27, 26, [(0, .ref 26), (1, .int x1), (2, .int x2)], [.int s0], g, t) Q := am_wp_ok [2, 31] 3 h
theorem B_Graph_hasNewerSource_0 {g : am_G} {t : Nat} {Q : am_R → Prop} {x1 : Int32}
    (h : am_GQ (28, 2, [(0, .ref 26), (1, .int x1), (2, .int (Int32.ofNat 0))], [], g, t) Q) :
    am_GQ (28, 0, [(0, .ref 26), (1, .int x1)], [], g, t) Q := am_wp_ok [2, 42] 2 h
theorem B_Graph_hasNewerSource_2 {g : am_G} {t : Nat} {Q : am_R → Prop} {x1 : Int32} {x2 : Int32}
    (h : ((Int32.ofNat 32) ≤ x2 → am_chk (am_isb (Int32.ofNat 0)) (Q (.inl (some (.int (Int32.ofNat 0))), g, t))) ∧ (x2 < (Int32.ofNat 32) → am_chk (am_in x1 32) (am_GQ (3, 0, [(0, .int (g 27 (Int32.toNatClampNeg x1))), (1, .int x2)], [], g, t) (am_af 28 15 [(0, .ref 26), (1, .int x1), (2, .int x2)] [] Q)))) :
    am_GQ (28, 2, [(0, .ref 26), (1, .int x1), (2, .int x2)], [], g, t) Q := am_wp_ok [2, 42] 9 h
theorem B_Graph_hasNewerSource_18 {g : am_G} {t : Nat} {Q : am_R → Prop} {x1 : Int32} {x2 : Int32} {s0 : Int32}
    (h : (s0 = (Int32.ofNat 0) → am_GQ (28, 42, [(0, .ref 26), (1, .int x1), (2, .int x2)], [], g, t) Q) ∧ (¬ s0 = (Int32.ofNat 0) → am_GQ (74, 0, [(0, .ref 24), (1, .int x2)], [], g, t) (am_af 28 26 [(0, .ref 26), (1, .int x1), (2, .int x2)] [] Q))) :
    am_GQ (28, 18, [(0, .ref 26), (1, .int x1), (2, .int x2)], [.int s0], g, t) Q := am_wp_ok [2, 42] 5 h
theorem B_Graph_hasNewerSource_42 {g : am_G} {t : Nat} {Q : am_R → Prop} {x1 : Int32} {x2 : Int32}
    (h : am_GQ (28, 2, [(0, .ref 26), (1, .int x1), (2, .int (x2 + (Int32.ofNat 1)))], [], g, t) Q) :
    am_GQ (28, 42, [(0, .ref 26), (1, .int x1), (2, .int x2)], [], g, t) Q := am_wp_ok [2, 42] 2 h
theorem B_Graph_hasNewerSource_29 {g : am_G} {t : Nat} {Q : am_R → Prop} {x1 : Int32} {x2 : Int32} {s0 : Int32}
    (h : am_GQ (74, 0, [(0, .ref 24), (1, .int x1)], [], g, t) (am_af 28 34 [(0, .ref 26), (1, .int x1), (2, .int x2)] [.int s0] Q)) :
    am_GQ (28, 29, [(0, .ref 26), (1, .int x1), (2, .int x2)], [.int s0], g, t) Q := am_wp_ok [2, 42] 4 h
theorem B_Graph_hasNewerSource_37 {g : am_G} {t : Nat} {Q : am_R → Prop} {x1 : Int32} {x2 : Int32} {s0 : Int32} {s1 : Int32}
    (h : (s1 ≤ s0 → am_GQ (28, 42, [(0, .ref 26), (1, .int x1), (2, .int x2)], [], g, t) Q) ∧ (s0 < s1 → am_chk (am_isb (Int32.ofNat 1)) (Q (.inl (some (.int (Int32.ofNat 1))), g, t)))) :
    am_GQ (28, 37, [(0, .ref 26), (1, .int x1), (2, .int x2)], [.int s0, .int s1], g, t) Q := am_wp_ok [2, 42] 3 h
theorem B_Graph_hasUnmakeable_0 {g : am_G} {t : Nat} {Q : am_R → Prop} {x1 : Int32}
    (h : am_GQ (29, 2, [(0, .ref 26), (1, .int x1), (2, .int (Int32.ofNat 0))], [], g, t) Q) :
    am_GQ (29, 0, [(0, .ref 26), (1, .int x1)], [], g, t) Q := am_wp_ok [2, 36] 2 h
theorem B_Graph_hasUnmakeable_2 {g : am_G} {t : Nat} {Q : am_R → Prop} {x1 : Int32} {x2 : Int32}
    (h : ((Int32.ofNat 32) ≤ x2 → am_chk (am_isb (Int32.ofNat 0)) (Q (.inl (some (.int (Int32.ofNat 0))), g, t))) ∧ (x2 < (Int32.ofNat 32) → am_GQ (3, 0, [(0, .int (x1 &&& ((g 26 4) ^^^ (-1)))), (1, .int x2)], [], g, t) (am_af 29 17 [(0, .ref 26), (1, .int x1), (2, .int x2)] [] Q))) :
    am_GQ (29, 2, [(0, .ref 26), (1, .int x1), (2, .int x2)], [], g, t) Q := am_wp_ok [2, 36] 11 h
theorem B_Graph_hasUnmakeable_20 {g : am_G} {t : Nat} {Q : am_R → Prop} {x1 : Int32} {x2 : Int32} {s0 : Int32}
    (h : (s0 = (Int32.ofNat 0) → am_GQ (29, 36, [(0, .ref 26), (1, .int x1), (2, .int x2)], [], g, t) Q) ∧ (¬ s0 = (Int32.ofNat 0) → am_GQ (74, 0, [(0, .ref 24), (1, .int x2)], [], g, t) (am_af 29 28 [(0, .ref 26), (1, .int x1), (2, .int x2)] [] Q))) :
    am_GQ (29, 20, [(0, .ref 26), (1, .int x1), (2, .int x2)], [.int s0], g, t) Q := am_wp_ok [2, 36] 5 h
theorem B_Graph_hasUnmakeable_36 {g : am_G} {t : Nat} {Q : am_R → Prop} {x1 : Int32} {x2 : Int32}
    (h : am_GQ (29, 2, [(0, .ref 26), (1, .int x1), (2, .int (x2 + (Int32.ofNat 1)))], [], g, t) Q) :
    am_GQ (29, 36, [(0, .ref 26), (1, .int x1), (2, .int x2)], [], g, t) Q := am_wp_ok [2, 36] 2 h
theorem B_Graph_hasUnmakeable_31 {g : am_G} {t : Nat} {Q : am_R → Prop} {x1 : Int32} {x2 : Int32} {s0 : Int32}
    (h : (¬ s0 = (Int32.ofNat 0) → am_GQ (29, 36, [(0, .ref 26), (1, .int x1), (2, .int x2)], [], g, t) Q) ∧ (s0 = (Int32.ofNat 0) → am_chk (am_isb (Int32.ofNat 1)) (Q (.inl (some (.int (Int32.ofNat 1))), g, t)))) :
    am_GQ (29, 31, [(0, .ref 26), (1, .int x1), (2, .int x2)], [.int s0], g, t) Q := am_wp_ok [2, 36] 3 h
theorem B_Graph_outOfDate_0 {g : am_G} {t : Nat} {Q : am_R → Prop} {x1 : Int32}
    (h : am_GQ (30, 7, [(0, .ref 26), (1, .int x1), (2, .int (Int32.ofNat 0)), (3, .int (Int32.ofNat 1)), (4, .int (Int32.ofNat 0))], [], g, t) Q) :
    am_GQ (30, 0, [(0, .ref 26), (1, .int x1)], [], g, t) Q := am_wp_ok [7, 24, 62, 79] 6 h
theorem B_Graph_outOfDate_7 {g : am_G} {t : Nat} {Q : am_R → Prop} {x1 : Int32} {x2 : Int32} {x3 : Int32} {x4 : Int32}
    (h : ((Int32.ofNat 32) ≤ x4 → Q (.inl (some (.int x2)), g, t)) ∧ (x4 < (Int32.ofNat 32) → (x3 = (Int32.ofNat 0) → Q (.inl (some (.int x2)), g, t)) ∧ (¬ x3 = (Int32.ofNat 0) → am_GQ (30, 24, [(0, .ref 26), (1, .int x1), (2, .int x2), (3, .int x3), (4, .int x4), (5, .int x2), (6, .int (Int32.ofNat 0))], [], g, t) Q))) :
    am_GQ (30, 7, [(0, .ref 26), (1, .int x1), (2, .int x2), (3, .int x3), (4, .int x4)], [], g, t) Q := am_wp_ok [7, 24, 62, 79] 9 h
theorem B_Graph_outOfDate_24 {g : am_G} {t : Nat} {Q : am_R → Prop} {x1 : Int32} {x2 : Int32} {x3 : Int32} {x4 : Int32} {x5 : Int32} {x6 : Int32}
    (h : ((Int32.ofNat 32) ≤ x6 → (x2 = x5 → am_GQ (30, 79, [(0, .ref 26), (1, .int x1), (2, .int x2), (3, .int x3), (4, .int x4)], [.int (Int32.ofNat 0)], g, t) Q) ∧ (¬ x2 = x5 → am_GQ (30, 79, [(0, .ref 26), (1, .int x1), (2, .int x2), (3, .int x3), (4, .int x4)], [.int (Int32.ofNat 1)], g, t) Q)) ∧ (x6 < (Int32.ofNat 32) → am_GQ (3, 0, [(0, .int (x1 &&& (x2 ^^^ (-1)))), (1, .int x6)], [], g, t) (am_af 30 38 [(0, .ref 26), (1, .int x1), (2, .int x2), (3, .int x3), (4, .int x4), (5, .int x5), (6, .int x6)] [] Q))) :
    am_GQ (30, 24, [(0, .ref 26), (1, .int x1), (2, .int x2), (3, .int x3), (4, .int x4), (5, .int x5), (6, .int x6)], [], g, t) Q := am_wp_ok [7, 24, 62, 79] 10 h
theorem B_Graph_outOfDate_79 {g : am_G} {t : Nat} {Q : am_R → Prop} {x1 : Int32} {x2 : Int32} {x3 : Int32} {x4 : Int32} {s0 : Int32}
    (h : am_GQ (30, 7, [(0, .ref 26), (1, .int x1), (2, .int x2), (3, .int s0), (4, .int (x4 + (Int32.ofNat 1)))], [], g, t) Q) :
    am_GQ (30, 79, [(0, .ref 26), (1, .int x1), (2, .int x2), (3, .int x3), (4, .int x4)], [.int s0], g, t) Q := am_wp_ok [7, 24, 62, 79] 3 h
theorem B_Graph_outOfDate_41 {g : am_G} {t : Nat} {Q : am_R → Prop} {x1 : Int32} {x2 : Int32} {x3 : Int32} {x4 : Int32} {x5 : Int32} {x6 : Int32} {s0 : Int32}
    (h : (s0 = (Int32.ofNat 0) → am_GQ (30, 62, [(0, .ref 26), (1, .int x1), (2, .int x2), (3, .int x3), (4, .int x4), (5, .int x5), (6, .int x6)], [], g, t) Q) ∧ (¬ s0 = (Int32.ofNat 0) → am_GQ (31, 0, [(0, .ref 26), (1, .int x6), (2, .int x2)], [], g, t) (am_af 30 48 [(0, .ref 26), (1, .int x1), (2, .int x2), (3, .int x3), (4, .int x4), (5, .int x5), (6, .int x6)] [] Q))) :
    am_GQ (30, 41, [(0, .ref 26), (1, .int x1), (2, .int x2), (3, .int x3), (4, .int x4), (5, .int x5), (6, .int x6)], [.int s0], g, t) Q := am_wp_ok [7, 24, 62, 79] 5 h
theorem B_Graph_outOfDate_62 {g : am_G} {t : Nat} {Q : am_R → Prop} {x1 : Int32} {x2 : Int32} {x3 : Int32} {x4 : Int32} {x5 : Int32} {x6 : Int32}
    (h : am_GQ (30, 24, [(0, .ref 26), (1, .int x1), (2, .int x2), (3, .int x3), (4, .int x4), (5, .int x5), (6, .int (x6 + (Int32.ofNat 1)))], [], g, t) Q) :
    am_GQ (30, 62, [(0, .ref 26), (1, .int x1), (2, .int x2), (3, .int x3), (4, .int x4), (5, .int x5), (6, .int x6)], [], g, t) Q := am_wp_ok [7, 24, 62, 79] 2 h
theorem B_Graph_outOfDate_51 {g : am_G} {t : Nat} {Q : am_R → Prop} {x1 : Int32} {x2 : Int32} {x3 : Int32} {x4 : Int32} {x5 : Int32} {x6 : Int32} {s0 : Int32}
    (h : (s0 = (Int32.ofNat 0) → am_GQ (30, 62, [(0, .ref 26), (1, .int x1), (2, .int x2), (3, .int x3), (4, .int x4), (5, .int x5), (6, .int x6)], [], g, t) Q) ∧ (¬ s0 = (Int32.ofNat 0) → am_GQ (16, 0, [(0, .int x6)], [], g, t) (am_af 30 57 [(0, .ref 26), (1, .int x1), (2, .int x2), (3, .int x3), (4, .int x4), (5, .int x5), (6, .int x6)] [.int x2] Q))) :
    am_GQ (30, 51, [(0, .ref 26), (1, .int x1), (2, .int x2), (3, .int x3), (4, .int x4), (5, .int x5), (6, .int x6)], [.int s0], g, t) Q := am_wp_ok [7, 24, 62, 79] 4 h
theorem B_Graph_outOfDate_60 {g : am_G} {t : Nat} {Q : am_R → Prop} {x1 : Int32} {x2 : Int32} {x3 : Int32} {x4 : Int32} {x5 : Int32} {x6 : Int32} {s0 : Int32} {s1 : Int32}
    (h : am_GQ (30, 62, [(0, .ref 26), (1, .int x1), (2, .int (s1 ||| s0)), (3, .int x3), (4, .int x4), (5, .int x5), (6, .int x6)], [], g, t) Q) :
    am_GQ (30, 60, [(0, .ref 26), (1, .int x1), (2, .int x2), (3, .int x3), (4, .int x4), (5, .int x5), (6, .int x6)], [.int s0, .int s1], g, t) Q := am_wp_ok [7, 24, 62, 79] 2 h
theorem B_Graph_reasonOf_0 {g : am_G} {t : Nat} {Q : am_R → Prop} {x1 : Int32} {x2 : Int32}
    (h : am_GQ (3, 0, [(0, .int (g 26 4)), (1, .int x1)], [], g, t) (am_af 31 5 [(0, .ref 26), (1, .int x1), (2, .int x2)] [] Q)) :
    am_GQ (31, 0, [(0, .ref 26), (1, .int x1), (2, .int x2)], [], g, t) Q := am_wp_ok [] 4 h
theorem B_Graph_reasonOf_8 {g : am_G} {t : Nat} {Q : am_R → Prop} {x1 : Int32} {x2 : Int32} {s0 : Int32}
    (h : (¬ s0 = (Int32.ofNat 0) → am_GQ (74, 0, [(0, .ref 24), (1, .int x1)], [], g, t) (am_af 31 18 [(0, .ref 26), (1, .int x1), (2, .int x2)] [] Q)) ∧ (s0 = (Int32.ofNat 0) → Q (.inl (some (.int (Int32.ofNat 0))), g, t))) :
    am_GQ (31, 8, [(0, .ref 26), (1, .int x1), (2, .int x2)], [.int s0], g, t) Q := am_wp_ok [] 5 h
theorem B_Graph_reasonOf_21 {g : am_G} {t : Nat} {Q : am_R → Prop} {x1 : Int32} {x2 : Int32} {s0 : Int32}
    (h : (¬ s0 = (Int32.ofNat 0) → am_chk (am_in x1 32) ((((g 27 (Int32.toNatClampNeg x1)) &&& x2) = (Int32.ofNat 0) → am_GQ (28, 0, [(0, .ref 26), (1, .int x1)], [], g, t) (am_af 31 41 [(0, .ref 26), (1, .int x1), (2, .int x2)] [] Q)) ∧ (¬ ((g 27 (Int32.toNatClampNeg x1)) &&& x2) = (Int32.ofNat 0) → Q (.inl (some (.int (Int32.ofNat 2))), g, t)))) ∧ (s0 = (Int32.ofNat 0) → Q (.inl (some (.int (Int32.ofNat 1))), g, t))) :
    am_GQ (31, 21, [(0, .ref 26), (1, .int x1), (2, .int x2)], [.int s0], g, t) Q := am_wp_ok [] 11 h
theorem B_Graph_reasonOf_44 {g : am_G} {t : Nat} {Q : am_R → Prop} {x1 : Int32} {x2 : Int32} {s0 : Int32}
    (h : (s0 = (Int32.ofNat 0) → Q (.inl (some (.int (Int32.ofNat 0))), g, t)) ∧ (¬ s0 = (Int32.ofNat 0) → Q (.inl (some (.int (Int32.ofNat 3))), g, t))) :
    am_GQ (31, 44, [(0, .ref 26), (1, .int x1), (2, .int x2)], [.int s0], g, t) Q := am_wp_ok [] 4 h
theorem B_Graph_withFoundation_0 {g : am_G} {t : Nat} {Q : am_R → Prop} {x1 : Int32}
    (h : am_chk (am_in x1 32) (am_GQ (16, 0, [(0, .int x1)], [], g, t) (am_af 32 7 [(0, .ref 26), (1, .int x1)] [.int (g 28 (Int32.toNatClampNeg x1))] Q))) :
    am_GQ (32, 0, [(0, .ref 26), (1, .int x1)], [], g, t) Q := am_wp_ok [] 6 h
theorem B_Graph_withFoundation_10 {g : am_G} {t : Nat} {Q : am_R → Prop} {x1 : Int32} {s0 : Int32} {s1 : Int32}
    (h : Q (.inl (some (.int (s1 ||| s0))), g, t)) :
    am_GQ (32, 10, [(0, .ref 26), (1, .int x1)], [.int s0, .int s1], g, t) Q := am_wp_ok [] 2 h
theorem B_Lines_add_0 {g : am_G} {t : Nat} {Q : am_R → Prop} {x1 : Int32} {x2 : Nat}
    (h : ((Int32.ofNat 240) ≤ (g 11 3) → Q (.inl none, g, t)) ∧ ((g 11 3) < (Int32.ofNat 240) → am_chk (am_in (g 11 3) 240) (am_chk (am_in ((am_w g 12 (Int32.toNatClampNeg (g 11 3)) x1) 11 3) 240 && Nat.blt x2 6) (Q (.inl none, (am_w (am_w (am_w g 12 (Int32.toNatClampNeg (g 11 3)) x1) 13 (Int32.toNatClampNeg ((am_w g 12 (Int32.toNatClampNeg (g 11 3)) x1) 11 3)) (Int32.ofNat x2 + Int32.ofNat 1)) 11 3 (((am_w (am_w g 12 (Int32.toNatClampNeg (g 11 3)) x1) 13 (Int32.toNatClampNeg ((am_w g 12 (Int32.toNatClampNeg (g 11 3)) x1) 11 3)) (Int32.ofNat x2 + Int32.ofNat 1)) 11 3) + (Int32.ofNat 1))), t))))) :
    am_GQ (33, 0, [(0, .ref 11), (1, .int x1), (2, .ref x2)], [], g, t) Q := am_wp_ok [] 23 h
theorem B_Lines_count_0 {g : am_G} {t : Nat} {Q : am_R → Prop}
    (h : Q (.inl (some (.int (g 11 3))), g, t)) :
    am_GQ (34, 0, [(0, .ref 11)], [], g, t) Q := am_wp_ok [] 3 h
theorem B_Lines_firstIllFormed_0 {g : am_G} {t : Nat} {Q : am_R → Prop}
    (h : am_GQ (35, 2, [(0, .ref 11), (1, .int (Int32.ofNat 0))], [], g, t) Q) :
    am_GQ (35, 0, [(0, .ref 11)], [], g, t) Q := am_wp_ok [2] 2 h
theorem B_Lines_firstIllFormed_2 {g : am_G} {t : Nat} {Q : am_R → Prop} {x1 : Int32}
    (h : ((g 11 3) ≤ x1 → am_GQ (37, 0, [(0, .ref 11), (1, .int ((g 11 3) - (Int32.ofNat 1))), (2, .ref 4)], [], g, t) (am_af 35 49 [(0, .ref 11), (1, .int x1)] [] Q)) ∧ (x1 < (g 11 3) → am_GQ (37, 0, [(0, .ref 11), (1, .int x1), (2, .ref 0)], [], g, t) (am_af 35 15 [(0, .ref 11), (1, .int x1)] [] Q))) :
    am_GQ (35, 2, [(0, .ref 11), (1, .int x1)], [], g, t) Q := am_wp_ok [2] 11 h
theorem B_Lines_firstIllFormed_52 {g : am_G} {t : Nat} {Q : am_R → Prop} {x1 : Int32} {s0 : Int32}
    (h : (s0 = (Int32.ofNat 0) → Q (.inl (some (.int (Int32.ofNat 0))), g, t)) ∧ (¬ s0 = (Int32.ofNat 0) → Q (.inl (some (.int (g 11 3))), g, t))) :
    am_GQ (35, 52, [(0, .ref 11), (1, .int x1)], [.int s0], g, t) Q := am_wp_ok [2] 5 h
theorem B_Lines_firstIllFormed_18 {g : am_G} {t : Nat} {Q : am_R → Prop} {x1 : Int32} {s0 : Int32}
    (h : (¬ s0 = (Int32.ofNat 0) → Q (.inl (some (.int (x1 + (Int32.ofNat 1)))), g, t)) ∧ (s0 = (Int32.ofNat 0) → am_GQ (42, 0, [(0, .ref 11), (1, .int x1)], [], g, t) (am_af 35 23 [(0, .ref 11), (1, .int x1)] [] Q))) :
    am_GQ (35, 18, [(0, .ref 11), (1, .int x1)], [.int s0], g, t) Q := am_wp_ok [2] 5 h
theorem B_Lines_firstIllFormed_26 {g : am_G} {t : Nat} {Q : am_R → Prop} {x1 : Int32} {s0 : Int32}
    (h : (¬ s0 = (Int32.ofNat 0) → am_GQ (35, 2, [(0, .ref 11), (1, .int (x1 + (Int32.ofNat 1)))], [], g, t) Q) ∧ (s0 = (Int32.ofNat 0) → Q (.inl (some (.int (x1 + (Int32.ofNat 1)))), g, t))) :
    am_GQ (35, 26, [(0, .ref 11), (1, .int x1)], [.int s0], g, t) Q := am_wp_ok [2] 5 h
theorem B_Lines_hasRecipe_0 {g : am_G} {t : Nat} {Q : am_R → Prop} {x1 : Int32}
    (h : am_GQ (37, 0, [(0, .ref 11), (1, .int (x1 + (Int32.ofNat 1))), (2, .ref 5)], [], g, t) (am_af 36 7 [(0, .ref 11), (1, .int x1)] [] Q)) :
    am_GQ (36, 0, [(0, .ref 11), (1, .int x1)], [], g, t) Q := am_wp_ok [] 6 h
theorem B_Lines_hasRecipe_10 {g : am_G} {t : Nat} {Q : am_R → Prop} {x1 : Int32} {s0 : Int32}
    (h : am_chk (am_isb s0) (Q (.inl (some (.int s0)), g, t))) :
    am_GQ (36, 10, [(0, .ref 11), (1, .int x1)], [.int s0], g, t) Q := am_wp_ok [] 1 h
theorem B_Lines_isKind_0 {g : am_G} {t : Nat} {Q : am_R → Prop} {x1 : Int32} {x2 : Nat}
    (h : (x1 < (Int32.ofNat 0) → am_chk (am_isb (Int32.ofNat 0)) (Q (.inl (some (.int (Int32.ofNat 0))), g, t))) ∧ ((Int32.ofNat 0) ≤ x1 → ((g 11 3) ≤ x1 → am_chk (am_isb (Int32.ofNat 0)) (Q (.inl (some (.int (Int32.ofNat 0))), g, t))) ∧ (x1 < (g 11 3) → am_chk (am_in x1 240 && am_in ((g 13 (Int32.toNatClampNeg x1)) - Int32.ofNat 1) 6) (am_chk (Nat.blt ((g 13 (Int32.toNatClampNeg x1)) - Int32.ofNat 1).toNatClampNeg 6 && Nat.blt x2 6) ((¬ Int32.ofNat ((g 13 (Int32.toNatClampNeg x1)) - Int32.ofNat 1).toNatClampNeg = Int32.ofNat x2 → am_chk (am_isb (Int32.ofNat 0)) (Q (.inl (some (.int (Int32.ofNat 0))), g, t))) ∧ (Int32.ofNat ((g 13 (Int32.toNatClampNeg x1)) - Int32.ofNat 1).toNatClampNeg = Int32.ofNat x2 → am_chk (am_isb (Int32.ofNat 1)) (Q (.inl (some (.int (Int32.ofNat 1))), g, t)))))))) :
    am_GQ (37, 0, [(0, .ref 11), (1, .int x1), (2, .ref x2)], [], g, t) Q := am_wp_ok [] 15 h
theorem B_Lines_isMacro_0 {g : am_G} {t : Nat} {Q : am_R → Prop} {x1 : Int32} {x2 : Int32}
    (h : am_GQ (78, 0, [(0, .ref 9), (1, .int x1)], [], g, t) (am_af 38 5 [(0, .ref 11), (1, .int x1), (2, .int x2)] [] Q)) :
    am_GQ (38, 0, [(0, .ref 11), (1, .int x1), (2, .int x2)], [], g, t) Q := am_wp_ok [] 4 h
theorem B_Lines_isMacro_8 {g : am_G} {t : Nat} {Q : am_R → Prop} {x1 : Int32} {x2 : Int32} {s0 : Int32}
    (h : am_GQ (78, 0, [(0, .ref 9), (1, .int (x1 + (Int32.ofNat 1)))], [], g, t) (am_af 38 15 [(0, .ref 11), (1, .int x1), (2, .int x2)] [.int s0] Q)) :
    am_GQ (38, 8, [(0, .ref 11), (1, .int x1), (2, .int x2)], [.int s0], g, t) Q := am_wp_ok [] 6 h
theorem B_Lines_isMacro_18 {g : am_G} {t : Nat} {Q : am_R → Prop} {x1 : Int32} {x2 : Int32} {s0 : Int32} {s1 : Int32}
    (h : am_GQ (5, 0, [(0, .int s1), (1, .int s0)], [], g, t) (am_af 38 18 [(0, .ref 11), (1, .int x1), (2, .int x2)] [] Q)) :
    am_GQ (38, 18, [(0, .ref 11), (1, .int x1), (2, .int x2)], [.int s0, .int s1], g, t) Q := am_wp_ok [] 1 h
theorem B_Lines_isMacro_21 {g : am_G} {t : Nat} {Q : am_R → Prop} {x1 : Int32} {x2 : Int32} {s0 : Int32}
    (h : (s0 = (Int32.ofNat 0) → am_chk (am_isb (Int32.ofNat 0)) (Q (.inl (some (.int (Int32.ofNat 0))), g, t))) ∧ (¬ s0 = (Int32.ofNat 0) → am_GQ (88, 0, [(0, .ref 9), (1, .int (x1 + (Int32.ofNat 2)))], [], g, t) (am_af 38 31 [(0, .ref 11), (1, .int x1), (2, .int x2)] [] Q))) :
    am_GQ (38, 21, [(0, .ref 11), (1, .int x1), (2, .int x2)], [.int s0], g, t) Q := am_wp_ok [] 7 h
theorem B_Lines_isMacro_34 {g : am_G} {t : Nat} {Q : am_R → Prop} {x1 : Int32} {x2 : Int32} {s0 : Int32}
    (h : (¬ s0 = x2 → am_chk (am_isb (Int32.ofNat 0)) (Q (.inl (some (.int (Int32.ofNat 0))), g, t))) ∧ (s0 = x2 → am_chk (am_isb (Int32.ofNat 1)) (Q (.inl (some (.int (Int32.ofNat 1))), g, t)))) :
    am_GQ (38, 34, [(0, .ref 11), (1, .int x1), (2, .int x2)], [.int s0], g, t) Q := am_wp_ok [] 5 h
theorem B_Lines_isPattern_0 {g : am_G} {t : Nat} {Q : am_R → Prop} {x1 : Int32} {x2 : Int32}
    (h : (¬ (x2 - x1) = (Int32.ofNat 5) → am_chk (am_isb (Int32.ofNat 0)) (Q (.inl (some (.int (Int32.ofNat 0))), g, t))) ∧ ((x2 - x1) = (Int32.ofNat 5) → am_GQ (78, 0, [(0, .ref 9), (1, .int x1)], [], g, t) (am_af 39 12 [(0, .ref 11), (1, .int x1), (2, .int x2)] [] Q))) :
    am_GQ (39, 0, [(0, .ref 11), (1, .int x1), (2, .int x2)], [], g, t) Q := am_wp_ok [] 9 h
theorem B_Lines_isPattern_15 {g : am_G} {t : Nat} {Q : am_R → Prop} {x1 : Int32} {x2 : Int32} {s0 : Int32}
    (h : am_GQ (78, 0, [(0, .ref 9), (1, .int (x1 + (Int32.ofNat 1)))], [], g, t) (am_af 39 22 [(0, .ref 11), (1, .int x1), (2, .int x2)] [.int s0] Q)) :
    am_GQ (39, 15, [(0, .ref 11), (1, .int x1), (2, .int x2)], [.int s0], g, t) Q := am_wp_ok [] 6 h
theorem B_Lines_isPattern_25 {g : am_G} {t : Nat} {Q : am_R → Prop} {x1 : Int32} {x2 : Int32} {s0 : Int32} {s1 : Int32}
    (h : am_GQ (8, 0, [(0, .int s1), (1, .int s0)], [], g, t) (am_af 39 25 [(0, .ref 11), (1, .int x1), (2, .int x2)] [] Q)) :
    am_GQ (39, 25, [(0, .ref 11), (1, .int x1), (2, .int x2)], [.int s0, .int s1], g, t) Q := am_wp_ok [] 1 h
theorem B_Lines_isPattern_28 {g : am_G} {t : Nat} {Q : am_R → Prop} {x1 : Int32} {x2 : Int32} {s0 : Int32}
    (h : (s0 = (Int32.ofNat 0) → am_chk (am_isb (Int32.ofNat 0)) (Q (.inl (some (.int (Int32.ofNat 0))), g, t))) ∧ (¬ s0 = (Int32.ofNat 0) → am_GQ (78, 0, [(0, .ref 9), (1, .int (x1 + (Int32.ofNat 2)))], [], g, t) (am_af 39 38 [(0, .ref 11), (1, .int x1), (2, .int x2)] [] Q))) :
    am_GQ (39, 28, [(0, .ref 11), (1, .int x1), (2, .int x2)], [.int s0], g, t) Q := am_wp_ok [] 7 h
theorem B_Lines_isPattern_41 {g : am_G} {t : Nat} {Q : am_R → Prop} {x1 : Int32} {x2 : Int32} {s0 : Int32}
    (h : (¬ s0 = (Int32.ofNat 58) → am_chk (am_isb (Int32.ofNat 0)) (Q (.inl (some (.int (Int32.ofNat 0))), g, t))) ∧ (s0 = (Int32.ofNat 58) → am_GQ (78, 0, [(0, .ref 9), (1, .int (x1 + (Int32.ofNat 3)))], [], g, t) (am_af 39 53 [(0, .ref 11), (1, .int x1), (2, .int x2)] [] Q))) :
    am_GQ (39, 41, [(0, .ref 11), (1, .int x1), (2, .int x2)], [.int s0], g, t) Q := am_wp_ok [] 8 h
theorem B_Lines_isPattern_56 {g : am_G} {t : Nat} {Q : am_R → Prop} {x1 : Int32} {x2 : Int32} {s0 : Int32}
    (h : am_GQ (78, 0, [(0, .ref 9), (1, .int (x1 + (Int32.ofNat 4)))], [], g, t) (am_af 39 63 [(0, .ref 11), (1, .int x1), (2, .int x2)] [.int s0] Q)) :
    am_GQ (39, 56, [(0, .ref 11), (1, .int x1), (2, .int x2)], [.int s0], g, t) Q := am_wp_ok [] 6 h
theorem B_Lines_isPattern_66 {g : am_G} {t : Nat} {Q : am_R → Prop} {x1 : Int32} {x2 : Int32} {s0 : Int32} {s1 : Int32}
    (h : am_GQ (8, 0, [(0, .int s1), (1, .int s0)], [], g, t) (am_af 39 66 [(0, .ref 11), (1, .int x1), (2, .int x2)] [] Q)) :
    am_GQ (39, 66, [(0, .ref 11), (1, .int x1), (2, .int x2)], [.int s0, .int s1], g, t) Q := am_wp_ok [] 1 h
theorem B_Lines_isPattern_69 {g : am_G} {t : Nat} {Q : am_R → Prop} {x1 : Int32} {x2 : Int32} {s0 : Int32}
    (h : (s0 = (Int32.ofNat 0) → am_chk (am_isb (Int32.ofNat 0)) (Q (.inl (some (.int (Int32.ofNat 0))), g, t))) ∧ (¬ s0 = (Int32.ofNat 0) → am_chk (am_isb (Int32.ofNat 1)) (Q (.inl (some (.int (Int32.ofNat 1))), g, t)))) :
    am_GQ (39, 69, [(0, .ref 11), (1, .int x1), (2, .int x2)], [.int s0], g, t) Q := am_wp_ok [] 4 h
theorem B_Lines_isRule_0 {g : am_G} {t : Nat} {Q : am_R → Prop} {x1 : Int32} {x2 : Int32}
    (h : am_GQ (88, 0, [(0, .ref 9), (1, .int x1)], [], g, t) (am_af 40 5 [(0, .ref 11), (1, .int x1), (2, .int x2)] [] Q)) :
    am_GQ (40, 0, [(0, .ref 11), (1, .int x1), (2, .int x2)], [], g, t) Q := am_wp_ok [] 4 h
theorem B_Lines_isRule_8 {g : am_G} {t : Nat} {Q : am_R → Prop} {x1 : Int32} {x2 : Int32} {s0 : Int32}
    (h : am_GQ (78, 0, [(0, .ref 9), (1, .int s0)], [], g, t) (am_af 40 14 [(0, .ref 11), (1, .int x1), (2, .int x2), (3, .int s0)] [] Q)) :
    am_GQ (40, 8, [(0, .ref 11), (1, .int x1), (2, .int x2)], [.int s0], g, t) Q := am_wp_ok [] 5 h
theorem B_Lines_isRule_17 {g : am_G} {t : Nat} {Q : am_R → Prop} {x1 : Int32} {x2 : Int32} {x3 : Int32} {s0 : Int32}
    (h : (¬ s0 = (Int32.ofNat 58) → am_chk (am_isb (Int32.ofNat 0)) (Q (.inl (some (.int (Int32.ofNat 0))), g, t))) ∧ (s0 = (Int32.ofNat 58) → am_GQ (83, 0, [(0, .ref 9), (1, .int x1), (2, .int x3)], [], g, t) (am_af 40 28 [(0, .ref 11), (1, .int x1), (2, .int x2), (3, .int x3)] [] Q))) :
    am_GQ (40, 17, [(0, .ref 11), (1, .int x1), (2, .int x2), (3, .int x3)], [.int s0], g, t) Q := am_wp_ok [] 7 h
theorem B_Lines_isRule_31 {g : am_G} {t : Nat} {Q : am_R → Prop} {x1 : Int32} {x2 : Int32} {x3 : Int32} {s0 : Int32}
    (h : (¬ s0 = (Int32.ofNat 0) → am_chk (am_isb (Int32.ofNat 0)) (Q (.inl (some (.int (Int32.ofNat 0))), g, t))) ∧ (s0 = (Int32.ofNat 0) → am_GQ (88, 0, [(0, .ref 9), (1, .int (x3 + (Int32.ofNat 1)))], [], g, t) (am_af 40 41 [(0, .ref 11), (1, .int x1), (2, .int x2), (3, .int x3)] [] Q))) :
    am_GQ (40, 31, [(0, .ref 11), (1, .int x1), (2, .int x2), (3, .int x3)], [.int s0], g, t) Q := am_wp_ok [] 7 h
theorem B_Lines_isRule_44 {g : am_G} {t : Nat} {Q : am_R → Prop} {x1 : Int32} {x2 : Int32} {x3 : Int32} {s0 : Int32}
    (h : (¬ s0 = x2 → am_chk (am_isb (Int32.ofNat 0)) (Q (.inl (some (.int (Int32.ofNat 0))), g, t))) ∧ (s0 = x2 → am_chk (am_isb (Int32.ofNat 1)) (Q (.inl (some (.int (Int32.ofNat 1))), g, t)))) :
    am_GQ (40, 44, [(0, .ref 11), (1, .int x1), (2, .int x2), (3, .int x3)], [.int s0], g, t) Q := am_wp_ok [] 5 h
theorem B_Lines_kindOf_0 {g : am_G} {t : Nat} {Q : am_R → Prop} {x1 : Int32} {x2 : Int32}
    (h : am_GQ (78, 0, [(0, .ref 9), (1, .int x1)], [], g, t) (am_af 41 5 [(0, .ref 11), (1, .int x1), (2, .int x2)] [] Q)) :
    am_GQ (41, 0, [(0, .ref 11), (1, .int x1), (2, .int x2)], [], g, t) Q := am_wp_ok [] 4 h
theorem B_Lines_kindOf_8 {g : am_G} {t : Nat} {Q : am_R → Prop} {x1 : Int32} {x2 : Int32} {s0 : Int32}
    (h : (¬ s0 = (Int32.ofNat 9) → am_GQ (83, 0, [(0, .ref 9), (1, .int x1), (2, .int x2)], [], g, t) (am_af 41 23 [(0, .ref 11), (1, .int x1), (2, .int x2)] [] Q)) ∧ (s0 = (Int32.ofNat 9) → am_chk (Nat.blt 5 6) (Q (.inl (some (.ref 5)), g, t)))) :
    am_GQ (41, 8, [(0, .ref 11), (1, .int x1), (2, .int x2)], [.int s0], g, t) Q := am_wp_ok [] 7 h
theorem B_Lines_kindOf_26 {g : am_G} {t : Nat} {Q : am_R → Prop} {x1 : Int32} {x2 : Int32} {s0 : Int32}
    (h : (s0 = (Int32.ofNat 0) → am_GQ (38, 0, [(0, .ref 11), (1, .int x1), (2, .int x2)], [], g, t) (am_af 41 36 [(0, .ref 11), (1, .int x1), (2, .int x2)] [] Q)) ∧ (¬ s0 = (Int32.ofNat 0) → am_chk (Nat.blt 1 6) (Q (.inl (some (.ref 1)), g, t)))) :
    am_GQ (41, 26, [(0, .ref 11), (1, .int x1), (2, .int x2)], [.int s0], g, t) Q := am_wp_ok [] 5 h
theorem B_Lines_kindOf_39 {g : am_G} {t : Nat} {Q : am_R → Prop} {x1 : Int32} {x2 : Int32} {s0 : Int32}
    (h : (s0 = (Int32.ofNat 0) → am_GQ (39, 0, [(0, .ref 11), (1, .int x1), (2, .int x2)], [], g, t) (am_af 41 49 [(0, .ref 11), (1, .int x1), (2, .int x2)] [] Q)) ∧ (¬ s0 = (Int32.ofNat 0) → am_chk (Nat.blt 2 6) (Q (.inl (some (.ref 2)), g, t)))) :
    am_GQ (41, 39, [(0, .ref 11), (1, .int x1), (2, .int x2)], [.int s0], g, t) Q := am_wp_ok [] 5 h
theorem B_Lines_kindOf_52 {g : am_G} {t : Nat} {Q : am_R → Prop} {x1 : Int32} {x2 : Int32} {s0 : Int32}
    (h : (s0 = (Int32.ofNat 0) → am_GQ (40, 0, [(0, .ref 11), (1, .int x1), (2, .int x2)], [], g, t) (am_af 41 62 [(0, .ref 11), (1, .int x1), (2, .int x2)] [] Q)) ∧ (¬ s0 = (Int32.ofNat 0) → am_chk (Nat.blt 4 6) (Q (.inl (some (.ref 4)), g, t)))) :
    am_GQ (41, 52, [(0, .ref 11), (1, .int x1), (2, .int x2)], [.int s0], g, t) Q := am_wp_ok [] 5 h
theorem B_Lines_kindOf_65 {g : am_G} {t : Nat} {Q : am_R → Prop} {x1 : Int32} {x2 : Int32} {s0 : Int32}
    (h : (s0 = (Int32.ofNat 0) → am_chk (Nat.blt 0 6) (Q (.inl (some (.ref 0)), g, t))) ∧ (¬ s0 = (Int32.ofNat 0) → am_chk (Nat.blt 3 6) (Q (.inl (some (.ref 3)), g, t)))) :
    am_GQ (41, 65, [(0, .ref 11), (1, .int x1), (2, .int x2)], [.int s0], g, t) Q := am_wp_ok [] 4 h
theorem B_Lines_maySucceed_0 {g : am_G} {t : Nat} {Q : am_R → Prop} {x1 : Int32}
    (h : am_GQ (37, 0, [(0, .ref 11), (1, .int x1), (2, .ref 5)], [], g, t) (am_af 42 5 [(0, .ref 11), (1, .int x1)] [] Q)) :
    am_GQ (42, 0, [(0, .ref 11), (1, .int x1)], [], g, t) Q := am_wp_ok [] 4 h
theorem B_Lines_maySucceed_8 {g : am_G} {t : Nat} {Q : am_R → Prop} {x1 : Int32} {s0 : Int32}
    (h : (s0 = (Int32.ofNat 0) → am_GQ (37, 0, [(0, .ref 11), (1, .int (x1 - (Int32.ofNat 1))), (2, .ref 4)], [], g, t) (am_af 42 63 [(0, .ref 11), (1, .int x1)] [] Q)) ∧ (¬ s0 = (Int32.ofNat 0) → am_GQ (37, 0, [(0, .ref 11), (1, .int (x1 - (Int32.ofNat 1))), (2, .ref 3)], [], g, t) (am_af 42 18 [(0, .ref 11), (1, .int x1)] [] Q))) :
    am_GQ (42, 8, [(0, .ref 11), (1, .int x1)], [.int s0], g, t) Q := am_wp_ok [] 7 h
theorem B_Lines_maySucceed_66 {g : am_G} {t : Nat} {Q : am_R → Prop} {x1 : Int32} {s0 : Int32}
    (h : (¬ s0 = (Int32.ofNat 0) → am_chk (am_isb (Int32.ofNat 0)) (Q (.inl (some (.int (Int32.ofNat 0))), g, t))) ∧ (s0 = (Int32.ofNat 0) → am_chk (am_isb (Int32.ofNat 1)) (Q (.inl (some (.int (Int32.ofNat 1))), g, t)))) :
    am_GQ (42, 66, [(0, .ref 11), (1, .int x1)], [.int s0], g, t) Q := am_wp_ok [] 4 h
theorem B_Lines_maySucceed_21 {g : am_G} {t : Nat} {Q : am_R → Prop} {x1 : Int32} {s0 : Int32}
    (h : (¬ s0 = (Int32.ofNat 0) → am_chk (am_isb (Int32.ofNat 1)) (Q (.inl (some (.int (Int32.ofNat 1))), g, t))) ∧ (s0 = (Int32.ofNat 0) → am_GQ (37, 0, [(0, .ref 11), (1, .int (x1 - (Int32.ofNat 1))), (2, .ref 4)], [], g, t) (am_af 42 31 [(0, .ref 11), (1, .int x1)] [] Q))) :
    am_GQ (42, 21, [(0, .ref 11), (1, .int x1)], [.int s0], g, t) Q := am_wp_ok [] 7 h
theorem B_Lines_maySucceed_34 {g : am_G} {t : Nat} {Q : am_R → Prop} {x1 : Int32} {s0 : Int32}
    (h : (¬ s0 = (Int32.ofNat 0) → am_chk (am_isb (Int32.ofNat 1)) (Q (.inl (some (.int (Int32.ofNat 1))), g, t))) ∧ (s0 = (Int32.ofNat 0) → am_GQ (37, 0, [(0, .ref 11), (1, .int (x1 - (Int32.ofNat 1))), (2, .ref 5)], [], g, t) (am_af 42 44 [(0, .ref 11), (1, .int x1)] [] Q))) :
    am_GQ (42, 34, [(0, .ref 11), (1, .int x1)], [.int s0], g, t) Q := am_wp_ok [] 7 h
theorem B_Lines_maySucceed_47 {g : am_G} {t : Nat} {Q : am_R → Prop} {x1 : Int32} {s0 : Int32}
    (h : (s0 = (Int32.ofNat 0) → am_chk (am_isb (Int32.ofNat 0)) (Q (.inl (some (.int (Int32.ofNat 0))), g, t))) ∧ (¬ s0 = (Int32.ofNat 0) → am_chk (am_isb (Int32.ofNat 1)) (Q (.inl (some (.int (Int32.ofNat 1))), g, t)))) :
    am_GQ (42, 47, [(0, .ref 11), (1, .int x1)], [.int s0], g, t) Q := am_wp_ok [] 4 h
theorem B_Lines_split_0 {g : am_G} {t : Nat} {Q : am_R → Prop}
    (h : am_GQ (43, 9, [(0, .ref 11), (1, .int (Int32.ofNat 0)), (2, .int (Int32.ofNat 0))], [], (am_w g 11 3 (Int32.ofNat 0)), t) Q) :
    am_GQ (43, 0, [(0, .ref 11)], [], g, t) Q := am_wp_ok [9, 48] 7 h
theorem B_Lines_split_9 {g : am_G} {t : Nat} {Q : am_R → Prop} {x1 : Int32} {x2 : Int32}
    (h : am_GQ (89, 0, [(0, .ref 9)], [], g, t) (am_af 43 14 [(0, .ref 11), (1, .int x1), (2, .int x2)] [.int x2] Q)) :
    am_GQ (43, 9, [(0, .ref 11), (1, .int x1), (2, .int x2)], [], g, t) Q := am_wp_ok [9, 48] 4 h
theorem B_Lines_split_17 {g : am_G} {t : Nat} {Q : am_R → Prop} {x1 : Int32} {x2 : Int32} {s0 : Int32} {s1 : Int32}
    (h : (s0 ≤ s1 → am_GQ (89, 0, [(0, .ref 9)], [], g, t) (am_af 43 59 [(0, .ref 11), (1, .int x1), (2, .int x2)] [.int x1] Q)) ∧ (s1 < s0 → am_GQ (78, 0, [(0, .ref 9), (1, .int x2)], [], g, t) (am_af 43 25 [(0, .ref 11), (1, .int x1), (2, .int x2)] [] Q))) :
    am_GQ (43, 17, [(0, .ref 11), (1, .int x1), (2, .int x2)], [.int s0, .int s1], g, t) Q := am_wp_ok [9, 48] 5 h
theorem B_Lines_split_62 {g : am_G} {t : Nat} {Q : am_R → Prop} {x1 : Int32} {x2 : Int32} {s0 : Int32} {s1 : Int32}
    (h : (s0 ≤ s1 → Q (.inl none, g, t)) ∧ (s1 < s0 → am_GQ (33, 0, [(0, .ref 11), (1, .int x1), (2, .ref 0)], [], g, t) (am_af 43 70 [(0, .ref 11), (1, .int x1), (2, .int x2)] [] Q))) :
    am_GQ (43, 62, [(0, .ref 11), (1, .int x1), (2, .int x2)], [.int s0, .int s1], g, t) Q := am_wp_ok [9, 48] 5 h
theorem B_Lines_split_28 {g : am_G} {t : Nat} {Q : am_R → Prop} {x1 : Int32} {x2 : Int32} {s0 : Int32}
    (h : (¬ s0 = (Int32.ofNat 10) → am_GQ (43, 48, [(0, .ref 11), (1, .int x1), (2, .int x2)], [], g, t) Q) ∧ (s0 = (Int32.ofNat 10) → am_GQ (41, 0, [(0, .ref 11), (1, .int x1), (2, .int x2)], [], g, t) (am_af 43 38 [(0, .ref 11), (1, .int x1), (2, .int x2)] [.int x1, .ref 11] Q))) :
    am_GQ (43, 28, [(0, .ref 11), (1, .int x1), (2, .int x2)], [.int s0], g, t) Q := am_wp_ok [9, 48] 8 h
theorem B_Lines_split_73 {g : am_G} {t : Nat} {Q : am_R → Prop} {x1 : Int32} {x2 : Int32}
    (h : Q (.inl none, g, t)) :
    am_GQ (43, 73, [(0, .ref 11), (1, .int x1), (2, .int x2)], [], g, t) Q := am_wp_ok [9, 48] 1 h
theorem B_Lines_split_48 {g : am_G} {t : Nat} {Q : am_R → Prop} {x1 : Int32} {x2 : Int32}
    (h : am_GQ (43, 9, [(0, .ref 11), (1, .int x1), (2, .int (x2 + (Int32.ofNat 1)))], [], g, t) Q) :
    am_GQ (43, 48, [(0, .ref 11), (1, .int x1), (2, .int x2)], [], g, t) Q := am_wp_ok [9, 48] 2 h
theorem B_Lines_split_41 {g : am_G} {t : Nat} {Q : am_R → Prop} {x1 : Int32} {x2 : Int32} {s0 : Nat} {s1 : Int32}
    (h : am_GQ (33, 0, [(0, .ref 11), (1, .int s1), (2, .ref s0)], [], g, t) (am_af 43 41 [(0, .ref 11), (1, .int x1), (2, .int x2)] [] Q)) :
    am_GQ (43, 41, [(0, .ref 11), (1, .int x1), (2, .int x2)], [.ref s0, .int s1, .ref 11], g, t) Q := am_wp_ok [9, 48] 1 h
theorem B_Lines_split_44 {g : am_G} {t : Nat} {Q : am_R → Prop} {x1 : Int32} {x2 : Int32}
    (h : am_GQ (43, 48, [(0, .ref 11), (1, .int (x2 + (Int32.ofNat 1))), (2, .int x2)], [], g, t) Q) :
    am_GQ (43, 44, [(0, .ref 11), (1, .int x1), (2, .int x2)], [], g, t) Q := am_wp_ok [9, 48] 4 h
theorem B_Lines_startOf_0 {g : am_G} {t : Nat} {Q : am_R → Prop} {x1 : Int32}
    (h : (x1 < (Int32.ofNat 0) → Q (.inl (some (.int (-1))), g, t)) ∧ ((Int32.ofNat 0) ≤ x1 → ((g 11 3) ≤ x1 → Q (.inl (some (.int (-1))), g, t)) ∧ (x1 < (g 11 3) → am_chk (am_in x1 240) (Q (.inl (some (.int (g 12 (Int32.toNatClampNeg x1)))), g, t))))) :
    am_GQ (44, 0, [(0, .ref 11), (1, .int x1)], [], g, t) Q := am_wp_ok [] 12 h
theorem B_Macros_expandValues_0 {g : am_G} {t : Nat} {Q : am_R → Prop}
    (h : am_GQ (45, 4, [(0, .ref 14), (1, .int (Int32.ofNat 0)), (2, .int (Int32.ofNat 0))], [], g, t) Q) :
    am_GQ (45, 0, [(0, .ref 14)], [], g, t) Q := am_wp_ok [4, 12, 78] 4 h
theorem B_Macros_expandValues_4 {g : am_G} {t : Nat} {Q : am_R → Prop} {x1 : Int32} {x2 : Int32}
    (h : ((Int32.ofNat 26) ≤ x2 → Q (.inl none, g, t)) ∧ (x2 < (Int32.ofNat 26) → am_GQ (45, 12, [(0, .ref 14), (1, .int x1), (2, .int x2), (3, .int (Int32.ofNat 0))], [], g, t) Q)) :
    am_GQ (45, 4, [(0, .ref 14), (1, .int x1), (2, .int x2)], [], g, t) Q := am_wp_ok [4, 12, 78] 5 h
theorem B_Macros_expandValues_12 {g : am_G} {t : Nat} {Q : am_R → Prop} {x1 : Int32} {x2 : Int32} {x3 : Int32}
    (h : ((Int32.ofNat 26) ≤ x3 → am_GQ (45, 4, [(0, .ref 14), (1, .int x1), (2, .int (x2 + (Int32.ofNat 1)))], [], g, t) Q) ∧ (x3 < (Int32.ofNat 26) → am_GQ (3, 0, [(0, .int x1), (1, .int x3)], [], g, t) (am_af 45 20 [(0, .ref 14), (1, .int x1), (2, .int x2), (3, .int x3)] [] Q))) :
    am_GQ (45, 12, [(0, .ref 14), (1, .int x1), (2, .int x2), (3, .int x3)], [], g, t) Q := am_wp_ok [4, 12, 78] 6 h
theorem B_Macros_expandValues_23 {g : am_G} {t : Nat} {Q : am_R → Prop} {x1 : Int32} {x2 : Int32} {x3 : Int32} {s0 : Int32}
    (h : (¬ s0 = (Int32.ofNat 0) → am_GQ (45, 78, [(0, .ref 14), (1, .int x1), (2, .int x2), (3, .int x3)], [], g, t) Q) ∧ (s0 = (Int32.ofNat 0) → am_chk (am_in x3 26) ((¬ ((g 16 (Int32.toNatClampNeg x3)) &&& (x1 ^^^ (-1))) = (Int32.ofNat 0) → am_GQ (45, 78, [(0, .ref 14), (1, .int x1), (2, .int x2), (3, .int x3)], [], g, t) Q) ∧ (((g 16 (Int32.toNatClampNeg x3)) &&& (x1 ^^^ (-1))) = (Int32.ofNat 0) → am_chk (am_in x3 26) (am_GQ (46, 0, [(0, .ref 14), (1, .int (g 15 (Int32.toNatClampNeg x3)))], [], g, t) (am_af 45 51 [(0, .ref 14), (1, .int x1), (2, .int x2), (3, .int x3)] [.int x3, .ref 17] Q)))))) :
    am_GQ (45, 23, [(0, .ref 14), (1, .int x1), (2, .int x2), (3, .int x3)], [.int s0], g, t) Q := am_wp_ok [4, 12, 78] 19 h
theorem B_Macros_expandValues_78 {g : am_G} {t : Nat} {Q : am_R → Prop} {x1 : Int32} {x2 : Int32} {x3 : Int32}
    (h : am_GQ (45, 12, [(0, .ref 14), (1, .int x1), (2, .int x2), (3, .int (x3 + (Int32.ofNat 1)))], [], g, t) Q) :
    am_GQ (45, 78, [(0, .ref 14), (1, .int x1), (2, .int x2), (3, .int x3)], [], g, t) Q := am_wp_ok [4, 12, 78] 2 h
theorem B_Macros_expandValues_54 {g : am_G} {t : Nat} {Q : am_R → Prop} {x1 : Int32} {x2 : Int32} {x3 : Int32} {s0 : Int32} {s1 : Int32}
    (h : am_chk (am_in s1 26) (am_chk (am_in x3 26) (am_GQ (52, 0, [(0, .ref 14), (1, .int ((am_w g 17 (Int32.toNatClampNeg s1) s0) 15 (Int32.toNatClampNeg x3)))], [], (am_w g 17 (Int32.toNatClampNeg s1) s0), t) (am_af 45 67 [(0, .ref 14), (1, .int x1), (2, .int x2), (3, .int x3)] [.int x3, .ref 18] Q)))) :
    am_GQ (45, 54, [(0, .ref 14), (1, .int x1), (2, .int x2), (3, .int x3)], [.int s0, .int s1, .ref 17], g, t) Q := am_wp_ok [4, 12, 78] 10 h
theorem B_Macros_expandValues_70 {g : am_G} {t : Nat} {Q : am_R → Prop} {x1 : Int32} {x2 : Int32} {x3 : Int32} {s0 : Int32} {s1 : Int32}
    (h : am_chk (am_in s1 26) (am_GQ (16, 0, [(0, .int x3)], [], (am_w g 18 (Int32.toNatClampNeg s1) s0), t) (am_af 45 73 [(0, .ref 14), (1, .int x1), (2, .int x2), (3, .int x3)] [.int x1] Q))) :
    am_GQ (45, 70, [(0, .ref 14), (1, .int x1), (2, .int x2), (3, .int x3)], [.int s0, .int s1, .ref 18], g, t) Q := am_wp_ok [4, 12, 78] 4 h
theorem B_Macros_expandValues_76 {g : am_G} {t : Nat} {Q : am_R → Prop} {x1 : Int32} {x2 : Int32} {x3 : Int32} {s0 : Int32} {s1 : Int32}
    (h : am_GQ (45, 78, [(0, .ref 14), (1, .int (s1 ||| s0)), (2, .int x2), (3, .int x3)], [], g, t) Q) :
    am_GQ (45, 76, [(0, .ref 14), (1, .int x1), (2, .int x2), (3, .int x3)], [.int s0, .int s1], g, t) Q := am_wp_ok [4, 12, 78] 2 h
theorem B_Macros_filesIn_0 {g : am_G} {t : Nat} {Q : am_R → Prop} {x1 : Int32}
    (h : am_GQ (88, 0, [(0, .ref 9), (1, .int x1)], [], g, t) (am_af 46 5 [(0, .ref 14), (1, .int x1)] [] Q)) :
    am_GQ (46, 0, [(0, .ref 14), (1, .int x1)], [], g, t) Q := am_wp_ok [14, 79] 4 h
theorem B_Macros_filesIn_8 {g : am_G} {t : Nat} {Q : am_R → Prop} {x1 : Int32} {s0 : Int32}
    (h : am_GQ (46, 14, [(0, .ref 14), (1, .int x1), (2, .int s0), (3, .int (Int32.ofNat 0)), (4, .int x1)], [], g, t) Q) :
    am_GQ (46, 8, [(0, .ref 14), (1, .int x1)], [.int s0], g, t) Q := am_wp_ok [14, 79] 5 h
theorem B_Macros_filesIn_14 {g : am_G} {t : Nat} {Q : am_R → Prop} {x1 : Int32} {x2 : Int32} {x3 : Int32} {x4 : Int32}
    (h : (x2 ≤ x4 → Q (.inl (some (.int x3)), g, t)) ∧ (x4 < x2 → am_GQ (82, 0, [(0, .ref 9), (1, .int x4)], [], g, t) (am_af 46 26 [(0, .ref 14), (1, .int x1), (2, .int x2), (3, .int x3), (4, .int x4)] [] Q))) :
    am_GQ (46, 14, [(0, .ref 14), (1, .int x1), (2, .int x2), (3, .int x3), (4, .int x4)], [], g, t) Q := am_wp_ok [14, 79] 7 h
theorem B_Macros_filesIn_29 {g : am_G} {t : Nat} {Q : am_R → Prop} {x1 : Int32} {x2 : Int32} {x3 : Int32} {x4 : Int32} {s0 : Int32}
    (h : (s0 = (Int32.ofNat 0) → am_GQ (81, 0, [(0, .ref 9), (1, .int x4)], [], g, t) (am_af 46 56 [(0, .ref 14), (1, .int x1), (2, .int x2), (3, .int x3), (4, .int x4)] [] Q)) ∧ (¬ s0 = (Int32.ofNat 0) → am_GQ (80, 0, [(0, .ref 9), (1, .int x4)], [], g, t) (am_af 46 39 [(0, .ref 14), (1, .int x1), (2, .int x2), (3, .int x3), (4, .int x4)] [.int x3] Q))) :
    am_GQ (46, 29, [(0, .ref 14), (1, .int x1), (2, .int x2), (3, .int x3), (4, .int x4)], [.int s0], g, t) Q := am_wp_ok [14, 79] 6 h
theorem B_Macros_filesIn_59 {g : am_G} {t : Nat} {Q : am_R → Prop} {x1 : Int32} {x2 : Int32} {x3 : Int32} {x4 : Int32} {s0 : Int32}
    (h : (s0 = (Int32.ofNat 0) → am_GQ (46, 79, [(0, .ref 14), (1, .int x1), (2, .int x2), (3, .int x3), (4, .int x4)], [], g, t) Q) ∧ (¬ s0 = (Int32.ofNat 0) → am_GQ (85, 0, [(0, .ref 9), (1, .int x4)], [], g, t) (am_af 46 73 [(0, .ref 14), (1, .int x1), (2, .int x2), (3, .int x3), (4, .int x4)] [.ref 17, .int x3] Q))) :
    am_GQ (46, 59, [(0, .ref 14), (1, .int x1), (2, .int x2), (3, .int x3), (4, .int x4)], [.int s0], g, t) Q := am_wp_ok [14, 79] 8 h
theorem B_Macros_filesIn_42 {g : am_G} {t : Nat} {Q : am_R → Prop} {x1 : Int32} {x2 : Int32} {x3 : Int32} {x4 : Int32} {s0 : Int32} {s1 : Int32}
    (h : am_GQ (16, 0, [(0, .int s0)], [], g, t) (am_af 46 42 [(0, .ref 14), (1, .int x1), (2, .int x2), (3, .int x3), (4, .int x4)] [.int s1] Q)) :
    am_GQ (46, 42, [(0, .ref 14), (1, .int x1), (2, .int x2), (3, .int x3), (4, .int x4)], [.int s0, .int s1], g, t) Q := am_wp_ok [14, 79] 1 h
theorem B_Macros_filesIn_79 {g : am_G} {t : Nat} {Q : am_R → Prop} {x1 : Int32} {x2 : Int32} {x3 : Int32} {x4 : Int32}
    (h : am_GQ (46, 14, [(0, .ref 14), (1, .int x1), (2, .int x2), (3, .int x3), (4, .int (x4 + (Int32.ofNat 1)))], [], g, t) Q) :
    am_GQ (46, 79, [(0, .ref 14), (1, .int x1), (2, .int x2), (3, .int x3), (4, .int x4)], [], g, t) Q := am_wp_ok [14, 79] 2 h
theorem B_Macros_filesIn_76 {g : am_G} {t : Nat} {Q : am_R → Prop} {x1 : Int32} {x2 : Int32} {x3 : Int32} {x4 : Int32} {s0 : Int32} {s2 : Int32}
    (h : am_chk (am_in s0 26) (am_GQ (46, 79, [(0, .ref 14), (1, .int x1), (2, .int x2), (3, .int (s2 ||| (g 17 (Int32.toNatClampNeg s0)))), (4, .int x4)], [], g, t) Q)) :
    am_GQ (46, 76, [(0, .ref 14), (1, .int x1), (2, .int x2), (3, .int x3), (4, .int x4)], [.int s0, .ref 17, .int s2], g, t) Q := am_wp_ok [14, 79] 3 h
theorem B_Macros_filesIn_45 {g : am_G} {t : Nat} {Q : am_R → Prop} {x1 : Int32} {x2 : Int32} {x3 : Int32} {x4 : Int32} {s0 : Int32} {s1 : Int32}
    (h : am_GQ (46, 79, [(0, .ref 14), (1, .int x1), (2, .int x2), (3, .int (s1 ||| s0)), (4, .int x4)], [], g, t) Q) :
    am_GQ (46, 45, [(0, .ref 14), (1, .int x1), (2, .int x2), (3, .int x3), (4, .int x4)], [.int s0, .int s1], g, t) Q := am_wp_ok [14, 79] 3 h
theorem B_Macros_findLeads_0 {g : am_G} {t : Nat} {Q : am_R → Prop}
    (h : am_GQ (47, 2, [(0, .ref 14), (1, .int (Int32.ofNat 0))], [], g, t) Q) :
    am_GQ (47, 0, [(0, .ref 14)], [], g, t) Q := am_wp_ok [2, 32, 40, 74] 2 h
theorem B_Macros_findLeads_2 {g : am_G} {t : Nat} {Q : am_R → Prop} {x1 : Int32}
    (h : ((Int32.ofNat 26) ≤ x1 → am_GQ (47, 32, [(0, .ref 14), (1, .int (Int32.ofNat 0))], [], g, t) Q) ∧ (x1 < (Int32.ofNat 26) → am_chk (am_in x1 26) (am_GQ (51, 0, [(0, .ref 14), (1, .int (g 15 (Int32.toNatClampNeg x1)))], [], g, t) (am_af 47 20 [(0, .ref 14), (1, .int x1)] [.int x1, .ref 16] Q)))) :
    am_GQ (47, 2, [(0, .ref 14), (1, .int x1)], [], g, t) Q := am_wp_ok [2, 32, 40, 74] 12 h
theorem B_Macros_findLeads_32 {g : am_G} {t : Nat} {Q : am_R → Prop} {x1 : Int32}
    (h : ((Int32.ofNat 26) ≤ x1 → Q (.inl none, g, t)) ∧ (x1 < (Int32.ofNat 26) → am_GQ (47, 40, [(0, .ref 14), (1, .int x1), (2, .int (Int32.ofNat 0))], [], g, t) Q)) :
    am_GQ (47, 32, [(0, .ref 14), (1, .int x1)], [], g, t) Q := am_wp_ok [2, 32, 40, 74] 5 h
theorem B_Macros_findLeads_23 {g : am_G} {t : Nat} {Q : am_R → Prop} {x1 : Int32} {s0 : Int32} {s1 : Int32}
    (h : am_chk (am_in s1 26) (am_GQ (47, 2, [(0, .ref 14), (1, .int (x1 + (Int32.ofNat 1)))], [], (am_w g 16 (Int32.toNatClampNeg s1) s0), t) Q)) :
    am_GQ (47, 23, [(0, .ref 14), (1, .int x1)], [.int s0, .int s1, .ref 16], g, t) Q := am_wp_ok [2, 32, 40, 74] 3 h
theorem B_Macros_findLeads_40 {g : am_G} {t : Nat} {Q : am_R → Prop} {x1 : Int32} {x2 : Int32}
    (h : ((Int32.ofNat 26) ≤ x2 → am_GQ (47, 32, [(0, .ref 14), (1, .int (x1 + (Int32.ofNat 1)))], [], g, t) Q) ∧ (x2 < (Int32.ofNat 26) → am_chk (am_in x2 26) (am_GQ (3, 0, [(0, .int (g 16 (Int32.toNatClampNeg x2))), (1, .int x1)], [], g, t) (am_af 47 53 [(0, .ref 14), (1, .int x1), (2, .int x2)] [] Q)))) :
    am_GQ (47, 40, [(0, .ref 14), (1, .int x1), (2, .int x2)], [], g, t) Q := am_wp_ok [2, 32, 40, 74] 9 h
theorem B_Macros_findLeads_56 {g : am_G} {t : Nat} {Q : am_R → Prop} {x1 : Int32} {x2 : Int32} {s0 : Int32}
    (h : (s0 = (Int32.ofNat 0) → am_GQ (47, 74, [(0, .ref 14), (1, .int x1), (2, .int x2)], [], g, t) Q) ∧ (¬ s0 = (Int32.ofNat 0) → am_chk (am_in x2 26) (am_chk (am_in x1 26) (am_chk (am_in x2 26) (am_GQ (47, 74, [(0, .ref 14), (1, .int x1), (2, .int x2)], [], (am_w g 16 (Int32.toNatClampNeg x2) ((g 16 (Int32.toNatClampNeg x2)) ||| (g 16 (Int32.toNatClampNeg x1)))), t) Q))))) :
    am_GQ (47, 56, [(0, .ref 14), (1, .int x1), (2, .int x2)], [.int s0], g, t) Q := am_wp_ok [2, 32, 40, 74] 12 h
theorem B_Macros_findLeads_74 {g : am_G} {t : Nat} {Q : am_R → Prop} {x1 : Int32} {x2 : Int32}
    (h : am_GQ (47, 40, [(0, .ref 14), (1, .int x1), (2, .int (x2 + (Int32.ofNat 1)))], [], g, t) Q) :
    am_GQ (47, 74, [(0, .ref 14), (1, .int x1), (2, .int x2)], [], g, t) Q := am_wp_ok [2, 32, 40, 74] 2 h
theorem B_Macros_findLooping_0 {g : am_G} {t : Nat} {Q : am_R → Prop}
    (h : am_GQ (48, 4, [(0, .ref 14), (1, .int (Int32.ofNat 0)), (2, .int (Int32.ofNat 0))], [], g, t) Q) :
    am_GQ (48, 0, [(0, .ref 14)], [], g, t) Q := am_wp_ok [4, 37, 67] 4 h
theorem B_Macros_findLooping_4 {g : am_G} {t : Nat} {Q : am_R → Prop} {x1 : Int32} {x2 : Int32}
    (h : ((Int32.ofNat 26) ≤ x2 → am_GQ (48, 37, [(0, .ref 14), (1, .int x1), (2, .int (Int32.ofNat 0))], [], (am_w g 14 5 (Int32.ofNat 0)), t) Q) ∧ (x2 < (Int32.ofNat 26) → am_chk (am_in x2 26) (am_GQ (16, 0, [(0, .int x2)], [], g, t) (am_af 48 18 [(0, .ref 14), (1, .int x1), (2, .int x2)] [.int (g 16 (Int32.toNatClampNeg x2)), .int x1] Q)))) :
    am_GQ (48, 4, [(0, .ref 14), (1, .int x1), (2, .int x2)], [], g, t) Q := am_wp_ok [4, 37, 67] 10 h
theorem B_Macros_findLooping_37 {g : am_G} {t : Nat} {Q : am_R → Prop} {x1 : Int32} {x2 : Int32}
    (h : ((Int32.ofNat 26) ≤ x2 → Q (.inl none, g, t)) ∧ (x2 < (Int32.ofNat 26) → am_chk (am_in x2 26) ((((g 16 (Int32.toNatClampNeg x2)) &&& x1) = (Int32.ofNat 0) → am_GQ (48, 67, [(0, .ref 14), (1, .int x1), (2, .int x2)], [], g, t) Q) ∧ (¬ ((g 16 (Int32.toNatClampNeg x2)) &&& x1) = (Int32.ofNat 0) → am_GQ (16, 0, [(0, .int x2)], [], g, t) (am_af 48 60 [(0, .ref 14), (1, .int x1), (2, .int x2)] [.int (g 14 5), .ref 14] Q))))) :
    am_GQ (48, 37, [(0, .ref 14), (1, .int x1), (2, .int x2)], [], g, t) Q := am_wp_ok [4, 37, 67] 15 h
theorem B_Macros_findLooping_21 {g : am_G} {t : Nat} {Q : am_R → Prop} {x1 : Int32} {x2 : Int32} {s0 : Int32} {s1 : Int32} {s2 : Int32}
    (h : am_GQ (48, 4, [(0, .ref 14), (1, .int (s2 ||| (s1 &&& s0))), (2, .int (x2 + (Int32.ofNat 1)))], [], g, t) Q) :
    am_GQ (48, 21, [(0, .ref 14), (1, .int x1), (2, .int x2)], [.int s0, .int s1, .int s2], g, t) Q := am_wp_ok [4, 37, 67] 5 h
theorem B_Macros_findLooping_67 {g : am_G} {t : Nat} {Q : am_R → Prop} {x1 : Int32} {x2 : Int32}
    (h : am_GQ (48, 37, [(0, .ref 14), (1, .int x1), (2, .int (x2 + (Int32.ofNat 1)))], [], g, t) Q) :
    am_GQ (48, 67, [(0, .ref 14), (1, .int x1), (2, .int x2)], [], g, t) Q := am_wp_ok [4, 37, 67] 2 h
theorem B_Macros_findLooping_63 {g : am_G} {t : Nat} {Q : am_R → Prop} {x1 : Int32} {x2 : Int32} {s0 : Int32} {s1 : Int32}
    (h : am_GQ (48, 67, [(0, .ref 14), (1, .int x1), (2, .int x2)], [], (am_w g 14 5 (s1 ||| s0)), t) Q) :
    am_GQ (48, 63, [(0, .ref 14), (1, .int x1), (2, .int x2)], [.int s0, .int s1, .ref 14], g, t) Q := am_wp_ok [4, 37, 67] 2 h
theorem B_Macros_findValues_0 {g : am_G} {t : Nat} {Q : am_R → Prop}
    (h : am_GQ (49, 2, [(0, .ref 14), (1, .ref 11), (2, .int (Int32.ofNat 0))], [], g, t) Q) :
    am_GQ (49, 0, [(0, .ref 14), (1, .ref 11)], [], g, t) Q := am_wp_ok [2, 23, 67] 2 h
theorem B_Macros_findValues_2 {g : am_G} {t : Nat} {Q : am_R → Prop} {x2 : Int32}
    (h : ((Int32.ofNat 26) ≤ x2 → am_GQ (49, 23, [(0, .ref 14), (1, .ref 11), (2, .int (Int32.ofNat 0))], [], g, t) Q) ∧ (x2 < (Int32.ofNat 26) → am_chk (am_in x2 26) (am_GQ (49, 2, [(0, .ref 14), (1, .ref 11), (2, .int (x2 + (Int32.ofNat 1)))], [], (am_w g 15 (Int32.toNatClampNeg x2) (-1)), t) Q))) :
    am_GQ (49, 2, [(0, .ref 14), (1, .ref 11), (2, .int x2)], [], g, t) Q := am_wp_ok [2, 23, 67] 10 h
theorem B_Macros_findValues_23 {g : am_G} {t : Nat} {Q : am_R → Prop} {x2 : Int32}
    (h : am_GQ (34, 0, [(0, .ref 11)], [], g, t) (am_af 49 25 [(0, .ref 14), (1, .ref 11), (2, .int x2)] [.int x2] Q)) :
    am_GQ (49, 23, [(0, .ref 14), (1, .ref 11), (2, .int x2)], [], g, t) Q := am_wp_ok [2, 23, 67] 3 h
theorem B_Macros_findValues_28 {g : am_G} {t : Nat} {Q : am_R → Prop} {x2 : Int32} {s0 : Int32} {s1 : Int32}
    (h : (s0 ≤ s1 → Q (.inl none, g, t)) ∧ (s1 < s0 → am_GQ (37, 0, [(0, .ref 11), (1, .int x2), (2, .ref 2)], [], g, t) (am_af 49 36 [(0, .ref 14), (1, .ref 11), (2, .int x2)] [] Q))) :
    am_GQ (49, 28, [(0, .ref 14), (1, .ref 11), (2, .int x2)], [.int s0, .int s1], g, t) Q := am_wp_ok [2, 23, 67] 5 h
theorem B_Macros_findValues_39 {g : am_G} {t : Nat} {Q : am_R → Prop} {x2 : Int32} {s0 : Int32}
    (h : (s0 = (Int32.ofNat 0) → am_GQ (49, 67, [(0, .ref 14), (1, .ref 11), (2, .int x2)], [], g, t) Q) ∧ (¬ s0 = (Int32.ofNat 0) → am_GQ (44, 0, [(0, .ref 11), (1, .int x2)], [], g, t) (am_af 49 44 [(0, .ref 14), (1, .ref 11), (2, .int x2)] [] Q))) :
    am_GQ (49, 39, [(0, .ref 14), (1, .ref 11), (2, .int x2)], [.int s0], g, t) Q := am_wp_ok [2, 23, 67] 4 h
theorem B_Macros_findValues_67 {g : am_G} {t : Nat} {Q : am_R → Prop} {x2 : Int32}
    (h : am_GQ (49, 23, [(0, .ref 14), (1, .ref 11), (2, .int (x2 + (Int32.ofNat 1)))], [], g, t) Q) :
    am_GQ (49, 67, [(0, .ref 14), (1, .ref 11), (2, .int x2)], [], g, t) Q := am_wp_ok [2, 23, 67] 2 h
theorem B_Macros_findValues_47 {g : am_G} {t : Nat} {Q : am_R → Prop} {x2 : Int32} {s0 : Int32}
    (h : am_GQ (78, 0, [(0, .ref 9), (1, .int s0)], [], g, t) (am_af 49 57 [(0, .ref 14), (1, .ref 11), (2, .int x2), (3, .int s0)] [.ref 15] Q)) :
    am_GQ (49, 47, [(0, .ref 14), (1, .ref 11), (2, .int x2)], [.int s0], g, t) Q := am_wp_ok [2, 23, 67] 7 h
theorem B_Macros_findValues_60 {g : am_G} {t : Nat} {Q : am_R → Prop} {x2 : Int32} {x3 : Int32} {s0 : Int32}
    (h : am_chk (am_in (s0 - (Int32.ofNat 65)) 26) (am_GQ (49, 67, [(0, .ref 14), (1, .ref 11), (2, .int x2)], [], (am_w g 15 (Int32.toNatClampNeg (s0 - (Int32.ofNat 65))) (x3 + (Int32.ofNat 2))), t) Q)) :
    am_GQ (49, 60, [(0, .ref 14), (1, .ref 11), (2, .int x2), (3, .int x3)], [.int s0, .ref 15], g, t) Q := am_wp_ok [2, 23, 67] 6 h
theorem B_Macros_learn_0 {g : am_G} {t : Nat} {Q : am_R → Prop}
    (h : am_GQ (49, 0, [(0, .ref 14), (1, .ref 11)], [], g, t) (am_af 50 2 [(0, .ref 14), (1, .ref 11)] [] Q)) :
    am_GQ (50, 0, [(0, .ref 14), (1, .ref 11)], [], g, t) Q := am_wp_ok [] 3 h
theorem B_Macros_learn_5 {g : am_G} {t : Nat} {Q : am_R → Prop}
    (h : am_GQ (47, 0, [(0, .ref 14)], [], g, t) (am_af 50 6 [(0, .ref 14), (1, .ref 11)] [] Q)) :
    am_GQ (50, 5, [(0, .ref 14), (1, .ref 11)], [], g, t) Q := am_wp_ok [] 2 h
theorem B_Macros_learn_9 {g : am_G} {t : Nat} {Q : am_R → Prop}
    (h : am_GQ (48, 0, [(0, .ref 14)], [], g, t) (am_af 50 10 [(0, .ref 14), (1, .ref 11)] [] Q)) :
    am_GQ (50, 9, [(0, .ref 14), (1, .ref 11)], [], g, t) Q := am_wp_ok [] 2 h
theorem B_Macros_learn_13 {g : am_G} {t : Nat} {Q : am_R → Prop}
    (h : am_GQ (45, 0, [(0, .ref 14)], [], g, t) (am_af 50 14 [(0, .ref 14), (1, .ref 11)] [] Q)) :
    am_GQ (50, 13, [(0, .ref 14), (1, .ref 11)], [], g, t) Q := am_wp_ok [] 2 h
theorem B_Macros_learn_17 {g : am_G} {t : Nat} {Q : am_R → Prop}
    (h : Q (.inl none, g, t)) :
    am_GQ (50, 17, [(0, .ref 14), (1, .ref 11)], [], g, t) Q := am_wp_ok [] 1 h
theorem B_Macros_macrosIn_0 {g : am_G} {t : Nat} {Q : am_R → Prop} {x1 : Int32}
    (h : am_GQ (88, 0, [(0, .ref 9), (1, .int x1)], [], g, t) (am_af 51 5 [(0, .ref 14), (1, .int x1)] [] Q)) :
    am_GQ (51, 0, [(0, .ref 14), (1, .int x1)], [], g, t) Q := am_wp_ok [14, 47] 4 h
theorem B_Macros_macrosIn_8 {g : am_G} {t : Nat} {Q : am_R → Prop} {x1 : Int32} {s0 : Int32}
    (h : am_GQ (51, 14, [(0, .ref 14), (1, .int x1), (2, .int s0), (3, .int (Int32.ofNat 0)), (4, .int x1)], [], g, t) Q) :
    am_GQ (51, 8, [(0, .ref 14), (1, .int x1)], [.int s0], g, t) Q := am_wp_ok [14, 47] 5 h
theorem B_Macros_macrosIn_14 {g : am_G} {t : Nat} {Q : am_R → Prop} {x1 : Int32} {x2 : Int32} {x3 : Int32} {x4 : Int32}
    (h : (x2 ≤ x4 → Q (.inl (some (.int x3)), g, t)) ∧ (x4 < x2 → am_GQ (81, 0, [(0, .ref 9), (1, .int x4)], [], g, t) (am_af 51 26 [(0, .ref 14), (1, .int x1), (2, .int x2), (3, .int x3), (4, .int x4)] [] Q))) :
    am_GQ (51, 14, [(0, .ref 14), (1, .int x1), (2, .int x2), (3, .int x3), (4, .int x4)], [], g, t) Q := am_wp_ok [14, 47] 7 h
theorem B_Macros_macrosIn_29 {g : am_G} {t : Nat} {Q : am_R → Prop} {x1 : Int32} {x2 : Int32} {x3 : Int32} {x4 : Int32} {s0 : Int32}
    (h : (s0 = (Int32.ofNat 0) → am_GQ (51, 47, [(0, .ref 14), (1, .int x1), (2, .int x2), (3, .int x3), (4, .int x4)], [], g, t) Q) ∧ (¬ s0 = (Int32.ofNat 0) → am_GQ (85, 0, [(0, .ref 9), (1, .int x4)], [], g, t) (am_af 51 39 [(0, .ref 14), (1, .int x1), (2, .int x2), (3, .int x3), (4, .int x4)] [.int x3] Q))) :
    am_GQ (51, 29, [(0, .ref 14), (1, .int x1), (2, .int x2), (3, .int x3), (4, .int x4)], [.int s0], g, t) Q := am_wp_ok [14, 47] 6 h
theorem B_Macros_macrosIn_47 {g : am_G} {t : Nat} {Q : am_R → Prop} {x1 : Int32} {x2 : Int32} {x3 : Int32} {x4 : Int32}
    (h : am_GQ (51, 14, [(0, .ref 14), (1, .int x1), (2, .int x2), (3, .int x3), (4, .int (x4 + (Int32.ofNat 1)))], [], g, t) Q) :
    am_GQ (51, 47, [(0, .ref 14), (1, .int x1), (2, .int x2), (3, .int x3), (4, .int x4)], [], g, t) Q := am_wp_ok [14, 47] 2 h
theorem B_Macros_macrosIn_42 {g : am_G} {t : Nat} {Q : am_R → Prop} {x1 : Int32} {x2 : Int32} {x3 : Int32} {x4 : Int32} {s0 : Int32} {s1 : Int32}
    (h : am_GQ (16, 0, [(0, .int s0)], [], g, t) (am_af 51 42 [(0, .ref 14), (1, .int x1), (2, .int x2), (3, .int x3), (4, .int x4)] [.int s1] Q)) :
    am_GQ (51, 42, [(0, .ref 14), (1, .int x1), (2, .int x2), (3, .int x3), (4, .int x4)], [.int s0, .int s1], g, t) Q := am_wp_ok [14, 47] 1 h
theorem B_Macros_macrosIn_45 {g : am_G} {t : Nat} {Q : am_R → Prop} {x1 : Int32} {x2 : Int32} {x3 : Int32} {x4 : Int32} {s0 : Int32} {s1 : Int32}
    (h : am_GQ (51, 47, [(0, .ref 14), (1, .int x1), (2, .int x2), (3, .int (s1 ||| s0)), (4, .int x4)], [], g, t) Q) :
    am_GQ (51, 45, [(0, .ref 14), (1, .int x1), (2, .int x2), (3, .int x3), (4, .int x4)], [.int s0, .int s1], g, t) Q := am_wp_ok [14, 47] 2 h
theorem B_Macros_namesIn_0 {g : am_G} {t : Nat} {Q : am_R → Prop} {x1 : Int32}
    (h : am_GQ (88, 0, [(0, .ref 9), (1, .int x1)], [], g, t) (am_af 52 5 [(0, .ref 14), (1, .int x1)] [] Q)) :
    am_GQ (52, 0, [(0, .ref 14), (1, .int x1)], [], g, t) Q := am_wp_ok [14, 67] 4 h
theorem B_Macros_namesIn_8 {g : am_G} {t : Nat} {Q : am_R → Prop} {x1 : Int32} {s0 : Int32}
    (h : am_GQ (52, 14, [(0, .ref 14), (1, .int x1), (2, .int s0), (3, .int (Int32.ofNat 0)), (4, .int x1)], [], g, t) Q) :
    am_GQ (52, 8, [(0, .ref 14), (1, .int x1)], [.int s0], g, t) Q := am_wp_ok [14, 67] 5 h
theorem B_Macros_namesIn_14 {g : am_G} {t : Nat} {Q : am_R → Prop} {x1 : Int32} {x2 : Int32} {x3 : Int32} {x4 : Int32}
    (h : (x2 ≤ x4 → Q (.inl (some (.int (if (Int32.ofNat 65) < x3 then (Int32.ofNat 65) else x3))), g, t)) ∧ (x4 < x2 → am_GQ (82, 0, [(0, .ref 9), (1, .int x4)], [], g, t) (am_af 52 26 [(0, .ref 14), (1, .int x1), (2, .int x2), (3, .int x3), (4, .int x4)] [] Q))) :
    am_GQ (52, 14, [(0, .ref 14), (1, .int x1), (2, .int x2), (3, .int x3), (4, .int x4)], [], g, t) Q := am_wp_ok [14, 67] 7 h
theorem B_Macros_namesIn_29 {g : am_G} {t : Nat} {Q : am_R → Prop} {x1 : Int32} {x2 : Int32} {x3 : Int32} {x4 : Int32} {s0 : Int32}
    (h : (s0 = (Int32.ofNat 0) → am_GQ (81, 0, [(0, .ref 9), (1, .int x4)], [], g, t) (am_af 52 44 [(0, .ref 14), (1, .int x1), (2, .int x2), (3, .int x3), (4, .int x4)] [] Q)) ∧ (¬ s0 = (Int32.ofNat 0) → am_GQ (52, 67, [(0, .ref 14), (1, .int x1), (2, .int x2), (3, .int (x3 + (Int32.ofNat 1))), (4, .int x4)], [], g, t) Q)) :
    am_GQ (52, 29, [(0, .ref 14), (1, .int x1), (2, .int x2), (3, .int x3), (4, .int x4)], [.int s0], g, t) Q := am_wp_ok [14, 67] 5 h
theorem B_Macros_namesIn_47 {g : am_G} {t : Nat} {Q : am_R → Prop} {x1 : Int32} {x2 : Int32} {x3 : Int32} {x4 : Int32} {s0 : Int32}
    (h : (s0 = (Int32.ofNat 0) → am_GQ (52, 67, [(0, .ref 14), (1, .int x1), (2, .int x2), (3, .int x3), (4, .int x4)], [], g, t) Q) ∧ (¬ s0 = (Int32.ofNat 0) → am_GQ (85, 0, [(0, .ref 9), (1, .int x4)], [], g, t) (am_af 52 61 [(0, .ref 14), (1, .int x1), (2, .int x2), (3, .int x3), (4, .int x4)] [.ref 18, .int x3] Q))) :
    am_GQ (52, 47, [(0, .ref 14), (1, .int x1), (2, .int x2), (3, .int x3), (4, .int x4)], [.int s0], g, t) Q := am_wp_ok [14, 67] 8 h
theorem B_Macros_namesIn_67 {g : am_G} {t : Nat} {Q : am_R → Prop} {x1 : Int32} {x2 : Int32} {x3 : Int32} {x4 : Int32}
    (h : am_GQ (52, 14, [(0, .ref 14), (1, .int x1), (2, .int x2), (3, .int x3), (4, .int (x4 + (Int32.ofNat 1)))], [], g, t) Q) :
    am_GQ (52, 67, [(0, .ref 14), (1, .int x1), (2, .int x2), (3, .int x3), (4, .int x4)], [], g, t) Q := am_wp_ok [14, 67] 2 h
theorem B_Macros_namesIn_64 {g : am_G} {t : Nat} {Q : am_R → Prop} {x1 : Int32} {x2 : Int32} {x3 : Int32} {x4 : Int32} {s0 : Int32} {s2 : Int32}
    (h : am_chk (am_in s0 26) (am_GQ (52, 67, [(0, .ref 14), (1, .int x1), (2, .int x2), (3, .int (s2 + (g 18 (Int32.toNatClampNeg s0)))), (4, .int x4)], [], g, t) Q)) :
    am_GQ (52, 64, [(0, .ref 14), (1, .int x1), (2, .int x2), (3, .int x3), (4, .int x4)], [.int s0, .ref 18, .int s2], g, t) Q := am_wp_ok [14, 67] 3 h
theorem B_Macros_usesLooping_0 {g : am_G} {t : Nat} {Q : am_R → Prop} {x1 : Int32}
    (h : am_GQ (51, 0, [(0, .ref 14), (1, .int x1)], [], g, t) (am_af 53 2 [(0, .ref 14), (1, .int x1)] [] Q)) :
    am_GQ (53, 0, [(0, .ref 14), (1, .int x1)], [], g, t) Q := am_wp_ok [] 3 h
theorem B_Macros_usesLooping_5 {g : am_G} {t : Nat} {Q : am_R → Prop} {x1 : Int32} {s0 : Int32}
    (h : ((s0 &&& (g 14 5)) = (Int32.ofNat 0) → am_chk (am_isb (Int32.ofNat 0)) (Q (.inl (some (.int (Int32.ofNat 0))), g, t))) ∧ (¬ (s0 &&& (g 14 5)) = (Int32.ofNat 0) → am_chk (am_isb (Int32.ofNat 1)) (Q (.inl (some (.int (Int32.ofNat 1))), g, t)))) :
    am_GQ (53, 5, [(0, .ref 14), (1, .int x1)], [.int s0], g, t) Q := am_wp_ok [] 7 h
theorem B_Report_addRun_0 {g : am_G} {t : Nat} {Q : am_R → Prop} {x1 : Int32}
    (h : ((Int32.ofNat 32) ≤ (g 29 2) → Q (.inl none, g, t)) ∧ ((g 29 2) < (Int32.ofNat 32) → am_chk (am_in (g 29 2) 32) (Q (.inl none, (am_w (am_w g 30 (Int32.toNatClampNeg (g 29 2)) x1) 29 2 (((am_w g 30 (Int32.toNatClampNeg (g 29 2)) x1) 29 2) + (Int32.ofNat 1))), t)))) :
    am_GQ (54, 0, [(0, .ref 29), (1, .int x1)], [], g, t) Q := am_wp_ok [] 17 h
theorem B_Report_clear_0 {g : am_G} {t : Nat} {Q : am_R → Prop}
    (h : am_GQ (55, 7, [(0, .ref 29), (1, .int (Int32.ofNat 0))], [], (am_w g 29 2 (Int32.ofNat 0)), t) Q) :
    am_GQ (55, 0, [(0, .ref 29)], [], g, t) Q := am_wp_ok [7] 5 h
theorem B_Report_clear_7 {g : am_G} {t : Nat} {Q : am_R → Prop} {x1 : Int32}
    (h : ((Int32.ofNat 32) ≤ x1 → Q (.inl none, g, t)) ∧ (x1 < (Int32.ofNat 32) → am_chk (am_in x1 32) (am_GQ (55, 7, [(0, .ref 29), (1, .int (x1 + (Int32.ofNat 1)))], [], (am_w g 31 (Int32.toNatClampNeg x1) (Int32.ofNat 0)), t) Q))) :
    am_GQ (55, 7, [(0, .ref 29), (1, .int x1)], [], g, t) Q := am_wp_ok [7] 10 h
theorem B_Report_fileAt_0 {g : am_G} {t : Nat} {Q : am_R → Prop} {x1 : Int32}
    (h : (x1 < (Int32.ofNat 0) → Q (.inl (some (.int (-1))), g, t)) ∧ ((Int32.ofNat 0) ≤ x1 → ((g 29 2) ≤ x1 → Q (.inl (some (.int (-1))), g, t)) ∧ (x1 < (g 29 2) → am_chk (am_in x1 32) (Q (.inl (some (.int (g 30 (Int32.toNatClampNeg x1)))), g, t))))) :
    am_GQ (56, 0, [(0, .ref 29), (1, .int x1)], [], g, t) Q := am_wp_ok [] 12 h
theorem B_Report_putReason_0 {g : am_G} {t : Nat} {Q : am_R → Prop} {x1 : Int32} {x2 : Int32}
    (h : am_chk (am_in x1 32) (Q (.inl none, (am_w g 31 (Int32.toNatClampNeg x1) x2), t))) :
    am_GQ (57, 0, [(0, .ref 29), (1, .int x1), (2, .int x2)], [], g, t) Q := am_wp_ok [] 6 h
theorem B_Report_reasonOf_0 {g : am_G} {t : Nat} {Q : am_R → Prop} {x1 : Int32}
    (h : am_chk (am_in x1 32) (Q (.inl (some (.int (g 31 (Int32.toNatClampNeg x1)))), g, t))) :
    am_GQ (58, 0, [(0, .ref 29), (1, .int x1)], [], g, t) Q := am_wp_ok [] 5 h
theorem B_RuleLines_fill_0 {g : am_G} {t : Nat} {Q : am_R → Prop}
    (h : am_GQ (69, 0, [(0, .ref 20)], [], g, t) (am_af 59 3 [(0, .ref 19), (1, .ref 20), (2, .int (Int32.ofNat 0))] [] Q)) :
    am_GQ (59, 0, [(0, .ref 19), (1, .ref 20)], [], g, t) Q := am_wp_ok [8, 112] 4 h
theorem B_RuleLines_fill_6 {g : am_G} {t : Nat} {Q : am_R → Prop} {x2 : Int32}
    (h : am_GQ (59, 8, [(0, .ref 19), (1, .ref 20), (2, .int x2), (3, .int (Int32.ofNat 0))], [], g, t) Q) :
    am_GQ (59, 6, [(0, .ref 19), (1, .ref 20), (2, .int x2)], [], g, t) Q := am_wp_ok [8, 112] 2 h
theorem B_RuleLines_fill_8 {g : am_G} {t : Nat} {Q : am_R → Prop} {x2 : Int32} {x3 : Int32}
    (h : am_GQ (34, 0, [(0, .ref 11)], [], g, t) (am_af 59 13 [(0, .ref 19), (1, .ref 20), (2, .int x2), (3, .int x3)] [.int x3] Q)) :
    am_GQ (59, 8, [(0, .ref 19), (1, .ref 20), (2, .int x2), (3, .int x3)], [], g, t) Q := am_wp_ok [8, 112] 4 h
theorem B_RuleLines_fill_16 {g : am_G} {t : Nat} {Q : am_R → Prop} {x2 : Int32} {x3 : Int32} {s0 : Int32} {s1 : Int32}
    (h : (s0 ≤ s1 → Q (.inl (some (.int x2)), g, t)) ∧ (s1 < s0 → am_GQ (63, 0, [(0, .ref 19), (1, .int x3)], [], g, t) (am_af 59 21 [(0, .ref 19), (1, .ref 20), (2, .int x2), (3, .int x3)] [] Q))) :
    am_GQ (59, 16, [(0, .ref 19), (1, .ref 20), (2, .int x2), (3, .int x3)], [.int s0, .int s1], g, t) Q := am_wp_ok [8, 112] 4 h
theorem B_RuleLines_fill_24 {g : am_G} {t : Nat} {Q : am_R → Prop} {x2 : Int32} {x3 : Int32} {s0 : Int32}
    (h : (s0 = (Int32.ofNat 0) → am_GQ (37, 0, [(0, .ref 11), (1, .int x3), (2, .ref 4)], [], g, t) (am_af 59 70 [(0, .ref 19), (1, .ref 20), (2, .int x2), (3, .int x3)] [] Q)) ∧ (¬ s0 = (Int32.ofNat 0) → am_GQ (66, 0, [(0, .ref 19), (1, .int x3)], [], g, t) (am_af 59 30 [(0, .ref 19), (1, .ref 20), (2, .int x2), (3, .int x3)] [.ref 20] Q))) :
    am_GQ (59, 24, [(0, .ref 19), (1, .ref 20), (2, .int x2), (3, .int x3)], [.int s0], g, t) Q := am_wp_ok [8, 112] 6 h
theorem B_RuleLines_fill_73 {g : am_G} {t : Nat} {Q : am_R → Prop} {x2 : Int32} {x3 : Int32} {s0 : Int32}
    (h : (s0 = (Int32.ofNat 0) → am_GQ (59, 112, [(0, .ref 19), (1, .ref 20), (2, .int x2), (3, .int x3)], [], g, t) Q) ∧ (¬ s0 = (Int32.ofNat 0) → am_GQ (44, 0, [(0, .ref 11), (1, .int x3)], [], g, t) (am_af 59 81 [(0, .ref 19), (1, .ref 20), (2, .int x2), (3, .int x3)] [] Q))) :
    am_GQ (59, 73, [(0, .ref 19), (1, .ref 20), (2, .int x2), (3, .int x3)], [.int s0], g, t) Q := am_wp_ok [8, 112] 5 h
theorem B_RuleLines_fill_33 {g : am_G} {t : Nat} {Q : am_R → Prop} {x2 : Int32} {x3 : Int32} {s0 : Int32}
    (h : am_GQ (64, 0, [(0, .ref 19), (1, .int x3)], [], g, t) (am_af 59 39 [(0, .ref 19), (1, .ref 20), (2, .int x2), (3, .int x3)] [.ref 14, .int s0, .ref 20] Q)) :
    am_GQ (59, 33, [(0, .ref 19), (1, .ref 20), (2, .int x2), (3, .int x3)], [.int s0, .ref 20], g, t) Q := am_wp_ok [8, 112] 5 h
theorem B_RuleLines_fill_112 {g : am_G} {t : Nat} {Q : am_R → Prop} {x2 : Int32} {x3 : Int32}
    (h : am_GQ (59, 8, [(0, .ref 19), (1, .ref 20), (2, .int x2), (3, .int (x3 + (Int32.ofNat 1)))], [], g, t) Q) :
    am_GQ (59, 112, [(0, .ref 19), (1, .ref 20), (2, .int x2), (3, .int x3)], [], g, t) Q := am_wp_ok [8, 112] 2 h
theorem B_RuleLines_fill_84 {g : am_G} {t : Nat} {Q : am_R → Prop} {x2 : Int32} {x3 : Int32} {s0 : Int32}
    (h : am_GQ (84, 0, [(0, .ref 9), (1, .int (s0 + (Int32.ofNat 1)))], [], g, t) (am_af 59 95 [(0, .ref 19), (1, .ref 20), (2, .int x2), (3, .int x3), (4, .int s0)] [.ref 20] Q)) :
    am_GQ (59, 84, [(0, .ref 19), (1, .ref 20), (2, .int x2), (3, .int x3)], [.int s0], g, t) Q := am_wp_ok [8, 112] 8 h
theorem B_RuleLines_fill_42 {g : am_G} {t : Nat} {Q : am_R → Prop} {x2 : Int32} {x3 : Int32} {s0 : Int32} {s2 : Int32}
    (h : am_GQ (46, 0, [(0, .ref 14), (1, .int s0)], [], g, t) (am_af 59 42 [(0, .ref 19), (1, .ref 20), (2, .int x2), (3, .int x3)] [.int s2, .ref 20] Q)) :
    am_GQ (59, 42, [(0, .ref 19), (1, .ref 20), (2, .int x2), (3, .int x3)], [.int s0, .ref 14, .int s2, .ref 20], g, t) Q := am_wp_ok [8, 112] 1 h
theorem B_RuleLines_fill_98 {g : am_G} {t : Nat} {Q : am_R → Prop} {x2 : Int32} {x3 : Int32} {x4 : Int32} {s0 : Int32}
    (h : am_GQ (84, 0, [(0, .ref 9), (1, .int (x4 + (Int32.ofNat 4)))], [], g, t) (am_af 59 106 [(0, .ref 19), (1, .ref 20), (2, .int x2), (3, .int x3), (4, .int x4)] [.int s0, .ref 20] Q)) :
    am_GQ (59, 98, [(0, .ref 19), (1, .ref 20), (2, .int x2), (3, .int x3), (4, .int x4)], [.int s0, .ref 20], g, t) Q := am_wp_ok [8, 112] 6 h
theorem B_RuleLines_fill_45 {g : am_G} {t : Nat} {Q : am_R → Prop} {x2 : Int32} {x3 : Int32} {s0 : Int32} {s1 : Int32}
    (h : am_GQ (36, 0, [(0, .ref 11), (1, .int x3)], [], g, t) (am_af 59 50 [(0, .ref 19), (1, .ref 20), (2, .int x2), (3, .int x3)] [.int s0, .int s1, .ref 20] Q)) :
    am_GQ (59, 45, [(0, .ref 19), (1, .ref 20), (2, .int x2), (3, .int x3)], [.int s0, .int s1, .ref 20], g, t) Q := am_wp_ok [8, 112] 4 h
theorem B_RuleLines_fill_109 {g : am_G} {t : Nat} {Q : am_R → Prop} {x2 : Int32} {x3 : Int32} {x4 : Int32} {s0 : Int32} {s1 : Int32}
    (h : am_GQ (67, 0, [(0, .ref 20), (1, .int s1), (2, .int s0)], [], g, t) (am_af 59 109 [(0, .ref 19), (1, .ref 20), (2, .int x2), (3, .int x3), (4, .int x4)] [] Q)) :
    am_GQ (59, 109, [(0, .ref 19), (1, .ref 20), (2, .int x2), (3, .int x3), (4, .int x4)], [.int s0, .int s1, .ref 20], g, t) Q := am_wp_ok [8, 112] 1 h
theorem B_RuleLines_fill_53 {g : am_G} {t : Nat} {Q : am_R → Prop} {x2 : Int32} {x3 : Int32} {s0 : Int32} {s1 : Int32} {s2 : Int32}
    (h : am_GQ (68, 0, [(0, .ref 20), (1, .int s2), (2, .int s1), (3, .int s0)], [], g, t) (am_af 59 53 [(0, .ref 19), (1, .ref 20), (2, .int x2), (3, .int x3)] [] Q)) :
    am_GQ (59, 53, [(0, .ref 19), (1, .ref 20), (2, .int x2), (3, .int x3)], [.int s0, .int s1, .int s2, .ref 20], g, t) Q := am_wp_ok [8, 112] 1 h
theorem B_RuleLines_fill_112_b {g : am_G} {t : Nat} {Q : am_R → Prop} {x2 : Int32} {x3 : Int32} {x4 : Int32}
    (h : am_GQ (59, 8, [(0, .ref 19), (1, .ref 20), (2, .int x2), (3, .int (x3 + (Int32.ofNat 1)))], [], g, t) Q) :
    am_GQ (59, 112, [(0, .ref 19), (1, .ref 20), (2, .int x2), (3, .int x3), (4, .int x4)], [], g, t) Q := am_wp_ok [8, 112] 2 h
theorem B_RuleLines_fill_56 {g : am_G} {t : Nat} {Q : am_R → Prop} {x2 : Int32} {x3 : Int32}
    (h : am_GQ (59, 112, [(0, .ref 19), (1, .ref 20), (2, .int (x2 + (Int32.ofNat 1))), (3, .int x3)], [], g, t) Q) :
    am_GQ (59, 56, [(0, .ref 19), (1, .ref 20), (2, .int x2), (3, .int x3)], [], g, t) Q := am_wp_ok [8, 112] 2 h
theorem B_RuleLines_firstDoubled_0 {g : am_G} {t : Nat} {Q : am_R → Prop}
    (h : am_GQ (60, 4, [(0, .ref 19), (1, .int (Int32.ofNat 0)), (2, .int (Int32.ofNat 0))], [], g, t) Q) :
    am_GQ (60, 0, [(0, .ref 19)], [], g, t) Q := am_wp_ok [4, 56] 4 h
theorem B_RuleLines_firstDoubled_4 {g : am_G} {t : Nat} {Q : am_R → Prop} {x1 : Int32} {x2 : Int32}
    (h : am_GQ (34, 0, [(0, .ref 11)], [], g, t) (am_af 60 9 [(0, .ref 19), (1, .int x1), (2, .int x2)] [.int x2] Q)) :
    am_GQ (60, 4, [(0, .ref 19), (1, .int x1), (2, .int x2)], [], g, t) Q := am_wp_ok [4, 56] 4 h
theorem B_RuleLines_firstDoubled_12 {g : am_G} {t : Nat} {Q : am_R → Prop} {x1 : Int32} {x2 : Int32} {s0 : Int32} {s1 : Int32}
    (h : (s0 ≤ s1 → Q (.inl (some (.int (Int32.ofNat 0))), g, t)) ∧ (s1 < s0 → am_GQ (63, 0, [(0, .ref 19), (1, .int x2)], [], g, t) (am_af 60 17 [(0, .ref 19), (1, .int x1), (2, .int x2)] [] Q))) :
    am_GQ (60, 12, [(0, .ref 19), (1, .int x1), (2, .int x2)], [.int s0, .int s1], g, t) Q := am_wp_ok [4, 56] 4 h
theorem B_RuleLines_firstDoubled_20 {g : am_G} {t : Nat} {Q : am_R → Prop} {x1 : Int32} {x2 : Int32} {s0 : Int32}
    (h : (s0 = (Int32.ofNat 0) → am_GQ (60, 56, [(0, .ref 19), (1, .int x1), (2, .int x2)], [], g, t) Q) ∧ (¬ s0 = (Int32.ofNat 0) → am_GQ (36, 0, [(0, .ref 11), (1, .int x2)], [], g, t) (am_af 60 28 [(0, .ref 19), (1, .int x1), (2, .int x2)] [] Q))) :
    am_GQ (60, 20, [(0, .ref 19), (1, .int x1), (2, .int x2)], [.int s0], g, t) Q := am_wp_ok [4, 56] 5 h
theorem B_RuleLines_firstDoubled_56 {g : am_G} {t : Nat} {Q : am_R → Prop} {x1 : Int32} {x2 : Int32}
    (h : am_GQ (60, 4, [(0, .ref 19), (1, .int x1), (2, .int (x2 + (Int32.ofNat 1)))], [], g, t) Q) :
    am_GQ (60, 56, [(0, .ref 19), (1, .int x1), (2, .int x2)], [], g, t) Q := am_wp_ok [4, 56] 2 h
theorem B_RuleLines_firstDoubled_31 {g : am_G} {t : Nat} {Q : am_R → Prop} {x1 : Int32} {x2 : Int32} {s0 : Int32}
    (h : (s0 = (Int32.ofNat 0) → am_GQ (60, 56, [(0, .ref 19), (1, .int x1), (2, .int x2)], [], g, t) Q) ∧ (¬ s0 = (Int32.ofNat 0) → am_GQ (66, 0, [(0, .ref 19), (1, .int x2)], [], g, t) (am_af 60 37 [(0, .ref 19), (1, .int x1), (2, .int x2)] [.int x1] Q))) :
    am_GQ (60, 31, [(0, .ref 19), (1, .int x1), (2, .int x2)], [.int s0], g, t) Q := am_wp_ok [4, 56] 5 h
theorem B_RuleLines_firstDoubled_40 {g : am_G} {t : Nat} {Q : am_R → Prop} {x1 : Int32} {x2 : Int32} {s0 : Int32} {s1 : Int32}
    (h : ((s1 &&& s0) = (Int32.ofNat 0) → am_GQ (66, 0, [(0, .ref 19), (1, .int x2)], [], g, t) (am_af 60 51 [(0, .ref 19), (1, .int x1), (2, .int x2)] [.int x1] Q)) ∧ (¬ (s1 &&& s0) = (Int32.ofNat 0) → Q (.inl (some (.int (x2 + (Int32.ofNat 1)))), g, t))) :
    am_GQ (60, 40, [(0, .ref 19), (1, .int x1), (2, .int x2)], [.int s0, .int s1], g, t) Q := am_wp_ok [4, 56] 6 h
theorem B_RuleLines_firstDoubled_54 {g : am_G} {t : Nat} {Q : am_R → Prop} {x1 : Int32} {x2 : Int32} {s0 : Int32} {s1 : Int32}
    (h : am_GQ (60, 56, [(0, .ref 19), (1, .int (s1 ||| s0)), (2, .int x2)], [], g, t) Q) :
    am_GQ (60, 54, [(0, .ref 19), (1, .int x1), (2, .int x2)], [.int s0, .int s1], g, t) Q := am_wp_ok [4, 56] 2 h
theorem B_RuleLines_firstLooping_0 {g : am_G} {t : Nat} {Q : am_R → Prop}
    (h : am_GQ (61, 2, [(0, .ref 19), (1, .int (Int32.ofNat 0))], [], g, t) Q) :
    am_GQ (61, 0, [(0, .ref 19)], [], g, t) Q := am_wp_ok [2, 55] 2 h
theorem B_RuleLines_firstLooping_2 {g : am_G} {t : Nat} {Q : am_R → Prop} {x1 : Int32}
    (h : am_GQ (34, 0, [(0, .ref 11)], [], g, t) (am_af 61 7 [(0, .ref 19), (1, .int x1)] [.int x1] Q)) :
    am_GQ (61, 2, [(0, .ref 19), (1, .int x1)], [], g, t) Q := am_wp_ok [2, 55] 4 h
theorem B_RuleLines_firstLooping_10 {g : am_G} {t : Nat} {Q : am_R → Prop} {x1 : Int32} {s0 : Int32} {s1 : Int32}
    (h : (s0 ≤ s1 → Q (.inl (some (.int (Int32.ofNat 0))), g, t)) ∧ (s1 < s0 → am_GQ (63, 0, [(0, .ref 19), (1, .int x1)], [], g, t) (am_af 61 15 [(0, .ref 19), (1, .int x1)] [] Q))) :
    am_GQ (61, 10, [(0, .ref 19), (1, .int x1)], [.int s0, .int s1], g, t) Q := am_wp_ok [2, 55] 4 h
theorem B_RuleLines_firstLooping_18 {g : am_G} {t : Nat} {Q : am_R → Prop} {x1 : Int32} {s0 : Int32}
    (h : (s0 = (Int32.ofNat 0) → am_GQ (61, 55, [(0, .ref 19), (1, .int x1)], [], g, t) Q) ∧ (¬ s0 = (Int32.ofNat 0) → am_GQ (65, 0, [(0, .ref 19), (1, .int x1)], [], g, t) (am_af 61 27 [(0, .ref 19), (1, .int x1)] [.ref 14] Q))) :
    am_GQ (61, 18, [(0, .ref 19), (1, .int x1)], [.int s0], g, t) Q := am_wp_ok [2, 55] 6 h
theorem B_RuleLines_firstLooping_55 {g : am_G} {t : Nat} {Q : am_R → Prop} {x1 : Int32}
    (h : am_GQ (61, 2, [(0, .ref 19), (1, .int (x1 + (Int32.ofNat 1)))], [], g, t) Q) :
    am_GQ (61, 55, [(0, .ref 19), (1, .int x1)], [], g, t) Q := am_wp_ok [2, 55] 2 h
theorem B_RuleLines_firstLooping_30 {g : am_G} {t : Nat} {Q : am_R → Prop} {x1 : Int32} {s0 : Int32}
    (h : am_GQ (53, 0, [(0, .ref 14), (1, .int s0)], [], g, t) (am_af 61 30 [(0, .ref 19), (1, .int x1)] [] Q)) :
    am_GQ (61, 30, [(0, .ref 19), (1, .int x1)], [.int s0, .ref 14], g, t) Q := am_wp_ok [2, 55] 1 h
theorem B_RuleLines_firstLooping_33 {g : am_G} {t : Nat} {Q : am_R → Prop} {x1 : Int32} {s0 : Int32}
    (h : (¬ s0 = (Int32.ofNat 0) → Q (.inl (some (.int (x1 + (Int32.ofNat 1)))), g, t)) ∧ (s0 = (Int32.ofNat 0) → am_GQ (64, 0, [(0, .ref 19), (1, .int x1)], [], g, t) (am_af 61 42 [(0, .ref 19), (1, .int x1)] [.ref 14] Q))) :
    am_GQ (61, 33, [(0, .ref 19), (1, .int x1)], [.int s0], g, t) Q := am_wp_ok [2, 55] 6 h
theorem B_RuleLines_firstLooping_45 {g : am_G} {t : Nat} {Q : am_R → Prop} {x1 : Int32} {s0 : Int32}
    (h : am_GQ (53, 0, [(0, .ref 14), (1, .int s0)], [], g, t) (am_af 61 45 [(0, .ref 19), (1, .int x1)] [] Q)) :
    am_GQ (61, 45, [(0, .ref 19), (1, .int x1)], [.int s0, .ref 14], g, t) Q := am_wp_ok [2, 55] 1 h
theorem B_RuleLines_firstLooping_48 {g : am_G} {t : Nat} {Q : am_R → Prop} {x1 : Int32} {s0 : Int32}
    (h : (s0 = (Int32.ofNat 0) → am_GQ (61, 55, [(0, .ref 19), (1, .int x1)], [], g, t) Q) ∧ (¬ s0 = (Int32.ofNat 0) → Q (.inl (some (.int (x1 + (Int32.ofNat 1)))), g, t))) :
    am_GQ (61, 48, [(0, .ref 19), (1, .int x1)], [.int s0], g, t) Q := am_wp_ok [2, 55] 5 h
theorem B_RuleLines_firstTooLong_0 {g : am_G} {t : Nat} {Q : am_R → Prop}
    (h : am_GQ (62, 2, [(0, .ref 19), (1, .int (Int32.ofNat 0))], [], g, t) Q) :
    am_GQ (62, 0, [(0, .ref 19)], [], g, t) Q := am_wp_ok [2, 55] 2 h
theorem B_RuleLines_firstTooLong_2 {g : am_G} {t : Nat} {Q : am_R → Prop} {x1 : Int32}
    (h : am_GQ (34, 0, [(0, .ref 11)], [], g, t) (am_af 62 7 [(0, .ref 19), (1, .int x1)] [.int x1] Q)) :
    am_GQ (62, 2, [(0, .ref 19), (1, .int x1)], [], g, t) Q := am_wp_ok [2, 55] 4 h
theorem B_RuleLines_firstTooLong_10 {g : am_G} {t : Nat} {Q : am_R → Prop} {x1 : Int32} {s0 : Int32} {s1 : Int32}
    (h : (s0 ≤ s1 → Q (.inl (some (.int (Int32.ofNat 0))), g, t)) ∧ (s1 < s0 → am_GQ (63, 0, [(0, .ref 19), (1, .int x1)], [], g, t) (am_af 62 15 [(0, .ref 19), (1, .int x1)] [] Q))) :
    am_GQ (62, 10, [(0, .ref 19), (1, .int x1)], [.int s0, .int s1], g, t) Q := am_wp_ok [2, 55] 4 h
theorem B_RuleLines_firstTooLong_18 {g : am_G} {t : Nat} {Q : am_R → Prop} {x1 : Int32} {s0 : Int32}
    (h : (s0 = (Int32.ofNat 0) → am_GQ (62, 55, [(0, .ref 19), (1, .int x1)], [], g, t) Q) ∧ (¬ s0 = (Int32.ofNat 0) → am_GQ (65, 0, [(0, .ref 19), (1, .int x1)], [], g, t) (am_af 62 27 [(0, .ref 19), (1, .int x1)] [.ref 14] Q))) :
    am_GQ (62, 18, [(0, .ref 19), (1, .int x1)], [.int s0], g, t) Q := am_wp_ok [2, 55] 6 h
theorem B_RuleLines_firstTooLong_55 {g : am_G} {t : Nat} {Q : am_R → Prop} {x1 : Int32}
    (h : am_GQ (62, 2, [(0, .ref 19), (1, .int (x1 + (Int32.ofNat 1)))], [], g, t) Q) :
    am_GQ (62, 55, [(0, .ref 19), (1, .int x1)], [], g, t) Q := am_wp_ok [2, 55] 2 h
theorem B_RuleLines_firstTooLong_30 {g : am_G} {t : Nat} {Q : am_R → Prop} {x1 : Int32} {s0 : Int32}
    (h : am_GQ (52, 0, [(0, .ref 14), (1, .int s0)], [], g, t) (am_af 62 30 [(0, .ref 19), (1, .int x1)] [] Q)) :
    am_GQ (62, 30, [(0, .ref 19), (1, .int x1)], [.int s0, .ref 14], g, t) Q := am_wp_ok [2, 55] 1 h
theorem B_RuleLines_firstTooLong_33 {g : am_G} {t : Nat} {Q : am_R → Prop} {x1 : Int32} {s0 : Int32}
    (h : am_GQ (64, 0, [(0, .ref 19), (1, .int x1)], [], g, t) (am_af 62 39 [(0, .ref 19), (1, .int x1)] [.ref 14, .int s0] Q)) :
    am_GQ (62, 33, [(0, .ref 19), (1, .int x1)], [.int s0], g, t) Q := am_wp_ok [2, 55] 5 h
theorem B_RuleLines_firstTooLong_42 {g : am_G} {t : Nat} {Q : am_R → Prop} {x1 : Int32} {s0 : Int32} {s2 : Int32}
    (h : am_GQ (52, 0, [(0, .ref 14), (1, .int s0)], [], g, t) (am_af 62 42 [(0, .ref 19), (1, .int x1)] [.int s2] Q)) :
    am_GQ (62, 42, [(0, .ref 19), (1, .int x1)], [.int s0, .ref 14, .int s2], g, t) Q := am_wp_ok [2, 55] 1 h
theorem B_RuleLines_firstTooLong_45 {g : am_G} {t : Nat} {Q : am_R → Prop} {x1 : Int32} {s0 : Int32} {s1 : Int32}
    (h : ((s1 + s0) ≤ (Int32.ofNat 64) → am_GQ (62, 55, [(0, .ref 19), (1, .int x1)], [], g, t) Q) ∧ ((Int32.ofNat 64) < (s1 + s0) → Q (.inl (some (.int (x1 + (Int32.ofNat 1)))), g, t))) :
    am_GQ (62, 45, [(0, .ref 19), (1, .int x1)], [.int s0, .int s1], g, t) Q := am_wp_ok [2, 55] 7 h
theorem B_RuleLines_isRule_0 {g : am_G} {t : Nat} {Q : am_R → Prop} {x1 : Int32}
    (h : am_GQ (37, 0, [(0, .ref 11), (1, .int x1), (2, .ref 3)], [], g, t) (am_af 63 8 [(0, .ref 19), (1, .int x1)] [] Q)) :
    am_GQ (63, 0, [(0, .ref 19), (1, .int x1)], [], g, t) Q := am_wp_ok [] 5 h
theorem B_RuleLines_isRule_11 {g : am_G} {t : Nat} {Q : am_R → Prop} {x1 : Int32} {s0 : Int32}
    (h : am_chk (am_isb s0) (Q (.inl (some (.int s0)), g, t))) :
    am_GQ (63, 11, [(0, .ref 19), (1, .int x1)], [.int s0], g, t) Q := am_wp_ok [] 1 h
theorem B_RuleLines_sourcePhrase_0 {g : am_G} {t : Nat} {Q : am_R → Prop} {x1 : Int32}
    (h : am_GQ (44, 0, [(0, .ref 11), (1, .int x1)], [], g, t) (am_af 64 9 [(0, .ref 19), (1, .int x1)] [.ref 9] Q)) :
    am_GQ (64, 0, [(0, .ref 19), (1, .int x1)], [], g, t) Q := am_wp_ok [] 6 h
theorem B_RuleLines_sourcePhrase_12 {g : am_G} {t : Nat} {Q : am_R → Prop} {x1 : Int32} {s0 : Int32}
    (h : am_GQ (88, 0, [(0, .ref 9), (1, .int s0)], [], g, t) (am_af 64 12 [(0, .ref 19), (1, .int x1)] [] Q)) :
    am_GQ (64, 12, [(0, .ref 19), (1, .int x1)], [.int s0, .ref 9], g, t) Q := am_wp_ok [] 1 h
theorem B_RuleLines_sourcePhrase_15 {g : am_G} {t : Nat} {Q : am_R → Prop} {x1 : Int32} {s0 : Int32}
    (h : Q (.inl (some (.int (s0 + (Int32.ofNat 1)))), g, t)) :
    am_GQ (64, 15, [(0, .ref 19), (1, .int x1)], [.int s0], g, t) Q := am_wp_ok [] 3 h
theorem B_RuleLines_targetPhrase_0 {g : am_G} {t : Nat} {Q : am_R → Prop} {x1 : Int32}
    (h : am_GQ (44, 0, [(0, .ref 11), (1, .int x1)], [], g, t) (am_af 65 5 [(0, .ref 19), (1, .int x1)] [] Q)) :
    am_GQ (65, 0, [(0, .ref 19), (1, .int x1)], [], g, t) Q := am_wp_ok [] 4 h
theorem B_RuleLines_targetPhrase_8 {g : am_G} {t : Nat} {Q : am_R → Prop} {x1 : Int32} {s0 : Int32}
    (h : Q (.inl (some (.int s0)), g, t)) :
    am_GQ (65, 8, [(0, .ref 19), (1, .int x1)], [.int s0], g, t) Q := am_wp_ok [] 1 h
theorem B_RuleLines_targets_0 {g : am_G} {t : Nat} {Q : am_R → Prop} {x1 : Int32}
    (h : am_GQ (65, 0, [(0, .ref 19), (1, .int x1)], [], g, t) (am_af 66 6 [(0, .ref 19), (1, .int x1)] [.ref 14] Q)) :
    am_GQ (66, 0, [(0, .ref 19), (1, .int x1)], [], g, t) Q := am_wp_ok [] 5 h
theorem B_RuleLines_targets_9 {g : am_G} {t : Nat} {Q : am_R → Prop} {x1 : Int32} {s0 : Int32}
    (h : am_GQ (46, 0, [(0, .ref 14), (1, .int s0)], [], g, t) (am_af 66 9 [(0, .ref 19), (1, .int x1)] [] Q)) :
    am_GQ (66, 9, [(0, .ref 19), (1, .int x1)], [.int s0, .ref 14], g, t) Q := am_wp_ok [] 1 h
theorem B_RuleLines_targets_12 {g : am_G} {t : Nat} {Q : am_R → Prop} {x1 : Int32} {s0 : Int32}
    (h : Q (.inl (some (.int s0)), g, t)) :
    am_GQ (66, 12, [(0, .ref 19), (1, .int x1)], [.int s0], g, t) Q := am_wp_ok [] 1 h
theorem B_Rules_addPattern_0 {g : am_G} {t : Nat} {Q : am_R → Prop} {x1 : Int32} {x2 : Int32}
    (h : ((Int32.ofNat 30) ≤ (g 20 4) → Q (.inl none, g, t)) ∧ ((g 20 4) < (Int32.ofNat 30) → am_chk (am_in (g 20 4) 30) (am_chk (am_in ((am_w g 22 (Int32.toNatClampNeg (g 20 4)) x1) 20 4) 30) (Q (.inl none, (am_w (am_w (am_w g 22 (Int32.toNatClampNeg (g 20 4)) x1) 23 (Int32.toNatClampNeg ((am_w g 22 (Int32.toNatClampNeg (g 20 4)) x1) 20 4)) x2) 20 4 (((am_w (am_w g 22 (Int32.toNatClampNeg (g 20 4)) x1) 23 (Int32.toNatClampNeg ((am_w g 22 (Int32.toNatClampNeg (g 20 4)) x1) 20 4)) x2) 20 4) + (Int32.ofNat 1))), t))))) :
    am_GQ (67, 0, [(0, .ref 20), (1, .int x1), (2, .int x2)], [], g, t) Q := am_wp_ok [] 23 h
theorem B_Rules_addRule_0 {g : am_G} {t : Nat} {Q : am_R → Prop} {x1 : Int32} {x2 : Int32} {x3 : Int32}
    (h : am_GQ (68, 3, [(0, .ref 20), (1, .int x1), (2, .int x2), (3, .int x3), (4, .int (Int32.ofNat 0))], [], g, t) Q) :
    am_GQ (68, 0, [(0, .ref 20), (1, .int x1), (2, .int x2), (3, .int x3)], [], g, t) Q := am_wp_ok [3, 30] 2 h
theorem B_Rules_addRule_3 {g : am_G} {t : Nat} {Q : am_R → Prop} {x1 : Int32} {x2 : Int32} {x3 : Int32} {x4 : Int32}
    (h : ((Int32.ofNat 32) ≤ x4 → (x3 = (Int32.ofNat 0) → Q (.inl none, g, t)) ∧ (¬ x3 = (Int32.ofNat 0) → Q (.inl none, (am_w g 20 3 ((g 20 3) ||| x1)), t))) ∧ (x4 < (Int32.ofNat 32) → am_GQ (3, 0, [(0, .int x1), (1, .int x4)], [], g, t) (am_af 68 13 [(0, .ref 20), (1, .int x1), (2, .int x2), (3, .int x3), (4, .int x4)] [] Q))) :
    am_GQ (68, 3, [(0, .ref 20), (1, .int x1), (2, .int x2), (3, .int x3), (4, .int x4)], [], g, t) Q := am_wp_ok [3, 30] 12 h
theorem B_Rules_addRule_16 {g : am_G} {t : Nat} {Q : am_R → Prop} {x1 : Int32} {x2 : Int32} {x3 : Int32} {x4 : Int32} {s0 : Int32}
    (h : (s0 = (Int32.ofNat 0) → am_GQ (68, 30, [(0, .ref 20), (1, .int x1), (2, .int x2), (3, .int x3), (4, .int x4)], [], g, t) Q) ∧ (¬ s0 = (Int32.ofNat 0) → am_chk (am_in x4 32) (am_chk (am_in x4 32) (am_GQ (68, 30, [(0, .ref 20), (1, .int x1), (2, .int x2), (3, .int x3), (4, .int x4)], [], (am_w g 21 (Int32.toNatClampNeg x4) ((g 21 (Int32.toNatClampNeg x4)) ||| x2)), t) Q)))) :
    am_GQ (68, 16, [(0, .ref 20), (1, .int x1), (2, .int x2), (3, .int x3), (4, .int x4)], [.int s0], g, t) Q := am_wp_ok [3, 30] 9 h
theorem B_Rules_addRule_30 {g : am_G} {t : Nat} {Q : am_R → Prop} {x1 : Int32} {x2 : Int32} {x3 : Int32} {x4 : Int32}
    (h : am_GQ (68, 3, [(0, .ref 20), (1, .int x1), (2, .int x2), (3, .int x3), (4, .int (x4 + (Int32.ofNat 1)))], [], g, t) Q) :
    am_GQ (68, 30, [(0, .ref 20), (1, .int x1), (2, .int x2), (3, .int x3), (4, .int x4)], [], g, t) Q := am_wp_ok [3, 30] 2 h
theorem B_Rules_clear_0 {g : am_G} {t : Nat} {Q : am_R → Prop}
    (h : am_GQ (69, 2, [(0, .ref 20), (1, .int (Int32.ofNat 0))], [], g, t) Q) :
    am_GQ (69, 0, [(0, .ref 20)], [], g, t) Q := am_wp_ok [2] 2 h
theorem B_Rules_clear_2 {g : am_G} {t : Nat} {Q : am_R → Prop} {x1 : Int32}
    (h : ((Int32.ofNat 32) ≤ x1 → Q (.inl none, (am_w (am_w g 20 3 (Int32.ofNat 0)) 20 4 (Int32.ofNat 0)), t)) ∧ (x1 < (Int32.ofNat 32) → am_chk (am_in x1 32) (am_GQ (69, 2, [(0, .ref 20), (1, .int (x1 + (Int32.ofNat 1)))], [], (am_w g 21 (Int32.toNatClampNeg x1) (Int32.ofNat 0)), t) Q))) :
    am_GQ (69, 2, [(0, .ref 20), (1, .int x1)], [], g, t) Q := am_wp_ok [2] 10 h
theorem B_Rules_patternSource_0 {g : am_G} {t : Nat} {Q : am_R → Prop} {x1 : Int32} {x2 : Int32}
    (h : am_chk (decide (¬ (Int32.ofNat 4) = Int32.ofNat 0)) (am_GQ (70, 7, [(0, .ref 20), (1, .int x1), (2, .int x2), (3, .int (x1 - x1 / (Int32.ofNat 4) * (Int32.ofNat 4))), (4, .int (Int32.ofNat 0))], [], g, t) Q)) :
    am_GQ (70, 0, [(0, .ref 20), (1, .int x1), (2, .int x2)], [], g, t) Q := am_wp_ok [7, 52] 6 h
theorem B_Rules_patternSource_7 {g : am_G} {t : Nat} {Q : am_R → Prop} {x1 : Int32} {x2 : Int32} {x3 : Int32} {x4 : Int32}
    (h : ((g 20 4) ≤ x4 → Q (.inl (some (.int (-1))), g, t)) ∧ (x4 < (g 20 4) → am_chk (am_in x4 30) (am_chk (am_in x4 30) ((¬ (g 22 (Int32.toNatClampNeg x4)) = x3 → am_GQ (70, 52, [(0, .ref 20), (1, .int x1), (2, .int x2), (3, .int x3), (4, .int x4)], [], g, t) Q) ∧ ((g 22 (Int32.toNatClampNeg x4)) = x3 → am_GQ (3, 0, [(0, .int x2), (1, .int ((x1 - x3) + (g 23 (Int32.toNatClampNeg x4))))], [], g, t) (am_af 70 43 [(0, .ref 20), (1, .int x1), (2, .int x2), (3, .int x3), (4, .int x4), (5, .int ((x1 - x3) + (g 23 (Int32.toNatClampNeg x4))))] [] Q)))))) :
    am_GQ (70, 7, [(0, .ref 20), (1, .int x1), (2, .int x2), (3, .int x3), (4, .int x4)], [], g, t) Q := am_wp_ok [7, 52] 22 h
theorem B_Rules_patternSource_52 {g : am_G} {t : Nat} {Q : am_R → Prop} {x1 : Int32} {x2 : Int32} {x3 : Int32} {x4 : Int32}
    (h : am_GQ (70, 7, [(0, .ref 20), (1, .int x1), (2, .int x2), (3, .int x3), (4, .int (x4 + (Int32.ofNat 1)))], [], g, t) Q) :
    am_GQ (70, 52, [(0, .ref 20), (1, .int x1), (2, .int x2), (3, .int x3), (4, .int x4)], [], g, t) Q := am_wp_ok [7, 52] 2 h
theorem B_Rules_patternSource_46 {g : am_G} {t : Nat} {Q : am_R → Prop} {x1 : Int32} {x2 : Int32} {x3 : Int32} {x4 : Int32} {x5 : Int32} {s0 : Int32}
    (h : (s0 = (Int32.ofNat 0) → am_GQ (70, 52, [(0, .ref 20), (1, .int x1), (2, .int x2), (3, .int x3), (4, .int x4)], [], g, t) Q) ∧ (¬ s0 = (Int32.ofNat 0) → Q (.inl (some (.int x5)), g, t))) :
    am_GQ (70, 46, [(0, .ref 20), (1, .int x1), (2, .int x2), (3, .int x3), (4, .int x4), (5, .int x5)], [.int s0], g, t) Q := am_wp_ok [7, 52] 3 h
theorem B_Rules_sourcesOf_0 {g : am_G} {t : Nat} {Q : am_R → Prop} {x1 : Int32}
    (h : am_chk (am_in x1 32) (Q (.inl (some (.int (g 21 (Int32.toNatClampNeg x1)))), g, t))) :
    am_GQ (71, 0, [(0, .ref 20), (1, .int x1)], [], g, t) Q := am_wp_ok [] 5 h
theorem B_Rules_withRecipe_0 {g : am_G} {t : Nat} {Q : am_R → Prop}
    (h : Q (.inl (some (.int (g 20 3))), g, t)) :
    am_GQ (72, 0, [(0, .ref 20)], [], g, t) Q := am_wp_ok [] 3 h
theorem B_Stamps_greatest_0 {g : am_G} {t : Nat} {Q : am_R → Prop}
    (h : am_GQ (73, 4, [(0, .ref 24), (1, .int (Int32.ofNat 0)), (2, .int (Int32.ofNat 0))], [], g, t) Q) :
    am_GQ (73, 0, [(0, .ref 24)], [], g, t) Q := am_wp_ok [4] 4 h
theorem B_Stamps_greatest_4 {g : am_G} {t : Nat} {Q : am_R → Prop} {x1 : Int32} {x2 : Int32}
    (h : ((Int32.ofNat 32) ≤ x2 → Q (.inl (some (.int x1)), g, t)) ∧ (x2 < (Int32.ofNat 32) → am_chk (am_in x2 32) (am_GQ (73, 4, [(0, .ref 24), (1, .int (if x1 < (g 25 (Int32.toNatClampNeg x2)) then (g 25 (Int32.toNatClampNeg x2)) else x1)), (2, .int (x2 + (Int32.ofNat 1)))], [], g, t) Q))) :
    am_GQ (73, 4, [(0, .ref 24), (1, .int x1), (2, .int x2)], [], g, t) Q := am_wp_ok [4] 12 h
theorem B_Stamps_of_0 {g : am_G} {t : Nat} {Q : am_R → Prop} {x1 : Int32}
    (h : am_chk (am_in x1 32) (Q (.inl (some (.int (g 25 (Int32.toNatClampNeg x1)))), g, t))) :
    am_GQ (74, 0, [(0, .ref 24), (1, .int x1)], [], g, t) Q := am_wp_ok [] 5 h
theorem B_Stamps_put_0 {g : am_G} {t : Nat} {Q : am_R → Prop} {x1 : Int32} {x2 : Int32}
    (h : am_chk (am_in x1 32) (Q (.inl none, (am_w g 25 (Int32.toNatClampNeg x1) x2), t))) :
    am_GQ (75, 0, [(0, .ref 24), (1, .int x1), (2, .int x2)], [], g, t) Q := am_wp_ok [] 6 h
theorem B_Text_append_0 {g : am_G} {t : Nat} {Q : am_R → Prop} {x1 : Int64}
    (h : am_GQ (79, 0, [(0, .long x1)], [], g, t) (am_af 76 1 [(0, .ref 9), (1, .long x1)] [] Q)) :
    am_GQ (76, 0, [(0, .ref 9), (1, .long x1)], [], g, t) Q := am_wp_ok [26] 2 h
theorem B_Text_append_4 {g : am_G} {t : Nat} {Q : am_R → Prop} {x1 : Int64} {s0 : Int32}
    (h : (s0 < (Int32.ofNat 0) → Q (.inl (some (.int (-1))), g, t)) ∧ ((Int32.ofNat 0) ≤ s0 → (s0 ≤ ((Int32.ofNat 240) - (g 9 1)) → am_GQ (76, 26, [(0, .ref 9), (1, .long x1), (3, .int s0), (4, .int (Int32.ofNat 0))], [], g, t) Q) ∧ (((Int32.ofNat 240) - (g 9 1)) < s0 → Q (.inl (some (.int (-1))), g, t)))) :
    am_GQ (76, 4, [(0, .ref 9), (1, .long x1)], [.int s0], g, t) Q := am_wp_ok [26] 11 h
theorem B_Text_append_26 {g : am_G} {t : Nat} {Q : am_R → Prop} {x1 : Int64} {x3 : Int32} {x4 : Int32}
    (h : (x3 ≤ x4 → Q (.inl (some (.int x3)), (am_w g 9 1 ((g 9 1) + x3)), t)) ∧ (x4 < x3 → am_GQ (86, 0, [(0, .long x1), (2, .int x4)], [], g, t) (am_af 76 46 [(0, .ref 9), (1, .long x1), (3, .int x3), (4, .int x4)] [.int ((g 9 1) + x4), .ref 10] Q))) :
    am_GQ (76, 26, [(0, .ref 9), (1, .long x1), (3, .int x3), (4, .int x4)], [], g, t) Q := am_wp_ok [26] 12 h
theorem B_Text_append_49 {g : am_G} {t : Nat} {Q : am_R → Prop} {x1 : Int64} {x3 : Int32} {x4 : Int32} {s0 : Int32} {s1 : Int32}
    (h : am_chk (am_in s1 240) (am_GQ (76, 26, [(0, .ref 9), (1, .long x1), (3, .int x3), (4, .int (x4 + (Int32.ofNat 1)))], [], (am_w g 10 (Int32.toNatClampNeg s1) (am_chr (am_chr s0))), t) Q)) :
    am_GQ (76, 49, [(0, .ref 9), (1, .long x1), (3, .int x3), (4, .int x4)], [.int s0, .int s1, .ref 10], g, t) Q := am_wp_ok [26] 4 h
theorem B_Text_clear_0 {g : am_G} {t : Nat} {Q : am_R → Prop}
    (h : Q (.inl (some (.int (g 9 1))), (am_w g 9 1 (Int32.ofNat 0)), t)) :
    am_GQ (77, 0, [(0, .ref 9)], [], g, t) Q := am_wp_ok [] 8 h
theorem B_Text_codeAt_0 {g : am_G} {t : Nat} {Q : am_R → Prop} {x1 : Int32}
    (h : (x1 < (Int32.ofNat 0) → am_chk (am_isc (Int32.ofNat 0)) (Q (.inl (some (.int (Int32.ofNat 0))), g, t))) ∧ ((Int32.ofNat 0) ≤ x1 → ((g 9 1) ≤ x1 → am_chk (am_isc (Int32.ofNat 0)) (Q (.inl (some (.int (Int32.ofNat 0))), g, t))) ∧ (x1 < (g 9 1) → am_chk (am_in x1 240) (am_chk (am_isc (g 10 (Int32.toNatClampNeg x1))) (Q (.inl (some (.int (g 10 (Int32.toNatClampNeg x1)))), g, t)))))) :
    am_GQ (78, 0, [(0, .ref 9), (1, .int x1)], [], g, t) Q := am_wp_ok [] 12 h
theorem B_Text_countCodes_0 {g : am_G} {t : Nat} {Q : am_R → Prop} {x0 : Int64}
    (h : am_GQ (79, 2, [(0, .long x0), (2, .int (Int32.ofNat 0))], [], g, t) Q) :
    am_GQ (79, 0, [(0, .long x0)], [], g, t) Q := am_wp_ok [2] 2 h
theorem B_Text_countCodes_2 {g : am_G} {t : Nat} {Q : am_R → Prop} {x0 : Int64} {x2 : Int32}
    (h : ((Int32.ofNat 8) ≤ x2 → Q (.inl (some (.int (Int32.ofNat 8))), g, t)) ∧ (x2 < (Int32.ofNat 8) → am_GQ (86, 0, [(0, .long x0), (2, .int x2)], [], g, t) (am_af 79 10 [(0, .long x0), (2, .int x2)] [] Q))) :
    am_GQ (79, 2, [(0, .long x0), (2, .int x2)], [], g, t) Q := am_wp_ok [2] 6 h
theorem B_Text_countCodes_13 {g : am_G} {t : Nat} {Q : am_R → Prop} {x0 : Int64} {x2 : Int32} {s0 : Int32}
    (h : (¬ s0 = (Int32.ofNat 0) → (s0 ≤ (Int32.ofNat 127) → am_GQ (79, 2, [(0, .long x0), (2, .int (x2 + (Int32.ofNat 1)))], [], g, t) Q) ∧ ((Int32.ofNat 127) < s0 → Q (.inl (some (.int (-1))), g, t))) ∧ (s0 = (Int32.ofNat 0) → Q (.inl (some (.int x2)), g, t))) :
    am_GQ (79, 13, [(0, .long x0), (2, .int x2)], [.int s0], g, t) Q := am_wp_ok [2] 8 h
theorem B_Text_fileAt_0 {g : am_G} {t : Nat} {Q : am_R → Prop} {x1 : Int32}
    (h : am_GQ (78, 0, [(0, .ref 9), (1, .int x1)], [], g, t) (am_af 80 3 [(0, .ref 9), (1, .int x1)] [.int (Int32.ofNat 4)] Q)) :
    am_GQ (80, 0, [(0, .ref 9), (1, .int x1)], [], g, t) Q := am_wp_ok [] 4 h
theorem B_Text_fileAt_6 {g : am_G} {t : Nat} {Q : am_R → Prop} {x1 : Int32} {s0 : Int32} {s1 : Int32}
    (h : am_GQ (84, 0, [(0, .ref 9), (1, .int (x1 + (Int32.ofNat 1)))], [], g, t) (am_af 80 14 [(0, .ref 9), (1, .int x1)] [.int (s1 * (s0 - (Int32.ofNat 97)))] Q)) :
    am_GQ (80, 6, [(0, .ref 9), (1, .int x1)], [.int s0, .int s1], g, t) Q := am_wp_ok [] 8 h
theorem B_Text_fileAt_17 {g : am_G} {t : Nat} {Q : am_R → Prop} {x1 : Int32} {s0 : Int32} {s1 : Int32}
    (h : Q (.inl (some (.int (s1 + s0))), g, t)) :
    am_GQ (80, 17, [(0, .ref 9), (1, .int x1)], [.int s0, .int s1], g, t) Q := am_wp_ok [] 2 h
theorem B_Text_isMacroUseAt_0 {g : am_G} {t : Nat} {Q : am_R → Prop} {x1 : Int32}
    (h : am_GQ (78, 0, [(0, .ref 9), (1, .int x1)], [], g, t) (am_af 81 2 [(0, .ref 9), (1, .int x1)] [] Q)) :
    am_GQ (81, 0, [(0, .ref 9), (1, .int x1)], [], g, t) Q := am_wp_ok [] 3 h
theorem B_Text_isMacroUseAt_5 {g : am_G} {t : Nat} {Q : am_R → Prop} {x1 : Int32} {s0 : Int32}
    (h : am_GQ (78, 0, [(0, .ref 9), (1, .int (x1 + (Int32.ofNat 1)))], [], g, t) (am_af 81 9 [(0, .ref 9), (1, .int x1)] [.int s0] Q)) :
    am_GQ (81, 5, [(0, .ref 9), (1, .int x1)], [.int s0], g, t) Q := am_wp_ok [] 5 h
theorem B_Text_isMacroUseAt_12 {g : am_G} {t : Nat} {Q : am_R → Prop} {x1 : Int32} {s0 : Int32} {s1 : Int32}
    (h : am_GQ (6, 0, [(0, .int s1), (1, .int s0)], [], g, t) (am_af 81 12 [(0, .ref 9), (1, .int x1)] [] Q)) :
    am_GQ (81, 12, [(0, .ref 9), (1, .int x1)], [.int s0, .int s1], g, t) Q := am_wp_ok [] 1 h
theorem B_Text_isMacroUseAt_15 {g : am_G} {t : Nat} {Q : am_R → Prop} {x1 : Int32} {s0 : Int32}
    (h : am_chk (am_isb s0) (Q (.inl (some (.int s0)), g, t))) :
    am_GQ (81, 15, [(0, .ref 9), (1, .int x1)], [.int s0], g, t) Q := am_wp_ok [] 1 h
theorem B_Text_isNameAt_0 {g : am_G} {t : Nat} {Q : am_R → Prop} {x1 : Int32}
    (h : am_GQ (78, 0, [(0, .ref 9), (1, .int x1)], [], g, t) (am_af 82 2 [(0, .ref 9), (1, .int x1)] [] Q)) :
    am_GQ (82, 0, [(0, .ref 9), (1, .int x1)], [], g, t) Q := am_wp_ok [] 3 h
theorem B_Text_isNameAt_5 {g : am_G} {t : Nat} {Q : am_R → Prop} {x1 : Int32} {s0 : Int32}
    (h : am_GQ (78, 0, [(0, .ref 9), (1, .int (x1 + (Int32.ofNat 1)))], [], g, t) (am_af 82 9 [(0, .ref 9), (1, .int x1)] [.int s0] Q)) :
    am_GQ (82, 5, [(0, .ref 9), (1, .int x1)], [.int s0], g, t) Q := am_wp_ok [] 5 h
theorem B_Text_isNameAt_12 {g : am_G} {t : Nat} {Q : am_R → Prop} {x1 : Int32} {s0 : Int32} {s1 : Int32}
    (h : am_GQ (7, 0, [(0, .int s1), (1, .int s0)], [], g, t) (am_af 82 12 [(0, .ref 9), (1, .int x1)] [] Q)) :
    am_GQ (82, 12, [(0, .ref 9), (1, .int x1)], [.int s0, .int s1], g, t) Q := am_wp_ok [] 1 h
theorem B_Text_isNameAt_15 {g : am_G} {t : Nat} {Q : am_R → Prop} {x1 : Int32} {s0 : Int32}
    (h : am_chk (am_isb s0) (Q (.inl (some (.int s0)), g, t))) :
    am_GQ (82, 15, [(0, .ref 9), (1, .int x1)], [.int s0], g, t) Q := am_wp_ok [] 1 h
theorem B_Text_isOnlySpaces_0 {g : am_G} {t : Nat} {Q : am_R → Prop} {x1 : Int32} {x2 : Int32}
    (h : am_GQ (83, 2, [(0, .ref 9), (1, .int x1), (2, .int x2), (3, .int x1)], [], g, t) Q) :
    am_GQ (83, 0, [(0, .ref 9), (1, .int x1), (2, .int x2)], [], g, t) Q := am_wp_ok [2] 2 h
theorem B_Text_isOnlySpaces_2 {g : am_G} {t : Nat} {Q : am_R → Prop} {x1 : Int32} {x2 : Int32} {x3 : Int32}
    (h : (x2 ≤ x3 → am_chk (am_isb (Int32.ofNat 1)) (Q (.inl (some (.int (Int32.ofNat 1))), g, t))) ∧ (x3 < x2 → am_GQ (78, 0, [(0, .ref 9), (1, .int x3)], [], g, t) (am_af 83 9 [(0, .ref 9), (1, .int x1), (2, .int x2), (3, .int x3)] [] Q))) :
    am_GQ (83, 2, [(0, .ref 9), (1, .int x1), (2, .int x2), (3, .int x3)], [], g, t) Q := am_wp_ok [2] 6 h
theorem B_Text_isOnlySpaces_12 {g : am_G} {t : Nat} {Q : am_R → Prop} {x1 : Int32} {x2 : Int32} {x3 : Int32} {s0 : Int32}
    (h : (s0 = (Int32.ofNat 32) → am_GQ (83, 2, [(0, .ref 9), (1, .int x1), (2, .int x2), (3, .int (x3 + (Int32.ofNat 1)))], [], g, t) Q) ∧ (¬ s0 = (Int32.ofNat 32) → am_chk (am_isb (Int32.ofNat 0)) (Q (.inl (some (.int (Int32.ofNat 0))), g, t)))) :
    am_GQ (83, 12, [(0, .ref 9), (1, .int x1), (2, .int x2), (3, .int x3)], [.int s0], g, t) Q := am_wp_ok [2] 4 h
theorem B_Text_kindAt_0 {g : am_G} {t : Nat} {Q : am_R → Prop} {x1 : Int32}
    (h : am_GQ (78, 0, [(0, .ref 9), (1, .int x1)], [], g, t) (am_af 84 2 [(0, .ref 9), (1, .int x1)] [] Q)) :
    am_GQ (84, 0, [(0, .ref 9), (1, .int x1)], [], g, t) Q := am_wp_ok [] 3 h
theorem B_Text_kindAt_5 {g : am_G} {t : Nat} {Q : am_R → Prop} {x1 : Int32} {s0 : Int32}
    (h : Q (.inl (some (.int (s0 - (Int32.ofNat 48)))), g, t)) :
    am_GQ (84, 5, [(0, .ref 9), (1, .int x1)], [.int s0], g, t) Q := am_wp_ok [] 3 h
theorem B_Text_macroUsedAt_0 {g : am_G} {t : Nat} {Q : am_R → Prop} {x1 : Int32}
    (h : am_GQ (78, 0, [(0, .ref 9), (1, .int (x1 + (Int32.ofNat 1)))], [], g, t) (am_af 85 4 [(0, .ref 9), (1, .int x1)] [] Q)) :
    am_GQ (85, 0, [(0, .ref 9), (1, .int x1)], [], g, t) Q := am_wp_ok [] 5 h
theorem B_Text_macroUsedAt_7 {g : am_G} {t : Nat} {Q : am_R → Prop} {x1 : Int32} {s0 : Int32}
    (h : Q (.inl (some (.int (s0 - (Int32.ofNat 65)))), g, t)) :
    am_GQ (85, 7, [(0, .ref 9), (1, .int x1)], [.int s0], g, t) Q := am_wp_ok [] 3 h
theorem B_Text_packedCode_0 {g : am_G} {t : Nat} {Q : am_R → Prop} {x0 : Int64} {x2 : Int32}
    (h : Q (.inl (some (.int ((Int64.toInt32 (Int64.toUInt64 x0 >>> ((Int32.toInt64 ((Int32.ofNat 8) * x2)).toUInt64 &&& Int64.toUInt64 63)).toInt64) &&& (Int32.ofNat 255)))), g, t)) :
    am_GQ (86, 0, [(0, .long x0), (2, .int x2)], [], g, t) Q := am_wp_ok [] 9 h
theorem B_Text_partAt_0 {g : am_G} {t : Nat} {Q : am_R → Prop} {x1 : Int32}
    (h : am_GQ (78, 0, [(0, .ref 9), (1, .int x1)], [], g, t) (am_af 87 2 [(0, .ref 9), (1, .int x1)] [] Q)) :
    am_GQ (87, 0, [(0, .ref 9), (1, .int x1)], [], g, t) Q := am_wp_ok [] 3 h
theorem B_Text_partAt_5 {g : am_G} {t : Nat} {Q : am_R → Prop} {x1 : Int32} {s0 : Int32}
    (h : am_GQ (78, 0, [(0, .ref 9), (1, .int (x1 + (Int32.ofNat 1)))], [], g, t) (am_af 87 10 [(0, .ref 9), (1, .int x1), (2, .int s0)] [] Q)) :
    am_GQ (87, 5, [(0, .ref 9), (1, .int x1)], [.int s0], g, t) Q := am_wp_ok [] 6 h
theorem B_Text_partAt_13 {g : am_G} {t : Nat} {Q : am_R → Prop} {x1 : Int32} {x2 : Int32} {s0 : Int32}
    (h : (¬ x2 = (Int32.ofNat 32) → am_GQ (7, 0, [(0, .int x2), (1, .int s0)], [], g, t) (am_af 87 24 [(0, .ref 9), (1, .int x1), (2, .int x2), (3, .int s0)] [] Q)) ∧ (x2 = (Int32.ofNat 32) → Q (.inl (some (.int (Int32.ofNat 1))), g, t))) :
    am_GQ (87, 13, [(0, .ref 9), (1, .int x1), (2, .int x2)], [.int s0], g, t) Q := am_wp_ok [] 7 h
theorem B_Text_partAt_27 {g : am_G} {t : Nat} {Q : am_R → Prop} {x1 : Int32} {x2 : Int32} {x3 : Int32} {s0 : Int32}
    (h : (¬ s0 = (Int32.ofNat 0) → Q (.inl (some (.int (Int32.ofNat 2))), g, t)) ∧ (s0 = (Int32.ofNat 0) → am_GQ (6, 0, [(0, .int x2), (1, .int x3)], [], g, t) (am_af 87 32 [(0, .ref 9), (1, .int x1), (2, .int x2), (3, .int x3)] [] Q))) :
    am_GQ (87, 27, [(0, .ref 9), (1, .int x1), (2, .int x2), (3, .int x3)], [.int s0], g, t) Q := am_wp_ok [] 4 h
theorem B_Text_partAt_35 {g : am_G} {t : Nat} {Q : am_R → Prop} {x1 : Int32} {x2 : Int32} {x3 : Int32} {s0 : Int32}
    (h : (s0 = (Int32.ofNat 0) → Q (.inl (some (.int (Int32.ofNat 0))), g, t)) ∧ (¬ s0 = (Int32.ofNat 0) → Q (.inl (some (.int (Int32.ofNat 2))), g, t))) :
    am_GQ (87, 35, [(0, .ref 9), (1, .int x1), (2, .int x2), (3, .int x3)], [.int s0], g, t) Q := am_wp_ok [] 4 h
theorem B_Text_phraseEnd_0 {g : am_G} {t : Nat} {Q : am_R → Prop} {x1 : Int32}
    (h : am_GQ (88, 2, [(0, .ref 9), (1, .int x1), (2, .int x1)], [], g, t) Q) :
    am_GQ (88, 0, [(0, .ref 9), (1, .int x1)], [], g, t) Q := am_wp_ok [2] 2 h
theorem B_Text_phraseEnd_2 {g : am_G} {t : Nat} {Q : am_R → Prop} {x1 : Int32} {x2 : Int32}
    (h : ((g 9 1) ≤ x2 → Q (.inl (some (.int x2)), g, t)) ∧ (x2 < (g 9 1) → am_GQ (87, 0, [(0, .ref 9), (1, .int x2)], [], g, t) (am_af 88 12 [(0, .ref 9), (1, .int x1), (2, .int x2)] [] Q))) :
    am_GQ (88, 2, [(0, .ref 9), (1, .int x1), (2, .int x2)], [], g, t) Q := am_wp_ok [2] 7 h
theorem B_Text_phraseEnd_15 {g : am_G} {t : Nat} {Q : am_R → Prop} {x1 : Int32} {x2 : Int32} {s0 : Int32}
    (h : (s0 ≤ (Int32.ofNat 0) → Q (.inl (some (.int x2)), g, t)) ∧ ((Int32.ofNat 0) < s0 → am_GQ (87, 0, [(0, .ref 9), (1, .int x2)], [], g, t) (am_af 88 21 [(0, .ref 9), (1, .int x1), (2, .int x2)] [.int x2] Q))) :
    am_GQ (88, 15, [(0, .ref 9), (1, .int x1), (2, .int x2)], [.int s0], g, t) Q := am_wp_ok [2] 5 h
theorem B_Text_phraseEnd_24 {g : am_G} {t : Nat} {Q : am_R → Prop} {x1 : Int32} {x2 : Int32} {s0 : Int32} {s1 : Int32}
    (h : am_GQ (88, 2, [(0, .ref 9), (1, .int x1), (2, .int (s1 + s0))], [], g, t) Q) :
    am_GQ (88, 24, [(0, .ref 9), (1, .int x1), (2, .int x2)], [.int s0, .int s1], g, t) Q := am_wp_ok [2] 3 h
theorem B_Text_size_0 {g : am_G} {t : Nat} {Q : am_R → Prop}
    (h : Q (.inl (some (.int (g 9 1))), g, t)) :
    am_GQ (89, 0, [(0, .ref 9)], [], g, t) Q := am_wp_ok [] 3 h
end
section
theorem B_L_make_0 {g : am_G} {t : Nat} {Q : am_R → Prop} {x1 : Int32}
    (h : am_GQ (10, 0, [(0, .ref 8), (1, .int x1)], [], g, t) (am_af 90 4 [(0, .ref 8), (1, .int x1), (2, .ref 53)] [.int (Int32.ofNat 0), .ref 53] Q)) :
    am_GQ (90, 0, [(0, .ref 8), (1, .int x1), (2, .ref 53)], [], g, t) Q := am_wp_ok [] 5 h
theorem B_L_make_7 {g : am_G} {t : Nat} {Q : am_R → Prop} {x1 : Int32} {s0 : Int32} {s1 : Int32}
    (h : am_chk (am_in s1 1 && decide ((Int32.toInt64 s0) = (Int64.toInt32 (Int32.toInt64 s0)).toInt64)) (Q (.inl (some (.int (Int32.ofNat 0))), (am_w g 53 (Int32.toNatClampNeg s1) (Int64.toInt32 (Int32.toInt64 s0))), t + 1))) :
    am_GQ (90, 7, [(0, .ref 8), (1, .int x1), (2, .ref 53)], [.int s0, .int s1, .ref 53], g, t) Q := am_wp_ok [] 5 h
theorem B_L_make_13 {g : am_G} {t : Nat} {Q : am_R → Prop} {x1 : Int32}
    (h : Q (.inl (some (.int (Int32.ofNat 1))), g, t + 1)) :
    am_GQ (90, 13, [(0, .ref 8), (1, .int x1), (2, .ref 53)], [], g, t) Q := am_wp_ok [] 2 h
theorem B_L_make_16 {g : am_G} {t : Nat} {Q : am_R → Prop} {x1 : Int32}
    (h : Q (.inl (some (.int (Int32.ofNat 2))), g, t + 1)) :
    am_GQ (90, 16, [(0, .ref 8), (1, .int x1), (2, .ref 53)], [], g, t) Q := am_wp_ok [] 2 h
theorem B_L_make_19 {g : am_G} {t : Nat} {Q : am_R → Prop} {x1 : Int32}
    (h : Q (.inl (some (.int (Int32.ofNat 3))), g, t + 1)) :
    am_GQ (90, 19, [(0, .ref 8), (1, .int x1), (2, .ref 53)], [], g, t) Q := am_wp_ok [] 2 h
theorem B_L_make_22 {g : am_G} {t : Nat} {Q : am_R → Prop} {x1 : Int32}
    (h : Q (.inl (some (.int (Int32.ofNat 4))), g, t + 1)) :
    am_GQ (90, 22, [(0, .ref 8), (1, .int x1), (2, .ref 53)], [], g, t) Q := am_wp_ok [] 2 h
theorem B_L_read_0 {g : am_G} {t : Nat} {Q : am_R → Prop}
    (h : am_GQ (12, 0, [(0, .ref 8)], [], g, t) (am_af 91 3 [(0, .ref 8), (1, .ref 53)] [.int (Int32.ofNat 0), .ref 53] Q)) :
    am_GQ (91, 0, [(0, .ref 8), (1, .ref 53)], [], g, t) Q := am_wp_ok [] 4 h
theorem B_L_read_6 {g : am_G} {t : Nat} {Q : am_R → Prop} {s0 : Int32} {s1 : Int32}
    (h : am_chk (am_in s1 1 && decide ((Int32.toInt64 s0) = (Int64.toInt32 (Int32.toInt64 s0)).toInt64)) (Q (.inl (some (.int (Int32.ofNat 0))), (am_w g 53 (Int32.toNatClampNeg s1) (Int64.toInt32 (Int32.toInt64 s0))), t + 1))) :
    am_GQ (91, 6, [(0, .ref 8), (1, .ref 53)], [.int s0, .int s1, .ref 53], g, t) Q := am_wp_ok [] 5 h
theorem B_L_read_12 {g : am_G} {t : Nat} {Q : am_R → Prop}
    (h : Q (.inl (some (.int (Int32.ofNat 1))), g, t + 1)) :
    am_GQ (91, 12, [(0, .ref 8), (1, .ref 53)], [], g, t) Q := am_wp_ok [] 2 h
theorem B_L_read_15 {g : am_G} {t : Nat} {Q : am_R → Prop}
    (h : Q (.inl (some (.int (Int32.ofNat 2))), g, t + 1)) :
    am_GQ (91, 15, [(0, .ref 8), (1, .ref 53)], [], g, t) Q := am_wp_ok [] 2 h
theorem B_L_read_18 {g : am_G} {t : Nat} {Q : am_R → Prop}
    (h : Q (.inl (some (.int (Int32.ofNat 3))), g, t + 1)) :
    am_GQ (91, 18, [(0, .ref 8), (1, .ref 53)], [], g, t) Q := am_wp_ok [] 2 h
theorem B_M_at_0 {g : am_G} {t : Nat} {Q : am_R → Prop} {x1 : Int32} {x2 : Int32}
    (h : (x2 ≤ x1 → Q (.inl (some (.int (-1))), g, t)) ∧ (x1 < x2 → am_chk (am_in x1 240) (Q (.inl (some (.int (g 33 (Int32.toNatClampNeg x1)))), g, t)))) :
    am_GQ (92, 0, [(0, .ref 32), (1, .int x1), (2, .int x2)], [], g, t) Q := am_wp_ok [] 9 h
theorem B_M_colon_0 {g : am_G} {t : Nat} {Q : am_R → Prop} {x1 : Int32} {x2 : Int32}
    (h : am_GQ (93, 2, [(0, .ref 32), (1, .int x1), (2, .int x2), (3, .int x1)], [], g, t) Q) :
    am_GQ (93, 0, [(0, .ref 32), (1, .int x1), (2, .int x2)], [], g, t) Q := am_wp_ok [2] 2 h
theorem B_M_colon_2 {g : am_G} {t : Nat} {Q : am_R → Prop} {x1 : Int32} {x2 : Int32} {x3 : Int32}
    (h : (x2 ≤ x3 → Q (.inl (some (.int x3)), g, t)) ∧ (x3 < x2 → am_chk (am_in x3 240) (((g 33 (Int32.toNatClampNeg x3)) = (Int32.ofNat 58) → Q (.inl (some (.int x3)), g, t)) ∧ (¬ (g 33 (Int32.toNatClampNeg x3)) = (Int32.ofNat 58) → am_GQ (93, 2, [(0, .ref 32), (1, .int x1), (2, .int x2), (3, .int (x3 + (Int32.ofNat 1)))], [], g, t) Q)))) :
    am_GQ (93, 2, [(0, .ref 32), (1, .int x1), (2, .int x2), (3, .int x3)], [], g, t) Q := am_wp_ok [2] 11 h
theorem B_M_erase_0 {g : am_G} {t : Nat} {Q : am_R → Prop}
    (h : Q (.inl (some (.int ((am_w g 32 2 (Int32.ofNat 0)) 32 1))), (am_w (am_w g 32 2 (Int32.ofNat 0)) 32 1 (Int32.ofNat 0)), t)) :
    am_GQ (94, 0, [(0, .ref 32)], [], g, t) Q := am_wp_ok [] 11 h
theorem B_M_fail_0 {g : am_G} {t : Nat} {Q : am_R → Prop} {x1 : Int32} {x2 : Int32}
    (h : Q (.inl (some (.int (Int32.ofNat 0))), (am_w (am_w g 32 2 x1) 32 3 x2), t)) :
    am_GQ (95, 0, [(0, .ref 32), (1, .int x1), (2, .int x2)], [], g, t) Q := am_wp_ok [] 8 h
theorem B_M_fault_0 {g : am_G} {t : Nat} {Q : am_R → Prop}
    (h : Q (.inl (some (.int ((am_w g 32 2 (Int32.ofNat 0)) 32 3))), (am_w g 32 2 (Int32.ofNat 0)), t)) :
    am_GQ (96, 0, [(0, .ref 32)], [], g, t) Q := am_wp_ok [] 6 h
theorem B_M_first_0 {g : am_G} {t : Nat} {Q : am_R → Prop} {x1 : Int32}
    (h : am_GQ (97, 2, [(0, .ref 32), (1, .int x1), (2, .int (Int32.ofNat 0))], [], g, t) Q) :
    am_GQ (97, 0, [(0, .ref 32), (1, .int x1)], [], g, t) Q := am_wp_ok [2, 50] 2 h
theorem B_M_first_2 {g : am_G} {t : Nat} {Q : am_R → Prop} {x1 : Int32} {x2 : Int32}
    (h : ((g 32 20) ≤ x2 → Q (.inl (some (.int (-1))), g, t)) ∧ (x2 < (g 32 20) → am_chk (am_in x2 32) (am_chk (decide (¬ (Int32.ofNat 4) = Int32.ofNat 0)) (am_chk (decide (¬ (Int32.ofNat 4) = Int32.ofNat 0)) ((¬ ((g 46 (Int32.toNatClampNeg x2)) / (Int32.ofNat 4)) = (x1 - x1 / (Int32.ofNat 4) * (Int32.ofNat 4)) → am_GQ (97, 50, [(0, .ref 32), (1, .int x1), (2, .int x2)], [], g, t) Q) ∧ (((g 46 (Int32.toNatClampNeg x2)) / (Int32.ofNat 4)) = (x1 - x1 / (Int32.ofNat 4) * (Int32.ofNat 4)) → am_chk (decide (¬ (Int32.ofNat 4) = Int32.ofNat 0)) (am_chk (am_in x2 32) (am_chk (decide (¬ (Int32.ofNat 4) = Int32.ofNat 0)) (am_GQ (99, 0, [(0, .int (g 32 22)), (1, .int (((x1 / (Int32.ofNat 4)) * (Int32.ofNat 4)) + ((g 46 (Int32.toNatClampNeg x2)) - (g 46 (Int32.toNatClampNeg x2)) / (Int32.ofNat 4) * (Int32.ofNat 4))))], [], g, t) (am_af 97 42 [(0, .ref 32), (1, .int x1), (2, .int x2)] [] Q)))))))))) :
    am_GQ (97, 2, [(0, .ref 32), (1, .int x1), (2, .int x2)], [], g, t) Q := am_wp_ok [2, 50] 29 h
theorem B_M_first_50 {g : am_G} {t : Nat} {Q : am_R → Prop} {x1 : Int32} {x2 : Int32}
    (h : am_GQ (97, 2, [(0, .ref 32), (1, .int x1), (2, .int (x2 + (Int32.ofNat 1)))], [], g, t) Q) :
    am_GQ (97, 50, [(0, .ref 32), (1, .int x1), (2, .int x2)], [], g, t) Q := am_wp_ok [2, 50] 2 h
theorem B_M_first_45 {g : am_G} {t : Nat} {Q : am_R → Prop} {x1 : Int32} {x2 : Int32} {s0 : Int32}
    (h : (s0 = (Int32.ofNat 0) → am_GQ (97, 50, [(0, .ref 32), (1, .int x1), (2, .int x2)], [], g, t) Q) ∧ (¬ s0 = (Int32.ofNat 0) → Q (.inl (some (.int x2)), g, t))) :
    am_GQ (97, 45, [(0, .ref 32), (1, .int x1), (2, .int x2)], [.int s0], g, t) Q := am_wp_ok [2, 50] 3 h
theorem B_M_graph_0 {g : am_G} {t : Nat} {Q : am_R → Prop}
    (h : am_GQ (98, 10, [(0, .ref 32), (1, .int (Int32.ofNat 0))], [], (am_w g 32 22 (g 32 18)), t) Q) :
    am_GQ (98, 0, [(0, .ref 32)], [], g, t) Q := am_wp_ok [10, 37, 45, 53, 79, 101, 187, 195, 221, 229, 245, 276] 6 h
theorem B_M_graph_10 {g : am_G} {t : Nat} {Q : am_R → Prop} {x1 : Int32}
    (h : ((Int32.ofNat 32) ≤ x1 → am_GQ (98, 45, [(0, .ref 32), (1, .int (Int32.ofNat 0))], [], g, t) Q) ∧ (x1 < (Int32.ofNat 32) → am_chk (am_in x1 32) (((g 47 (Int32.toNatClampNeg x1)) = (Int32.ofNat 0) → am_GQ (98, 37, [(0, .ref 32), (1, .int x1)], [], g, t) Q) ∧ (¬ (g 47 (Int32.toNatClampNeg x1)) = (Int32.ofNat 0) → am_GQ (98, 37, [(0, .ref 32), (1, .int x1)], [], (am_w g 32 22 ((g 32 22) ||| ((Int32.ofNat 1) <<< (x1 &&& Int32.ofNat 31)))), t) Q)))) :
    am_GQ (98, 10, [(0, .ref 32), (1, .int x1)], [], g, t) Q := am_wp_ok [10, 37, 45, 53, 79, 101, 187, 195, 221, 229, 245, 276] 16 h
theorem B_M_graph_45 {g : am_G} {t : Nat} {Q : am_R → Prop} {x1 : Int32}
    (h : ((Int32.ofNat 32) ≤ x1 → am_GQ (98, 101, [(0, .ref 32), (1, .int (Int32.ofNat 0))], [], (am_w g 32 23 (g 32 18)), t) Q) ∧ (x1 < (Int32.ofNat 32) → am_GQ (98, 53, [(0, .ref 32), (1, .int x1), (2, .int (Int32.ofNat 0))], [], g, t) Q)) :
    am_GQ (98, 45, [(0, .ref 32), (1, .int x1)], [], g, t) Q := am_wp_ok [10, 37, 45, 53, 79, 101, 187, 195, 221, 229, 245, 276] 9 h
theorem B_M_graph_37 {g : am_G} {t : Nat} {Q : am_R → Prop} {x1 : Int32}
    (h : am_GQ (98, 10, [(0, .ref 32), (1, .int (x1 + (Int32.ofNat 1)))], [], g, t) Q) :
    am_GQ (98, 37, [(0, .ref 32), (1, .int x1)], [], g, t) Q := am_wp_ok [10, 37, 45, 53, 79, 101, 187, 195, 221, 229, 245, 276] 2 h
theorem B_M_graph_101 {g : am_G} {t : Nat} {Q : am_R → Prop} {x1 : Int32}
    (h : ((Int32.ofNat 32) ≤ x1 → am_GQ (98, 195, [(0, .ref 32), (1, .int (Int32.ofNat 0))], [], g, t) Q) ∧ (x1 < (Int32.ofNat 32) → am_chk (am_in x1 32) (am_chk (am_in x1 32) (am_GQ (99, 0, [(0, .int ((am_w g 48 (Int32.toNatClampNeg x1) (g 45 (Int32.toNatClampNeg x1))) 32 18)), (1, .int x1)], [], (am_w g 48 (Int32.toNatClampNeg x1) (g 45 (Int32.toNatClampNeg x1))), t) (am_af 98 124 [(0, .ref 32), (1, .int x1)] [] Q))))) :
    am_GQ (98, 101, [(0, .ref 32), (1, .int x1)], [], g, t) Q := am_wp_ok [10, 37, 45, 53, 79, 101, 187, 195, 221, 229, 245, 276] 15 h
theorem B_M_graph_53 {g : am_G} {t : Nat} {Q : am_R → Prop} {x1 : Int32} {x2 : Int32}
    (h : ((Int32.ofNat 32) ≤ x2 → am_GQ (98, 45, [(0, .ref 32), (1, .int (x1 + (Int32.ofNat 1)))], [], g, t) Q) ∧ (x2 < (Int32.ofNat 32) → am_GQ (97, 0, [(0, .ref 32), (1, .int x2)], [], g, t) (am_af 98 61 [(0, .ref 32), (1, .int x1), (2, .int x2)] [] Q))) :
    am_GQ (98, 53, [(0, .ref 32), (1, .int x1), (2, .int x2)], [], g, t) Q := am_wp_ok [10, 37, 45, 53, 79, 101, 187, 195, 221, 229, 245, 276] 6 h
theorem B_M_graph_195 {g : am_G} {t : Nat} {Q : am_R → Prop} {x1 : Int32}
    (h : ((Int32.ofNat 32) ≤ x1 → am_GQ (98, 221, [(0, .ref 32), (1, .int (Int32.ofNat 0))], [], g, t) Q) ∧ (x1 < (Int32.ofNat 32) → am_chk (am_in x1 32) (am_chk (am_in x1 32) (am_GQ (98, 195, [(0, .ref 32), (1, .int (x1 + (Int32.ofNat 1)))], [], (am_w g 49 (Int32.toNatClampNeg x1) (g 48 (Int32.toNatClampNeg x1))), t) Q)))) :
    am_GQ (98, 195, [(0, .ref 32), (1, .int x1)], [], g, t) Q := am_wp_ok [10, 37, 45, 53, 79, 101, 187, 195, 221, 229, 245, 276] 13 h
theorem B_M_graph_127 {g : am_G} {t : Nat} {Q : am_R → Prop} {x1 : Int32} {s0 : Int32}
    (h : (s0 = (Int32.ofNat 0) → am_GQ (97, 0, [(0, .ref 32), (1, .int x1)], [], g, t) (am_af 98 135 [(0, .ref 32), (1, .int x1)] [] Q)) ∧ (¬ s0 = (Int32.ofNat 0) → am_GQ (98, 187, [(0, .ref 32), (1, .int x1)], [], g, t) Q)) :
    am_GQ (98, 127, [(0, .ref 32), (1, .int x1)], [.int s0], g, t) Q := am_wp_ok [10, 37, 45, 53, 79, 101, 187, 195, 221, 229, 245, 276] 4 h
theorem B_M_graph_64 {g : am_G} {t : Nat} {Q : am_R → Prop} {x1 : Int32} {x2 : Int32} {s0 : Int32}
    (h : (s0 < (Int32.ofNat 0) → am_GQ (98, 79, [(0, .ref 32), (1, .int x1), (2, .int x2)], [], g, t) Q) ∧ ((Int32.ofNat 0) ≤ s0 → am_GQ (98, 79, [(0, .ref 32), (1, .int x1), (2, .int x2)], [], (am_w g 32 22 ((g 32 22) ||| ((Int32.ofNat 1) <<< (x2 &&& Int32.ofNat 31)))), t) Q)) :
    am_GQ (98, 64, [(0, .ref 32), (1, .int x1), (2, .int x2)], [.int s0], g, t) Q := am_wp_ok [10, 37, 45, 53, 79, 101, 187, 195, 221, 229, 245, 276] 9 h
theorem B_M_graph_221 {g : am_G} {t : Nat} {Q : am_R → Prop} {x1 : Int32}
    (h : ((Int32.ofNat 32) ≤ x1 → Q (.inl none, g, t)) ∧ (x1 < (Int32.ofNat 32) → am_GQ (98, 229, [(0, .ref 32), (1, .int x1), (2, .int (Int32.ofNat 0))], [], g, t) Q)) :
    am_GQ (98, 221, [(0, .ref 32), (1, .int x1)], [], g, t) Q := am_wp_ok [10, 37, 45, 53, 79, 101, 187, 195, 221, 229, 245, 276] 5 h
theorem B_M_graph_138 {g : am_G} {t : Nat} {Q : am_R → Prop} {x1 : Int32} {s0 : Int32}
    (h : ((Int32.ofNat 0) ≤ s0 → am_chk (am_in x1 32) (am_chk (decide (¬ (Int32.ofNat 4) = Int32.ofNat 0)) (am_chk (am_in s0 32) (am_chk (decide (¬ (Int32.ofNat 4) = Int32.ofNat 0)) (am_chk (am_in x1 32) (am_GQ (98, 187, [(0, .ref 32), (1, .int x1)], [], (am_w (am_w g 32 23 ((g 32 23) ||| ((Int32.ofNat 1) <<< (x1 &&& Int32.ofNat 31)))) 48 (Int32.toNatClampNeg x1) (((am_w g 32 23 ((g 32 23) ||| ((Int32.ofNat 1) <<< (x1 &&& Int32.ofNat 31)))) 48 (Int32.toNatClampNeg x1)) ||| ((Int32.ofNat 1) <<< ((((x1 / (Int32.ofNat 4)) * (Int32.ofNat 4)) + (((am_w g 32 23 ((g 32 23) ||| ((Int32.ofNat 1) <<< (x1 &&& Int32.ofNat 31)))) 46 (Int32.toNatClampNeg s0)) - ((am_w g 32 23 ((g 32 23) ||| ((Int32.ofNat 1) <<< (x1 &&& Int32.ofNat 31)))) 46 (Int32.toNatClampNeg s0)) / (Int32.ofNat 4) * (Int32.ofNat 4))) &&& Int32.ofNat 31)))), t) Q)))))) ∧ (s0 < (Int32.ofNat 0) → am_GQ (98, 187, [(0, .ref 32), (1, .int x1)], [], g, t) Q)) :
    am_GQ (98, 138, [(0, .ref 32), (1, .int x1)], [.int s0], g, t) Q := am_wp_ok [10, 37, 45, 53, 79, 101, 187, 195, 221, 229, 245, 276] 34 h
theorem B_M_graph_187 {g : am_G} {t : Nat} {Q : am_R → Prop} {x1 : Int32}
    (h : am_GQ (98, 101, [(0, .ref 32), (1, .int (x1 + (Int32.ofNat 1)))], [], g, t) Q) :
    am_GQ (98, 187, [(0, .ref 32), (1, .int x1)], [], g, t) Q := am_wp_ok [10, 37, 45, 53, 79, 101, 187, 195, 221, 229, 245, 276] 2 h
theorem B_M_graph_79 {g : am_G} {t : Nat} {Q : am_R → Prop} {x1 : Int32} {x2 : Int32}
    (h : am_GQ (98, 53, [(0, .ref 32), (1, .int x1), (2, .int (x2 + (Int32.ofNat 1)))], [], g, t) Q) :
    am_GQ (98, 79, [(0, .ref 32), (1, .int x1), (2, .int x2)], [], g, t) Q := am_wp_ok [10, 37, 45, 53, 79, 101, 187, 195, 221, 229, 245, 276] 2 h
theorem B_M_graph_229 {g : am_G} {t : Nat} {Q : am_R → Prop} {x1 : Int32} {x2 : Int32}
    (h : ((Int32.ofNat 32) ≤ x2 → am_GQ (98, 221, [(0, .ref 32), (1, .int (x1 + (Int32.ofNat 1)))], [], g, t) Q) ∧ (x2 < (Int32.ofNat 32) → am_chk (am_in x2 32) (am_GQ (98, 245, [(0, .ref 32), (1, .int x1), (2, .int x2), (3, .int (g 49 (Int32.toNatClampNeg x2))), (4, .int (Int32.ofNat 0))], [], g, t) Q))) :
    am_GQ (98, 229, [(0, .ref 32), (1, .int x1), (2, .int x2)], [], g, t) Q := am_wp_ok [10, 37, 45, 53, 79, 101, 187, 195, 221, 229, 245, 276] 10 h
theorem B_M_graph_245 {g : am_G} {t : Nat} {Q : am_R → Prop} {x1 : Int32} {x2 : Int32} {x3 : Int32} {x4 : Int32}
    (h : ((Int32.ofNat 32) ≤ x4 → am_chk (am_in x2 32) (am_GQ (98, 229, [(0, .ref 32), (1, .int x1), (2, .int (x2 + (Int32.ofNat 1)))], [], (am_w g 49 (Int32.toNatClampNeg x2) x3), t) Q)) ∧ (x4 < (Int32.ofNat 32) → am_chk (am_in x2 32) (am_GQ (99, 0, [(0, .int (g 49 (Int32.toNatClampNeg x2))), (1, .int x4)], [], g, t) (am_af 98 260 [(0, .ref 32), (1, .int x1), (2, .int x2), (3, .int x3), (4, .int x4)] [] Q)))) :
    am_GQ (98, 245, [(0, .ref 32), (1, .int x1), (2, .int x2), (3, .int x3), (4, .int x4)], [], g, t) Q := am_wp_ok [10, 37, 45, 53, 79, 101, 187, 195, 221, 229, 245, 276] 10 h
theorem B_M_graph_263 {g : am_G} {t : Nat} {Q : am_R → Prop} {x1 : Int32} {x2 : Int32} {x3 : Int32} {x4 : Int32} {s0 : Int32}
    (h : (s0 = (Int32.ofNat 0) → am_GQ (98, 276, [(0, .ref 32), (1, .int x1), (2, .int x2), (3, .int x3), (4, .int x4)], [], g, t) Q) ∧ (¬ s0 = (Int32.ofNat 0) → am_chk (am_in x4 32) (am_GQ (98, 276, [(0, .ref 32), (1, .int x1), (2, .int x2), (3, .int (x3 ||| (g 48 (Int32.toNatClampNeg x4)))), (4, .int x4)], [], g, t) Q))) :
    am_GQ (98, 263, [(0, .ref 32), (1, .int x1), (2, .int x2), (3, .int x3), (4, .int x4)], [.int s0], g, t) Q := am_wp_ok [10, 37, 45, 53, 79, 101, 187, 195, 221, 229, 245, 276] 8 h
theorem B_M_graph_276 {g : am_G} {t : Nat} {Q : am_R → Prop} {x1 : Int32} {x2 : Int32} {x3 : Int32} {x4 : Int32}
    (h : am_GQ (98, 245, [(0, .ref 32), (1, .int x1), (2, .int x2), (3, .int x3), (4, .int (x4 + (Int32.ofNat 1)))], [], g, t) Q) :
    am_GQ (98, 276, [(0, .ref 32), (1, .int x1), (2, .int x2), (3, .int x3), (4, .int x4)], [], g, t) Q := am_wp_ok [10, 37, 45, 53, 79, 101, 187, 195, 221, 229, 245, 276] 2 h
theorem B_M_has_0 {g : am_G} {t : Nat} {Q : am_R → Prop} {x0 : Int32} {x1 : Int32}
    (h : (¬ ((x0 >>> (x1 &&& Int32.ofNat 31)) &&& (Int32.ofNat 1)) = (Int32.ofNat 1) → am_chk (am_isb (Int32.ofNat 0)) (Q (.inl (some (.int (Int32.ofNat 0))), g, t))) ∧ (((x0 >>> (x1 &&& Int32.ofNat 31)) &&& (Int32.ofNat 1)) = (Int32.ofNat 1) → am_chk (am_isb (Int32.ofNat 1)) (Q (.inl (some (.int (Int32.ofNat 1))), g, t)))) :
    am_GQ (99, 0, [(0, .int x0), (1, .int x1)], [], g, t) Q := am_wp_ok [] 10 h
theorem B_M_kind_0 {g : am_G} {t : Nat} {Q : am_R → Prop} {x1 : Int32} {x2 : Int32}
    (h : am_GQ (113, 0, [(0, .ref 32), (1, .int x1), (2, .int x2)], [], g, t) (am_af 100 3 [(0, .ref 32), (1, .int x1), (2, .int x2)] [] Q)) :
    am_GQ (100, 0, [(0, .ref 32), (1, .int x1), (2, .int x2)], [], g, t) Q := am_wp_ok [106] 4 h
theorem B_M_kind_6 {g : am_G} {t : Nat} {Q : am_R → Prop} {x1 : Int32} {x2 : Int32} {s0 : Int32}
    (h : (s0 = (Int32.ofNat 0) → am_chk (am_in x1 240) ((¬ (g 33 (Int32.toNatClampNeg x1)) = (Int32.ofNat 9) → (¬ (x2 - x1) = (Int32.ofNat 5) → am_GQ (100, 106, [(0, .ref 32), (1, .int x1), (2, .int x2)], [], g, t) Q) ∧ ((x2 - x1) = (Int32.ofNat 5) → am_chk (am_in x1 240) ((¬ (g 33 (Int32.toNatClampNeg x1)) = (Int32.ofNat 37) → am_GQ (100, 106, [(0, .ref 32), (1, .int x1), (2, .int x2)], [], g, t) Q) ∧ ((g 33 (Int32.toNatClampNeg x1)) = (Int32.ofNat 37) → am_chk (am_in (x1 + (Int32.ofNat 1)) 240) (am_GQ (118, 0, [(0, .int (g 33 (Int32.toNatClampNeg (x1 + (Int32.ofNat 1))))), (1, .int (Int32.ofNat 48)), (2, .int (Int32.ofNat 51))], [], g, t) (am_af 100 54 [(0, .ref 32), (1, .int x1), (2, .int x2)] [] Q)))))) ∧ ((g 33 (Int32.toNatClampNeg x1)) = (Int32.ofNat 9) → Q (.inl (some (.int (Int32.ofNat 5))), g, t)))) ∧ (¬ s0 = (Int32.ofNat 0) → Q (.inl (some (.int (Int32.ofNat 1))), g, t))) :
    am_GQ (100, 6, [(0, .ref 32), (1, .int x1), (2, .int x2)], [.int s0], g, t) Q := am_wp_ok [106] 27 h
theorem B_M_kind_106 {g : am_G} {t : Nat} {Q : am_R → Prop} {x1 : Int32} {x2 : Int32}
    (h : am_chk (am_in x1 240) (am_GQ (118, 0, [(0, .int (g 33 (Int32.toNatClampNeg x1))), (1, .int (Int32.ofNat 65)), (2, .int (Int32.ofNat 90))], [], g, t) (am_af 100 116 [(0, .ref 32), (1, .int x1), (2, .int x2)] [] Q))) :
    am_GQ (100, 106, [(0, .ref 32), (1, .int x1), (2, .int x2)], [], g, t) Q := am_wp_ok [106] 7 h
theorem B_M_kind_57 {g : am_G} {t : Nat} {Q : am_R → Prop} {x1 : Int32} {x2 : Int32} {s0 : Int32}
    (h : (s0 = (Int32.ofNat 0) → am_GQ (100, 106, [(0, .ref 32), (1, .int x1), (2, .int x2)], [], g, t) Q) ∧ (¬ s0 = (Int32.ofNat 0) → am_chk (am_in (x1 + (Int32.ofNat 2)) 240) ((¬ (g 33 (Int32.toNatClampNeg (x1 + (Int32.ofNat 2)))) = (Int32.ofNat 58) → am_GQ (100, 106, [(0, .ref 32), (1, .int x1), (2, .int x2)], [], g, t) Q) ∧ ((g 33 (Int32.toNatClampNeg (x1 + (Int32.ofNat 2)))) = (Int32.ofNat 58) → am_chk (am_in (x1 + (Int32.ofNat 3)) 240) ((¬ (g 33 (Int32.toNatClampNeg (x1 + (Int32.ofNat 3)))) = (Int32.ofNat 37) → am_GQ (100, 106, [(0, .ref 32), (1, .int x1), (2, .int x2)], [], g, t) Q) ∧ ((g 33 (Int32.toNatClampNeg (x1 + (Int32.ofNat 3)))) = (Int32.ofNat 37) → am_chk (am_in (x1 + (Int32.ofNat 4)) 240) (am_GQ (118, 0, [(0, .int (g 33 (Int32.toNatClampNeg (x1 + (Int32.ofNat 4))))), (1, .int (Int32.ofNat 48)), (2, .int (Int32.ofNat 51))], [], g, t) (am_af 100 98 [(0, .ref 32), (1, .int x1), (2, .int x2)] [] Q)))))))) :
    am_GQ (100, 57, [(0, .ref 32), (1, .int x1), (2, .int x2)], [.int s0], g, t) Q := am_wp_ok [106] 26 h
theorem B_M_kind_119 {g : am_G} {t : Nat} {Q : am_R → Prop} {x1 : Int32} {x2 : Int32} {s0 : Int32}
    (h : (s0 = (Int32.ofNat 0) → am_GQ (93, 0, [(0, .ref 32), (1, .int x1), (2, .int x2)], [], g, t) (am_af 100 155 [(0, .ref 32), (1, .int x1), (2, .int x2)] [] Q)) ∧ (¬ s0 = (Int32.ofNat 0) → am_GQ (92, 0, [(0, .ref 32), (1, .int (x1 + (Int32.ofNat 1))), (2, .int x2)], [], g, t) (am_af 100 127 [(0, .ref 32), (1, .int x1), (2, .int x2)] [] Q))) :
    am_GQ (100, 119, [(0, .ref 32), (1, .int x1), (2, .int x2)], [.int s0], g, t) Q := am_wp_ok [106] 7 h
theorem B_M_kind_101 {g : am_G} {t : Nat} {Q : am_R → Prop} {x1 : Int32} {x2 : Int32} {s0 : Int32}
    (h : (s0 = (Int32.ofNat 0) → am_GQ (100, 106, [(0, .ref 32), (1, .int x1), (2, .int x2)], [], g, t) Q) ∧ (¬ s0 = (Int32.ofNat 0) → Q (.inl (some (.int (Int32.ofNat 4))), g, t))) :
    am_GQ (100, 101, [(0, .ref 32), (1, .int x1), (2, .int x2)], [.int s0], g, t) Q := am_wp_ok [106] 3 h
theorem B_M_kind_158 {g : am_G} {t : Nat} {Q : am_R → Prop} {x1 : Int32} {x2 : Int32} {s0 : Int32}
    (h : (s0 = x2 → Q (.inl (some (.int (Int32.ofNat 0))), g, t)) ∧ (¬ s0 = x2 → am_GQ (113, 0, [(0, .ref 32), (1, .int x1), (2, .int s0)], [], g, t) (am_af 100 167 [(0, .ref 32), (1, .int x1), (2, .int x2), (3, .int s0)] [] Q))) :
    am_GQ (100, 158, [(0, .ref 32), (1, .int x1), (2, .int x2)], [.int s0], g, t) Q := am_wp_ok [106] 8 h
theorem B_M_kind_130 {g : am_G} {t : Nat} {Q : am_R → Prop} {x1 : Int32} {x2 : Int32} {s0 : Int32}
    (h : (¬ s0 = (Int32.ofNat 61) → Q (.inl (some (.int (Int32.ofNat 0))), g, t)) ∧ (s0 = (Int32.ofNat 61) → am_GQ (111, 0, [(0, .ref 32), (1, .int (x1 + (Int32.ofNat 2))), (2, .int x2)], [], g, t) (am_af 100 140 [(0, .ref 32), (1, .int x1), (2, .int x2)] [] Q))) :
    am_GQ (100, 130, [(0, .ref 32), (1, .int x1), (2, .int x2)], [.int s0], g, t) Q := am_wp_ok [106] 8 h
theorem B_M_kind_170 {g : am_G} {t : Nat} {Q : am_R → Prop} {x1 : Int32} {x2 : Int32} {x3 : Int32} {s0 : Int32}
    (h : (s0 = (Int32.ofNat 0) → am_GQ (111, 0, [(0, .ref 32), (1, .int x1), (2, .int x3)], [], g, t) (am_af 100 178 [(0, .ref 32), (1, .int x1), (2, .int x2), (3, .int x3)] [] Q)) ∧ (¬ s0 = (Int32.ofNat 0) → Q (.inl (some (.int (Int32.ofNat 0))), g, t))) :
    am_GQ (100, 170, [(0, .ref 32), (1, .int x1), (2, .int x2), (3, .int x3)], [.int s0], g, t) Q := am_wp_ok [106] 5 h
theorem B_M_kind_143 {g : am_G} {t : Nat} {Q : am_R → Prop} {x1 : Int32} {x2 : Int32} {s0 : Int32}
    (h : (s0 = (Int32.ofNat 0) → Q (.inl (some (.int (Int32.ofNat 0))), g, t)) ∧ (¬ s0 = (Int32.ofNat 0) → Q (.inl (some (.int (Int32.ofNat 2))), g, t))) :
    am_GQ (100, 143, [(0, .ref 32), (1, .int x1), (2, .int x2)], [.int s0], g, t) Q := am_wp_ok [106] 4 h
theorem B_M_kind_181 {g : am_G} {t : Nat} {Q : am_R → Prop} {x1 : Int32} {x2 : Int32} {x3 : Int32} {s0 : Int32}
    (h : (s0 = (Int32.ofNat 0) → Q (.inl (some (.int (Int32.ofNat 0))), g, t)) ∧ (¬ s0 = (Int32.ofNat 0) → am_GQ (111, 0, [(0, .ref 32), (1, .int (x3 + (Int32.ofNat 1))), (2, .int x2)], [], g, t) (am_af 100 189 [(0, .ref 32), (1, .int x1), (2, .int x2), (3, .int x3)] [] Q))) :
    am_GQ (100, 181, [(0, .ref 32), (1, .int x1), (2, .int x2), (3, .int x3)], [.int s0], g, t) Q := am_wp_ok [106] 7 h
theorem B_M_kind_192 {g : am_G} {t : Nat} {Q : am_R → Prop} {x1 : Int32} {x2 : Int32} {x3 : Int32} {s0 : Int32}
    (h : (s0 = (Int32.ofNat 0) → Q (.inl (some (.int (Int32.ofNat 0))), g, t)) ∧ (¬ s0 = (Int32.ofNat 0) → Q (.inl (some (.int (Int32.ofNat 3))), g, t))) :
    am_GQ (100, 192, [(0, .ref 32), (1, .int x1), (2, .int x2), (3, .int x3)], [.int s0], g, t) Q := am_wp_ok [106] 4 h
theorem B_M_length_0 {g : am_G} {t : Nat} {Q : am_R → Prop}
    (h : Q (.inl (some (.int ((am_w g 32 2 (Int32.ofNat 0)) 32 1))), (am_w g 32 2 (Int32.ofNat 0)), t)) :
    am_GQ (101, 0, [(0, .ref 32)], [], g, t) Q := am_wp_ok [] 6 h
theorem B_M_lines_0 {g : am_G} {t : Nat} {Q : am_R → Prop}
    (h : am_GQ (102, 19, [(0, .ref 32), (1, .int (Int32.ofNat 0)), (2, .int (Int32.ofNat 0)), (3, .int (Int32.ofNat 0)), (4, .int (Int32.ofNat 0))], [], (am_w (am_w g 32 14 (Int32.ofNat 0)) 32 16 (Int32.ofNat 0)), t) Q) :
    am_GQ (102, 0, [(0, .ref 32)], [], g, t) Q := am_wp_ok [19, 59, 78, 105, 128, 146, 159, 182, 221, 294, 344, 358] 14 h
theorem B_M_lines_19 {g : am_G} {t : Nat} {Q : am_R → Prop} {x1 : Int32} {x2 : Int32} {x3 : Int32} {x4 : Int32}
    (h : ((Int32.ofNat 26) ≤ x4 → am_GQ (102, 59, [(0, .ref 32), (1, .int x1), (2, .int x2), (3, .int x3), (4, .int (Int32.ofNat 0))], [], g, t) Q) ∧ (x4 < (Int32.ofNat 26) → am_chk (am_in x4 26) (am_chk (am_in x4 26) (am_chk (am_in x4 26) (am_GQ (102, 19, [(0, .ref 32), (1, .int x1), (2, .int x2), (3, .int x3), (4, .int (x4 + (Int32.ofNat 1)))], [], (am_w (am_w (am_w g 34 (Int32.toNatClampNeg x4) (-1)) 37 (Int32.toNatClampNeg x4) (Int32.ofNat 0)) 38 (Int32.toNatClampNeg x4) (Int32.ofNat 0)), t) Q))))) :
    am_GQ (102, 19, [(0, .ref 32), (1, .int x1), (2, .int x2), (3, .int x3), (4, .int x4)], [], g, t) Q := am_wp_ok [19, 59, 78, 105, 128, 146, 159, 182, 221, 294, 344, 358] 20 h
theorem B_M_lines_59 {g : am_G} {t : Nat} {Q : am_R → Prop} {x1 : Int32} {x2 : Int32} {x3 : Int32} {x4 : Int32}
    (h : ((Int32.ofNat 241) ≤ x4 → am_GQ (102, 358, [(0, .ref 32), (1, .int x1), (2, .int x2), (3, .int x3)], [], g, t) Q) ∧ (x4 < (Int32.ofNat 241) → ((g 32 1) ≤ x1 → am_GQ (102, 358, [(0, .ref 32), (1, .int x1), (2, .int x2), (3, .int x3)], [], g, t) Q) ∧ (x1 < (g 32 1) → am_GQ (102, 78, [(0, .ref 32), (1, .int x1), (2, .int x2), (3, .int x3), (4, .int x4), (5, .int x1)], [], g, t) Q))) :
    am_GQ (102, 59, [(0, .ref 32), (1, .int x1), (2, .int x2), (3, .int x3), (4, .int x4)], [], g, t) Q := am_wp_ok [19, 59, 78, 105, 128, 146, 159, 182, 221, 294, 344, 358] 9 h
theorem B_M_lines_358 {g : am_G} {t : Nat} {Q : am_R → Prop} {x1 : Int32} {x2 : Int32} {x3 : Int32}
    (h : (¬ x3 = (Int32.ofNat 4) → Q (.inl (some (.int (Int32.ofNat 0))), g, t)) ∧ (x3 = (Int32.ofNat 4) → Q (.inl (some (.int x2)), g, t))) :
    am_GQ (102, 358, [(0, .ref 32), (1, .int x1), (2, .int x2), (3, .int x3)], [], g, t) Q := am_wp_ok [19, 59, 78, 105, 128, 146, 159, 182, 221, 294, 344, 358] 6 h
theorem B_M_lines_78 {g : am_G} {t : Nat} {Q : am_R → Prop} {x1 : Int32} {x2 : Int32} {x3 : Int32} {x4 : Int32} {x5 : Int32}
    (h : ((g 32 1) ≤ x5 → am_GQ (102, 105, [(0, .ref 32), (1, .int x1), (2, .int x2), (3, .int x3), (4, .int x4), (5, .int x5)], [], g, t) Q) ∧ (x5 < (g 32 1) → am_chk (am_in x5 240) (((g 33 (Int32.toNatClampNeg x5)) = (Int32.ofNat 10) → am_GQ (102, 105, [(0, .ref 32), (1, .int x1), (2, .int x2), (3, .int x3), (4, .int x4), (5, .int x5)], [], g, t) Q) ∧ (¬ (g 33 (Int32.toNatClampNeg x5)) = (Int32.ofNat 10) → am_GQ (102, 78, [(0, .ref 32), (1, .int x1), (2, .int x2), (3, .int x3), (4, .int x4), (5, .int (x5 + (Int32.ofNat 1)))], [], g, t) Q)))) :
    am_GQ (102, 78, [(0, .ref 32), (1, .int x1), (2, .int x2), (3, .int x3), (4, .int x4), (5, .int x5)], [], g, t) Q := am_wp_ok [19, 59, 78, 105, 128, 146, 159, 182, 221, 294, 344, 358] 12 h
theorem B_M_lines_105 {g : am_G} {t : Nat} {Q : am_R → Prop} {x1 : Int32} {x2 : Int32} {x3 : Int32} {x4 : Int32} {x5 : Int32}
    (h : (¬ x5 = (g 32 1) → am_GQ (100, 0, [(0, .ref 32), (1, .int x1), (2, .int x5)], [], g, t) (am_af 102 125 [(0, .ref 32), (1, .int x1), (2, .int (x2 + (Int32.ofNat 1))), (3, .int x3), (4, .int x4), (5, .int x5)] [] Q)) ∧ (x5 = (g 32 1) → am_GQ (102, 128, [(0, .ref 32), (1, .int x1), (2, .int (x2 + (Int32.ofNat 1))), (3, .int x3), (4, .int x4), (5, .int x5)], [.int (Int32.ofNat 0)], g, t) Q)) :
    am_GQ (102, 105, [(0, .ref 32), (1, .int x1), (2, .int x2), (3, .int x3), (4, .int x4), (5, .int x5)], [], g, t) Q := am_wp_ok [19, 59, 78, 105, 128, 146, 159, 182, 221, 294, 344, 358] 9 h
theorem B_M_lines_128 {g : am_G} {t : Nat} {Q : am_R → Prop} {x1 : Int32} {x2 : Int32} {x3 : Int32} {x4 : Int32} {x5 : Int32} {s0 : Int32}
    (h : (s0 = (Int32.ofNat 0) → Q (.inl (some (.int x2)), g, t)) ∧ (¬ s0 = (Int32.ofNat 0) → (¬ x3 = (Int32.ofNat 4) → am_GQ (102, 146, [(0, .ref 32), (1, .int x1), (2, .int x2), (3, .int x3), (4, .int x4), (5, .int x5), (6, .int s0)], [], g, t) Q) ∧ (x3 = (Int32.ofNat 4) → (¬ s0 = (Int32.ofNat 5) → Q (.inl (some (.int x2)), g, t)) ∧ (s0 = (Int32.ofNat 5) → am_GQ (102, 146, [(0, .ref 32), (1, .int x1), (2, .int x2), (3, .int x3), (4, .int x4), (5, .int x5), (6, .int s0)], [], g, t) Q)))) :
    am_GQ (102, 128, [(0, .ref 32), (1, .int x1), (2, .int x2), (3, .int x3), (4, .int x4), (5, .int x5)], [.int s0], g, t) Q := am_wp_ok [19, 59, 78, 105, 128, 146, 159, 182, 221, 294, 344, 358] 11 h
theorem B_M_lines_146 {g : am_G} {t : Nat} {Q : am_R → Prop} {x1 : Int32} {x2 : Int32} {x3 : Int32} {x4 : Int32} {x5 : Int32} {x6 : Int32}
    (h : (¬ x6 = (Int32.ofNat 5) → am_GQ (102, 159, [(0, .ref 32), (1, .int x1), (2, .int x2), (3, .int x3), (4, .int x4), (5, .int x5), (6, .int x6)], [], g, t) Q) ∧ (x6 = (Int32.ofNat 5) → ((Int32.ofNat 3) ≤ x3 → am_GQ (102, 159, [(0, .ref 32), (1, .int x1), (2, .int x2), (3, .int x3), (4, .int x4), (5, .int x5), (6, .int x6)], [], g, t) Q) ∧ (x3 < (Int32.ofNat 3) → Q (.inl (some (.int x2)), g, t)))) :
    am_GQ (102, 146, [(0, .ref 32), (1, .int x1), (2, .int x2), (3, .int x3), (4, .int x4), (5, .int x5), (6, .int x6)], [], g, t) Q := am_wp_ok [19, 59, 78, 105, 128, 146, 159, 182, 221, 294, 344, 358] 8 h
theorem B_M_lines_159 {g : am_G} {t : Nat} {Q : am_R → Prop} {x1 : Int32} {x2 : Int32} {x3 : Int32} {x4 : Int32} {x5 : Int32} {x6 : Int32}
    (h : (¬ x6 = (Int32.ofNat 5) → am_GQ (102, 182, [(0, .ref 32), (1, .int x1), (2, .int x2), (3, .int x3), (4, .int x4), (5, .int x5), (6, .int x6)], [], g, t) Q) ∧ (x6 = (Int32.ofNat 5) → (¬ x3 = (Int32.ofNat 3) → am_GQ (102, 182, [(0, .ref 32), (1, .int x1), (2, .int x2), (3, .int x3), (4, .int x4), (5, .int x5), (6, .int x6)], [], g, t) Q) ∧ (x3 = (Int32.ofNat 3) → am_chk (am_in ((g 32 14) - (Int32.ofNat 1)) 64 && am_isb (Int32.ofNat 1)) (am_GQ (102, 182, [(0, .ref 32), (1, .int x1), (2, .int x2), (3, .int x3), (4, .int x4), (5, .int x5), (6, .int x6)], [], (am_w g 43 (Int32.toNatClampNeg ((g 32 14) - (Int32.ofNat 1))) (Int32.ofNat 1)), t) Q)))) :
    am_GQ (102, 159, [(0, .ref 32), (1, .int x1), (2, .int x2), (3, .int x3), (4, .int x4), (5, .int x5), (6, .int x6)], [], g, t) Q := am_wp_ok [19, 59, 78, 105, 128, 146, 159, 182, 221, 294, 344, 358] 14 h
theorem B_M_lines_182 {g : am_G} {t : Nat} {Q : am_R → Prop} {x1 : Int32} {x2 : Int32} {x3 : Int32} {x4 : Int32} {x5 : Int32} {x6 : Int32}
    (h : (¬ x6 = (Int32.ofNat 2) → am_GQ (102, 221, [(0, .ref 32), (1, .int x1), (2, .int x2), (3, .int x3), (4, .int x4), (5, .int x5), (6, .int x6)], [], g, t) Q) ∧ (x6 = (Int32.ofNat 2) → am_chk (am_in x1 240) (am_chk (am_in ((g 33 (Int32.toNatClampNeg x1)) - (Int32.ofNat 65)) 26) (am_chk (am_in x1 240) (am_chk (am_in (((am_w g 34 (Int32.toNatClampNeg ((g 33 (Int32.toNatClampNeg x1)) - (Int32.ofNat 65))) (x1 + (Int32.ofNat 2))) 33 (Int32.toNatClampNeg x1)) - (Int32.ofNat 65)) 26) (am_GQ (102, 221, [(0, .ref 32), (1, .int x1), (2, .int x2), (3, .int x3), (4, .int x4), (5, .int x5), (6, .int x6)], [], (am_w (am_w g 34 (Int32.toNatClampNeg ((g 33 (Int32.toNatClampNeg x1)) - (Int32.ofNat 65))) (x1 + (Int32.ofNat 2))) 35 (Int32.toNatClampNeg (((am_w g 34 (Int32.toNatClampNeg ((g 33 (Int32.toNatClampNeg x1)) - (Int32.ofNat 65))) (x1 + (Int32.ofNat 2))) 33 (Int32.toNatClampNeg x1)) - (Int32.ofNat 65))) x5), t) Q)))))) :
    am_GQ (102, 182, [(0, .ref 32), (1, .int x1), (2, .int x2), (3, .int x3), (4, .int x4), (5, .int x5), (6, .int x6)], [], g, t) Q := am_wp_ok [19, 59, 78, 105, 128, 146, 159, 182, 221, 294, 344, 358] 25 h
theorem B_M_lines_221 {g : am_G} {t : Nat} {Q : am_R → Prop} {x1 : Int32} {x2 : Int32} {x3 : Int32} {x4 : Int32} {x5 : Int32} {x6 : Int32}
    (h : (¬ x6 = (Int32.ofNat 3) → am_GQ (102, 294, [(0, .ref 32), (1, .int x1), (2, .int x2), (3, .int x3), (4, .int x4), (5, .int x5), (6, .int x6)], [], g, t) Q) ∧ (x6 = (Int32.ofNat 3) → am_chk (am_in (g 32 14) 64) (am_GQ (93, 0, [(0, .ref 32), (1, .int x1), (2, .int x5)], [], (am_w g 39 (Int32.toNatClampNeg (g 32 14)) x1), t) (am_af 102 249 [(0, .ref 32), (1, .int x1), (2, .int x2), (3, .int x3), (4, .int x4), (5, .int x5), (6, .int x6)] [.int ((am_w g 39 (Int32.toNatClampNeg (g 32 14)) x1) 32 14), .ref 40] Q)))) :
    am_GQ (102, 221, [(0, .ref 32), (1, .int x1), (2, .int x2), (3, .int x3), (4, .int x4), (5, .int x5), (6, .int x6)], [], g, t) Q := am_wp_ok [19, 59, 78, 105, 128, 146, 159, 182, 221, 294, 344, 358] 17 h
theorem B_M_lines_294 {g : am_G} {t : Nat} {Q : am_R → Prop} {x1 : Int32} {x2 : Int32} {x3 : Int32} {x4 : Int32} {x5 : Int32} {x6 : Int32}
    (h : (¬ x6 = (Int32.ofNat 4) → am_GQ (102, 344, [(0, .ref 32), (1, .int x1), (2, .int x2), (3, .int x3), (4, .int x4), (5, .int x5), (6, .int x6)], [], g, t) Q) ∧ (x6 = (Int32.ofNat 4) → am_chk (am_in (x1 + (Int32.ofNat 1)) 240) (am_chk (am_in (x1 + (Int32.ofNat 4)) 240) (am_chk (am_in (g 32 16) 32) (am_GQ (102, 344, [(0, .ref 32), (1, .int x1), (2, .int x2), (3, .int x3), (4, .int x4), (5, .int x5), (6, .int x6)], [], (am_w (am_w g 44 (Int32.toNatClampNeg (g 32 16)) ((((Int32.ofNat 4) * ((g 33 (Int32.toNatClampNeg (x1 + (Int32.ofNat 1)))) - (Int32.ofNat 48))) + (g 33 (Int32.toNatClampNeg (x1 + (Int32.ofNat 4))))) - (Int32.ofNat 48))) 32 16 (((am_w g 44 (Int32.toNatClampNeg (g 32 16)) ((((Int32.ofNat 4) * ((g 33 (Int32.toNatClampNeg (x1 + (Int32.ofNat 1)))) - (Int32.ofNat 48))) + (g 33 (Int32.toNatClampNeg (x1 + (Int32.ofNat 4))))) - (Int32.ofNat 48))) 32 16) + (Int32.ofNat 1))), t) Q))))) :
    am_GQ (102, 294, [(0, .ref 32), (1, .int x1), (2, .int x2), (3, .int x3), (4, .int x4), (5, .int x5), (6, .int x6)], [], g, t) Q := am_wp_ok [19, 59, 78, 105, 128, 146, 159, 182, 221, 294, 344, 358] 33 h
theorem B_M_lines_252 {g : am_G} {t : Nat} {Q : am_R → Prop} {x1 : Int32} {x2 : Int32} {x3 : Int32} {x4 : Int32} {x5 : Int32} {x6 : Int32} {s0 : Int32} {s1 : Int32}
    (h : am_chk (am_in s1 64) (am_chk (am_in ((am_w g 40 (Int32.toNatClampNeg s1) s0) 32 14) 64) (am_chk (am_in ((am_w (am_w g 40 (Int32.toNatClampNeg s1) s0) 41 (Int32.toNatClampNeg ((am_w g 40 (Int32.toNatClampNeg s1) s0) 32 14)) x5) 32 14) 64) (am_chk (am_in ((am_w (am_w (am_w g 40 (Int32.toNatClampNeg s1) s0) 41 (Int32.toNatClampNeg ((am_w g 40 (Int32.toNatClampNeg s1) s0) 32 14)) x5) 42 (Int32.toNatClampNeg ((am_w (am_w g 40 (Int32.toNatClampNeg s1) s0) 41 (Int32.toNatClampNeg ((am_w g 40 (Int32.toNatClampNeg s1) s0) 32 14)) x5) 32 14)) x2) 32 14) 64 && am_isb (Int32.ofNat 0)) (am_GQ (102, 294, [(0, .ref 32), (1, .int x1), (2, .int x2), (3, .int x3), (4, .int x4), (5, .int x5), (6, .int x6)], [], (am_w (am_w (am_w (am_w (am_w g 40 (Int32.toNatClampNeg s1) s0) 41 (Int32.toNatClampNeg ((am_w g 40 (Int32.toNatClampNeg s1) s0) 32 14)) x5) 42 (Int32.toNatClampNeg ((am_w (am_w g 40 (Int32.toNatClampNeg s1) s0) 41 (Int32.toNatClampNeg ((am_w g 40 (Int32.toNatClampNeg s1) s0) 32 14)) x5) 32 14)) x2) 43 (Int32.toNatClampNeg ((am_w (am_w (am_w g 40 (Int32.toNatClampNeg s1) s0) 41 (Int32.toNatClampNeg ((am_w g 40 (Int32.toNatClampNeg s1) s0) 32 14)) x5) 42 (Int32.toNatClampNeg ((am_w (am_w g 40 (Int32.toNatClampNeg s1) s0) 41 (Int32.toNatClampNeg ((am_w g 40 (Int32.toNatClampNeg s1) s0) 32 14)) x5) 32 14)) x2) 32 14)) (Int32.ofNat 0)) 32 14 (((am_w (am_w (am_w (am_w g 40 (Int32.toNatClampNeg s1) s0) 41 (Int32.toNatClampNeg ((am_w g 40 (Int32.toNatClampNeg s1) s0) 32 14)) x5) 42 (Int32.toNatClampNeg ((am_w (am_w g 40 (Int32.toNatClampNeg s1) s0) 41 (Int32.toNatClampNeg ((am_w g 40 (Int32.toNatClampNeg s1) s0) 32 14)) x5) 32 14)) x2) 43 (Int32.toNatClampNeg ((am_w (am_w (am_w g 40 (Int32.toNatClampNeg s1) s0) 41 (Int32.toNatClampNeg ((am_w g 40 (Int32.toNatClampNeg s1) s0) 32 14)) x5) 42 (Int32.toNatClampNeg ((am_w (am_w g 40 (Int32.toNatClampNeg s1) s0) 41 (Int32.toNatClampNeg ((am_w g 40 (Int32.toNatClampNeg s1) s0) 32 14)) x5) 32 14)) x2) 32 14)) (Int32.ofNat 0)) 32 14) + (Int32.ofNat 1))), t) Q))))) :
    am_GQ (102, 252, [(0, .ref 32), (1, .int x1), (2, .int x2), (3, .int x3), (4, .int x4), (5, .int x5), (6, .int x6)], [.int s0, .int s1, .ref 40], g, t) Q := am_wp_ok [19, 59, 78, 105, 128, 146, 159, 182, 221, 294, 344, 358] 25 h
theorem B_M_lines_344 {g : am_G} {t : Nat} {Q : am_R → Prop} {x1 : Int32} {x2 : Int32} {x3 : Int32} {x4 : Int32} {x5 : Int32} {x6 : Int32}
    (h : am_GQ (102, 59, [(0, .ref 32), (1, .int (x5 + (Int32.ofNat 1))), (2, .int x2), (3, .int x6), (4, .int (x4 + (Int32.ofNat 1)))], [], g, t) Q) :
    am_GQ (102, 344, [(0, .ref 32), (1, .int x1), (2, .int x2), (3, .int x3), (4, .int x4), (5, .int x5), (6, .int x6)], [], g, t) Q := am_wp_ok [19, 59, 78, 105, 128, 146, 159, 182, 221, 294, 344, 358] 8 h
theorem B_M_macros_0 {g : am_G} {t : Nat} {Q : am_R → Prop}
    (h : am_GQ (103, 2, [(0, .ref 32), (1, .int (Int32.ofNat 0))], [], g, t) Q) :
    am_GQ (103, 0, [(0, .ref 32)], [], g, t) Q := am_wp_ok [2, 23, 31, 95, 127, 141] 2 h
theorem B_M_macros_2 {g : am_G} {t : Nat} {Q : am_R → Prop} {x1 : Int32}
    (h : ((Int32.ofNat 26) ≤ x1 → am_GQ (103, 23, [(0, .ref 32), (1, .int (Int32.ofNat 0))], [], g, t) Q) ∧ (x1 < (Int32.ofNat 26) → am_chk (am_in x1 26) (am_GQ (103, 2, [(0, .ref 32), (1, .int (x1 + (Int32.ofNat 1)))], [], (am_w g 36 (Int32.toNatClampNeg x1) (Int32.ofNat 0)), t) Q))) :
    am_GQ (103, 2, [(0, .ref 32), (1, .int x1)], [], g, t) Q := am_wp_ok [2, 23, 31, 95, 127, 141] 10 h
theorem B_M_macros_23 {g : am_G} {t : Nat} {Q : am_R → Prop} {x1 : Int32}
    (h : ((Int32.ofNat 27) ≤ x1 → Q (.inl none, g, t)) ∧ (x1 < (Int32.ofNat 27) → am_GQ (103, 31, [(0, .ref 32), (1, .int x1), (2, .int (Int32.ofNat 0))], [], g, t) Q)) :
    am_GQ (103, 23, [(0, .ref 32), (1, .int x1)], [], g, t) Q := am_wp_ok [2, 23, 31, 95, 127, 141] 5 h
theorem B_M_macros_31 {g : am_G} {t : Nat} {Q : am_R → Prop} {x1 : Int32} {x2 : Int32}
    (h : ((Int32.ofNat 26) ≤ x2 → am_GQ (103, 23, [(0, .ref 32), (1, .int (x1 + (Int32.ofNat 1)))], [], g, t) Q) ∧ (x2 < (Int32.ofNat 26) → am_chk (am_in x2 26) (((Int32.ofNat 0) ≤ (g 34 (Int32.toNatClampNeg x2)) → am_chk (am_in x2 26) (am_chk (am_in x2 26) (am_GQ (111, 0, [(0, .ref 32), (1, .int (g 34 (Int32.toNatClampNeg x2))), (2, .int (g 35 (Int32.toNatClampNeg x2)))], [], g, t) (am_af 103 62 [(0, .ref 32), (1, .int x1), (2, .int x2)] [] Q)))) ∧ ((g 34 (Int32.toNatClampNeg x2)) < (Int32.ofNat 0) → am_GQ (103, 141, [(0, .ref 32), (1, .int x1), (2, .int x2)], [], g, t) Q)))) :
    am_GQ (103, 31, [(0, .ref 32), (1, .int x1), (2, .int x2)], [], g, t) Q := am_wp_ok [2, 23, 31, 95, 127, 141] 18 h
theorem B_M_macros_65 {g : am_G} {t : Nat} {Q : am_R → Prop} {x1 : Int32} {x2 : Int32} {s0 : Int32}
    (h : am_chk (am_in x2 26) (am_chk (am_in x2 26) (am_GQ (103, 95, [(0, .ref 32), (1, .int x1), (2, .int x2), (3, .int s0), (4, .int ((am_w (am_w g 37 (Int32.toNatClampNeg x2) (g 32 30)) 38 (Int32.toNatClampNeg x2) ((am_w g 37 (Int32.toNatClampNeg x2) (g 32 30)) 32 31)) 32 32)), (5, .int (Int32.ofNat 0))], [], (am_w (am_w g 37 (Int32.toNatClampNeg x2) (g 32 30)) 38 (Int32.toNatClampNeg x2) ((am_w g 37 (Int32.toNatClampNeg x2) (g 32 30)) 32 31)), t) Q))) :
    am_GQ (103, 65, [(0, .ref 32), (1, .int x1), (2, .int x2)], [.int s0], g, t) Q := am_wp_ok [2, 23, 31, 95, 127, 141] 18 h
theorem B_M_macros_141 {g : am_G} {t : Nat} {Q : am_R → Prop} {x1 : Int32} {x2 : Int32}
    (h : am_GQ (103, 31, [(0, .ref 32), (1, .int x1), (2, .int (x2 + (Int32.ofNat 1)))], [], g, t) Q) :
    am_GQ (103, 141, [(0, .ref 32), (1, .int x1), (2, .int x2)], [], g, t) Q := am_wp_ok [2, 23, 31, 95, 127, 141] 2 h
theorem B_M_macros_95 {g : am_G} {t : Nat} {Q : am_R → Prop} {x1 : Int32} {x2 : Int32} {x3 : Int32} {x4 : Int32} {x5 : Int32}
    (h : ((Int32.ofNat 26) ≤ x5 → am_chk (am_in x2 26) (am_GQ (103, 141, [(0, .ref 32), (1, .int x1), (2, .int x2)], [], (am_w g 36 (Int32.toNatClampNeg x2) x4), t) Q)) ∧ (x5 < (Int32.ofNat 26) → (¬ (((g 32 32) >>> (x5 &&& Int32.ofNat 31)) &&& (Int32.ofNat 1)) = (Int32.ofNat 1) → am_GQ (103, 127, [(0, .ref 32), (1, .int x1), (2, .int x2), (3, .int x3), (4, .int x4), (5, .int x5)], [], g, t) Q) ∧ ((((g 32 32) >>> (x5 &&& Int32.ofNat 31)) &&& (Int32.ofNat 1)) = (Int32.ofNat 1) → am_chk (am_in x5 26) (am_GQ (103, 127, [(0, .ref 32), (1, .int x1), (2, .int x2), (3, .int x3), (4, .int (x4 ||| (g 36 (Int32.toNatClampNeg x5)))), (5, .int x5)], [], g, t) Q)))) :
    am_GQ (103, 95, [(0, .ref 32), (1, .int x1), (2, .int x2), (3, .int x3), (4, .int x4), (5, .int x5)], [], g, t) Q := am_wp_ok [2, 23, 31, 95, 127, 141] 18 h
theorem B_M_macros_127 {g : am_G} {t : Nat} {Q : am_R → Prop} {x1 : Int32} {x2 : Int32} {x3 : Int32} {x4 : Int32} {x5 : Int32}
    (h : am_GQ (103, 95, [(0, .ref 32), (1, .int x1), (2, .int x2), (3, .int x3), (4, .int x4), (5, .int (x5 + (Int32.ofNat 1)))], [], g, t) Q) :
    am_GQ (103, 127, [(0, .ref 32), (1, .int x1), (2, .int x2), (3, .int x3), (4, .int x4), (5, .int x5)], [], g, t) Q := am_wp_ok [2, 23, 31, 95, 127, 141] 2 h
theorem B_M_make_0 {g : am_G} {t : Nat} {Q : am_R → Prop} {x1 : Int32}
    (h : am_GQ (118, 0, [(0, .int x1), (1, .int (Int32.ofNat 0)), (2, .int (Int32.ofNat 31))], [], (am_w g 32 2 (Int32.ofNat 1)), t) (am_af 104 9 [(0, .ref 32), (1, .int x1)] [] Q)) :
    am_GQ (104, 0, [(0, .ref 32), (1, .int x1)], [], g, t) Q := am_wp_ok [40, 68, 82, 115, 129, 169, 186, 216, 244, 257, 287, 297, 325, 331] 7 h
theorem B_M_make_12 {g : am_G} {t : Nat} {Q : am_R → Prop} {x1 : Int32} {s0 : Int32}
    (h : (¬ s0 = (Int32.ofNat 0) → am_GQ (98, 0, [(0, .ref 32)], [], g, t) (am_af 104 18 [(0, .ref 32), (1, .int x1)] [] Q)) ∧ (s0 = (Int32.ofNat 0) → Q (.inl (some (.int (Int32.ofNat 0))), g, t))) :
    am_GQ (104, 12, [(0, .ref 32), (1, .int x1)], [.int s0], g, t) Q := am_wp_ok [40, 68, 82, 115, 129, 169, 186, 216, 244, 257, 287, 297, 325, 331] 3 h
theorem B_M_make_21 {g : am_G} {t : Nat} {Q : am_R → Prop} {x1 : Int32}
    (h : am_chk (am_in x1 32) (am_GQ (104, 40, [(0, .ref 32), (1, .int x1), (2, .int ((g 49 (Int32.toNatClampNeg x1)) ||| ((Int32.ofNat 1) <<< (x1 &&& Int32.ofNat 31)))), (3, .int (Int32.ofNat 0)), (4, .int (Int32.ofNat 0)), (5, .int (Int32.ofNat 0))], [], g, t) Q)) :
    am_GQ (104, 21, [(0, .ref 32), (1, .int x1)], [], g, t) Q := am_wp_ok [40, 68, 82, 115, 129, 169, 186, 216, 244, 257, 287, 297, 325, 331] 15 h
theorem B_M_make_40 {g : am_G} {t : Nat} {Q : am_R → Prop} {x1 : Int32} {x2 : Int32} {x3 : Int32} {x4 : Int32} {x5 : Int32}
    (h : ((Int32.ofNat 32) ≤ x5 → am_GQ (104, 82, [(0, .ref 32), (1, .int x1), (2, .int x2), (3, .int x3), (4, .int x4), (5, .int (Int32.ofNat 0))], [], (am_w g 32 2 (Int32.ofNat 2)), t) Q) ∧ (x5 < (Int32.ofNat 32) → am_chk (am_in x5 32) (((g 47 (Int32.toNatClampNeg x5)) ≤ x4 → am_GQ (104, 68, [(0, .ref 32), (1, .int x1), (2, .int x2), (3, .int x3), (4, .int x4), (5, .int x5)], [], g, t) Q) ∧ (x4 < (g 47 (Int32.toNatClampNeg x5)) → am_chk (am_in x5 32) (am_GQ (104, 68, [(0, .ref 32), (1, .int x1), (2, .int x2), (3, .int x3), (4, .int (g 47 (Int32.toNatClampNeg x5))), (5, .int x5)], [], g, t) Q))))) :
    am_GQ (104, 40, [(0, .ref 32), (1, .int x1), (2, .int x2), (3, .int x3), (4, .int x4), (5, .int x5)], [], g, t) Q := am_wp_ok [40, 68, 82, 115, 129, 169, 186, 216, 244, 257, 287, 297, 325, 331] 14 h
theorem B_M_make_82 {g : am_G} {t : Nat} {Q : am_R → Prop} {x1 : Int32} {x2 : Int32} {x3 : Int32} {x4 : Int32} {x5 : Int32}
    (h : ((Int32.ofNat 32) ≤ x5 → am_GQ (104, 129, [(0, .ref 32), (1, .int x1), (2, .int x2), (3, .int x3), (4, .int x4), (5, .int (Int32.ofNat 0))], [], (am_w g 32 2 (Int32.ofNat 3)), t) Q) ∧ (x5 < (Int32.ofNat 32) → am_GQ (99, 0, [(0, .int x2), (1, .int x5)], [], g, t) (am_af 104 92 [(0, .ref 32), (1, .int x1), (2, .int x2), (3, .int x3), (4, .int x4), (5, .int x5)] [] Q))) :
    am_GQ (104, 82, [(0, .ref 32), (1, .int x1), (2, .int x2), (3, .int x3), (4, .int x4), (5, .int x5)], [], g, t) Q := am_wp_ok [40, 68, 82, 115, 129, 169, 186, 216, 244, 257, 287, 297, 325, 331] 8 h
theorem B_M_make_68 {g : am_G} {t : Nat} {Q : am_R → Prop} {x1 : Int32} {x2 : Int32} {x3 : Int32} {x4 : Int32} {x5 : Int32}
    (h : am_GQ (104, 40, [(0, .ref 32), (1, .int x1), (2, .int x2), (3, .int x3), (4, .int x4), (5, .int (x5 + (Int32.ofNat 1)))], [], g, t) Q) :
    am_GQ (104, 68, [(0, .ref 32), (1, .int x1), (2, .int x2), (3, .int x3), (4, .int x4), (5, .int x5)], [], g, t) Q := am_wp_ok [40, 68, 82, 115, 129, 169, 186, 216, 244, 257, 287, 297, 325, 331] 2 h
theorem B_M_make_129 {g : am_G} {t : Nat} {Q : am_R → Prop} {x1 : Int32} {x2 : Int32} {x3 : Int32} {x4 : Int32} {x5 : Int32}
    (h : ((Int32.ofNat 32) ≤ x5 → am_GQ (108, 0, [(0, .ref 32), (1, .int x2)], [], g, t) (am_af 104 177 [(0, .ref 32), (1, .int x1), (2, .int x2), (3, .int x3), (4, .int x4), (5, .int x5)] [] Q)) ∧ (x5 < (Int32.ofNat 32) → am_GQ (99, 0, [(0, .int x2), (1, .int x5)], [], g, t) (am_af 104 139 [(0, .ref 32), (1, .int x1), (2, .int x2), (3, .int x3), (4, .int x4), (5, .int x5)] [] Q))) :
    am_GQ (104, 129, [(0, .ref 32), (1, .int x1), (2, .int x2), (3, .int x3), (4, .int x4), (5, .int x5)], [], g, t) Q := am_wp_ok [40, 68, 82, 115, 129, 169, 186, 216, 244, 257, 287, 297, 325, 331] 6 h
theorem B_M_make_95 {g : am_G} {t : Nat} {Q : am_R → Prop} {x1 : Int32} {x2 : Int32} {x3 : Int32} {x4 : Int32} {x5 : Int32} {s0 : Int32}
    (h : (s0 = (Int32.ofNat 0) → am_GQ (104, 115, [(0, .ref 32), (1, .int x1), (2, .int x2), (3, .int x3), (4, .int x4), (5, .int x5)], [], g, t) Q) ∧ (¬ s0 = (Int32.ofNat 0) → am_chk (am_in x5 32) (am_GQ (99, 0, [(0, .int (g 49 (Int32.toNatClampNeg x5))), (1, .int x5)], [], g, t) (am_af 104 107 [(0, .ref 32), (1, .int x1), (2, .int x2), (3, .int x3), (4, .int x4), (5, .int x5)] [] Q)))) :
    am_GQ (104, 95, [(0, .ref 32), (1, .int x1), (2, .int x2), (3, .int x3), (4, .int x4), (5, .int x5)], [.int s0], g, t) Q := am_wp_ok [40, 68, 82, 115, 129, 169, 186, 216, 244, 257, 287, 297, 325, 331] 7 h
theorem B_M_make_180 {g : am_G} {t : Nat} {Q : am_R → Prop} {x1 : Int32} {x2 : Int32} {x3 : Int32} {x4 : Int32} {x5 : Int32}
    (h : am_GQ (104, 186, [(0, .ref 32), (1, .int x1), (2, .int x2), (3, .int x3), (4, .int x4), (5, .int (Int32.ofNat 0)), (6, .int (Int32.ofNat 0))], [], g, t) Q) :
    am_GQ (104, 180, [(0, .ref 32), (1, .int x1), (2, .int x2), (3, .int x3), (4, .int x4), (5, .int x5)], [], g, t) Q := am_wp_ok [40, 68, 82, 115, 129, 169, 186, 216, 244, 257, 287, 297, 325, 331] 4 h
theorem B_M_make_142 {g : am_G} {t : Nat} {Q : am_R → Prop} {x1 : Int32} {x2 : Int32} {x3 : Int32} {x4 : Int32} {x5 : Int32} {s0 : Int32}
    (h : (s0 = (Int32.ofNat 0) → am_GQ (104, 169, [(0, .ref 32), (1, .int x1), (2, .int x2), (3, .int x3), (4, .int x4), (5, .int x5)], [], g, t) Q) ∧ (¬ s0 = (Int32.ofNat 0) → am_GQ (99, 0, [(0, .int (g 32 23)), (1, .int x5)], [], g, t) (am_af 104 151 [(0, .ref 32), (1, .int x1), (2, .int x2), (3, .int x3), (4, .int x4), (5, .int x5)] [] Q))) :
    am_GQ (104, 142, [(0, .ref 32), (1, .int x1), (2, .int x2), (3, .int x3), (4, .int x4), (5, .int x5)], [.int s0], g, t) Q := am_wp_ok [40, 68, 82, 115, 129, 169, 186, 216, 244, 257, 287, 297, 325, 331] 5 h
theorem B_M_make_115 {g : am_G} {t : Nat} {Q : am_R → Prop} {x1 : Int32} {x2 : Int32} {x3 : Int32} {x4 : Int32} {x5 : Int32}
    (h : am_GQ (104, 82, [(0, .ref 32), (1, .int x1), (2, .int x2), (3, .int x3), (4, .int x4), (5, .int (x5 + (Int32.ofNat 1)))], [], g, t) Q) :
    am_GQ (104, 115, [(0, .ref 32), (1, .int x1), (2, .int x2), (3, .int x3), (4, .int x4), (5, .int x5)], [], g, t) Q := am_wp_ok [40, 68, 82, 115, 129, 169, 186, 216, 244, 257, 287, 297, 325, 331] 2 h
theorem B_M_make_110 {g : am_G} {t : Nat} {Q : am_R → Prop} {x1 : Int32} {x2 : Int32} {x3 : Int32} {x4 : Int32} {x5 : Int32} {s0 : Int32}
    (h : (s0 = (Int32.ofNat 0) → am_GQ (104, 115, [(0, .ref 32), (1, .int x1), (2, .int x2), (3, .int x3), (4, .int x4), (5, .int x5)], [], g, t) Q) ∧ (¬ s0 = (Int32.ofNat 0) → Q (.inl (some (.int (Int32.ofNat 0))), g, t))) :
    am_GQ (104, 110, [(0, .ref 32), (1, .int x1), (2, .int x2), (3, .int x3), (4, .int x4), (5, .int x5)], [.int s0], g, t) Q := am_wp_ok [40, 68, 82, 115, 129, 169, 186, 216, 244, 257, 287, 297, 325, 331] 3 h
theorem B_M_make_186 {g : am_G} {t : Nat} {Q : am_R → Prop} {x1 : Int32} {x2 : Int32} {x3 : Int32} {x4 : Int32} {x5 : Int32} {x6 : Int32}
    (h : ((Int32.ofNat 32) ≤ x6 → (x5 ≤ (Int32.ofNat 0) → am_GQ (104, 244, [(0, .ref 32), (1, .int x1), (2, .int x2), (3, .int x3), (4, .int x4), (5, .int x5)], [], (am_w g 32 2 (Int32.ofNat 4)), t) Q) ∧ ((Int32.ofNat 0) < x5 → ((x4 + x5) ≤ (Int32.ofNat 1000000000) → am_GQ (104, 244, [(0, .ref 32), (1, .int x1), (2, .int x2), (3, .int x3), (4, .int x4), (5, .int x5)], [], (am_w g 32 2 (Int32.ofNat 4)), t) Q) ∧ ((Int32.ofNat 1000000000) < (x4 + x5) → Q (.inl (some (.int (Int32.ofNat 0))), (am_w g 32 2 (Int32.ofNat 4)), t)))) ∧ (x6 < (Int32.ofNat 32) → am_chk (am_in x6 32) ((¬ (g 50 (Int32.toNatClampNeg x6)) = (Int32.ofNat 0) → am_GQ (104, 216, [(0, .ref 32), (1, .int x1), (2, .int x2), (3, .int (x3 ||| ((Int32.ofNat 1) <<< (x6 &&& Int32.ofNat 31)))), (4, .int x4), (5, .int (x5 + (Int32.ofNat 1))), (6, .int x6)], [], g, t) Q) ∧ ((g 50 (Int32.toNatClampNeg x6)) = (Int32.ofNat 0) → am_GQ (104, 216, [(0, .ref 32), (1, .int x1), (2, .int x2), (3, .int x3), (4, .int x4), (5, .int x5), (6, .int x6)], [], g, t) Q)))) :
    am_GQ (104, 186, [(0, .ref 32), (1, .int x1), (2, .int x2), (3, .int x3), (4, .int x4), (5, .int x5), (6, .int x6)], [], g, t) Q := am_wp_ok [40, 68, 82, 115, 129, 169, 186, 216, 244, 257, 287, 297, 325, 331] 15 h
theorem B_M_make_169 {g : am_G} {t : Nat} {Q : am_R → Prop} {x1 : Int32} {x2 : Int32} {x3 : Int32} {x4 : Int32} {x5 : Int32}
    (h : am_GQ (104, 129, [(0, .ref 32), (1, .int x1), (2, .int x2), (3, .int x3), (4, .int x4), (5, .int (x5 + (Int32.ofNat 1)))], [], g, t) Q) :
    am_GQ (104, 169, [(0, .ref 32), (1, .int x1), (2, .int x2), (3, .int x3), (4, .int x4), (5, .int x5)], [], g, t) Q := am_wp_ok [40, 68, 82, 115, 129, 169, 186, 216, 244, 257, 287, 297, 325, 331] 2 h
theorem B_M_make_154 {g : am_G} {t : Nat} {Q : am_R → Prop} {x1 : Int32} {x2 : Int32} {x3 : Int32} {x4 : Int32} {x5 : Int32} {s0 : Int32}
    (h : (¬ s0 = (Int32.ofNat 0) → am_GQ (104, 169, [(0, .ref 32), (1, .int x1), (2, .int x2), (3, .int x3), (4, .int x4), (5, .int x5)], [], g, t) Q) ∧ (s0 = (Int32.ofNat 0) → am_chk (am_in x5 32) ((¬ (g 47 (Int32.toNatClampNeg x5)) = (Int32.ofNat 0) → am_GQ (104, 169, [(0, .ref 32), (1, .int x1), (2, .int x2), (3, .int x3), (4, .int x4), (5, .int x5)], [], g, t) Q) ∧ ((g 47 (Int32.toNatClampNeg x5)) = (Int32.ofNat 0) → Q (.inl (some (.int (Int32.ofNat 0))), g, t))))) :
    am_GQ (104, 154, [(0, .ref 32), (1, .int x1), (2, .int x2), (3, .int x3), (4, .int x4), (5, .int x5)], [.int s0], g, t) Q := am_wp_ok [40, 68, 82, 115, 129, 169, 186, 216, 244, 257, 287, 297, 325, 331] 8 h
theorem B_M_make_244 {g : am_G} {t : Nat} {Q : am_R → Prop} {x1 : Int32} {x2 : Int32} {x3 : Int32} {x4 : Int32} {x5 : Int32}
    (h : am_GQ (104, 257, [(0, .ref 32), (1, .int x1), (2, .int x2), (3, .int x3), (4, .int x4), (5, .int x5), (6, .int (Int32.ofNat 0))], [], (am_w (am_w g 32 2 (Int32.ofNat 0)) 32 28 (Int32.ofNat 0)), t) Q) :
    am_GQ (104, 244, [(0, .ref 32), (1, .int x1), (2, .int x2), (3, .int x3), (4, .int x4), (5, .int x5)], [], g, t) Q := am_wp_ok [40, 68, 82, 115, 129, 169, 186, 216, 244, 257, 287, 297, 325, 331] 8 h
theorem B_M_make_216 {g : am_G} {t : Nat} {Q : am_R → Prop} {x1 : Int32} {x2 : Int32} {x3 : Int32} {x4 : Int32} {x5 : Int32} {x6 : Int32}
    (h : am_GQ (104, 186, [(0, .ref 32), (1, .int x1), (2, .int x2), (3, .int x3), (4, .int x4), (5, .int x5), (6, .int (x6 + (Int32.ofNat 1)))], [], g, t) Q) :
    am_GQ (104, 216, [(0, .ref 32), (1, .int x1), (2, .int x2), (3, .int x3), (4, .int x4), (5, .int x5), (6, .int x6)], [], g, t) Q := am_wp_ok [40, 68, 82, 115, 129, 169, 186, 216, 244, 257, 287, 297, 325, 331] 2 h
theorem B_M_make_257 {g : am_G} {t : Nat} {Q : am_R → Prop} {x1 : Int32} {x2 : Int32} {x3 : Int32} {x4 : Int32} {x5 : Int32} {x6 : Int32}
    (h : ((Int32.ofNat 32) ≤ x6 → am_GQ (104, 287, [(0, .ref 32), (1, .int x1), (2, .int x2), (3, .int x3), (4, .int x4), (5, .int x5), (6, .int (Int32.ofNat 0))], [], g, t) Q) ∧ (x6 < (Int32.ofNat 32) → am_chk (am_in x6 32) (am_chk (am_in x6 32) (am_GQ (104, 257, [(0, .ref 32), (1, .int x1), (2, .int x2), (3, .int x3), (4, .int x4), (5, .int x5), (6, .int (x6 + (Int32.ofNat 1)))], [], (am_w g 52 (Int32.toNatClampNeg x6) (g 50 (Int32.toNatClampNeg x6))), t) Q)))) :
    am_GQ (104, 257, [(0, .ref 32), (1, .int x1), (2, .int x2), (3, .int x3), (4, .int x4), (5, .int x5), (6, .int x6)], [], g, t) Q := am_wp_ok [40, 68, 82, 115, 129, 169, 186, 216, 244, 257, 287, 297, 325, 331] 13 h
theorem B_M_make_287 {g : am_G} {t : Nat} {Q : am_R → Prop} {x1 : Int32} {x2 : Int32} {x3 : Int32} {x4 : Int32} {x5 : Int32} {x6 : Int32}
    (h : (x5 ≤ x6 → Q (.inl (some (.int x5)), g, t)) ∧ (x6 < x5 → am_GQ (104, 297, [(0, .ref 32), (1, .int x1), (2, .int x2), (3, .int x3), (4, .int x4), (5, .int x5), (6, .int x6), (7, .int (Int32.ofNat 0))], [], g, t) Q)) :
    am_GQ (104, 287, [(0, .ref 32), (1, .int x1), (2, .int x2), (3, .int x3), (4, .int x4), (5, .int x5), (6, .int x6)], [], g, t) Q := am_wp_ok [40, 68, 82, 115, 129, 169, 186, 216, 244, 257, 287, 297, 325, 331] 5 h
theorem B_M_make_297 {g : am_G} {t : Nat} {Q : am_R → Prop} {x1 : Int32} {x2 : Int32} {x3 : Int32} {x4 : Int32} {x5 : Int32} {x6 : Int32} {x7 : Int32}
    (h : ((Int32.ofNat 31) ≤ x7 → am_GQ (104, 331, [(0, .ref 32), (1, .int x1), (2, .int x2), (3, .int x3), (4, .int x4), (5, .int x5), (6, .int x6), (7, .int x7)], [], g, t) Q) ∧ (x7 < (Int32.ofNat 31) → am_GQ (99, 0, [(0, .int x3), (1, .int x7)], [], g, t) (am_af 104 307 [(0, .ref 32), (1, .int x1), (2, .int x2), (3, .int x3), (4, .int x4), (5, .int x5), (6, .int x6), (7, .int x7)] [] Q))) :
    am_GQ (104, 297, [(0, .ref 32), (1, .int x1), (2, .int x2), (3, .int x3), (4, .int x4), (5, .int x5), (6, .int x6), (7, .int x7)], [], g, t) Q := am_wp_ok [40, 68, 82, 115, 129, 169, 186, 216, 244, 257, 287, 297, 325, 331] 6 h
theorem B_M_make_331 {g : am_G} {t : Nat} {Q : am_R → Prop} {x1 : Int32} {x2 : Int32} {x3 : Int32} {x4 : Int32} {x5 : Int32} {x6 : Int32} {x7 : Int32}
    (h : am_chk (am_in (g 32 28) 32) (am_chk (am_in x7 32) (am_GQ (104, 287, [(0, .ref 32), (1, .int x1), (2, .int x2), (3, .int (x3 &&& (((Int32.ofNat 1) <<< (x7 &&& Int32.ofNat 31)) ^^^ (-1)))), (4, .int x4), (5, .int x5), (6, .int (x6 + (Int32.ofNat 1)))], [], (am_w (am_w (am_w g 51 (Int32.toNatClampNeg (g 32 28)) x7) 32 28 (((am_w g 51 (Int32.toNatClampNeg (g 32 28)) x7) 32 28) + (Int32.ofNat 1))) 47 (Int32.toNatClampNeg x7) (x4 + ((am_w (am_w g 51 (Int32.toNatClampNeg (g 32 28)) x7) 32 28 (((am_w g 51 (Int32.toNatClampNeg (g 32 28)) x7) 32 28) + (Int32.ofNat 1))) 32 28))), t) Q))) :
    am_GQ (104, 331, [(0, .ref 32), (1, .int x1), (2, .int x2), (3, .int x3), (4, .int x4), (5, .int x5), (6, .int x6), (7, .int x7)], [], g, t) Q := am_wp_ok [40, 68, 82, 115, 129, 169, 186, 216, 244, 257, 287, 297, 325, 331] 30 h
theorem B_M_make_310 {g : am_G} {t : Nat} {Q : am_R → Prop} {x1 : Int32} {x2 : Int32} {x3 : Int32} {x4 : Int32} {x5 : Int32} {x6 : Int32} {x7 : Int32} {s0 : Int32}
    (h : (s0 = (Int32.ofNat 0) → am_GQ (104, 325, [(0, .ref 32), (1, .int x1), (2, .int x2), (3, .int x3), (4, .int x4), (5, .int x5), (6, .int x6), (7, .int x7)], [], g, t) Q) ∧ (¬ s0 = (Int32.ofNat 0) → am_chk (am_in x7 32) ((((g 49 (Int32.toNatClampNeg x7)) &&& x3) = (Int32.ofNat 0) → am_GQ (104, 331, [(0, .ref 32), (1, .int x1), (2, .int x2), (3, .int x3), (4, .int x4), (5, .int x5), (6, .int x6), (7, .int x7)], [], g, t) Q) ∧ (¬ ((g 49 (Int32.toNatClampNeg x7)) &&& x3) = (Int32.ofNat 0) → am_GQ (104, 325, [(0, .ref 32), (1, .int x1), (2, .int x2), (3, .int x3), (4, .int x4), (5, .int x5), (6, .int x6), (7, .int x7)], [], g, t) Q)))) :
    am_GQ (104, 310, [(0, .ref 32), (1, .int x1), (2, .int x2), (3, .int x3), (4, .int x4), (5, .int x5), (6, .int x6), (7, .int x7)], [.int s0], g, t) Q := am_wp_ok [40, 68, 82, 115, 129, 169, 186, 216, 244, 257, 287, 297, 325, 331] 8 h
theorem B_M_make_325 {g : am_G} {t : Nat} {Q : am_R → Prop} {x1 : Int32} {x2 : Int32} {x3 : Int32} {x4 : Int32} {x5 : Int32} {x6 : Int32} {x7 : Int32}
    (h : am_GQ (104, 297, [(0, .ref 32), (1, .int x1), (2, .int x2), (3, .int x3), (4, .int x4), (5, .int x5), (6, .int x6), (7, .int (x7 + (Int32.ofNat 1)))], [], g, t) Q) :
    am_GQ (104, 325, [(0, .ref 32), (1, .int x1), (2, .int x2), (3, .int x3), (4, .int x4), (5, .int x5), (6, .int x6), (7, .int x7)], [], g, t) Q := am_wp_ok [40, 68, 82, 115, 129, 169, 186, 216, 244, 257, 287, 297, 325, 331] 2 h
theorem B_M_ran_0 {g : am_G} {t : Nat} {Q : am_R → Prop} {x1 : Int32}
    (h : am_GQ (118, 0, [(0, .int x1), (1, .int (Int32.ofNat 0)), (2, .int (((am_w g 32 2 (Int32.ofNat 0)) 32 28) - (Int32.ofNat 1)))], [], (am_w g 32 2 (Int32.ofNat 0)), t) (am_af 105 13 [(0, .ref 32), (1, .int x1)] [] Q)) :
    am_GQ (105, 0, [(0, .ref 32), (1, .int x1)], [], g, t) Q := am_wp_ok [] 10 h
theorem B_M_ran_16 {g : am_G} {t : Nat} {Q : am_R → Prop} {x1 : Int32} {s0 : Int32}
    (h : (s0 = (Int32.ofNat 0) → Q (.inl (some (.int (-1))), g, t)) ∧ (¬ s0 = (Int32.ofNat 0) → am_chk (am_in x1 32) (Q (.inl (some (.int (g 51 (Int32.toNatClampNeg x1)))), g, t)))) :
    am_GQ (105, 16, [(0, .ref 32), (1, .int x1)], [.int s0], g, t) Q := am_wp_ok [] 7 h
theorem B_M_read_0 {g : am_G} {t : Nat} {Q : am_R → Prop}
    (h : am_GQ (102, 0, [(0, .ref 32)], [], (am_w g 32 2 (Int32.ofNat 0)), t) (am_af 106 6 [(0, .ref 32)] [] Q)) :
    am_GQ (106, 0, [(0, .ref 32)], [], g, t) Q := am_wp_ok [27, 111, 195, 261] 5 h
theorem B_M_read_9 {g : am_G} {t : Nat} {Q : am_R → Prop} {s0 : Int32}
    (h : (s0 ≤ (Int32.ofNat 0) → am_GQ (103, 0, [(0, .ref 32)], [], g, t) (am_af 106 22 [(0, .ref 32), (1, .int s0)] [] Q)) ∧ ((Int32.ofNat 0) < s0 → am_GQ (95, 0, [(0, .ref 32), (1, .int (Int32.ofNat 1)), (2, .int s0)], [], g, t) (am_af 106 17 [(0, .ref 32), (1, .int s0)] [] Q))) :
    am_GQ (106, 9, [(0, .ref 32)], [.int s0], g, t) Q := am_wp_ok [27, 111, 195, 261] 7 h
theorem B_M_read_25 {g : am_G} {t : Nat} {Q : am_R → Prop} {x1 : Int32}
    (h : am_GQ (106, 27, [(0, .ref 32), (1, .int x1), (2, .int (Int32.ofNat 0))], [], g, t) Q) :
    am_GQ (106, 25, [(0, .ref 32), (1, .int x1)], [], g, t) Q := am_wp_ok [27, 111, 195, 261] 2 h
theorem B_M_read_20 {g : am_G} {t : Nat} {Q : am_R → Prop} {x1 : Int32} {s0 : Int32}
    (h : Q (.inl (some (.int s0)), g, t)) :
    am_GQ (106, 20, [(0, .ref 32), (1, .int x1)], [.int s0], g, t) Q := am_wp_ok [27, 111, 195, 261] 1 h
theorem B_M_read_27 {g : am_G} {t : Nat} {Q : am_R → Prop} {x1 : Int32} {x2 : Int32}
    (h : ((g 32 14) ≤ x2 → am_GQ (106, 111, [(0, .ref 32), (1, .int x1), (2, .int (Int32.ofNat 0))], [], g, t) Q) ∧ (x2 < (g 32 14) → am_chk (am_in x2 64) (am_chk (am_in x2 64) (am_GQ (111, 0, [(0, .ref 32), (1, .int (g 39 (Int32.toNatClampNeg x2))), (2, .int (g 40 (Int32.toNatClampNeg x2)))], [], g, t) (am_af 106 48 [(0, .ref 32), (1, .int x1), (2, .int x2)] [] Q))))) :
    am_GQ (106, 27, [(0, .ref 32), (1, .int x1), (2, .int x2)], [], g, t) Q := am_wp_ok [27, 111, 195, 261] 14 h
theorem B_M_read_111 {g : am_G} {t : Nat} {Q : am_R → Prop} {x1 : Int32} {x2 : Int32}
    (h : ((g 32 14) ≤ x2 → am_GQ (106, 195, [(0, .ref 32), (1, .int x1), (2, .int (Int32.ofNat 0)), (3, .int (Int32.ofNat 0))], [], g, t) Q) ∧ (x2 < (g 32 14) → am_chk (am_in x2 64) (am_chk (am_in x2 64) (am_GQ (111, 0, [(0, .ref 32), (1, .int (g 39 (Int32.toNatClampNeg x2))), (2, .int (g 40 (Int32.toNatClampNeg x2)))], [], g, t) (am_af 106 132 [(0, .ref 32), (1, .int x1), (2, .int x2)] [] Q))))) :
    am_GQ (106, 111, [(0, .ref 32), (1, .int x1), (2, .int x2)], [], g, t) Q := am_wp_ok [27, 111, 195, 261] 14 h
theorem B_M_read_51 {g : am_G} {t : Nat} {Q : am_R → Prop} {x1 : Int32} {x2 : Int32} {s0 : Int32}
    (h : am_chk (am_in x2 64) (am_chk (am_in x2 64) (am_GQ (111, 0, [(0, .ref 32), (1, .int ((g 40 (Int32.toNatClampNeg x2)) + (Int32.ofNat 1))), (2, .int (g 41 (Int32.toNatClampNeg x2)))], [], g, t) (am_af 106 73 [(0, .ref 32), (1, .int x1), (2, .int x2), (3, .int s0), (4, .int (g 32 32))] [] Q)))) :
    am_GQ (106, 51, [(0, .ref 32), (1, .int x1), (2, .int x2)], [.int s0], g, t) Q := am_wp_ok [27, 111, 195, 261] 16 h
theorem B_M_read_195 {g : am_G} {t : Nat} {Q : am_R → Prop} {x1 : Int32} {x2 : Int32} {x3 : Int32}
    (h : ((g 32 14) ≤ x3 → am_GQ (116, 0, [(0, .ref 32)], [], g, t) (am_af 106 268 [(0, .ref 32), (1, .int x1), (2, .int x2), (3, .int x3)] [] Q)) ∧ (x3 < (g 32 14) → am_chk (am_in x3 64) (am_chk (am_in x3 64) (am_GQ (111, 0, [(0, .ref 32), (1, .int (g 39 (Int32.toNatClampNeg x3))), (2, .int (g 40 (Int32.toNatClampNeg x3)))], [], g, t) (am_af 106 216 [(0, .ref 32), (1, .int x1), (2, .int x2), (3, .int x3)] [] Q))))) :
    am_GQ (106, 195, [(0, .ref 32), (1, .int x1), (2, .int x2), (3, .int x3)], [], g, t) Q := am_wp_ok [27, 111, 195, 261] 14 h
theorem B_M_read_135 {g : am_G} {t : Nat} {Q : am_R → Prop} {x1 : Int32} {x2 : Int32} {s0 : Int32}
    (h : am_chk (am_in x2 64) (am_chk (am_in x2 64) (am_GQ (111, 0, [(0, .ref 32), (1, .int ((g 40 (Int32.toNatClampNeg x2)) + (Int32.ofNat 1))), (2, .int (g 41 (Int32.toNatClampNeg x2)))], [], g, t) (am_af 106 157 [(0, .ref 32), (1, .int x1), (2, .int x2), (3, .int s0), (4, .int (g 32 30))] [] Q)))) :
    am_GQ (106, 135, [(0, .ref 32), (1, .int x1), (2, .int x2)], [.int s0], g, t) Q := am_wp_ok [27, 111, 195, 261] 16 h
theorem B_M_read_76 {g : am_G} {t : Nat} {Q : am_R → Prop} {x1 : Int32} {x2 : Int32} {x3 : Int32} {x4 : Int32} {s0 : Int32}
    (h : am_GQ (110, 0, [(0, .ref 32), (1, .int (x4 ||| (g 32 32)))], [], g, t) (am_af 106 85 [(0, .ref 32), (1, .int x1), (2, .int x2), (3, .int s0), (4, .int x4)] [] Q)) :
    am_GQ (106, 76, [(0, .ref 32), (1, .int x1), (2, .int x2), (3, .int x3), (4, .int x4)], [.int s0], g, t) Q := am_wp_ok [27, 111, 195, 261] 7 h
theorem B_M_read_271 {g : am_G} {t : Nat} {Q : am_R → Prop} {x1 : Int32} {x2 : Int32} {x3 : Int32}
    (h : Q (.inl (some (.int ((am_w (am_w g 32 18 x2) 32 3 (Int32.ofNat 0)) 32 14))), (am_w (am_w g 32 18 x2) 32 3 (Int32.ofNat 0)), t)) :
    am_GQ (106, 271, [(0, .ref 32), (1, .int x1), (2, .int x2), (3, .int x3)], [], g, t) Q := am_wp_ok [27, 111, 195, 261] 9 h
theorem B_M_read_219 {g : am_G} {t : Nat} {Q : am_R → Prop} {x1 : Int32} {x2 : Int32} {x3 : Int32} {s0 : Int32}
    (h : am_chk (am_in x3 64) ((¬ (g 43 (Int32.toNatClampNeg x3)) = (Int32.ofNat 0) → ((x2 &&& (g 32 31)) = (Int32.ofNat 0) → am_GQ (106, 261, [(0, .ref 32), (1, .int x1), (2, .int (x2 ||| (g 32 31))), (3, .int x3)], [], g, t) Q) ∧ (¬ (x2 &&& (g 32 31)) = (Int32.ofNat 0) → am_chk (am_in x3 64) (am_GQ (95, 0, [(0, .ref 32), (1, .int (Int32.ofNat 3)), (2, .int (g 42 (Int32.toNatClampNeg x3)))], [], g, t) (am_af 106 250 [(0, .ref 32), (1, .int x1), (2, .int x2), (3, .int x3), (4, .int s0)] [] Q)))) ∧ ((g 43 (Int32.toNatClampNeg x3)) = (Int32.ofNat 0) → am_GQ (106, 261, [(0, .ref 32), (1, .int x1), (2, .int x2), (3, .int x3)], [], g, t) Q))) :
    am_GQ (106, 219, [(0, .ref 32), (1, .int x1), (2, .int x2), (3, .int x3)], [.int s0], g, t) Q := am_wp_ok [27, 111, 195, 261] 18 h
theorem B_M_read_160 {g : am_G} {t : Nat} {Q : am_R → Prop} {x1 : Int32} {x2 : Int32} {x3 : Int32} {x4 : Int32} {s0 : Int32}
    (h : ((x4 + (g 32 30)) ≤ (Int32.ofNat 64) → am_GQ (106, 111, [(0, .ref 32), (1, .int x1), (2, .int (x2 + (Int32.ofNat 1)))], [], g, t) Q) ∧ ((Int32.ofNat 64) < (x4 + (g 32 30)) → am_chk (am_in x2 64) (am_GQ (95, 0, [(0, .ref 32), (1, .int (Int32.ofNat 3)), (2, .int (g 42 (Int32.toNatClampNeg x2)))], [], g, t) (am_af 106 181 [(0, .ref 32), (1, .int x1), (2, .int x2), (3, .int s0), (4, .int x4)] [] Q)))) :
    am_GQ (106, 160, [(0, .ref 32), (1, .int x1), (2, .int x2), (3, .int x3), (4, .int x4)], [.int s0], g, t) Q := am_wp_ok [27, 111, 195, 261] 14 h
theorem B_M_read_88 {g : am_G} {t : Nat} {Q : am_R → Prop} {x1 : Int32} {x2 : Int32} {x3 : Int32} {x4 : Int32} {s0 : Int32}
    (h : (s0 = (Int32.ofNat 0) → am_GQ (106, 27, [(0, .ref 32), (1, .int x1), (2, .int (x2 + (Int32.ofNat 1)))], [], g, t) Q) ∧ (¬ s0 = (Int32.ofNat 0) → am_chk (am_in x2 64) (am_GQ (95, 0, [(0, .ref 32), (1, .int (Int32.ofNat 2)), (2, .int (g 42 (Int32.toNatClampNeg x2)))], [], g, t) (am_af 106 99 [(0, .ref 32), (1, .int x1), (2, .int x2), (3, .int x3), (4, .int x4)] [] Q)))) :
    am_GQ (106, 88, [(0, .ref 32), (1, .int x1), (2, .int x2), (3, .int x3), (4, .int x4)], [.int s0], g, t) Q := am_wp_ok [27, 111, 195, 261] 8 h
theorem B_M_read_261 {g : am_G} {t : Nat} {Q : am_R → Prop} {x1 : Int32} {x2 : Int32} {x3 : Int32}
    (h : am_GQ (106, 195, [(0, .ref 32), (1, .int x1), (2, .int x2), (3, .int (x3 + (Int32.ofNat 1)))], [], g, t) Q) :
    am_GQ (106, 261, [(0, .ref 32), (1, .int x1), (2, .int x2), (3, .int x3)], [], g, t) Q := am_wp_ok [27, 111, 195, 261] 2 h
theorem B_M_read_253 {g : am_G} {t : Nat} {Q : am_R → Prop} {x1 : Int32} {x2 : Int32} {x3 : Int32} {x4 : Int32} {s0 : Int32}
    (h : Q (.inl (some (.int s0)), g, t)) :
    am_GQ (106, 253, [(0, .ref 32), (1, .int x1), (2, .int x2), (3, .int x3), (4, .int x4)], [.int s0], g, t) Q := am_wp_ok [27, 111, 195, 261] 1 h
theorem B_M_read_184 {g : am_G} {t : Nat} {Q : am_R → Prop} {x1 : Int32} {x2 : Int32} {x3 : Int32} {x4 : Int32} {s0 : Int32}
    (h : Q (.inl (some (.int s0)), g, t)) :
    am_GQ (106, 184, [(0, .ref 32), (1, .int x1), (2, .int x2), (3, .int x3), (4, .int x4)], [.int s0], g, t) Q := am_wp_ok [27, 111, 195, 261] 1 h
theorem B_M_read_102 {g : am_G} {t : Nat} {Q : am_R → Prop} {x1 : Int32} {x2 : Int32} {x3 : Int32} {x4 : Int32} {s0 : Int32}
    (h : Q (.inl (some (.int s0)), g, t)) :
    am_GQ (106, 102, [(0, .ref 32), (1, .int x1), (2, .int x2), (3, .int x3), (4, .int x4)], [.int s0], g, t) Q := am_wp_ok [27, 111, 195, 261] 1 h
theorem B_M_reason_0 {g : am_G} {t : Nat} {Q : am_R → Prop} {x1 : Int32}
    (h : am_GQ (118, 0, [(0, .int x1), (1, .int (Int32.ofNat 0)), (2, .int (Int32.ofNat 31))], [], (am_w g 32 2 (Int32.ofNat 0)), t) (am_af 107 9 [(0, .ref 32), (1, .int x1)] [] Q)) :
    am_GQ (107, 0, [(0, .ref 32), (1, .int x1)], [], g, t) Q := am_wp_ok [] 7 h
theorem B_M_reason_12 {g : am_G} {t : Nat} {Q : am_R → Prop} {x1 : Int32} {s0 : Int32}
    (h : (s0 = (Int32.ofNat 0) → Q (.inl (some (.int (-1))), g, t)) ∧ (¬ s0 = (Int32.ofNat 0) → am_chk (am_in x1 32) (Q (.inl (some (.int (g 52 (Int32.toNatClampNeg x1)))), g, t)))) :
    am_GQ (107, 12, [(0, .ref 32), (1, .int x1)], [.int s0], g, t) Q := am_wp_ok [] 7 h
theorem B_M_reasonsOf_0 {g : am_G} {t : Nat} {Q : am_R → Prop} {x1 : Int32}
    (h : am_GQ (108, 2, [(0, .ref 32), (1, .int x1), (2, .int (Int32.ofNat 0))], [], g, t) Q) :
    am_GQ (108, 0, [(0, .ref 32), (1, .int x1)], [], g, t) Q := am_wp_ok [2, 23, 31, 68, 105, 124, 167, 168] 2 h
theorem B_M_reasonsOf_2 {g : am_G} {t : Nat} {Q : am_R → Prop} {x1 : Int32} {x2 : Int32}
    (h : ((Int32.ofNat 32) ≤ x2 → am_GQ (108, 23, [(0, .ref 32), (1, .int x1), (2, .int (Int32.ofNat 0))], [], g, t) Q) ∧ (x2 < (Int32.ofNat 32) → am_chk (am_in x2 32) (am_GQ (108, 2, [(0, .ref 32), (1, .int x1), (2, .int (x2 + (Int32.ofNat 1)))], [], (am_w g 50 (Int32.toNatClampNeg x2) (Int32.ofNat 0)), t) Q))) :
    am_GQ (108, 2, [(0, .ref 32), (1, .int x1), (2, .int x2)], [], g, t) Q := am_wp_ok [2, 23, 31, 68, 105, 124, 167, 168] 10 h
theorem B_M_reasonsOf_23 {g : am_G} {t : Nat} {Q : am_R → Prop} {x1 : Int32} {x2 : Int32}
    (h : ((Int32.ofNat 33) ≤ x2 → Q (.inl none, g, t)) ∧ (x2 < (Int32.ofNat 33) → am_GQ (108, 31, [(0, .ref 32), (1, .int x1), (2, .int x2), (3, .int (Int32.ofNat 0))], [], g, t) Q)) :
    am_GQ (108, 23, [(0, .ref 32), (1, .int x1), (2, .int x2)], [], g, t) Q := am_wp_ok [2, 23, 31, 68, 105, 124, 167, 168] 5 h
theorem B_M_reasonsOf_31 {g : am_G} {t : Nat} {Q : am_R → Prop} {x1 : Int32} {x2 : Int32} {x3 : Int32}
    (h : ((Int32.ofNat 32) ≤ x3 → am_GQ (108, 23, [(0, .ref 32), (1, .int x1), (2, .int (x2 + (Int32.ofNat 1)))], [], g, t) Q) ∧ (x3 < (Int32.ofNat 32) → am_GQ (99, 0, [(0, .int x1), (1, .int x3)], [], g, t) (am_af 108 39 [(0, .ref 32), (1, .int x1), (2, .int x2), (3, .int x3)] [] Q))) :
    am_GQ (108, 31, [(0, .ref 32), (1, .int x1), (2, .int x2), (3, .int x3)], [], g, t) Q := am_wp_ok [2, 23, 31, 68, 105, 124, 167, 168] 6 h
theorem B_M_reasonsOf_42 {g : am_G} {t : Nat} {Q : am_R → Prop} {x1 : Int32} {x2 : Int32} {x3 : Int32} {s0 : Int32}
    (h : (s0 = (Int32.ofNat 0) → am_GQ (108, 168, [(0, .ref 32), (1, .int x1), (2, .int x2), (3, .int x3)], [], g, t) Q) ∧ (¬ s0 = (Int32.ofNat 0) → am_GQ (99, 0, [(0, .int (g 32 23)), (1, .int x3)], [], g, t) (am_af 108 50 [(0, .ref 32), (1, .int x1), (2, .int x2), (3, .int x3)] [] Q))) :
    am_GQ (108, 42, [(0, .ref 32), (1, .int x1), (2, .int x2), (3, .int x3)], [.int s0], g, t) Q := am_wp_ok [2, 23, 31, 68, 105, 124, 167, 168] 5 h
theorem B_M_reasonsOf_168 {g : am_G} {t : Nat} {Q : am_R → Prop} {x1 : Int32} {x2 : Int32} {x3 : Int32}
    (h : am_GQ (108, 31, [(0, .ref 32), (1, .int x1), (2, .int x2), (3, .int (x3 + (Int32.ofNat 1)))], [], g, t) Q) :
    am_GQ (108, 168, [(0, .ref 32), (1, .int x1), (2, .int x2), (3, .int x3)], [], g, t) Q := am_wp_ok [2, 23, 31, 68, 105, 124, 167, 168] 2 h
theorem B_M_reasonsOf_53 {g : am_G} {t : Nat} {Q : am_R → Prop} {x1 : Int32} {x2 : Int32} {x3 : Int32} {s0 : Int32}
    (h : (¬ s0 = (Int32.ofNat 0) → am_GQ (108, 68, [(0, .ref 32), (1, .int x1), (2, .int x2), (3, .int x3), (4, .int (Int32.ofNat 0)), (5, .int (Int32.ofNat 0)), (6, .int (Int32.ofNat 0))], [], g, t) Q) ∧ (s0 = (Int32.ofNat 0) → am_GQ (108, 168, [(0, .ref 32), (1, .int x1), (2, .int x2), (3, .int x3)], [], g, t) Q)) :
    am_GQ (108, 53, [(0, .ref 32), (1, .int x1), (2, .int x2), (3, .int x3)], [.int s0], g, t) Q := am_wp_ok [2, 23, 31, 68, 105, 124, 167, 168] 7 h
theorem B_M_reasonsOf_68 {g : am_G} {t : Nat} {Q : am_R → Prop} {x1 : Int32} {x2 : Int32} {x3 : Int32} {x4 : Int32} {x5 : Int32} {x6 : Int32}
    (h : ((Int32.ofNat 32) ≤ x6 → am_chk (am_in x3 32) ((¬ (g 47 (Int32.toNatClampNeg x3)) = (Int32.ofNat 0) → (x4 = (Int32.ofNat 0) → (x5 = (Int32.ofNat 0) → am_GQ (108, 167, [(0, .ref 32), (1, .int x1), (2, .int x2), (3, .int x3)], [.int (Int32.ofNat 0), .int x3, .ref 50], g, t) Q) ∧ (¬ x5 = (Int32.ofNat 0) → am_GQ (108, 167, [(0, .ref 32), (1, .int x1), (2, .int x2), (3, .int x3)], [.int (Int32.ofNat 3), .int x3, .ref 50], g, t) Q)) ∧ (¬ x4 = (Int32.ofNat 0) → am_GQ (108, 167, [(0, .ref 32), (1, .int x1), (2, .int x2), (3, .int x3)], [.int (Int32.ofNat 2), .int x3, .ref 50], g, t) Q)) ∧ ((g 47 (Int32.toNatClampNeg x3)) = (Int32.ofNat 0) → am_GQ (108, 167, [(0, .ref 32), (1, .int x1), (2, .int x2), (3, .int x3)], [.int (Int32.ofNat 1), .int x3, .ref 50], g, t) Q))) ∧ (x6 < (Int32.ofNat 32) → am_chk (am_in x3 32) (am_GQ (99, 0, [(0, .int (g 48 (Int32.toNatClampNeg x3))), (1, .int x6)], [], g, t) (am_af 108 83 [(0, .ref 32), (1, .int x1), (2, .int x2), (3, .int x3), (4, .int x4), (5, .int x5), (6, .int x6)] [] Q)))) :
    am_GQ (108, 68, [(0, .ref 32), (1, .int x1), (2, .int x2), (3, .int x3), (4, .int x4), (5, .int x5), (6, .int x6)], [], g, t) Q := am_wp_ok [2, 23, 31, 68, 105, 124, 167, 168] 17 h
theorem B_M_reasonsOf_167 {g : am_G} {t : Nat} {Q : am_R → Prop} {x1 : Int32} {x2 : Int32} {x3 : Int32} {s0 : Int32} {s1 : Int32}
    (h : am_chk (am_in s1 32) (am_GQ (108, 168, [(0, .ref 32), (1, .int x1), (2, .int x2), (3, .int x3)], [], (am_w g 50 (Int32.toNatClampNeg s1) s0), t) Q)) :
    am_GQ (108, 167, [(0, .ref 32), (1, .int x1), (2, .int x2), (3, .int x3)], [.int s0, .int s1, .ref 50], g, t) Q := am_wp_ok [2, 23, 31, 68, 105, 124, 167, 168] 1 h
theorem B_M_reasonsOf_86 {g : am_G} {t : Nat} {Q : am_R → Prop} {x1 : Int32} {x2 : Int32} {x3 : Int32} {x4 : Int32} {x5 : Int32} {x6 : Int32} {s0 : Int32}
    (h : (¬ s0 = (Int32.ofNat 0) → am_chk (am_in x6 32) (((g 50 (Int32.toNatClampNeg x6)) ≤ (Int32.ofNat 0) → am_GQ (108, 105, [(0, .ref 32), (1, .int x1), (2, .int x2), (3, .int x3), (4, .int x4), (5, .int x5), (6, .int x6)], [], g, t) Q) ∧ ((Int32.ofNat 0) < (g 50 (Int32.toNatClampNeg x6)) → am_GQ (108, 105, [(0, .ref 32), (1, .int x1), (2, .int x2), (3, .int x3), (4, .int (Int32.ofNat 1)), (5, .int x5), (6, .int x6)], [], g, t) Q))) ∧ (s0 = (Int32.ofNat 0) → am_GQ (108, 124, [(0, .ref 32), (1, .int x1), (2, .int x2), (3, .int x3), (4, .int x4), (5, .int x5), (6, .int x6)], [], g, t) Q)) :
    am_GQ (108, 86, [(0, .ref 32), (1, .int x1), (2, .int x2), (3, .int x3), (4, .int x4), (5, .int x5), (6, .int x6)], [.int s0], g, t) Q := am_wp_ok [2, 23, 31, 68, 105, 124, 167, 168] 8 h
theorem B_M_reasonsOf_105 {g : am_G} {t : Nat} {Q : am_R → Prop} {x1 : Int32} {x2 : Int32} {x3 : Int32} {x4 : Int32} {x5 : Int32} {x6 : Int32}
    (h : am_chk (am_in x6 32) (am_chk (am_in x3 32) (((g 47 (Int32.toNatClampNeg x6)) ≤ (g 47 (Int32.toNatClampNeg x3)) → am_GQ (108, 124, [(0, .ref 32), (1, .int x1), (2, .int x2), (3, .int x3), (4, .int x4), (5, .int x5), (6, .int x6)], [], g, t) Q) ∧ ((g 47 (Int32.toNatClampNeg x3)) < (g 47 (Int32.toNatClampNeg x6)) → am_GQ (108, 124, [(0, .ref 32), (1, .int x1), (2, .int x2), (3, .int x3), (4, .int x4), (5, .int (Int32.ofNat 1)), (6, .int x6)], [], g, t) Q)))) :
    am_GQ (108, 105, [(0, .ref 32), (1, .int x1), (2, .int x2), (3, .int x3), (4, .int x4), (5, .int x5), (6, .int x6)], [], g, t) Q := am_wp_ok [2, 23, 31, 68, 105, 124, 167, 168] 11 h
theorem B_M_reasonsOf_124 {g : am_G} {t : Nat} {Q : am_R → Prop} {x1 : Int32} {x2 : Int32} {x3 : Int32} {x4 : Int32} {x5 : Int32} {x6 : Int32}
    (h : am_GQ (108, 68, [(0, .ref 32), (1, .int x1), (2, .int x2), (3, .int x3), (4, .int x4), (5, .int x5), (6, .int (x6 + (Int32.ofNat 1)))], [], g, t) Q) :
    am_GQ (108, 124, [(0, .ref 32), (1, .int x1), (2, .int x2), (3, .int x3), (4, .int x4), (5, .int x5), (6, .int x6)], [], g, t) Q := am_wp_ok [2, 23, 31, 68, 105, 124, 167, 168] 2 h
theorem B_M_recipe_0 {g : am_G} {t : Nat} {Q : am_R → Prop} {x1 : Int32}
    (h : am_GQ (118, 0, [(0, .int x1), (1, .int (Int32.ofNat 0)), (2, .int (Int32.ofNat 31))], [], (am_w g 32 2 (Int32.ofNat 0)), t) (am_af 109 9 [(0, .ref 32), (1, .int x1)] [] Q)) :
    am_GQ (109, 0, [(0, .ref 32), (1, .int x1)], [], g, t) Q := am_wp_ok [] 7 h
theorem B_M_recipe_12 {g : am_G} {t : Nat} {Q : am_R → Prop} {x1 : Int32} {s0 : Int32}
    (h : (s0 = (Int32.ofNat 0) → Q (.inl (some (.int (-1))), g, t)) ∧ (¬ s0 = (Int32.ofNat 0) → Q (.inl (some (.int (((g 32 18) >>> (x1 &&& Int32.ofNat 31)) &&& (Int32.ofNat 1)))), g, t))) :
    am_GQ (109, 12, [(0, .ref 32), (1, .int x1)], [.int s0], g, t) Q := am_wp_ok [] 9 h
theorem B_M_ring_0 {g : am_G} {t : Nat} {Q : am_R → Prop} {x1 : Int32}
    (h : am_GQ (110, 4, [(0, .ref 32), (1, .int x1), (2, .int x1), (3, .int (Int32.ofNat 0))], [], g, t) Q) :
    am_GQ (110, 0, [(0, .ref 32), (1, .int x1)], [], g, t) Q := am_wp_ok [4, 28, 36, 67] 4 h
theorem B_M_ring_4 {g : am_G} {t : Nat} {Q : am_R → Prop} {x1 : Int32} {x2 : Int32} {x3 : Int32}
    (h : ((Int32.ofNat 26) ≤ x3 → am_GQ (110, 36, [(0, .ref 32), (1, .int x1), (2, .int x2), (3, .int (Int32.ofNat 0))], [], g, t) Q) ∧ (x3 < (Int32.ofNat 26) → (¬ ((x1 >>> (x3 &&& Int32.ofNat 31)) &&& (Int32.ofNat 1)) = (Int32.ofNat 1) → am_GQ (110, 28, [(0, .ref 32), (1, .int x1), (2, .int x2), (3, .int x3)], [], g, t) Q) ∧ (((x1 >>> (x3 &&& Int32.ofNat 31)) &&& (Int32.ofNat 1)) = (Int32.ofNat 1) → am_chk (am_in x3 26) (am_GQ (110, 28, [(0, .ref 32), (1, .int x1), (2, .int (x2 ||| (g 36 (Int32.toNatClampNeg x3)))), (3, .int x3)], [], g, t) Q)))) :
    am_GQ (110, 4, [(0, .ref 32), (1, .int x1), (2, .int x2), (3, .int x3)], [], g, t) Q := am_wp_ok [4, 28, 36, 67] 17 h
theorem B_M_ring_36 {g : am_G} {t : Nat} {Q : am_R → Prop} {x1 : Int32} {x2 : Int32} {x3 : Int32}
    (h : ((Int32.ofNat 26) ≤ x3 → am_chk (am_isb (Int32.ofNat 0)) (Q (.inl (some (.int (Int32.ofNat 0))), g, t))) ∧ (x3 < (Int32.ofNat 26) → (¬ ((x2 >>> (x3 &&& Int32.ofNat 31)) &&& (Int32.ofNat 1)) = (Int32.ofNat 1) → am_GQ (110, 67, [(0, .ref 32), (1, .int x1), (2, .int x2), (3, .int x3)], [], g, t) Q) ∧ (((x2 >>> (x3 &&& Int32.ofNat 31)) &&& (Int32.ofNat 1)) = (Int32.ofNat 1) → am_chk (am_in x3 26) ((¬ (((g 36 (Int32.toNatClampNeg x3)) >>> (x3 &&& Int32.ofNat 31)) &&& (Int32.ofNat 1)) = (Int32.ofNat 1) → am_GQ (110, 67, [(0, .ref 32), (1, .int x1), (2, .int x2), (3, .int x3)], [], g, t) Q) ∧ ((((g 36 (Int32.toNatClampNeg x3)) >>> (x3 &&& Int32.ofNat 31)) &&& (Int32.ofNat 1)) = (Int32.ofNat 1) → am_chk (am_isb (Int32.ofNat 1)) (Q (.inl (some (.int (Int32.ofNat 1))), g, t))))))) :
    am_GQ (110, 36, [(0, .ref 32), (1, .int x1), (2, .int x2), (3, .int x3)], [], g, t) Q := am_wp_ok [4, 28, 36, 67] 22 h
theorem B_M_ring_28 {g : am_G} {t : Nat} {Q : am_R → Prop} {x1 : Int32} {x2 : Int32} {x3 : Int32}
    (h : am_GQ (110, 4, [(0, .ref 32), (1, .int x1), (2, .int x2), (3, .int (x3 + (Int32.ofNat 1)))], [], g, t) Q) :
    am_GQ (110, 28, [(0, .ref 32), (1, .int x1), (2, .int x2), (3, .int x3)], [], g, t) Q := am_wp_ok [4, 28, 36, 67] 2 h
theorem B_M_ring_67 {g : am_G} {t : Nat} {Q : am_R → Prop} {x1 : Int32} {x2 : Int32} {x3 : Int32}
    (h : am_GQ (110, 36, [(0, .ref 32), (1, .int x1), (2, .int x2), (3, .int (x3 + (Int32.ofNat 1)))], [], g, t) Q) :
    am_GQ (110, 67, [(0, .ref 32), (1, .int x1), (2, .int x2), (3, .int x3)], [], g, t) Q := am_wp_ok [4, 28, 36, 67] 2 h
theorem B_M_segment_0 {g : am_G} {t : Nat} {Q : am_R → Prop} {x1 : Int32} {x2 : Int32}
    (h : am_GQ (111, 20, [(0, .ref 32), (1, .int x1), (2, .int x2), (3, .int x1), (4, .int (Int32.ofNat 0))], [], (am_w (am_w (am_w g 32 30 (Int32.ofNat 0)) 32 31 (Int32.ofNat 0)) 32 32 (Int32.ofNat 0)), t) Q) :
    am_GQ (111, 0, [(0, .ref 32), (1, .int x1), (2, .int x2)], [], g, t) Q := am_wp_ok [20, 140, 203, 218, 221] 13 h
theorem B_M_segment_20 {g : am_G} {t : Nat} {Q : am_R → Prop} {x1 : Int32} {x2 : Int32} {x3 : Int32} {x4 : Int32}
    (h : ((Int32.ofNat 240) ≤ x4 → am_chk (am_isb (Int32.ofNat 1)) (Q (.inl (some (.int (Int32.ofNat 1))), g, t))) ∧ (x4 < (Int32.ofNat 240) → (x2 ≤ x3 → am_chk (am_isb (Int32.ofNat 1)) (Q (.inl (some (.int (Int32.ofNat 1))), g, t))) ∧ (x3 < x2 → am_chk (am_in x3 240) (am_GQ (92, 0, [(0, .ref 32), (1, .int (x3 + (Int32.ofNat 1))), (2, .int x2)], [], g, t) (am_af 111 46 [(0, .ref 32), (1, .int x1), (2, .int x2), (3, .int x3), (4, .int x4), (5, .int (g 33 (Int32.toNatClampNeg x3)))] [] Q))))) :
    am_GQ (111, 20, [(0, .ref 32), (1, .int x1), (2, .int x2), (3, .int x3), (4, .int x4)], [], g, t) Q := am_wp_ok [20, 140, 203, 218, 221] 17 h
theorem B_M_segment_49 {g : am_G} {t : Nat} {Q : am_R → Prop} {x1 : Int32} {x2 : Int32} {x3 : Int32} {x4 : Int32} {x5 : Int32} {s0 : Int32}
    (h : (¬ x5 = (Int32.ofNat 32) → (¬ x5 = (Int32.ofNat 36) → am_GQ (111, 140, [(0, .ref 32), (1, .int x1), (2, .int x2), (3, .int x3), (4, .int x4), (5, .int x5), (6, .int s0)], [], g, t) Q) ∧ (x5 = (Int32.ofNat 36) → am_GQ (118, 0, [(0, .int s0), (1, .int (Int32.ofNat 65)), (2, .int (Int32.ofNat 90))], [], g, t) (am_af 111 77 [(0, .ref 32), (1, .int x1), (2, .int x2), (3, .int x3), (4, .int x4), (5, .int x5), (6, .int s0)] [] Q))) ∧ (x5 = (Int32.ofNat 32) → am_GQ (111, 221, [(0, .ref 32), (1, .int x1), (2, .int x2), (3, .int (x3 + (Int32.ofNat 1))), (4, .int x4)], [], g, t) Q)) :
    am_GQ (111, 49, [(0, .ref 32), (1, .int x1), (2, .int x2), (3, .int x3), (4, .int x4), (5, .int x5)], [.int s0], g, t) Q := am_wp_ok [20, 140, 203, 218, 221] 11 h
theorem B_M_segment_140 {g : am_G} {t : Nat} {Q : am_R → Prop} {x1 : Int32} {x2 : Int32} {x3 : Int32} {x4 : Int32} {x5 : Int32} {x6 : Int32}
    (h : am_GQ (118, 0, [(0, .int x5), (1, .int (Int32.ofNat 97)), (2, .int (Int32.ofNat 104))], [], g, t) (am_af 111 146 [(0, .ref 32), (1, .int x1), (2, .int x2), (3, .int x3), (4, .int x4), (5, .int x5), (6, .int x6)] [] Q)) :
    am_GQ (111, 140, [(0, .ref 32), (1, .int x1), (2, .int x2), (3, .int x3), (4, .int x4), (5, .int x5), (6, .int x6)], [], g, t) Q := am_wp_ok [20, 140, 203, 218, 221] 4 h
theorem B_M_segment_80 {g : am_G} {t : Nat} {Q : am_R → Prop} {x1 : Int32} {x2 : Int32} {x3 : Int32} {x4 : Int32} {x5 : Int32} {x6 : Int32} {s0 : Int32}
    (h : (s0 = (Int32.ofNat 0) → am_GQ (111, 140, [(0, .ref 32), (1, .int x1), (2, .int x2), (3, .int x3), (4, .int x4), (5, .int x5), (6, .int x6)], [], g, t) Q) ∧ (¬ s0 = (Int32.ofNat 0) → am_chk (am_in (x6 - (Int32.ofNat 65)) 26) (am_chk (am_in (x6 - (Int32.ofNat 65)) 26) (am_GQ (111, 203, [(0, .ref 32), (1, .int x1), (2, .int x2), (3, .int x3), (4, .int x4)], [], (am_w (am_w (am_w g 32 30 ((g 32 30) + (g 37 (Int32.toNatClampNeg (x6 - (Int32.ofNat 65)))))) 32 31 (((am_w g 32 30 ((g 32 30) + (g 37 (Int32.toNatClampNeg (x6 - (Int32.ofNat 65)))))) 32 31) ||| ((am_w g 32 30 ((g 32 30) + (g 37 (Int32.toNatClampNeg (x6 - (Int32.ofNat 65)))))) 38 (Int32.toNatClampNeg (x6 - (Int32.ofNat 65)))))) 32 32 (((am_w (am_w g 32 30 ((g 32 30) + (g 37 (Int32.toNatClampNeg (x6 - (Int32.ofNat 65)))))) 32 31 (((am_w g 32 30 ((g 32 30) + (g 37 (Int32.toNatClampNeg (x6 - (Int32.ofNat 65)))))) 32 31) ||| ((am_w g 32 30 ((g 32 30) + (g 37 (Int32.toNatClampNeg (x6 - (Int32.ofNat 65)))))) 38 (Int32.toNatClampNeg (x6 - (Int32.ofNat 65)))))) 32 32) ||| ((Int32.ofNat 1) <<< ((x6 - (Int32.ofNat 65)) &&& Int32.ofNat 31)))), t) Q)))) :
    am_GQ (111, 80, [(0, .ref 32), (1, .int x1), (2, .int x2), (3, .int x3), (4, .int x4), (5, .int x5), (6, .int x6)], [.int s0], g, t) Q := am_wp_ok [20, 140, 203, 218, 221] 34 h
theorem B_M_segment_221 {g : am_G} {t : Nat} {Q : am_R → Prop} {x1 : Int32} {x2 : Int32} {x3 : Int32} {x4 : Int32}
    (h : am_GQ (111, 20, [(0, .ref 32), (1, .int x1), (2, .int x2), (3, .int x3), (4, .int (x4 + (Int32.ofNat 1)))], [], g, t) Q) :
    am_GQ (111, 221, [(0, .ref 32), (1, .int x1), (2, .int x2), (3, .int x3), (4, .int x4)], [], g, t) Q := am_wp_ok [20, 140, 203, 218, 221] 2 h
theorem B_M_segment_149 {g : am_G} {t : Nat} {Q : am_R → Prop} {x1 : Int32} {x2 : Int32} {x3 : Int32} {x4 : Int32} {x5 : Int32} {x6 : Int32} {s0 : Int32}
    (h : (s0 = (Int32.ofNat 0) → am_chk (am_isb (Int32.ofNat 0)) (Q (.inl (some (.int (Int32.ofNat 0))), g, t))) ∧ (¬ s0 = (Int32.ofNat 0) → am_GQ (118, 0, [(0, .int x6), (1, .int (Int32.ofNat 48)), (2, .int (Int32.ofNat 51))], [], g, t) (am_af 111 158 [(0, .ref 32), (1, .int x1), (2, .int x2), (3, .int x3), (4, .int x4), (5, .int x5), (6, .int x6)] [] Q))) :
    am_GQ (111, 149, [(0, .ref 32), (1, .int x1), (2, .int x2), (3, .int x3), (4, .int x4), (5, .int x5), (6, .int x6)], [.int s0], g, t) Q := am_wp_ok [20, 140, 203, 218, 221] 5 h
theorem B_M_segment_203 {g : am_G} {t : Nat} {Q : am_R → Prop} {x1 : Int32} {x2 : Int32} {x3 : Int32} {x4 : Int32}
    (h : ((g 32 30) ≤ (Int32.ofNat 65) → am_GQ (111, 218, [(0, .ref 32), (1, .int x1), (2, .int x2), (3, .int x3), (4, .int x4)], [], g, t) Q) ∧ ((Int32.ofNat 65) < (g 32 30) → am_GQ (111, 218, [(0, .ref 32), (1, .int x1), (2, .int x2), (3, .int x3), (4, .int x4)], [], (am_w g 32 30 (Int32.ofNat 65)), t) Q)) :
    am_GQ (111, 203, [(0, .ref 32), (1, .int x1), (2, .int x2), (3, .int x3), (4, .int x4)], [], g, t) Q := am_wp_ok [20, 140, 203, 218, 221] 7 h
theorem B_M_segment_161 {g : am_G} {t : Nat} {Q : am_R → Prop} {x1 : Int32} {x2 : Int32} {x3 : Int32} {x4 : Int32} {x5 : Int32} {x6 : Int32} {s0 : Int32}
    (h : (s0 = (Int32.ofNat 0) → am_chk (am_isb (Int32.ofNat 0)) (Q (.inl (some (.int (Int32.ofNat 0))), g, t))) ∧ (¬ s0 = (Int32.ofNat 0) → am_GQ (111, 203, [(0, .ref 32), (1, .int x1), (2, .int x2), (3, .int x3), (4, .int x4)], [], (am_w (am_w g 32 30 ((g 32 30) + (Int32.ofNat 1))) 32 31 (((am_w g 32 30 ((g 32 30) + (Int32.ofNat 1))) 32 31) ||| ((Int32.ofNat 1) <<< (((((Int32.ofNat 4) * (x5 - (Int32.ofNat 97))) + x6) - (Int32.ofNat 48)) &&& Int32.ofNat 31)))), t) Q)) :
    am_GQ (111, 161, [(0, .ref 32), (1, .int x1), (2, .int x2), (3, .int x3), (4, .int x4), (5, .int x5), (6, .int x6)], [.int s0], g, t) Q := am_wp_ok [20, 140, 203, 218, 221] 24 h
theorem B_M_segment_218 {g : am_G} {t : Nat} {Q : am_R → Prop} {x1 : Int32} {x2 : Int32} {x3 : Int32} {x4 : Int32}
    (h : am_GQ (111, 221, [(0, .ref 32), (1, .int x1), (2, .int x2), (3, .int (x3 + (Int32.ofNat 2))), (4, .int x4)], [], g, t) Q) :
    am_GQ (111, 218, [(0, .ref 32), (1, .int x1), (2, .int x2), (3, .int x3), (4, .int x4)], [], g, t) Q := am_wp_ok [20, 140, 203, 218, 221] 1 h
theorem B_M_sources_0 {g : am_G} {t : Nat} {Q : am_R → Prop} {x1 : Int32}
    (h : am_GQ (118, 0, [(0, .int x1), (1, .int (Int32.ofNat 0)), (2, .int (Int32.ofNat 31))], [], (am_w g 32 2 (Int32.ofNat 0)), t) (am_af 112 9 [(0, .ref 32), (1, .int x1)] [] Q)) :
    am_GQ (112, 0, [(0, .ref 32), (1, .int x1)], [], g, t) Q := am_wp_ok [] 7 h
theorem B_M_sources_12 {g : am_G} {t : Nat} {Q : am_R → Prop} {x1 : Int32} {s0 : Int32}
    (h : (s0 = (Int32.ofNat 0) → Q (.inl (some (.int (Int32.ofNat 0))), g, t)) ∧ (¬ s0 = (Int32.ofNat 0) → am_chk (am_in x1 32) (Q (.inl (some (.int (g 45 (Int32.toNatClampNeg x1)))), g, t)))) :
    am_GQ (112, 12, [(0, .ref 32), (1, .int x1)], [.int s0], g, t) Q := am_wp_ok [] 7 h
theorem B_M_spaces_0 {g : am_G} {t : Nat} {Q : am_R → Prop} {x1 : Int32} {x2 : Int32}
    (h : am_GQ (113, 2, [(0, .ref 32), (1, .int x1), (2, .int x2), (3, .int x1)], [], g, t) Q) :
    am_GQ (113, 0, [(0, .ref 32), (1, .int x1), (2, .int x2)], [], g, t) Q := am_wp_ok [2] 2 h
theorem B_M_spaces_2 {g : am_G} {t : Nat} {Q : am_R → Prop} {x1 : Int32} {x2 : Int32} {x3 : Int32}
    (h : (x2 ≤ x3 → am_chk (am_isb (Int32.ofNat 1)) (Q (.inl (some (.int (Int32.ofNat 1))), g, t))) ∧ (x3 < x2 → am_chk (am_in x3 240) (((g 33 (Int32.toNatClampNeg x3)) = (Int32.ofNat 32) → am_GQ (113, 2, [(0, .ref 32), (1, .int x1), (2, .int x2), (3, .int (x3 + (Int32.ofNat 1)))], [], g, t) Q) ∧ (¬ (g 33 (Int32.toNatClampNeg x3)) = (Int32.ofNat 32) → am_chk (am_isb (Int32.ofNat 0)) (Q (.inl (some (.int (Int32.ofNat 0))), g, t)))))) :
    am_GQ (113, 2, [(0, .ref 32), (1, .int x1), (2, .int x2), (3, .int x3)], [], g, t) Q := am_wp_ok [2] 11 h
theorem B_M_stamp_0 {g : am_G} {t : Nat} {Q : am_R → Prop} {x1 : Int32} {x2 : Int32}
    (h : am_GQ (118, 0, [(0, .int x1), (1, .int (Int32.ofNat 0)), (2, .int (Int32.ofNat 31))], [], (am_w g 32 2 (Int32.ofNat 0)), t) (am_af 114 9 [(0, .ref 32), (1, .int x1), (2, .int x2)] [] Q)) :
    am_GQ (114, 0, [(0, .ref 32), (1, .int x1), (2, .int x2)], [], g, t) Q := am_wp_ok [] 7 h
theorem B_M_stamp_12 {g : am_G} {t : Nat} {Q : am_R → Prop} {x1 : Int32} {x2 : Int32} {s0 : Int32}
    (h : (s0 = (Int32.ofNat 0) → am_chk (am_isb (Int32.ofNat 0)) (Q (.inl (some (.int (Int32.ofNat 0))), g, t))) ∧ (¬ s0 = (Int32.ofNat 0) → am_GQ (118, 0, [(0, .int x2), (1, .int (Int32.ofNat 0)), (2, .int (Int32.ofNat 1000000000))], [], g, t) (am_af 114 19 [(0, .ref 32), (1, .int x1), (2, .int x2)] [] Q))) :
    am_GQ (114, 12, [(0, .ref 32), (1, .int x1), (2, .int x2)], [.int s0], g, t) Q := am_wp_ok [] 5 h
theorem B_M_stamp_22 {g : am_G} {t : Nat} {Q : am_R → Prop} {x1 : Int32} {x2 : Int32} {s0 : Int32}
    (h : (¬ s0 = (Int32.ofNat 0) → am_chk (am_in x1 32) (am_chk (am_isb (Int32.ofNat 1)) (Q (.inl (some (.int (Int32.ofNat 1))), (am_w g 47 (Int32.toNatClampNeg x1) x2), t)))) ∧ (s0 = (Int32.ofNat 0) → am_chk (am_isb (Int32.ofNat 0)) (Q (.inl (some (.int (Int32.ofNat 0))), g, t)))) :
    am_GQ (114, 22, [(0, .ref 32), (1, .int x1), (2, .int x2)], [.int s0], g, t) Q := am_wp_ok [] 8 h
theorem B_M_stampOf_0 {g : am_G} {t : Nat} {Q : am_R → Prop} {x1 : Int32}
    (h : am_GQ (118, 0, [(0, .int x1), (1, .int (Int32.ofNat 0)), (2, .int (Int32.ofNat 31))], [], (am_w g 32 2 (Int32.ofNat 0)), t) (am_af 115 9 [(0, .ref 32), (1, .int x1)] [] Q)) :
    am_GQ (115, 0, [(0, .ref 32), (1, .int x1)], [], g, t) Q := am_wp_ok [] 7 h
theorem B_M_stampOf_12 {g : am_G} {t : Nat} {Q : am_R → Prop} {x1 : Int32} {s0 : Int32}
    (h : (s0 = (Int32.ofNat 0) → Q (.inl (some (.int (-1))), g, t)) ∧ (¬ s0 = (Int32.ofNat 0) → am_chk (am_in x1 32) (Q (.inl (some (.int (g 47 (Int32.toNatClampNeg x1)))), g, t)))) :
    am_GQ (115, 12, [(0, .ref 32), (1, .int x1)], [.int s0], g, t) Q := am_wp_ok [] 7 h
theorem B_M_take_0 {g : am_G} {t : Nat} {Q : am_R → Prop}
    (h : am_GQ (116, 2, [(0, .ref 32), (1, .int (Int32.ofNat 0))], [], g, t) Q) :
    am_GQ (116, 0, [(0, .ref 32)], [], g, t) Q := am_wp_ok [2, 23, 75, 111, 125] 2 h
theorem B_M_take_2 {g : am_G} {t : Nat} {Q : am_R → Prop} {x1 : Int32}
    (h : ((Int32.ofNat 32) ≤ x1 → am_GQ (116, 23, [(0, .ref 32), (1, .int (Int32.ofNat 0))], [], g, t) Q) ∧ (x1 < (Int32.ofNat 32) → am_chk (am_in x1 32) (am_GQ (116, 2, [(0, .ref 32), (1, .int (x1 + (Int32.ofNat 1)))], [], (am_w g 45 (Int32.toNatClampNeg x1) (Int32.ofNat 0)), t) Q))) :
    am_GQ (116, 2, [(0, .ref 32), (1, .int x1)], [], g, t) Q := am_wp_ok [2, 23, 75, 111, 125] 10 h
theorem B_M_take_23 {g : am_G} {t : Nat} {Q : am_R → Prop} {x1 : Int32}
    (h : ((g 32 14) ≤ x1 → am_GQ (116, 125, [(0, .ref 32), (1, .int (Int32.ofNat 0))], [], g, t) Q) ∧ (x1 < (g 32 14) → am_chk (am_in x1 64) (am_chk (am_in x1 64) (am_GQ (111, 0, [(0, .ref 32), (1, .int (g 39 (Int32.toNatClampNeg x1))), (2, .int (g 40 (Int32.toNatClampNeg x1)))], [], g, t) (am_af 116 44 [(0, .ref 32), (1, .int x1)] [] Q))))) :
    am_GQ (116, 23, [(0, .ref 32), (1, .int x1)], [], g, t) Q := am_wp_ok [2, 23, 75, 111, 125] 14 h
theorem B_M_take_125 {g : am_G} {t : Nat} {Q : am_R → Prop} {x1 : Int32}
    (h : ((g 32 16) ≤ x1 → Q (.inl none, (am_w g 32 20 (g 32 16)), t)) ∧ (x1 < (g 32 16) → am_chk (am_in x1 32) (am_chk (am_in x1 32) (am_GQ (116, 125, [(0, .ref 32), (1, .int (x1 + (Int32.ofNat 1)))], [], (am_w g 46 (Int32.toNatClampNeg x1) (g 44 (Int32.toNatClampNeg x1))), t) Q)))) :
    am_GQ (116, 125, [(0, .ref 32), (1, .int x1)], [], g, t) Q := am_wp_ok [2, 23, 75, 111, 125] 14 h
theorem B_M_take_47 {g : am_G} {t : Nat} {Q : am_R → Prop} {x1 : Int32} {s0 : Int32}
    (h : am_chk (am_in x1 64) (am_chk (am_in x1 64) (am_GQ (111, 0, [(0, .ref 32), (1, .int ((g 40 (Int32.toNatClampNeg x1)) + (Int32.ofNat 1))), (2, .int (g 41 (Int32.toNatClampNeg x1)))], [], g, t) (am_af 116 68 [(0, .ref 32), (1, .int x1), (2, .int s0), (3, .int (g 32 31))] [] Q)))) :
    am_GQ (116, 47, [(0, .ref 32), (1, .int x1)], [.int s0], g, t) Q := am_wp_ok [2, 23, 75, 111, 125] 16 h
theorem B_M_take_71 {g : am_G} {t : Nat} {Q : am_R → Prop} {x1 : Int32} {x2 : Int32} {x3 : Int32} {s0 : Int32}
    (h : am_GQ (116, 75, [(0, .ref 32), (1, .int x1), (2, .int s0), (3, .int x3), (4, .int (Int32.ofNat 0))], [], g, t) Q) :
    am_GQ (116, 71, [(0, .ref 32), (1, .int x1), (2, .int x2), (3, .int x3)], [.int s0], g, t) Q := am_wp_ok [2, 23, 75, 111, 125] 3 h
theorem B_M_take_75 {g : am_G} {t : Nat} {Q : am_R → Prop} {x1 : Int32} {x2 : Int32} {x3 : Int32} {x4 : Int32}
    (h : ((Int32.ofNat 32) ≤ x4 → am_GQ (116, 23, [(0, .ref 32), (1, .int (x1 + (Int32.ofNat 1)))], [], g, t) Q) ∧ (x4 < (Int32.ofNat 32) → (¬ ((x3 >>> (x4 &&& Int32.ofNat 31)) &&& (Int32.ofNat 1)) = (Int32.ofNat 1) → am_GQ (116, 111, [(0, .ref 32), (1, .int x1), (2, .int x2), (3, .int x3), (4, .int x4)], [], g, t) Q) ∧ (((x3 >>> (x4 &&& Int32.ofNat 31)) &&& (Int32.ofNat 1)) = (Int32.ofNat 1) → am_chk (am_in x4 32) (am_chk (am_in x4 32) (am_GQ (116, 111, [(0, .ref 32), (1, .int x1), (2, .int x2), (3, .int x3), (4, .int x4)], [], (am_w g 45 (Int32.toNatClampNeg x4) ((g 45 (Int32.toNatClampNeg x4)) ||| (g 32 31))), t) Q))))) :
    am_GQ (116, 75, [(0, .ref 32), (1, .int x1), (2, .int x2), (3, .int x3), (4, .int x4)], [], g, t) Q := am_wp_ok [2, 23, 75, 111, 125] 21 h
theorem B_M_take_111 {g : am_G} {t : Nat} {Q : am_R → Prop} {x1 : Int32} {x2 : Int32} {x3 : Int32} {x4 : Int32}
    (h : am_GQ (116, 75, [(0, .ref 32), (1, .int x1), (2, .int x2), (3, .int x3), (4, .int (x4 + (Int32.ofNat 1)))], [], g, t) Q) :
    am_GQ (116, 111, [(0, .ref 32), (1, .int x1), (2, .int x2), (3, .int x3), (4, .int x4)], [], g, t) Q := am_wp_ok [2, 23, 75, 111, 125] 2 h
theorem B_M_thrown_0 {g : am_G} {t : Nat} {Q : am_R → Prop}
    (h : Q (.inl (some (.int (g 32 2))), g, t)) :
    am_GQ (117, 0, [(0, .ref 32)], [], g, t) Q := am_wp_ok [] 3 h
theorem B_M_within_0 {g : am_G} {t : Nat} {Q : am_R → Prop} {x0 : Int32} {x1 : Int32} {x2 : Int32}
    (h : (x0 < x1 → am_chk (am_isb (Int32.ofNat 0)) (Q (.inl (some (.int (Int32.ofNat 0))), g, t))) ∧ (x1 ≤ x0 → (x2 < x0 → am_chk (am_isb (Int32.ofNat 0)) (Q (.inl (some (.int (Int32.ofNat 0))), g, t))) ∧ (x0 ≤ x2 → am_chk (am_isb (Int32.ofNat 1)) (Q (.inl (some (.int (Int32.ofNat 1))), g, t))))) :
    am_GQ (118, 0, [(0, .int x0), (1, .int x1), (2, .int x2)], [], g, t) Q := am_wp_ok [] 9 h
theorem B_M_write_0 {g : am_G} {t : Nat} {Q : am_R → Prop} {x1 : Int64}
    (h : am_GQ (119, 10, [(0, .ref 32), (1, .long x1), (3, .int (Int32.ofNat 0)), (4, .int (Int32.ofNat 0))], [], (am_w g 32 2 (Int32.ofNat 0)), t) Q) :
    am_GQ (119, 0, [(0, .ref 32), (1, .long x1)], [], g, t) Q := am_wp_ok [10, 57, 74] 7 h
theorem B_M_write_10 {g : am_G} {t : Nat} {Q : am_R → Prop} {x1 : Int64} {x3 : Int32} {x4 : Int32}
    (h : ((Int32.ofNat 8) ≤ x4 → am_GQ (119, 57, [(0, .ref 32), (1, .long x1), (3, .int x3)], [], g, t) Q) ∧ (x4 < (Int32.ofNat 8) → (¬ ((Int64.toInt32 (x1 >>> (Int32.toInt64 ((Int32.ofNat 8) * x4) &&& 63))) &&& (Int32.ofNat 255)) = (Int32.ofNat 0) → (((Int64.toInt32 (x1 >>> (Int32.toInt64 ((Int32.ofNat 8) * x4) &&& 63))) &&& (Int32.ofNat 255)) ≤ (Int32.ofNat 127) → am_GQ (119, 10, [(0, .ref 32), (1, .long x1), (3, .int (x3 + (Int32.ofNat 1))), (4, .int (x4 + (Int32.ofNat 1)))], [], g, t) Q) ∧ ((Int32.ofNat 127) < ((Int64.toInt32 (x1 >>> (Int32.toInt64 ((Int32.ofNat 8) * x4) &&& 63))) &&& (Int32.ofNat 255)) → Q (.inl (some (.int (-1))), g, t))) ∧ (((Int64.toInt32 (x1 >>> (Int32.toInt64 ((Int32.ofNat 8) * x4) &&& 63))) &&& (Int32.ofNat 255)) = (Int32.ofNat 0) → am_GQ (119, 57, [(0, .ref 32), (1, .long x1), (3, .int x3)], [], g, t) Q))) :
    am_GQ (119, 10, [(0, .ref 32), (1, .long x1), (3, .int x3), (4, .int x4)], [], g, t) Q := am_wp_ok [10, 57, 74] 20 h
theorem B_M_write_57 {g : am_G} {t : Nat} {Q : am_R → Prop} {x1 : Int64} {x3 : Int32}
    (h : (((g 32 1) + x3) ≤ (Int32.ofNat 240) → am_GQ (119, 74, [(0, .ref 32), (1, .long x1), (3, .int x3), (4, .int (Int32.ofNat 0))], [], g, t) Q) ∧ ((Int32.ofNat 240) < ((g 32 1) + x3) → Q (.inl (some (.int (-1))), g, t))) :
    am_GQ (119, 57, [(0, .ref 32), (1, .long x1), (3, .int x3)], [], g, t) Q := am_wp_ok [10, 57, 74] 8 h
theorem B_M_write_74 {g : am_G} {t : Nat} {Q : am_R → Prop} {x1 : Int64} {x3 : Int32} {x4 : Int32}
    (h : (x3 ≤ x4 → Q (.inl (some (.int x3)), (am_w g 32 1 ((g 32 1) + x3)), t)) ∧ (x4 < x3 → am_chk (am_in ((g 32 1) + x4) 240) (am_GQ (119, 74, [(0, .ref 32), (1, .long x1), (3, .int x3), (4, .int (x4 + (Int32.ofNat 1)))], [], (am_w g 33 (Int32.toNatClampNeg ((g 32 1) + x4)) ((Int64.toInt32 (x1 >>> (Int32.toInt64 ((Int32.ofNat 8) * x4) &&& 63))) &&& (Int32.ofNat 127))), t) Q))) :
    am_GQ (119, 74, [(0, .ref 32), (1, .long x1), (3, .int x3), (4, .int x4)], [], g, t) Q := am_wp_ok [10, 57, 74] 20 h
theorem B_J_bitCount_0 {g : am_G} {t : Nat} {Q : am_R → Prop} {x0 : Int32}
    (h : Q (.inl (some (.int ((((((((x0 - ((Int32.toUInt32 x0 >>> (Int32.toUInt32 (Int32.ofNat 1) &&& Int32.toUInt32 (Int32.ofNat 31))).toInt32 &&& (Int32.ofNat 1431655765))) &&& (Int32.ofNat 858993459)) + ((Int32.toUInt32 (x0 - ((Int32.toUInt32 x0 >>> (Int32.toUInt32 (Int32.ofNat 1) &&& Int32.toUInt32 (Int32.ofNat 31))).toInt32 &&& (Int32.ofNat 1431655765))) >>> (Int32.toUInt32 (Int32.ofNat 2) &&& Int32.toUInt32 (Int32.ofNat 31))).toInt32 &&& (Int32.ofNat 858993459))) + (Int32.toUInt32 (((x0 - ((Int32.toUInt32 x0 >>> (Int32.toUInt32 (Int32.ofNat 1) &&& Int32.toUInt32 (Int32.ofNat 31))).toInt32 &&& (Int32.ofNat 1431655765))) &&& (Int32.ofNat 858993459)) + ((Int32.toUInt32 (x0 - ((Int32.toUInt32 x0 >>> (Int32.toUInt32 (Int32.ofNat 1) &&& Int32.toUInt32 (Int32.ofNat 31))).toInt32 &&& (Int32.ofNat 1431655765))) >>> (Int32.toUInt32 (Int32.ofNat 2) &&& Int32.toUInt32 (Int32.ofNat 31))).toInt32 &&& (Int32.ofNat 858993459))) >>> (Int32.toUInt32 (Int32.ofNat 4) &&& Int32.toUInt32 (Int32.ofNat 31))).toInt32) &&& (Int32.ofNat 252645135)) + (Int32.toUInt32 (((((x0 - ((Int32.toUInt32 x0 >>> (Int32.toUInt32 (Int32.ofNat 1) &&& Int32.toUInt32 (Int32.ofNat 31))).toInt32 &&& (Int32.ofNat 1431655765))) &&& (Int32.ofNat 858993459)) + ((Int32.toUInt32 (x0 - ((Int32.toUInt32 x0 >>> (Int32.toUInt32 (Int32.ofNat 1) &&& Int32.toUInt32 (Int32.ofNat 31))).toInt32 &&& (Int32.ofNat 1431655765))) >>> (Int32.toUInt32 (Int32.ofNat 2) &&& Int32.toUInt32 (Int32.ofNat 31))).toInt32 &&& (Int32.ofNat 858993459))) + (Int32.toUInt32 (((x0 - ((Int32.toUInt32 x0 >>> (Int32.toUInt32 (Int32.ofNat 1) &&& Int32.toUInt32 (Int32.ofNat 31))).toInt32 &&& (Int32.ofNat 1431655765))) &&& (Int32.ofNat 858993459)) + ((Int32.toUInt32 (x0 - ((Int32.toUInt32 x0 >>> (Int32.toUInt32 (Int32.ofNat 1) &&& Int32.toUInt32 (Int32.ofNat 31))).toInt32 &&& (Int32.ofNat 1431655765))) >>> (Int32.toUInt32 (Int32.ofNat 2) &&& Int32.toUInt32 (Int32.ofNat 31))).toInt32 &&& (Int32.ofNat 858993459))) >>> (Int32.toUInt32 (Int32.ofNat 4) &&& Int32.toUInt32 (Int32.ofNat 31))).toInt32) &&& (Int32.ofNat 252645135)) >>> (Int32.toUInt32 (Int32.ofNat 8) &&& Int32.toUInt32 (Int32.ofNat 31))).toInt32) + (Int32.toUInt32 ((((((x0 - ((Int32.toUInt32 x0 >>> (Int32.toUInt32 (Int32.ofNat 1) &&& Int32.toUInt32 (Int32.ofNat 31))).toInt32 &&& (Int32.ofNat 1431655765))) &&& (Int32.ofNat 858993459)) + ((Int32.toUInt32 (x0 - ((Int32.toUInt32 x0 >>> (Int32.toUInt32 (Int32.ofNat 1) &&& Int32.toUInt32 (Int32.ofNat 31))).toInt32 &&& (Int32.ofNat 1431655765))) >>> (Int32.toUInt32 (Int32.ofNat 2) &&& Int32.toUInt32 (Int32.ofNat 31))).toInt32 &&& (Int32.ofNat 858993459))) + (Int32.toUInt32 (((x0 - ((Int32.toUInt32 x0 >>> (Int32.toUInt32 (Int32.ofNat 1) &&& Int32.toUInt32 (Int32.ofNat 31))).toInt32 &&& (Int32.ofNat 1431655765))) &&& (Int32.ofNat 858993459)) + ((Int32.toUInt32 (x0 - ((Int32.toUInt32 x0 >>> (Int32.toUInt32 (Int32.ofNat 1) &&& Int32.toUInt32 (Int32.ofNat 31))).toInt32 &&& (Int32.ofNat 1431655765))) >>> (Int32.toUInt32 (Int32.ofNat 2) &&& Int32.toUInt32 (Int32.ofNat 31))).toInt32 &&& (Int32.ofNat 858993459))) >>> (Int32.toUInt32 (Int32.ofNat 4) &&& Int32.toUInt32 (Int32.ofNat 31))).toInt32) &&& (Int32.ofNat 252645135)) + (Int32.toUInt32 (((((x0 - ((Int32.toUInt32 x0 >>> (Int32.toUInt32 (Int32.ofNat 1) &&& Int32.toUInt32 (Int32.ofNat 31))).toInt32 &&& (Int32.ofNat 1431655765))) &&& (Int32.ofNat 858993459)) + ((Int32.toUInt32 (x0 - ((Int32.toUInt32 x0 >>> (Int32.toUInt32 (Int32.ofNat 1) &&& Int32.toUInt32 (Int32.ofNat 31))).toInt32 &&& (Int32.ofNat 1431655765))) >>> (Int32.toUInt32 (Int32.ofNat 2) &&& Int32.toUInt32 (Int32.ofNat 31))).toInt32 &&& (Int32.ofNat 858993459))) + (Int32.toUInt32 (((x0 - ((Int32.toUInt32 x0 >>> (Int32.toUInt32 (Int32.ofNat 1) &&& Int32.toUInt32 (Int32.ofNat 31))).toInt32 &&& (Int32.ofNat 1431655765))) &&& (Int32.ofNat 858993459)) + ((Int32.toUInt32 (x0 - ((Int32.toUInt32 x0 >>> (Int32.toUInt32 (Int32.ofNat 1) &&& Int32.toUInt32 (Int32.ofNat 31))).toInt32 &&& (Int32.ofNat 1431655765))) >>> (Int32.toUInt32 (Int32.ofNat 2) &&& Int32.toUInt32 (Int32.ofNat 31))).toInt32 &&& (Int32.ofNat 858993459))) >>> (Int32.toUInt32 (Int32.ofNat 4) &&& Int32.toUInt32 (Int32.ofNat 31))).toInt32) &&& (Int32.ofNat 252645135)) >>> (Int32.toUInt32 (Int32.ofNat 8) &&& Int32.toUInt32 (Int32.ofNat 31))).toInt32) >>> (Int32.toUInt32 (Int32.ofNat 16) &&& Int32.toUInt32 (Int32.ofNat 31))).toInt32) &&& (Int32.ofNat 63)))), g, t)) :
    am_GQ (120, 0, [(0, .int x0)], [], g, t) Q := am_wp_ok [] 42 h
end
section
abbrev am_M : Type := MethodName × ByteArray × Nat × Option FieldType × Nat × Nat × Nat × Nat × Nat × Nat × Nat
def am_m (mi : Nat) : am_M := (am_nth am_ms mi).getD (⟨"", "", ""⟩, code, 0, none, 0, 0, 9, 0, 0, 0, 0)
def am_y (mi : Nat) : MethodName := (am_m mi).1
def am_own (mi : Nat) : String := (am_y mi).cls
def am_bytes (mi : Nat) : ByteArray := (am_m mi).2.1
def am_maxL (mi : Nat) : Nat := (am_m mi).2.2.1
def am_rt (mi : Nat) : Option FieldType := (am_m mi).2.2.2.1
def am_fr (mi : Nat) : Nat := (am_m mi).2.2.2.2.1
def am_lo (mi : Nat) : Nat := (am_m mi).2.2.2.2.2.1
def am_kd (mi : Nat) : Nat := (am_m mi).2.2.2.2.2.2.1
def am_wC (mi : Nat) : Nat := (am_m mi).2.2.2.2.2.2.2.1
def am_wI (mi : Nat) : Nat := (am_m mi).2.2.2.2.2.2.2.2.1
def am_wK (mi : Nat) : Nat := (am_m mi).2.2.2.2.2.2.2.2.2.1
def am_wS (mi : Nat) : Nat := (am_m mi).2.2.2.2.2.2.2.2.2.2
def am_LK : String := "RebuildDesk$LineKind"
def am_LKd : String := "LRebuildDesk$LineKind;"
def am_ens : List String := ["ILL_FORMED", "BLANK", "MACRO", "RULE", "PATTERN", "RECIPE"]
def am_WG : List Cond := lw_tbl.filter goodWord
def am_word (w : Nat) (q : Cond) : Bool := decide (lw_tbl[w]? = some q) && goodWord q
theorem am_word_in {w : Nat} {q : Cond} (h : am_word w q = true) : q ∈ am_WG := by
  simp only [am_word, Bool.and_eq_true, decide_eq_true_eq] at h
  exact List.mem_filter.mpr ⟨List.mem_of_getElem? h.1, h.2⟩
theorem am_good {ws : List Cond} (h : ∀ w ∈ ws, w ∈ am_WG) : GoodIn am_WG ws :=
  goodIn_of ws (List.all_eq_true.mpr (fun w hw => by rw [Bool.and_eq_true]; exact ⟨decide_eq_true (h w hw), (List.mem_filter.mp (h w hw)).2⟩))
def am_cw (a : Nat) : List Cond := Cond.code (am_y a) (am_bytes a) (am_maxL a) (am_rt a) :: am_WG
def am_rm (a : Nat) : Room := { frames := am_fr a, cells := 0, slots := 0, locals := am_lo a }
def am_okM (a : Nat) : Bool := am_word (am_wC a) (.code (am_y a) (am_bytes a) (am_maxL a) (am_rt a)) && am_word (am_wI a) (.initialized (am_own a)) && plainName (am_own a) && decide (am_own a ≠ "java/lang/invoke/MethodHandle") && decide (am_own a ≠ "java/lang/invoke/VarHandle") &&
  (bif Nat.beq (am_kd a) 1 then am_word (am_wK a) (.static (am_y a)) else am_word (am_wK a) (.instanceMethod (am_y a)) && am_word (am_wS a) (.selects (am_own a) (am_y a) (am_y a)))
def am_low (a : Nat) : Bool := Nat.beq (am_kd a) 1 || Nat.beq (am_kd a) 2
def am_callok (mi : Nat) (v : Value) (a d : Nat) : Bool := decide (v = .ref (am_maxL a)) && decide ((parseMethodDescriptor (am_y a).desc).map (fun q => q.parameters.length) = some d) && decide (am_fr a + 1 ≤ am_fr mi) && decide (8 + (am_maxL a + 11) + am_lo a ≤ am_lo mi)
def am_okI (mi pc : Nat) (i : Instr) (len nxt : Nat) (v : Value) (a b d w : Nat) : Bool := match i with
  | .iconst n => decide (len = 1) && decide (nxt = pc + 1) && decide (v = .int (Int32.ofInt n))
  | .bipush n => decide (len = 2) && decide (nxt = pc + 2) && decide (v = .int (Int8.ofInt n).toInt32)
  | .sipush n => decide (len = 3) && decide (nxt = pc + 3) && decide (v = .int (Int16.ofInt n).toInt32)
  | .ldc k => decide (len = 2) && decide (nxt = pc + 2) && (match v with | .int z => am_word w (.constant (am_own mi) k z) | _ => false)
  | .ldc_w k => decide (len = 3) && decide (nxt = pc + 3) && (match v with | .int z => am_word w (.constant (am_own mi) k z) | _ => false)
  | .ldc2_w k => decide (len = 3) && decide (nxt = pc + 3) && (match v with | .long z => am_word w (.constantLong (am_own mi) k z) | _ => false)
  | .iload_n k => decide (len = 1) && decide (nxt = pc + 1) && decide (k.val = a)
  | .lload_n k => decide (len = 1) && decide (nxt = pc + 1) && decide (k.val = a)
  | .aload_n k => decide (len = 1) && decide (nxt = pc + 1) && decide (k.val = a)
  | .iload k => decide (len = 2) && decide (nxt = pc + 2) && decide (k = a)
  | .aload k => decide (len = 2) && decide (nxt = pc + 2) && decide (k = a)
  | .istore_n k => decide (len = 1) && decide (nxt = pc + 1) && (decide (k.val = a) && decide (a < am_maxL mi))
  | .istore k => decide (len = 2) && decide (nxt = pc + 2) && (decide (k = a) && decide (a < am_maxL mi))
  | .iinc k z => decide (len = 3) && decide (nxt = pc + 3) && (decide (k = a) && decide (a < am_maxL mi) && decide (v = .int (Int32.ofInt z)))
  | .ifCond _ o => decide (len = 3) && decide (nxt = pc + 3) && decide ((pc : Int) + o = (a : Int))
  | .if_icmp _ o => decide (len = 3) && decide (nxt = pc + 3) && decide ((pc : Int) + o = (a : Int))
  | .if_acmp _ o => decide (len = 3) && decide (nxt = pc + 3) && decide ((pc : Int) + o = (a : Int))
  | .goto o => decide (len = 3) && decide (nxt = pc + 3) && decide ((pc : Int) + o = (a : Int))
  | .tableswitch df lo hi offs => decide (0 ≤ (pc : Int) + df) && decide ((offs.size : Int) = hi - lo + 1) && offs.toList.all (fun o => decide (0 ≤ (pc : Int) + o))
  | .getfield k => decide (len = 3) && decide (nxt = pc + 3) && (match am_nth am_cl a with
    | some (_, T, N) => decide (b < N) && am_word w (.fieldLink (am_own mi) k (T b).1 (T b).2.1 (T b).2.2.1)
    | none => false)
  | .putfield k => decide (len = 3) && decide (nxt = pc + 3) && (match am_nth am_cl a with
    | some (_, T, N) => decide (b < N) && am_word w (.fieldLink (am_own mi) k (T b).1 (T b).2.1 (T b).2.2.1) && (decide ((T b).2.2.1 = "I") && decide ((T b).2.2.2 = false))
    | none => false)
  | .getstatic k => decide (len = 3) && decide (nxt = pc + 3) && am_word w (.fieldLink (am_own mi) k am_LK (am_ens.getD a "") am_LKd)
  | .invokevirtual k => decide (len = 3) && decide (nxt = pc + 3) && (am_word w (.methodLink (am_own mi) k (am_y a)) && am_callok mi v a d && (match am_nth am_cl b with | some (C, _, _) => decide (C = am_own a) | none => false) && (bif Nat.beq (am_kd mi) 3 then Nat.beq (am_kd a) 4 else Nat.beq (am_kd a) 2))
  | .invokestatic k => decide (len = 3) && decide (nxt = pc + 3) && (bif Nat.beq b 1 then am_word w (.methodLink (am_own mi) k Lib.Math.max.name) && decide (1 ≤ am_fr mi) && decide (21 ≤ am_lo mi) else bif Nat.beq b 2 then am_word w (.methodLink (am_own mi) k Lib.Math.min.name) && decide (1 ≤ am_fr mi) && decide (21 ≤ am_lo mi) else
    bif Nat.beq b 3 then decide (lw_tbl[w]? = some (.methodLinkNest (am_own mi) k (am_y a) "RebuildDesk")) && am_callok mi v a d && Nat.beq (am_kd a) 1 else
    am_word w (.methodLink (am_own mi) k (am_y a)) && am_callok mi v a d && (Nat.beq (am_kd a) 1 || (Nat.beq (am_kd mi) 0 && Nat.beq (am_kd a) 3)))
  | .ireturn => decide (len = 1) && (match d with | 0 => decide (am_rt mi = some .int) | 1 => decide (am_rt mi = some .boolean) | 2 => decide (am_rt mi = some .char) | _ => decide (am_rt mi = some .int))
  | .areturn => decide (len = 1) && (match am_rt mi with | some (.object _) => true | _ => false)
  | .return_ => decide (len = 1) && decide (am_rt mi = none)
  | .new _ => decide (len = 3)
  | _ => decide (len = 1) && decide (nxt = pc + 1)
def am_okE (mi : Nat) (q : Nat × am_E) : Bool := match decode (am_bytes mi) q.1 with
  | .ok (i, len) => decide (i = q.2.1) && am_okI mi q.1 i len q.2.2.1 q.2.2.2.2.1 q.2.2.2.2.2.1 q.2.2.2.2.2.2.1 q.2.2.2.2.2.2.2.1 q.2.2.2.2.2.2.2.2
  | _ => false
def am_okT (mi : Nat) (t : List (List (Nat × am_E))) : Bool := t.all (fun c => c.all (am_okE mi))
theorem am_find_mem {α : Type} : ∀ {t : List (Nat × α)} {i : Nat} {x : α}, am_find t i = some x → (i, x) ∈ t
  | [], _, _, h => by cases h
  | (j, z) :: r, i, x, h => by
    rw [am_find] at h
    cases hb : Nat.beq j i with
    | true =>
      rw [hb] at h
      have e : j = i := Nat.eq_of_beq_eq_true hb
      cases h
      rw [e]
      exact List.mem_cons_self
    | false =>
      rw [hb] at h
      exact List.mem_cons_of_mem _ (am_find_mem h)
theorem am_nth_mem {α : Type} : ∀ {l : List α} {n : Nat} {x : α}, am_nth l n = some x → x ∈ l
  | [], _, _, h => by cases h
  | y :: r, 0, x, h => by cases h; exact List.mem_cons_self
  | y :: r, n + 1, x, h => List.mem_cons_of_mem _ (am_nth_mem (l := r) (n := n) h)
theorem am_nth_get {α : Type} : ∀ (l : List α) (n : Nat), am_nth l n = l[n]?
  | [], _ => rfl
  | _ :: _, 0 => rfl
  | _ :: r, n + 1 => by rw [am_nth, am_nth_get r n, List.getElem?_cons_succ]
def am_cv (ad : Nat → Nat) : Value → Value
  | .ref k => .ref (ad k)
  | v => v
def am_ev (ad : Nat → Nat) (x : Int32) : Option Nat := bif am_in (x - 1) 6 then some (ad (x - 1).toNatClampNeg) else none
def am_fv (ad : Nat → Nat) (f : Nat → Int32) : Nat → List (Option Nat) → List Value
  | _, [] => []
  | j, some q :: r => .ref (ad q) :: am_fv ad f (j + 1) r
  | j, none :: r => .int (f j) :: am_fv ad f (j + 1) r
def am_ar (ad : Nat → Nat) (ty : Nat) (f : Nat → Int32) : (Nat → Int32) ⊕ (Nat → Int64) ⊕ (Nat → UInt32) ⊕ (Nat → UInt64) ⊕ (Nat → Option Nat) := match ty with
  | 2 => .inr (.inl (fun j => (f j).toInt64))
  | 4 => .inr (.inr (.inr (.inr (fun j => am_ev ad (f j)))))
  | _ => .inl f
def am_cel (ad : Nat → Nat) (cA : Nat → ClassId) (f : Nat → Int32) (o : (Nat × Nat) ⊕ (Nat × List (Option Nat))) : va_E := match o with
  | .inl (ty, m) => .inl (cA ty, m, am_ar ad ty f)
  | .inr (ci, fs) => .inr (ci, am_fv ad f 0 fs)
def am_wl (ad : Nat → Nat) (cA : Nat → ClassId) (g : am_G) : Nat → List ((Nat × Nat) ⊕ (Nat × List (Option Nat))) → va_W
  | _, [] => []
  | k, o :: r => (ad k, am_cel ad cA (g k) o) :: am_wl ad cA g (k + 1) r
def am_ws (ad : Nat → Nat) (cA : Nat → ClassId) (g : am_G) : va_W := am_wl ad cA g 8 am_obs
theorem am_w_k {g : am_G} {k i k' : Nat} {v : Int32} (h : k' ≠ k) : am_w g k i v k' = g k' := if_neg h
theorem am_w_s {g : am_G} {k i : Nat} {v : Int32} : am_w g k i v k = upd (g k) i v := by
  funext j
  unfold am_w upd
  rw [if_pos rfl]
theorem am_wl_get {ad : Nat → Nat} {cA : Nat → ClassId} {g : am_G} : ∀ {l : List ((Nat × Nat) ⊕ (Nat × List (Option Nat)))} {b j : Nat} {o : (Nat × Nat) ⊕ (Nat × List (Option Nat))}, am_nth l j = some o → (am_wl ad cA g b l)[j]? = some (ad (b + j), am_cel ad cA (g (b + j)) o)
  | [], _, _, _, h => by cases h
  | y :: r, b, 0, o, h => by cases h; rfl
  | y :: r, b, j + 1, o, h => by
    rw [am_wl, List.getElem?_cons_succ, am_wl_get (l := r) (b := b + 1) (j := j) h, show b + 1 + j = b + (j + 1) by omega]
theorem am_wl_keep {ad : Nat → Nat} {cA : Nat → ClassId} {g : am_G} {k i : Nat} {v : Int32} : ∀ (l : List ((Nat × Nat) ⊕ (Nat × List (Option Nat)))) (b : Nat), k < b → am_wl ad cA (am_w g k i v) b l = am_wl ad cA g b l
  | [], _, _ => rfl
  | y :: r, b, h => by rw [am_wl, am_wl, am_w_k (by omega), am_wl_keep r (b + 1) (by omega)]
theorem am_wl_set {ad : Nat → Nat} {cA : Nat → ClassId} {g : am_G} {i : Nat} {v : Int32} : ∀ {l : List ((Nat × Nat) ⊕ (Nat × List (Option Nat)))} {b j : Nat} {o : (Nat × Nat) ⊕ (Nat × List (Option Nat))}, am_nth l j = some o → am_wl ad cA (am_w g (b + j) i v) b l = (am_wl ad cA g b l).set j (ad (b + j), am_cel ad cA (upd (g (b + j)) i v) o)
  | [], _, _, _, h => by cases h
  | y :: r, b, 0, o, h => by
    cases h
    rw [am_wl, am_wl, List.set_cons_zero, Nat.add_zero, am_w_s, am_wl_keep r (b + 1) (by omega)]
  | y :: r, b, j + 1, o, h => by
    have e : b + (j + 1) = b + 1 + j := by omega
    rw [am_wl, am_wl, List.set_cons_succ, am_w_k (by omega), e, am_wl_set (l := r) (b := b + 1) (j := j) h]
theorem am_ob_get {ad : Nat → Nat} {cA : Nat → ClassId} {g : am_G} {k : Nat} {o : (Nat × Nat) ⊕ (Nat × List (Option Nat))} (h : am_ob k = some o) : 8 ≤ k ∧ (am_ws ad cA g)[k - 8]? = some (ad k, am_cel ad cA (g k) o) := by
  unfold am_ob at h
  cases hb : Nat.ble 8 k with
  | true =>
    rw [hb] at h
    have h8 : 8 ≤ k := Nat.le_of_ble_eq_true hb
    refine ⟨h8, ?_⟩
    unfold am_ws
    rw [am_wl_get h, show 8 + (k - 8) = k by omega]
  | false => rw [hb] at h; cases h
theorem am_ob_set {ad : Nat → Nat} {cA : Nat → ClassId} {g : am_G} {k i : Nat} {v : Int32} {o : (Nat × Nat) ⊕ (Nat × List (Option Nat))} (h : am_ob k = some o) : am_ws ad cA (am_w g k i v) = (am_ws ad cA g).set (k - 8) (ad k, am_cel ad cA (upd (g k) i v) o) := by
  unfold am_ob at h
  cases hb : Nat.ble 8 k with
  | true =>
    rw [hb] at h
    have h8 : 8 ≤ k := Nat.le_of_ble_eq_true hb
    unfold am_ws
    have := am_wl_set (ad := ad) (cA := cA) (g := g) (i := i) (v := v) (b := 8) h
    rw [show 8 + (k - 8) = k by omega] at this
    exact this
  | false => rw [hb] at h; cases h
theorem am_fv_get {ad : Nat → Nat} {f : Nat → Int32} : ∀ {fs : List (Option Nat)} {o b : Nat} {q : Option Nat}, am_nth fs b = some q → (am_fv ad f o fs)[b]? = some (match q with | some r => .ref (ad r) | none => .int (f (o + b)))
  | [], _, _, _, h => by cases h
  | some x :: r, o, 0, q, h => by cases h; rfl
  | none :: r, o, 0, q, h => by cases h; rfl
  | some x :: r, o, b + 1, q, h => by
    rw [am_fv, List.getElem?_cons_succ, am_fv_get (fs := r) (o := o + 1) (b := b) h, show o + 1 + b = o + (b + 1) by omega]
  | none :: r, o, b + 1, q, h => by
    rw [am_fv, List.getElem?_cons_succ, am_fv_get (fs := r) (o := o + 1) (b := b) h, show o + 1 + b = o + (b + 1) by omega]
theorem am_fv_keep {ad : Nat → Nat} {f : Nat → Int32} {k : Nat} {v : Int32} : ∀ (fs : List (Option Nat)) (o : Nat), k < o → am_fv ad (upd f k v) o fs = am_fv ad f o fs
  | [], _, _ => rfl
  | some x :: r, o, h => by rw [am_fv, am_fv, am_fv_keep r (o + 1) (by omega)]
  | none :: r, o, h => by
    rw [am_fv, am_fv, am_fv_keep r (o + 1) (by omega)]
    unfold upd
    rw [if_neg (by omega)]
theorem am_fv_set {ad : Nat → Nat} {f : Nat → Int32} {v : Int32} : ∀ {fs : List (Option Nat)} {o b : Nat}, am_nth fs b = some none → am_fv ad (upd f (o + b) v) o fs = (am_fv ad f o fs).set b (.int v)
  | [], _, _, h => by cases h
  | some x :: r, o, 0, h => by cases h
  | none :: r, o, 0, h => by
    rw [am_fv, am_fv, List.set_cons_zero, Nat.add_zero, am_fv_keep r (o + 1) (by omega)]
    unfold upd
    rw [if_pos rfl]
  | some x :: r, o, b + 1, h => by
    have e : o + (b + 1) = o + 1 + b := by omega
    rw [am_fv, am_fv, List.set_cons_succ, e, am_fv_set (fs := r) (o := o + 1) (b := b) h]
  | none :: r, o, b + 1, h => by
    have e : o + (b + 1) = o + 1 + b := by omega
    rw [am_fv, am_fv, List.set_cons_succ, e, am_fv_set (fs := r) (o := o + 1) (b := b) h]
    unfold upd
    rw [if_neg (by omega)]
theorem am_fv_len {ad : Nat → Nat} {f : Nat → Int32} : ∀ (fs : List (Option Nat)) (o : Nat), (am_fv ad f o fs).length = fs.length
  | [], _ => rfl
  | some x :: r, o => by rw [am_fv, List.length_cons, List.length_cons, am_fv_len r (o + 1)]
  | none :: r, o => by rw [am_fv, List.length_cons, List.length_cons, am_fv_len r (o + 1)]
def am_lc (ad : Nat → Nat) (L : am_L) : List (Nat × Value) := L.map (fun q => (q.1, am_cv ad q.2))
theorem am_cat (ad : Nat → Nat) (v : Value) : (am_cv ad v).category = v.category := by cases v <;> rfl
theorem am_two_cat (v : Value) : am_two v = true ↔ v.category = 2 := by cases v <;> simp [am_two, Value.category]
theorem am_lv {ad : Nat → Nat} {ls : Array Slot} {nL : Nat} {L : am_L} (h : lv_has ls nL (am_lc ad L)) {i : Nat} {v : Value} (hf : am_find L i = some v) : ls[i]? = some (.val (am_cv ad v)) :=
  h.2.2 (i, am_cv ad v) (List.mem_map.mpr ⟨(i, v), am_find_mem hf, rfl⟩)
theorem am_lsub {ls : Array Slot} {nL : Nat} {l l' : List (Nat × Value)} (h : lv_has ls nL l) (hs : ∀ q ∈ l', q ∈ l) : lv_has ls nL l' := ⟨h.1, h.2.1, fun q hq => h.2.2 q (hs q hq)⟩
theorem am_trim_sub : ∀ (L : am_L) (n : Nat), ∀ q ∈ am_trim L n, q ∈ L
  | [], _, q, h => h
  | (j, x) :: r, n, q, h => by
    rw [am_trim] at h
    cases hb : Nat.ble n j with
    | true => rw [hb] at h; exact List.mem_cons_of_mem _ (am_trim_sub r n q h)
    | false =>
      rw [hb] at h
      rcases List.mem_cons.mp h with e | h
      · rw [e]; exact List.mem_cons_self
      · exact List.mem_cons_of_mem _ (am_trim_sub r n q h)
theorem am_del_sub : ∀ (L : am_L) (i : Nat), ∀ q ∈ am_del L i, q ∈ L ∧ q.1 ≠ i
  | [], _, q, h => by cases h
  | (j, x) :: r, i, q, h => by
    rw [am_del] at h
    cases hb : Nat.beq j i with
    | true =>
      rw [hb] at h
      have g := am_del_sub r i q h
      exact ⟨List.mem_cons_of_mem _ g.1, g.2⟩
    | false =>
      rw [hb] at h
      rcases List.mem_cons.mp h with e | h
      · rw [e]
        exact ⟨List.mem_cons_self, Nat.ne_of_beq_eq_false hb⟩
      · have g := am_del_sub r i q h
        exact ⟨List.mem_cons_of_mem _ g.1, g.2⟩
theorem am_ins_sub : ∀ (L : am_L) (i : Nat) (v : Value), ∀ q ∈ am_ins L i v, q = (i, v) ∨ q ∈ L
  | [], i, v, q, h => Or.inl (List.mem_singleton.mp h)
  | (j, x) :: r, i, v, q, h => by
    rw [am_ins] at h
    cases hb : Nat.ble i j with
    | true =>
      rw [hb] at h
      rcases List.mem_cons.mp h with e | h
      · exact Or.inl e
      · exact Or.inr h
    | false =>
      rw [hb] at h
      rcases List.mem_cons.mp h with e | h
      · rw [e]; exact Or.inr List.mem_cons_self
      · rcases am_ins_sub r i v q h with e | h
        · exact Or.inl e
        · exact Or.inr (List.mem_cons_of_mem _ h)
theorem am_nol_not : ∀ (L : am_L) (i : Nat), am_nol L i = true → ∀ q ∈ L, ¬ (q.1 + 1 = i ∧ q.2.category = 2)
  | [], _, _, q, h => by cases h
  | (j, x) :: r, i, hn, q, h => by
    rw [am_nol, Bool.and_eq_true] at hn
    rcases List.mem_cons.mp h with e | h
    · subst e
      rintro ⟨h1, h2⟩
      have h3 := hn.1
      rw [(am_two_cat _).mpr h2, show Nat.beq (j + 1) i = true by rw [← h1]; exact Nat.beq_refl _] at h3
      cases h3
    · exact am_nol_not r i hn.2 q h
theorem am_lput {ad : Nat → Nat} {ls : Array Slot} {nL : Nat} {L : am_L} {i : Nat} {v : Value} (hn : am_nol L i = true) (h : lv_has ls nL ((i, am_cv ad v) :: (am_lc ad L).filter (fun q => !(q.1 == i) && !(q.1 + 1 == i && q.2.category == 2)))) : lv_has ls nL (am_lc ad (am_put L i v)) := by
  refine am_lsub h (fun q hq => ?_)
  obtain ⟨q0, h0, rfl⟩ := List.mem_map.mp hq
  rcases am_ins_sub _ _ _ _ h0 with e | h1
  · rw [e]; exact List.mem_cons_self
  · obtain ⟨h2, h3⟩ := am_del_sub _ _ _ h1
    refine List.mem_cons_of_mem _ (List.mem_filter.mpr ⟨List.mem_map.mpr ⟨q0, h2, rfl⟩, ?_⟩)
    have h4 := am_nol_not L i hn q0 h2
    simp only [am_cat, Bool.and_eq_true, Bool.not_eq_true', beq_eq_false_iff_ne, ne_eq, h3, not_false_eq_true, true_and]
    simpa using h4
theorem am_in_vp {i : Int32} {n : Nat} (h : am_in i n = true) : vp_in i n := by
  simp only [am_in, Bool.and_eq_true, Bool.not_eq_true', decide_eq_false_iff_not, decide_eq_true_eq] at h
  intro z
  rcases z with z | z
  · exact h.1 z
  · omega
def am_tys (cA : Nat → ClassId) : List (ClassId × FieldType) := [(cA 0, .int), (cA 1, .char), (cA 2, .long), (cA 3, .boolean), (cA 4, .object am_LK)]
def am_X (xs : Nat → Int32) (Ln : Nat) (D : va_G) (cA : Nat → ClassId) (ad : Nat → Nat) (A : Nat → Prop) (s : State) : Prop :=
  va_K D am_cl (am_tys cA) s ∧ va_En am_LK am_LKd am_ens [] ad A s s.heap ∧ va_X (ad 6) Ln xs s s.heap ∧ ad 6 < s.heap.size ∧ ¬ A (ad 6) ∧
  (∀ (o : String) (k : Nat) (y : MethodName) (h : String), Cond.methodLinkNest o k y h ∈ lw_tbl → va_Nw (.methodLinkNest o k y h) s) ∧ (∀ q, s.heap.size ≤ q → A q)
def am_Gx (xs : Nat → Int32) (Ln : Nat) (g : am_G) : Prop := Ln < 2147483648 ∧ (∀ i, i < Ln → g 6 i = xs i) ∧ g 7 0 = Int32.ofNat Ln
def am_Wk (p : Program) (R : Room) (s : State) (m : MethodId) (args : Array Value) (c : Code) (xs : Nat → Int32) (Ln : Nat) (D : va_G) (cA : Nat → ClassId) (ad : Nat → Nat) (A : Nat → Prop) (mi : Nat) : Prop :=
  p.tables.exec = Jvm.exec ∧ c.code = am_bytes mi ∧ c.maxLocals = am_maxL mi ∧ s.vm.findClass (am_own mi) = some m.cls ∧ (∀ w ∈ am_WG, w.before args s = true) ∧ am_X xs Ln D cA ad A s ∧ am_fr mi ≤ R.frames ∧ am_lo mi ≤ R.locals
def am_Rel (xs : Nat → Int32) (Ln : Nat) (s : State) (D : va_G) (cA : Nat → ClassId) (ad : Nat → Nat) (A : Nat → Prop) (mi : Nat) (L : am_L) (g : am_G) (H : Heap) (ls : Array Slot) (locs : List Loc) : Prop :=
  lv_has ls (am_maxL mi) (am_lc ad L) ∧ va_P D am_cl (am_ws ad cA g) H ∧ va_D A (am_ws ad cA g) ∧ va_S A s.heap H locs ∧ am_Gx xs Ln g
end
section
theorem am_chr_nar (x : Int32) : vp_nar .char x = am_chr x := by
  show x.toUInt32.toUInt16.toUInt32.toInt32 = (x.toUInt32 % 65536).toInt32
  rw [UInt32.toUInt32_toUInt16]
theorem am_isb_nar {x : Int32} (h : am_isb x = true) : vp_nar .boolean x = x := by
  show x &&& 1 = x
  simp only [am_isb, Bool.or_eq_true, decide_eq_true_eq] at h
  rcases h with h | h <;> subst h <;> rfl
theorem am_six : ∀ x, x < 6 → ∀ y, y < 6 → Int32.ofNat x = Int32.ofNat y → x = y := by decide
theorem am_six_ev (ad : Nat → Nat) {x : Nat} (h : x < 6) : am_ev ad (Int32.ofNat x + 1) = some (ad x) := by
  have h1 : ∀ x, x < 6 → am_in (Int32.ofNat x + 1 - 1) 6 = true ∧ (Int32.ofNat x + 1 - 1).toNatClampNeg = x := by decide +kernel
  unfold am_ev
  rw [(h1 x h).1, (h1 x h).2]
  rfl
theorem am_blt {a b : Nat} (h : Nat.blt a b = true) : a < b := Nat.blt_eq.mp h
section
variable {mi pc nxt : Nat} {L : am_L} {S : List Value} {g : am_G} {t : Nat} {act : am_A}
theorem am_iLd_inv {a : Nat} (h : am_iLd mi nxt L S g t a = some act) : ∃ x, am_find L a = some (.int x) ∧ act = .inl (mi, nxt, L, .int x :: S, g, t) := by
  unfold am_iLd at h
  split at h
  · rename_i x hx
    exact ⟨x, hx, (Option.some.inj h).symm⟩
  · cases h
theorem am_lLd_inv {a : Nat} (h : am_lLd mi nxt L S g t a = some act) : ∃ x, am_find L a = some (.long x) ∧ act = .inl (mi, nxt, L, .long x :: S, g, t) := by
  unfold am_lLd at h
  split at h
  · rename_i x hx
    exact ⟨x, hx, (Option.some.inj h).symm⟩
  · cases h
theorem am_aLd_inv {a : Nat} (h : am_aLd mi nxt L S g t a = some act) : ∃ x, am_find L a = some (.ref x) ∧ act = .inl (mi, nxt, L, .ref x :: S, g, t) := by
  unfold am_aLd at h
  split at h
  · rename_i x hx
    exact ⟨x, hx, (Option.some.inj h).symm⟩
  · cases h
theorem am_iSt_inv {a : Nat} (h : am_iSt mi nxt L S g t a = some act) : ∃ x r, S = .int x :: r ∧ am_nol L a = true ∧ act = .inl (mi, nxt, am_put L a (.int x), r, g, t) := by
  unfold am_iSt at h
  split at h
  · rename_i x r
    cases hn : am_nol L a with
    | false => rw [hn] at h; cases h
    | true => rw [hn] at h; exact ⟨x, r, rfl, rfl, (Option.some.inj h).symm⟩
  · cases h
theorem am_iInc_inv {a : Nat} {v : Value} (h : am_iInc mi nxt L S g t a v = some act) : ∃ x z, am_find L a = some (.int x) ∧ v = .int z ∧ am_nol L a = true ∧ act = .inl (mi, nxt, am_put L a (.int (x + z)), S, g, t) := by
  unfold am_iInc at h
  split at h
  · rename_i x z hx
    cases hn : am_nol L a with
    | false => rw [hn] at h; cases h
    | true => rw [hn] at h; exact ⟨x, z, hx, rfl, rfl, (Option.some.inj h).symm⟩
  · cases h
theorem am_bin_inv {f : Int32 → Int32 → Int32} (h : am_bin mi nxt L S g t f = some act) : ∃ x y r, S = .int y :: .int x :: r ∧ act = .inl (mi, nxt, L, .int (f x y) :: r, g, t) := by
  unfold am_bin at h
  split at h
  · exact ⟨_, _, _, rfl, (Option.some.inj h).symm⟩
  · cases h
theorem am_div_inv {f : Int32 → Int32 → Int32} (h : am_div mi nxt L S g t f = some act) : ∃ x y r, S = .int y :: .int x :: r ∧ act = .inr (.inl (decide (¬ y = 0), (mi, nxt, L, .int (f x y) :: r, g, t))) := by
  unfold am_div at h
  split at h
  · exact ⟨_, _, _, rfl, (Option.some.inj h).symm⟩
  · cases h
theorem am_un_inv {f : Int32 → Value} (h : am_un mi nxt L S g t f = some act) : ∃ x r, S = .int x :: r ∧ act = .inl (mi, nxt, L, f x :: r, g, t) := by
  unfold am_un at h
  split at h
  · exact ⟨_, _, rfl, (Option.some.inj h).symm⟩
  · cases h
theorem am_l2_inv  (h : am_l2 mi nxt L S g t = some act) : ∃ x r, S = .long x :: r ∧ act = .inl (mi, nxt, L, .int x.toInt32 :: r, g, t) := by
  unfold am_l2 at h
  split at h
  · exact ⟨_, _, rfl, (Option.some.inj h).symm⟩
  · cases h
theorem am_lbin_inv {f : Int64 → Int64 → Value} (h : am_lbin mi nxt L S g t f = some act) : ∃ x y r, S = .long y :: .long x :: r ∧ act = .inl (mi, nxt, L, f x y :: r, g, t) := by
  unfold am_lbin at h
  split at h
  · exact ⟨_, _, _, rfl, (Option.some.inj h).symm⟩
  · cases h
theorem am_lsh_inv {f : Int64 → Int32 → Int64} (h : am_lsh mi nxt L S g t f = some act) : ∃ x y r, S = .int y :: .long x :: r ∧ act = .inl (mi, nxt, L, .long (f x y) :: r, g, t) := by
  unfold am_lsh at h
  split at h
  · exact ⟨_, _, _, rfl, (Option.some.inj h).symm⟩
  · cases h
theorem am_dup_inv  (h : am_dup mi nxt L S g t = some act) : ∃ x r, S = x :: r ∧ x.category = 1 ∧ act = .inl (mi, nxt, L, x :: x :: r, g, t) := by
  unfold am_dup at h
  split at h
  · exact ⟨_, _, rfl, rfl, (Option.some.inj h).symm⟩
  · exact ⟨_, _, rfl, rfl, (Option.some.inj h).symm⟩
  · cases h
theorem am_dup2_inv  (h : am_dup2 mi nxt L S g t = some act) : ∃ x y r, S = .int y :: .ref x :: r ∧ act = .inl (mi, nxt, L, .int y :: .ref x :: .int y :: .ref x :: r, g, t) := by
  unfold am_dup2 at h
  split at h
  · exact ⟨_, _, _, rfl, (Option.some.inj h).symm⟩
  · cases h
theorem am_if1_inv {a : Nat} {q : ClassFile.Cond} (h : am_if1 mi nxt L S g t a q = some act) : ∃ x r, S = .int x :: r ∧ act = .inr (.inr (.inl (.inl (q, x, 0, (mi, a, L, r, g, t), (mi, nxt, L, r, g, t))))) := by
  unfold am_if1 at h
  split at h
  · exact ⟨_, _, rfl, (Option.some.inj h).symm⟩
  · cases h
theorem am_if2_inv {a : Nat} {q : ClassFile.Cond} (h : am_if2 mi nxt L S g t a q = some act) : ∃ x y r, S = .int y :: .int x :: r ∧ act = .inr (.inr (.inl (.inl (q, x, y, (mi, a, L, r, g, t), (mi, nxt, L, r, g, t))))) := by
  unfold am_if2 at h
  split at h
  · exact ⟨_, _, _, rfl, (Option.some.inj h).symm⟩
  · cases h
theorem am_ifa_inv {a : Nat} {q : ClassFile.ACond} (h : am_ifa mi nxt L S g t a q = some act) : ∃ x y r, q = .ne ∧ S = .ref y :: .ref x :: r ∧ act = .inr (.inr (.inl (.inr (Nat.blt x 6 && Nat.blt y 6, .ne, Int32.ofNat x, Int32.ofNat y, (mi, a, L, r, g, t), (mi, nxt, L, r, g, t))))) := by
  unfold am_ifa at h
  split at h
  · exact ⟨_, _, _, rfl, rfl, (Option.some.inj h).symm⟩
  · cases h
theorem am_sw_inv {df lo hi : Int} {offs : Array Int} (h : am_sw mi pc L S g t df lo hi offs = some act) : ∃ x r, S = .int x :: r ∧ act = .inr (.inr (.inr (.inr (.inr (.inr (mi, am_ts pc df lo hi offs x, L, r, g, t)))))) := by
  unfold am_sw at h
  split at h
  · exact ⟨_, _, rfl, (Option.some.inj h).symm⟩
  · cases h
theorem am_gs_inv {a : Nat} (h : am_gs mi nxt L S g t a = some act) : a < 6 ∧ act = .inl (mi, nxt, L, .ref a :: S, g, t) := by
  unfold am_gs at h
  cases hb : Nat.blt a 6 with
  | false => rw [hb] at h; cases h
  | true => rw [hb] at h; exact ⟨am_blt hb, (Option.some.inj h).symm⟩
theorem am_gf_inv {a b : Nat} (h : am_gf mi nxt L S g t a b = some act) : ∃ k r fs, S = .ref k :: r ∧ am_ob k = some (.inr (a, fs)) ∧ ((∃ q, am_nth fs b = some (some q) ∧ act = .inl (mi, nxt, L, .ref q :: r, g, t)) ∨ (am_nth fs b = some none ∧ act = .inl (mi, nxt, L, .int (g k b) :: r, g, t))) := by
  unfold am_gf at h
  split at h
  · split at h
    · rename_i ci fs ho
      cases hb : Nat.beq ci a with
      | false => rw [hb] at h; cases h
      | true =>
        rw [hb] at h
        have e := Nat.eq_of_beq_eq_true hb
        subst e
        dsimp only [cond_true] at h
        split at h
        · rename_i q hq
          exact ⟨_, _, fs, rfl, ho, Or.inl ⟨q, hq, (Option.some.inj h).symm⟩⟩
        · rename_i hq
          exact ⟨_, _, fs, rfl, ho, Or.inr ⟨hq, (Option.some.inj h).symm⟩⟩
        · cases h
    · cases h
  · cases h
theorem am_pf_inv {a b : Nat} (h : am_pf mi nxt L S g t a b = some act) : ∃ x k r fs, S = .int x :: .ref k :: r ∧ am_ob k = some (.inr (a, fs)) ∧ am_nth fs b = some none ∧ act = .inl (mi, nxt, L, r, am_w g k b x, t) := by
  unfold am_pf at h
  split at h
  · split at h
    · rename_i ci fs ho
      cases hb : Nat.beq ci a with
      | false => rw [hb] at h; cases h
      | true =>
        rw [hb] at h
        have e := Nat.eq_of_beq_eq_true hb
        subst e
        dsimp only [cond_true] at h
        split at h
        · rename_i hq
          exact ⟨_, _, _, fs, rfl, ho, hq, (Option.some.inj h).symm⟩
        · cases h
    · cases h
  · cases h
theorem am_len_inv  (h : am_len mi nxt L S g t = some act) : ∃ r, S = .ref 6 :: r ∧ act = .inl (mi, nxt, L, .int (g 7 0) :: r, g, t) := by
  unfold am_len at h
  split at h
  · rename_i k r
    cases hb : Nat.beq k 6 with
    | false => rw [hb] at h; cases h
    | true =>
      rw [hb] at h
      have e := Nat.eq_of_beq_eq_true hb
      subst e
      exact ⟨r, rfl, (Option.some.inj h).symm⟩
  · cases h
theorem am_ald_inv {ty : Nat} {f : Int32 → Value} (h : am_ald mi nxt L S g t ty f = some act) : ∃ j k r m, S = .int j :: .ref k :: r ∧ am_ob k = some (.inl (ty, m)) ∧ act = .inr (.inl (am_in j m, (mi, nxt, L, f (g k j.toNatClampNeg) :: r, g, t))) := by
  unfold am_ald at h
  split at h
  · split at h
    · rename_i ty' m ho
      cases hb : Nat.beq ty' ty with
      | false => rw [hb] at h; cases h
      | true =>
        rw [hb] at h
        have e := Nat.eq_of_beq_eq_true hb
        subst e
        exact ⟨_, _, _, m, rfl, ho, (Option.some.inj h).symm⟩
    · cases h
  · cases h
theorem am_rld_inv  (h : am_rld mi nxt L S g t = some act) : ∃ j k r m, S = .int j :: .ref k :: r ∧ am_ob k = some (.inl (4, m)) ∧ act = .inr (.inl (am_in j m && am_in (g k j.toNatClampNeg - 1) 6, (mi, nxt, L, .ref (g k j.toNatClampNeg - 1).toNatClampNeg :: r, g, t))) := by
  unfold am_rld at h
  split at h
  · split at h
    · rename_i ty' m ho
      cases hb : Nat.beq ty' 4 with
      | false => rw [hb] at h; cases h
      | true =>
        rw [hb] at h
        have e := Nat.eq_of_beq_eq_true hb
        subst e
        exact ⟨_, _, _, m, rfl, ho, (Option.some.inj h).symm⟩
    · cases h
  · cases h
theorem am_ast_inv {ty : Nat} {ck : Bool → Int32 → Bool} {f : Int32 → Int32} (h : am_ast mi nxt L S g t ty ck f = some act) : ∃ x j k r m, S = .int x :: .int j :: .ref k :: r ∧ am_ob k = some (.inl (ty, m)) ∧ act = .inr (.inl (ck (am_in j m) x, (mi, nxt, L, r, am_w g k j.toNatClampNeg (f x), t))) := by
  unfold am_ast at h
  split at h
  · split at h
    · rename_i ty' m ho
      cases hb : Nat.beq ty' ty with
      | false => rw [hb] at h; cases h
      | true =>
        rw [hb] at h
        have e := Nat.eq_of_beq_eq_true hb
        subst e
        exact ⟨_, _, _, _, m, rfl, ho, (Option.some.inj h).symm⟩
    · cases h
  · cases h
theorem am_lst_inv  (h : am_lst mi nxt L S g t = some act) : ∃ x j k r m, S = .long x :: .int j :: .ref k :: r ∧ am_ob k = some (.inl (2, m)) ∧ act = .inr (.inl (am_in j m && decide (x = x.toInt32.toInt64), (mi, nxt, L, r, am_w g k j.toNatClampNeg x.toInt32, t))) := by
  unfold am_lst at h
  split at h
  · split at h
    · rename_i ty' m ho
      cases hb : Nat.beq ty' 2 with
      | false => rw [hb] at h; cases h
      | true =>
        rw [hb] at h
        have e := Nat.eq_of_beq_eq_true hb
        subst e
        exact ⟨_, _, _, _, m, rfl, ho, (Option.some.inj h).symm⟩
    · cases h
  · cases h
theorem am_rst_inv  (h : am_rst mi nxt L S g t = some act) : ∃ x j k r m, S = .ref x :: .int j :: .ref k :: r ∧ am_ob k = some (.inl (4, m)) ∧ act = .inr (.inl (am_in j m && Nat.blt x 6, (mi, nxt, L, r, am_w g k j.toNatClampNeg (Int32.ofNat x + 1), t))) := by
  unfold am_rst at h
  split at h
  · split at h
    · rename_i ty' m ho
      cases hb : Nat.beq ty' 4 with
      | false => rw [hb] at h; cases h
      | true =>
        rw [hb] at h
        have e := Nat.eq_of_beq_eq_true hb
        subst e
        exact ⟨_, _, _, _, m, rfl, ho, (Option.some.inj h).symm⟩
    · cases h
  · cases h
theorem am_ild_inv  (h : am_ild mi nxt L S g t = some act) : (∃ j r, S = .int j :: .ref 6 :: r ∧ act = .inr (.inl (am_in j (g 7 0).toNatClampNeg, (mi, nxt, L, .int (g 6 j.toNatClampNeg) :: r, g, t)))) ∨ ∃ j k r m, S = .int j :: .ref k :: r ∧ am_ob k = some (.inl (0, m)) ∧ act = .inr (.inl (am_in j m, (mi, nxt, L, .int (g k j.toNatClampNeg) :: r, g, t))) := by
  unfold am_ild at h
  split at h
  · rename_i j k r
    cases h6 : Nat.beq k 6 with
    | true =>
      rw [h6] at h
      have e := Nat.eq_of_beq_eq_true h6
      subst e
      exact Or.inl ⟨j, r, rfl, (Option.some.inj h).symm⟩
    | false =>
      rw [h6] at h
      dsimp only [cond_false] at h
      split at h
      · rename_i ty' m ho
        cases hb : Nat.beq ty' 0 with
        | false => rw [hb] at h; cases h
        | true =>
          rw [hb] at h
          have e := Nat.eq_of_beq_eq_true hb
          subst e
          exact Or.inr ⟨j, k, r, m, rfl, ho, (Option.some.inj h).symm⟩
      · cases h
  · cases h
theorem am_mx_inv {f : Int32 → Int32 → Int32} (h : am_mx mi nxt L S g t f = some act) : ∃ x y r, S = .int y :: .int x :: r ∧ am_wt r ≤ 8 ∧ act = .inl (mi, nxt, L, .int (f x y) :: r, g, t) := by
  unfold am_mx at h
  split at h
  · rename_i y x r
    cases hb : Nat.ble (am_wt r) 8 with
    | false => rw [hb] at h; cases h
    | true => rw [hb] at h; exact ⟨x, y, r, rfl, Nat.le_of_ble_eq_true hb, (Option.some.inj h).symm⟩
  · cases h
end
end
section
def am_Kn (P : am_S → Prop) (act : am_A) : Prop := match act with
  | .inl s => P s
  | .inr (.inl (b, s)) => b = true ∧ P s
  | .inr (.inr (.inl (.inl (q, x, y, s1, s2)))) => (am_cmp q x y = true → P s1) ∧ (am_cmp q x y = false → P s2)
  | .inr (.inr (.inl (.inr (b, q, x, y, s1, s2)))) => b = true ∧ (am_cmp q x y = true → P s1) ∧ (am_cmp q x y = false → P s2)
  | .inr (.inr (.inr (.inr (.inr (.inr s))))) => P s
  | _ => False
def am_PW (p : Program) (l : Launch) (e : Env) (R : Room) (s : State) (m : MethodId) (args : Array Value) (below : List Frame) (meth : Method) (c : Code) (cells slots : Nat) (Q : State → Prop) (xs : Nat → Int32) (Ln : Nat) (D : va_G) (cA : Nat → ClassId) (ad : Nat → Nat) (A : Nat → Prop) (st : am_S) : Prop :=
  ∀ (H : Heap) (ls : Array Slot) (locs : List Loc), am_Rel xs Ln s D cA ad A st.1 st.2.2.1 st.2.2.2.2.1 H ls locs → W p l e R s m args below meth c H locs cells slots Q (F0 m st.2.1 ls (st.2.2.2.1.map (am_cv ad)))
def am_clB (q : vw_C) : Bool := (u_ws q.1 q.2.1 q.2.2).all (fun w => decide (w ∈ am_WG)) && (List.range q.2.2).all (fun k => (parseFieldDescriptor (q.2.1 k).2.2.1).isSome) && (List.range q.2.2).all (fun x => (List.range q.2.2).all (fun y => decide (x = y) || decide ((q.2.1 x).2.1 ≠ (q.2.1 y).2.1)))
theorem am_clB_ok : am_cl.all am_clB = true := by decide +kernel
theorem am_clok {ci : Nat} {C : String} {T : u_T} {N : Nat} (h : am_nth am_cl ci = some (C, T, N)) : (∀ w ∈ u_ws C T N, w ∈ am_WG) ∧ (∃ ty0 : Nat → FieldType, ∀ k, k < N → parseFieldDescriptor (T k).2.2.1 = some (ty0 k)) ∧ (∀ x, x < N → ∀ y, y < N → x ≠ y → (T x).2.1 ≠ (T y).2.1) := by
  have h0 := List.all_eq_true.mp am_clB_ok _ (am_nth_mem h)
  unfold am_clB at h0
  rw [Bool.and_eq_true, Bool.and_eq_true, List.all_eq_true, List.all_eq_true, List.all_eq_true] at h0
  obtain ⟨⟨h1, h2⟩, h3⟩ := h0
  refine ⟨fun w hw => of_decide_eq_true (h1 w hw), ⟨fun k => (parseFieldDescriptor (T k).2.2.1).getD .int, fun k hk => ?_⟩, fun x hx y hy hn => ?_⟩
  · obtain ⟨z, hz⟩ := Option.isSome_iff_exists.mp (h2 k (List.mem_range.mpr hk))
    dsimp only at hz
    show parseFieldDescriptor (T k).2.2.1 = some ((parseFieldDescriptor (T k).2.2.1).getD .int)
    rw [hz]; rfl
  · have h4 := h3 x (List.mem_range.mpr hx)
    rw [List.all_eq_true] at h4
    have h5 := h4 y (List.mem_range.mpr hy)
    rw [Bool.or_eq_true, decide_eq_true_eq, decide_eq_true_eq] at h5
    exact h5.resolve_left hn
def am_mathB (y : MethodName) (cc : ByteArray) (wS wI wC : Nat) : Bool := am_word wS (.static y) && am_word wI (.initialized "java/lang/Math") && am_word wC (.code y cc 2 (some .int))
theorem am_Gx_w {xs : Nat → Int32} {Ln : Nat} {g : am_G} (h : am_Gx xs Ln g) {k i : Nat} {v : Int32} (hk : 8 ≤ k) : am_Gx xs Ln (am_w g k i v) := by
  obtain ⟨h1, h2, h3⟩ := h
  refine ⟨h1, fun j hj => ?_, ?_⟩
  · rw [am_w_k (by omega)]; exact h2 j hj
  · rw [am_w_k (by omega)]; exact h3
theorem am_wt_cat (ad : Nat → Nat) : ∀ (r : List Value), ((r.map (am_cv ad)).map (fun v => v.category)).sum = am_wt r
  | [] => rfl
  | v :: r => by
    rw [List.map_cons, List.map_cons, List.sum_cons, am_cat, am_wt_cat ad r, am_wt]
    cases v <;> simp [am_two, Value.category, Nat.add_comm]

theorem am_max_ok : am_mathB Lib.Math.max.name Lib.Math.max.code 747 52 748 = true := by decide +kernel
theorem am_min_ok : am_mathB Lib.Math.min.name Lib.Math.min.code 555 52 556 = true := by decide +kernel
section
variable {p : Program} {l : Launch} {e : Env} {R : Room} {s : State} {m : MethodId} {args : Array Value} {below : List Frame} {meth : Method} {c : Code} {cells slots : Nat} {Q : State → Prop} {xs : Nat → Int32} {Ln : Nat} {D : va_G} {cA : Nat → ClassId} {ad : Nat → Nat} {A : Nat → Prop}
variable {mi pc nxt len a b d w t : Nat} {v : Value} {L : am_L} {S : List Value} {g : am_G} {act : am_A} {H : Heap} {ls : Array Slot} {locs : List Loc}
theorem am_s_iconst {n : Int} (hW : am_Wk p R s m args c xs Ln D cA ad A mi) (hcs : cells ≤ R.cells ∧ slots ≤ R.slots) (hdec : decode (am_bytes mi) pc = .ok (.iconst n, len)) (hok : am_okI mi pc (.iconst n) len nxt v a b d w = true) (h : am_do (.iconst n) nxt v a b d mi pc L S g t = some act) (hk : am_Kn (am_PW p l e R s m args below meth c cells slots Q xs Ln D cA ad A) act) (hR : am_Rel xs Ln s D cA ad A mi L g H ls locs) : W p l e R s m args below meth c H locs cells slots Q (F0 m pc ls (S.map (am_cv ad))) := by
  obtain ⟨hx, hb, hml, hown, hts, ⟨hK, hE, hX, hbl, hbA, hN, hA⟩, hF, hLo⟩ := hW
  obtain ⟨hl, hP, hD, hS, hG⟩ := hR
  simp only [am_okI, Bool.and_eq_true, decide_eq_true_eq] at hok
  obtain ⟨⟨rfl, rfl⟩, rfl⟩ := hok
  cases Option.some.inj h
  exact lv_iconst hx hb hdec rfl (hk H ls locs ⟨hl, hP, hD, hS, hG⟩)
theorem am_s_bipush {n : Int} (hW : am_Wk p R s m args c xs Ln D cA ad A mi) (hcs : cells ≤ R.cells ∧ slots ≤ R.slots) (hdec : decode (am_bytes mi) pc = .ok (.bipush n, len)) (hok : am_okI mi pc (.bipush n) len nxt v a b d w = true) (h : am_do (.bipush n) nxt v a b d mi pc L S g t = some act) (hk : am_Kn (am_PW p l e R s m args below meth c cells slots Q xs Ln D cA ad A) act) (hR : am_Rel xs Ln s D cA ad A mi L g H ls locs) : W p l e R s m args below meth c H locs cells slots Q (F0 m pc ls (S.map (am_cv ad))) := by
  obtain ⟨hx, hb, hml, hown, hts, ⟨hK, hE, hX, hbl, hbA, hN, hA⟩, hF, hLo⟩ := hW
  obtain ⟨hl, hP, hD, hS, hG⟩ := hR
  simp only [am_okI, Bool.and_eq_true, decide_eq_true_eq] at hok
  obtain ⟨⟨rfl, rfl⟩, rfl⟩ := hok
  cases Option.some.inj h
  exact lv_bipush hx hb hdec rfl (hk H ls locs ⟨hl, hP, hD, hS, hG⟩)
theorem am_s_sipush {n : Int} (hW : am_Wk p R s m args c xs Ln D cA ad A mi) (hcs : cells ≤ R.cells ∧ slots ≤ R.slots) (hdec : decode (am_bytes mi) pc = .ok (.sipush n, len)) (hok : am_okI mi pc (.sipush n) len nxt v a b d w = true) (h : am_do (.sipush n) nxt v a b d mi pc L S g t = some act) (hk : am_Kn (am_PW p l e R s m args below meth c cells slots Q xs Ln D cA ad A) act) (hR : am_Rel xs Ln s D cA ad A mi L g H ls locs) : W p l e R s m args below meth c H locs cells slots Q (F0 m pc ls (S.map (am_cv ad))) := by
  obtain ⟨hx, hb, hml, hown, hts, ⟨hK, hE, hX, hbl, hbA, hN, hA⟩, hF, hLo⟩ := hW
  obtain ⟨hl, hP, hD, hS, hG⟩ := hR
  simp only [am_okI, Bool.and_eq_true, decide_eq_true_eq] at hok
  obtain ⟨⟨rfl, rfl⟩, rfl⟩ := hok
  cases Option.some.inj h
  exact lv_sipush hx hb hdec rfl (hk H ls locs ⟨hl, hP, hD, hS, hG⟩)
theorem am_s_ldc {n : Nat} (hW : am_Wk p R s m args c xs Ln D cA ad A mi) (hcs : cells ≤ R.cells ∧ slots ≤ R.slots) (hdec : decode (am_bytes mi) pc = .ok (.ldc n, len)) (hok : am_okI mi pc (.ldc n) len nxt v a b d w = true) (h : am_do (.ldc n) nxt v a b d mi pc L S g t = some act) (hk : am_Kn (am_PW p l e R s m args below meth c cells slots Q xs Ln D cA ad A) act) (hR : am_Rel xs Ln s D cA ad A mi L g H ls locs) : W p l e R s m args below meth c H locs cells slots Q (F0 m pc ls (S.map (am_cv ad))) := by
  obtain ⟨hx, hb, hml, hown, hts, ⟨hK, hE, hX, hbl, hbA, hN, hA⟩, hF, hLo⟩ := hW
  obtain ⟨hl, hP, hD, hS, hG⟩ := hR
  cases v with
  | int z =>
    simp only [am_okI, Bool.and_eq_true, decide_eq_true_eq] at hok
    obtain ⟨⟨rfl, rfl⟩, h3⟩ := hok
    cases Option.some.inj h
    exact lv_ldc hx hb hown (hts _ (am_word_in h3)) hdec (hk H ls locs ⟨hl, hP, hD, hS, hG⟩)
  | _ => simp [am_okI] at hok
theorem am_s_ldc_w {n : Nat} (hW : am_Wk p R s m args c xs Ln D cA ad A mi) (hcs : cells ≤ R.cells ∧ slots ≤ R.slots) (hdec : decode (am_bytes mi) pc = .ok (.ldc_w n, len)) (hok : am_okI mi pc (.ldc_w n) len nxt v a b d w = true) (h : am_do (.ldc_w n) nxt v a b d mi pc L S g t = some act) (hk : am_Kn (am_PW p l e R s m args below meth c cells slots Q xs Ln D cA ad A) act) (hR : am_Rel xs Ln s D cA ad A mi L g H ls locs) : W p l e R s m args below meth c H locs cells slots Q (F0 m pc ls (S.map (am_cv ad))) := by
  obtain ⟨hx, hb, hml, hown, hts, ⟨hK, hE, hX, hbl, hbA, hN, hA⟩, hF, hLo⟩ := hW
  obtain ⟨hl, hP, hD, hS, hG⟩ := hR
  cases v with
  | int z =>
    simp only [am_okI, Bool.and_eq_true, decide_eq_true_eq] at hok
    obtain ⟨⟨rfl, rfl⟩, h3⟩ := hok
    cases Option.some.inj h
    exact lv_ldcw hx hb hown (hts _ (am_word_in h3)) hdec (hk H ls locs ⟨hl, hP, hD, hS, hG⟩)
  | _ => simp [am_okI] at hok
theorem am_s_ldc2_w {n : Nat} (hW : am_Wk p R s m args c xs Ln D cA ad A mi) (hcs : cells ≤ R.cells ∧ slots ≤ R.slots) (hdec : decode (am_bytes mi) pc = .ok (.ldc2_w n, len)) (hok : am_okI mi pc (.ldc2_w n) len nxt v a b d w = true) (h : am_do (.ldc2_w n) nxt v a b d mi pc L S g t = some act) (hk : am_Kn (am_PW p l e R s m args below meth c cells slots Q xs Ln D cA ad A) act) (hR : am_Rel xs Ln s D cA ad A mi L g H ls locs) : W p l e R s m args below meth c H locs cells slots Q (F0 m pc ls (S.map (am_cv ad))) := by
  obtain ⟨hx, hb, hml, hown, hts, ⟨hK, hE, hX, hbl, hbA, hN, hA⟩, hF, hLo⟩ := hW
  obtain ⟨hl, hP, hD, hS, hG⟩ := hR
  cases v with
  | long z =>
    simp only [am_okI, Bool.and_eq_true, decide_eq_true_eq] at hok
    obtain ⟨⟨rfl, rfl⟩, h3⟩ := hok
    cases Option.some.inj h
    exact lv_ldc2 hx hb hown (hts _ (am_word_in h3)) hdec (hk H ls locs ⟨hl, hP, hD, hS, hG⟩)
  | _ => simp [am_okI] at hok
theorem am_s_iload_n {n : Fin 4} (hW : am_Wk p R s m args c xs Ln D cA ad A mi) (hcs : cells ≤ R.cells ∧ slots ≤ R.slots) (hdec : decode (am_bytes mi) pc = .ok (.iload_n n, len)) (hok : am_okI mi pc (.iload_n n) len nxt v a b d w = true) (h : am_do (.iload_n n) nxt v a b d mi pc L S g t = some act) (hk : am_Kn (am_PW p l e R s m args below meth c cells slots Q xs Ln D cA ad A) act) (hR : am_Rel xs Ln s D cA ad A mi L g H ls locs) : W p l e R s m args below meth c H locs cells slots Q (F0 m pc ls (S.map (am_cv ad))) := by
  obtain ⟨hx, hb, hml, hown, hts, ⟨hK, hE, hX, hbl, hbA, hN, hA⟩, hF, hLo⟩ := hW
  obtain ⟨hl, hP, hD, hS, hG⟩ := hR
  simp only [am_okI, Bool.and_eq_true, decide_eq_true_eq] at hok
  obtain ⟨⟨rfl, rfl⟩, h3⟩ := hok
  obtain ⟨x, hf, rfl⟩ := am_iLd_inv h
  exact lv_iload_n hx hb hdec h3 (am_lv hl hf) (hk H ls locs ⟨hl, hP, hD, hS, hG⟩)
theorem am_s_lload_n {n : Fin 4} (hW : am_Wk p R s m args c xs Ln D cA ad A mi) (hcs : cells ≤ R.cells ∧ slots ≤ R.slots) (hdec : decode (am_bytes mi) pc = .ok (.lload_n n, len)) (hok : am_okI mi pc (.lload_n n) len nxt v a b d w = true) (h : am_do (.lload_n n) nxt v a b d mi pc L S g t = some act) (hk : am_Kn (am_PW p l e R s m args below meth c cells slots Q xs Ln D cA ad A) act) (hR : am_Rel xs Ln s D cA ad A mi L g H ls locs) : W p l e R s m args below meth c H locs cells slots Q (F0 m pc ls (S.map (am_cv ad))) := by
  obtain ⟨hx, hb, hml, hown, hts, ⟨hK, hE, hX, hbl, hbA, hN, hA⟩, hF, hLo⟩ := hW
  obtain ⟨hl, hP, hD, hS, hG⟩ := hR
  simp only [am_okI, Bool.and_eq_true, decide_eq_true_eq] at hok
  obtain ⟨⟨rfl, rfl⟩, h3⟩ := hok
  obtain ⟨x, hf, rfl⟩ := am_lLd_inv h
  exact lv_lload_n hx hb hdec h3 (am_lv hl hf) (hk H ls locs ⟨hl, hP, hD, hS, hG⟩)
theorem am_s_aload_n {n : Fin 4} (hW : am_Wk p R s m args c xs Ln D cA ad A mi) (hcs : cells ≤ R.cells ∧ slots ≤ R.slots) (hdec : decode (am_bytes mi) pc = .ok (.aload_n n, len)) (hok : am_okI mi pc (.aload_n n) len nxt v a b d w = true) (h : am_do (.aload_n n) nxt v a b d mi pc L S g t = some act) (hk : am_Kn (am_PW p l e R s m args below meth c cells slots Q xs Ln D cA ad A) act) (hR : am_Rel xs Ln s D cA ad A mi L g H ls locs) : W p l e R s m args below meth c H locs cells slots Q (F0 m pc ls (S.map (am_cv ad))) := by
  obtain ⟨hx, hb, hml, hown, hts, ⟨hK, hE, hX, hbl, hbA, hN, hA⟩, hF, hLo⟩ := hW
  obtain ⟨hl, hP, hD, hS, hG⟩ := hR
  simp only [am_okI, Bool.and_eq_true, decide_eq_true_eq] at hok
  obtain ⟨⟨rfl, rfl⟩, h3⟩ := hok
  obtain ⟨x, hf, rfl⟩ := am_aLd_inv h
  exact lv_aload_n hx hb hdec h3 (am_lv hl hf) (hk H ls locs ⟨hl, hP, hD, hS, hG⟩)
theorem am_s_iload {n : Nat} (hW : am_Wk p R s m args c xs Ln D cA ad A mi) (hcs : cells ≤ R.cells ∧ slots ≤ R.slots) (hdec : decode (am_bytes mi) pc = .ok (.iload n, len)) (hok : am_okI mi pc (.iload n) len nxt v a b d w = true) (h : am_do (.iload n) nxt v a b d mi pc L S g t = some act) (hk : am_Kn (am_PW p l e R s m args below meth c cells slots Q xs Ln D cA ad A) act) (hR : am_Rel xs Ln s D cA ad A mi L g H ls locs) : W p l e R s m args below meth c H locs cells slots Q (F0 m pc ls (S.map (am_cv ad))) := by
  obtain ⟨hx, hb, hml, hown, hts, ⟨hK, hE, hX, hbl, hbA, hN, hA⟩, hF, hLo⟩ := hW
  obtain ⟨hl, hP, hD, hS, hG⟩ := hR
  simp only [am_okI, Bool.and_eq_true, decide_eq_true_eq] at hok
  obtain ⟨⟨rfl, rfl⟩, rfl⟩ := hok
  obtain ⟨x, hf, rfl⟩ := am_iLd_inv h
  exact lv_iload hx hb hdec (am_lv hl hf) (hk H ls locs ⟨hl, hP, hD, hS, hG⟩)
theorem am_s_aload {n : Nat} (hW : am_Wk p R s m args c xs Ln D cA ad A mi) (hcs : cells ≤ R.cells ∧ slots ≤ R.slots) (hdec : decode (am_bytes mi) pc = .ok (.aload n, len)) (hok : am_okI mi pc (.aload n) len nxt v a b d w = true) (h : am_do (.aload n) nxt v a b d mi pc L S g t = some act) (hk : am_Kn (am_PW p l e R s m args below meth c cells slots Q xs Ln D cA ad A) act) (hR : am_Rel xs Ln s D cA ad A mi L g H ls locs) : W p l e R s m args below meth c H locs cells slots Q (F0 m pc ls (S.map (am_cv ad))) := by
  obtain ⟨hx, hb, hml, hown, hts, ⟨hK, hE, hX, hbl, hbA, hN, hA⟩, hF, hLo⟩ := hW
  obtain ⟨hl, hP, hD, hS, hG⟩ := hR
  simp only [am_okI, Bool.and_eq_true, decide_eq_true_eq] at hok
  obtain ⟨⟨rfl, rfl⟩, rfl⟩ := hok
  obtain ⟨x, hf, rfl⟩ := am_aLd_inv h
  exact lv_aload hx hb hdec (am_lv hl hf) (hk H ls locs ⟨hl, hP, hD, hS, hG⟩)
theorem am_s_istore_n {n : Fin 4} (hW : am_Wk p R s m args c xs Ln D cA ad A mi) (hcs : cells ≤ R.cells ∧ slots ≤ R.slots) (hdec : decode (am_bytes mi) pc = .ok (.istore_n n, len)) (hok : am_okI mi pc (.istore_n n) len nxt v a b d w = true) (h : am_do (.istore_n n) nxt v a b d mi pc L S g t = some act) (hk : am_Kn (am_PW p l e R s m args below meth c cells slots Q xs Ln D cA ad A) act) (hR : am_Rel xs Ln s D cA ad A mi L g H ls locs) : W p l e R s m args below meth c H locs cells slots Q (F0 m pc ls (S.map (am_cv ad))) := by
  obtain ⟨hx, hb, hml, hown, hts, ⟨hK, hE, hX, hbl, hbA, hN, hA⟩, hF, hLo⟩ := hW
  obtain ⟨hl, hP, hD, hS, hG⟩ := hR
  simp only [am_okI, Bool.and_eq_true, decide_eq_true_eq] at hok
  obtain ⟨⟨rfl, rfl⟩, h3, h4⟩ := hok
  obtain ⟨x, r, rfl, hn, rfl⟩ := am_iSt_inv h
  exact lv_istore_n hx hb hdec h3 hl h4 rfl (fun ls1 hl1 => hk H ls1 locs ⟨am_lput (v := .int x) hn hl1, hP, hD, hS, hG⟩)
theorem am_s_istore {n : Nat} (hW : am_Wk p R s m args c xs Ln D cA ad A mi) (hcs : cells ≤ R.cells ∧ slots ≤ R.slots) (hdec : decode (am_bytes mi) pc = .ok (.istore n, len)) (hok : am_okI mi pc (.istore n) len nxt v a b d w = true) (h : am_do (.istore n) nxt v a b d mi pc L S g t = some act) (hk : am_Kn (am_PW p l e R s m args below meth c cells slots Q xs Ln D cA ad A) act) (hR : am_Rel xs Ln s D cA ad A mi L g H ls locs) : W p l e R s m args below meth c H locs cells slots Q (F0 m pc ls (S.map (am_cv ad))) := by
  obtain ⟨hx, hb, hml, hown, hts, ⟨hK, hE, hX, hbl, hbA, hN, hA⟩, hF, hLo⟩ := hW
  obtain ⟨hl, hP, hD, hS, hG⟩ := hR
  simp only [am_okI, Bool.and_eq_true, decide_eq_true_eq] at hok
  obtain ⟨⟨rfl, rfl⟩, rfl, h4⟩ := hok
  obtain ⟨x, r, rfl, hn, rfl⟩ := am_iSt_inv h
  exact lv_istore hx hb hdec hl h4 rfl (fun ls1 hl1 => hk H ls1 locs ⟨am_lput (v := .int x) hn hl1, hP, hD, hS, hG⟩)
theorem am_s_iinc {n : Nat} {z : Int} (hW : am_Wk p R s m args c xs Ln D cA ad A mi) (hcs : cells ≤ R.cells ∧ slots ≤ R.slots) (hdec : decode (am_bytes mi) pc = .ok (.iinc n z, len)) (hok : am_okI mi pc (.iinc n z) len nxt v a b d w = true) (h : am_do (.iinc n z) nxt v a b d mi pc L S g t = some act) (hk : am_Kn (am_PW p l e R s m args below meth c cells slots Q xs Ln D cA ad A) act) (hR : am_Rel xs Ln s D cA ad A mi L g H ls locs) : W p l e R s m args below meth c H locs cells slots Q (F0 m pc ls (S.map (am_cv ad))) := by
  obtain ⟨hx, hb, hml, hown, hts, ⟨hK, hE, hX, hbl, hbA, hN, hA⟩, hF, hLo⟩ := hW
  obtain ⟨hl, hP, hD, hS, hG⟩ := hR
  simp only [am_okI, Bool.and_eq_true, decide_eq_true_eq] at hok
  obtain ⟨⟨rfl, rfl⟩, ⟨rfl, h4⟩, rfl⟩ := hok
  obtain ⟨x, y, hf, hy, hn, rfl⟩ := am_iInc_inv h
  cases hy
  obtain ⟨k, hk0⟩ := List.mem_iff_getElem?.mp (show (n, am_cv ad (.int x)) ∈ am_lc ad L from List.mem_map.mpr ⟨(n, .int x), am_find_mem hf, rfl⟩)
  exact lv_iinc hx hb hdec hl hk0 rfl h4 rfl (fun ls1 hl1 => hk H ls1 locs ⟨am_lput (v := .int (x + Int32.ofInt z)) hn hl1, hP, hD, hS, hG⟩)
theorem am_s_iadd (hW : am_Wk p R s m args c xs Ln D cA ad A mi) (hcs : cells ≤ R.cells ∧ slots ≤ R.slots) (hdec : decode (am_bytes mi) pc = .ok (.iadd, len)) (hok : am_okI mi pc (.iadd) len nxt v a b d w = true) (h : am_do (.iadd) nxt v a b d mi pc L S g t = some act) (hk : am_Kn (am_PW p l e R s m args below meth c cells slots Q xs Ln D cA ad A) act) (hR : am_Rel xs Ln s D cA ad A mi L g H ls locs) : W p l e R s m args below meth c H locs cells slots Q (F0 m pc ls (S.map (am_cv ad))) := by
  obtain ⟨hx, hb, hml, hown, hts, ⟨hK, hE, hX, hbl, hbA, hN, hA⟩, hF, hLo⟩ := hW
  obtain ⟨hl, hP, hD, hS, hG⟩ := hR
  simp only [am_okI, Bool.and_eq_true, decide_eq_true_eq] at hok
  obtain ⟨rfl, rfl⟩ := hok
  obtain ⟨x, y, r, rfl, rfl⟩ := am_bin_inv h
  exact lv_iadd hx hb hdec (hk H ls locs ⟨hl, hP, hD, hS, hG⟩)
theorem am_s_isub (hW : am_Wk p R s m args c xs Ln D cA ad A mi) (hcs : cells ≤ R.cells ∧ slots ≤ R.slots) (hdec : decode (am_bytes mi) pc = .ok (.isub, len)) (hok : am_okI mi pc (.isub) len nxt v a b d w = true) (h : am_do (.isub) nxt v a b d mi pc L S g t = some act) (hk : am_Kn (am_PW p l e R s m args below meth c cells slots Q xs Ln D cA ad A) act) (hR : am_Rel xs Ln s D cA ad A mi L g H ls locs) : W p l e R s m args below meth c H locs cells slots Q (F0 m pc ls (S.map (am_cv ad))) := by
  obtain ⟨hx, hb, hml, hown, hts, ⟨hK, hE, hX, hbl, hbA, hN, hA⟩, hF, hLo⟩ := hW
  obtain ⟨hl, hP, hD, hS, hG⟩ := hR
  simp only [am_okI, Bool.and_eq_true, decide_eq_true_eq] at hok
  obtain ⟨rfl, rfl⟩ := hok
  obtain ⟨x, y, r, rfl, rfl⟩ := am_bin_inv h
  exact lv_isub hx hb hdec (hk H ls locs ⟨hl, hP, hD, hS, hG⟩)
theorem am_s_imul (hW : am_Wk p R s m args c xs Ln D cA ad A mi) (hcs : cells ≤ R.cells ∧ slots ≤ R.slots) (hdec : decode (am_bytes mi) pc = .ok (.imul, len)) (hok : am_okI mi pc (.imul) len nxt v a b d w = true) (h : am_do (.imul) nxt v a b d mi pc L S g t = some act) (hk : am_Kn (am_PW p l e R s m args below meth c cells slots Q xs Ln D cA ad A) act) (hR : am_Rel xs Ln s D cA ad A mi L g H ls locs) : W p l e R s m args below meth c H locs cells slots Q (F0 m pc ls (S.map (am_cv ad))) := by
  obtain ⟨hx, hb, hml, hown, hts, ⟨hK, hE, hX, hbl, hbA, hN, hA⟩, hF, hLo⟩ := hW
  obtain ⟨hl, hP, hD, hS, hG⟩ := hR
  simp only [am_okI, Bool.and_eq_true, decide_eq_true_eq] at hok
  obtain ⟨rfl, rfl⟩ := hok
  obtain ⟨x, y, r, rfl, rfl⟩ := am_bin_inv h
  exact lv_imul hx hb hdec (hk H ls locs ⟨hl, hP, hD, hS, hG⟩)
theorem am_s_iand (hW : am_Wk p R s m args c xs Ln D cA ad A mi) (hcs : cells ≤ R.cells ∧ slots ≤ R.slots) (hdec : decode (am_bytes mi) pc = .ok (.iand, len)) (hok : am_okI mi pc (.iand) len nxt v a b d w = true) (h : am_do (.iand) nxt v a b d mi pc L S g t = some act) (hk : am_Kn (am_PW p l e R s m args below meth c cells slots Q xs Ln D cA ad A) act) (hR : am_Rel xs Ln s D cA ad A mi L g H ls locs) : W p l e R s m args below meth c H locs cells slots Q (F0 m pc ls (S.map (am_cv ad))) := by
  obtain ⟨hx, hb, hml, hown, hts, ⟨hK, hE, hX, hbl, hbA, hN, hA⟩, hF, hLo⟩ := hW
  obtain ⟨hl, hP, hD, hS, hG⟩ := hR
  simp only [am_okI, Bool.and_eq_true, decide_eq_true_eq] at hok
  obtain ⟨rfl, rfl⟩ := hok
  obtain ⟨x, y, r, rfl, rfl⟩ := am_bin_inv h
  exact lv_iand hx hb hdec (hk H ls locs ⟨hl, hP, hD, hS, hG⟩)
theorem am_s_ior (hW : am_Wk p R s m args c xs Ln D cA ad A mi) (hcs : cells ≤ R.cells ∧ slots ≤ R.slots) (hdec : decode (am_bytes mi) pc = .ok (.ior, len)) (hok : am_okI mi pc (.ior) len nxt v a b d w = true) (h : am_do (.ior) nxt v a b d mi pc L S g t = some act) (hk : am_Kn (am_PW p l e R s m args below meth c cells slots Q xs Ln D cA ad A) act) (hR : am_Rel xs Ln s D cA ad A mi L g H ls locs) : W p l e R s m args below meth c H locs cells slots Q (F0 m pc ls (S.map (am_cv ad))) := by
  obtain ⟨hx, hb, hml, hown, hts, ⟨hK, hE, hX, hbl, hbA, hN, hA⟩, hF, hLo⟩ := hW
  obtain ⟨hl, hP, hD, hS, hG⟩ := hR
  simp only [am_okI, Bool.and_eq_true, decide_eq_true_eq] at hok
  obtain ⟨rfl, rfl⟩ := hok
  obtain ⟨x, y, r, rfl, rfl⟩ := am_bin_inv h
  exact lv_ior hx hb hdec (hk H ls locs ⟨hl, hP, hD, hS, hG⟩)
theorem am_s_ixor (hW : am_Wk p R s m args c xs Ln D cA ad A mi) (hcs : cells ≤ R.cells ∧ slots ≤ R.slots) (hdec : decode (am_bytes mi) pc = .ok (.ixor, len)) (hok : am_okI mi pc (.ixor) len nxt v a b d w = true) (h : am_do (.ixor) nxt v a b d mi pc L S g t = some act) (hk : am_Kn (am_PW p l e R s m args below meth c cells slots Q xs Ln D cA ad A) act) (hR : am_Rel xs Ln s D cA ad A mi L g H ls locs) : W p l e R s m args below meth c H locs cells slots Q (F0 m pc ls (S.map (am_cv ad))) := by
  obtain ⟨hx, hb, hml, hown, hts, ⟨hK, hE, hX, hbl, hbA, hN, hA⟩, hF, hLo⟩ := hW
  obtain ⟨hl, hP, hD, hS, hG⟩ := hR
  simp only [am_okI, Bool.and_eq_true, decide_eq_true_eq] at hok
  obtain ⟨rfl, rfl⟩ := hok
  obtain ⟨x, y, r, rfl, rfl⟩ := am_bin_inv h
  exact lv_ixor hx hb hdec (hk H ls locs ⟨hl, hP, hD, hS, hG⟩)
theorem am_s_ishl (hW : am_Wk p R s m args c xs Ln D cA ad A mi) (hcs : cells ≤ R.cells ∧ slots ≤ R.slots) (hdec : decode (am_bytes mi) pc = .ok (.ishl, len)) (hok : am_okI mi pc (.ishl) len nxt v a b d w = true) (h : am_do (.ishl) nxt v a b d mi pc L S g t = some act) (hk : am_Kn (am_PW p l e R s m args below meth c cells slots Q xs Ln D cA ad A) act) (hR : am_Rel xs Ln s D cA ad A mi L g H ls locs) : W p l e R s m args below meth c H locs cells slots Q (F0 m pc ls (S.map (am_cv ad))) := by
  obtain ⟨hx, hb, hml, hown, hts, ⟨hK, hE, hX, hbl, hbA, hN, hA⟩, hF, hLo⟩ := hW
  obtain ⟨hl, hP, hD, hS, hG⟩ := hR
  simp only [am_okI, Bool.and_eq_true, decide_eq_true_eq] at hok
  obtain ⟨rfl, rfl⟩ := hok
  obtain ⟨x, y, r, rfl, rfl⟩ := am_bin_inv h
  exact lv_ishl hx hb hdec (hk H ls locs ⟨hl, hP, hD, hS, hG⟩)
theorem am_s_ishr (hW : am_Wk p R s m args c xs Ln D cA ad A mi) (hcs : cells ≤ R.cells ∧ slots ≤ R.slots) (hdec : decode (am_bytes mi) pc = .ok (.ishr, len)) (hok : am_okI mi pc (.ishr) len nxt v a b d w = true) (h : am_do (.ishr) nxt v a b d mi pc L S g t = some act) (hk : am_Kn (am_PW p l e R s m args below meth c cells slots Q xs Ln D cA ad A) act) (hR : am_Rel xs Ln s D cA ad A mi L g H ls locs) : W p l e R s m args below meth c H locs cells slots Q (F0 m pc ls (S.map (am_cv ad))) := by
  obtain ⟨hx, hb, hml, hown, hts, ⟨hK, hE, hX, hbl, hbA, hN, hA⟩, hF, hLo⟩ := hW
  obtain ⟨hl, hP, hD, hS, hG⟩ := hR
  simp only [am_okI, Bool.and_eq_true, decide_eq_true_eq] at hok
  obtain ⟨rfl, rfl⟩ := hok
  obtain ⟨x, y, r, rfl, rfl⟩ := am_bin_inv h
  exact lv_ishr hx hb hdec (hk H ls locs ⟨hl, hP, hD, hS, hG⟩)
theorem am_s_iushr (hW : am_Wk p R s m args c xs Ln D cA ad A mi) (hcs : cells ≤ R.cells ∧ slots ≤ R.slots) (hdec : decode (am_bytes mi) pc = .ok (.iushr, len)) (hok : am_okI mi pc (.iushr) len nxt v a b d w = true) (h : am_do (.iushr) nxt v a b d mi pc L S g t = some act) (hk : am_Kn (am_PW p l e R s m args below meth c cells slots Q xs Ln D cA ad A) act) (hR : am_Rel xs Ln s D cA ad A mi L g H ls locs) : W p l e R s m args below meth c H locs cells slots Q (F0 m pc ls (S.map (am_cv ad))) := by
  obtain ⟨hx, hb, hml, hown, hts, ⟨hK, hE, hX, hbl, hbA, hN, hA⟩, hF, hLo⟩ := hW
  obtain ⟨hl, hP, hD, hS, hG⟩ := hR
  simp only [am_okI, Bool.and_eq_true, decide_eq_true_eq] at hok
  obtain ⟨rfl, rfl⟩ := hok
  obtain ⟨x, y, r, rfl, rfl⟩ := am_bin_inv h
  exact lv_iushr hx hb hdec rfl (hk H ls locs ⟨hl, hP, hD, hS, hG⟩)
theorem am_s_idiv (hW : am_Wk p R s m args c xs Ln D cA ad A mi) (hcs : cells ≤ R.cells ∧ slots ≤ R.slots) (hdec : decode (am_bytes mi) pc = .ok (.idiv, len)) (hok : am_okI mi pc (.idiv) len nxt v a b d w = true) (h : am_do (.idiv) nxt v a b d mi pc L S g t = some act) (hk : am_Kn (am_PW p l e R s m args below meth c cells slots Q xs Ln D cA ad A) act) (hR : am_Rel xs Ln s D cA ad A mi L g H ls locs) : W p l e R s m args below meth c H locs cells slots Q (F0 m pc ls (S.map (am_cv ad))) := by
  obtain ⟨hx, hb, hml, hown, hts, ⟨hK, hE, hX, hbl, hbA, hN, hA⟩, hF, hLo⟩ := hW
  obtain ⟨hl, hP, hD, hS, hG⟩ := hR
  simp only [am_okI, Bool.and_eq_true, decide_eq_true_eq] at hok
  obtain ⟨rfl, rfl⟩ := hok
  obtain ⟨x, y, r, rfl, rfl⟩ := am_div_inv h
  exact lv_idiv hx hb hdec (of_decide_eq_true hk.1) (hk.2 H ls locs ⟨hl, hP, hD, hS, hG⟩)
theorem am_s_irem (hW : am_Wk p R s m args c xs Ln D cA ad A mi) (hcs : cells ≤ R.cells ∧ slots ≤ R.slots) (hdec : decode (am_bytes mi) pc = .ok (.irem, len)) (hok : am_okI mi pc (.irem) len nxt v a b d w = true) (h : am_do (.irem) nxt v a b d mi pc L S g t = some act) (hk : am_Kn (am_PW p l e R s m args below meth c cells slots Q xs Ln D cA ad A) act) (hR : am_Rel xs Ln s D cA ad A mi L g H ls locs) : W p l e R s m args below meth c H locs cells slots Q (F0 m pc ls (S.map (am_cv ad))) := by
  obtain ⟨hx, hb, hml, hown, hts, ⟨hK, hE, hX, hbl, hbA, hN, hA⟩, hF, hLo⟩ := hW
  obtain ⟨hl, hP, hD, hS, hG⟩ := hR
  simp only [am_okI, Bool.and_eq_true, decide_eq_true_eq] at hok
  obtain ⟨rfl, rfl⟩ := hok
  obtain ⟨x, y, r, rfl, rfl⟩ := am_div_inv h
  exact lv_irem hx hb hdec (of_decide_eq_true hk.1) (hk.2 H ls locs ⟨hl, hP, hD, hS, hG⟩)
theorem am_s_i2l (hW : am_Wk p R s m args c xs Ln D cA ad A mi) (hcs : cells ≤ R.cells ∧ slots ≤ R.slots) (hdec : decode (am_bytes mi) pc = .ok (.i2l, len)) (hok : am_okI mi pc (.i2l) len nxt v a b d w = true) (h : am_do (.i2l) nxt v a b d mi pc L S g t = some act) (hk : am_Kn (am_PW p l e R s m args below meth c cells slots Q xs Ln D cA ad A) act) (hR : am_Rel xs Ln s D cA ad A mi L g H ls locs) : W p l e R s m args below meth c H locs cells slots Q (F0 m pc ls (S.map (am_cv ad))) := by
  obtain ⟨hx, hb, hml, hown, hts, ⟨hK, hE, hX, hbl, hbA, hN, hA⟩, hF, hLo⟩ := hW
  obtain ⟨hl, hP, hD, hS, hG⟩ := hR
  simp only [am_okI, Bool.and_eq_true, decide_eq_true_eq] at hok
  obtain ⟨rfl, rfl⟩ := hok
  obtain ⟨x, r, rfl, rfl⟩ := am_un_inv h
  exact lv_i2l hx hb hdec rfl (hk H ls locs ⟨hl, hP, hD, hS, hG⟩)
theorem am_s_l2i (hW : am_Wk p R s m args c xs Ln D cA ad A mi) (hcs : cells ≤ R.cells ∧ slots ≤ R.slots) (hdec : decode (am_bytes mi) pc = .ok (.l2i, len)) (hok : am_okI mi pc (.l2i) len nxt v a b d w = true) (h : am_do (.l2i) nxt v a b d mi pc L S g t = some act) (hk : am_Kn (am_PW p l e R s m args below meth c cells slots Q xs Ln D cA ad A) act) (hR : am_Rel xs Ln s D cA ad A mi L g H ls locs) : W p l e R s m args below meth c H locs cells slots Q (F0 m pc ls (S.map (am_cv ad))) := by
  obtain ⟨hx, hb, hml, hown, hts, ⟨hK, hE, hX, hbl, hbA, hN, hA⟩, hF, hLo⟩ := hW
  obtain ⟨hl, hP, hD, hS, hG⟩ := hR
  simp only [am_okI, Bool.and_eq_true, decide_eq_true_eq] at hok
  obtain ⟨rfl, rfl⟩ := hok
  obtain ⟨x, r, rfl, rfl⟩ := am_l2_inv h
  exact lv_l2i hx hb hdec rfl (hk H ls locs ⟨hl, hP, hD, hS, hG⟩)
theorem am_s_i2c (hW : am_Wk p R s m args c xs Ln D cA ad A mi) (hcs : cells ≤ R.cells ∧ slots ≤ R.slots) (hdec : decode (am_bytes mi) pc = .ok (.i2c, len)) (hok : am_okI mi pc (.i2c) len nxt v a b d w = true) (h : am_do (.i2c) nxt v a b d mi pc L S g t = some act) (hk : am_Kn (am_PW p l e R s m args below meth c cells slots Q xs Ln D cA ad A) act) (hR : am_Rel xs Ln s D cA ad A mi L g H ls locs) : W p l e R s m args below meth c H locs cells slots Q (F0 m pc ls (S.map (am_cv ad))) := by
  obtain ⟨hx, hb, hml, hown, hts, ⟨hK, hE, hX, hbl, hbA, hN, hA⟩, hF, hLo⟩ := hW
  obtain ⟨hl, hP, hD, hS, hG⟩ := hR
  simp only [am_okI, Bool.and_eq_true, decide_eq_true_eq] at hok
  obtain ⟨rfl, rfl⟩ := hok
  obtain ⟨x, r, rfl, rfl⟩ := am_un_inv h
  exact lv_i2c hx hb hdec rfl (hk H ls locs ⟨hl, hP, hD, hS, hG⟩)
theorem am_s_land (hW : am_Wk p R s m args c xs Ln D cA ad A mi) (hcs : cells ≤ R.cells ∧ slots ≤ R.slots) (hdec : decode (am_bytes mi) pc = .ok (.land, len)) (hok : am_okI mi pc (.land) len nxt v a b d w = true) (h : am_do (.land) nxt v a b d mi pc L S g t = some act) (hk : am_Kn (am_PW p l e R s m args below meth c cells slots Q xs Ln D cA ad A) act) (hR : am_Rel xs Ln s D cA ad A mi L g H ls locs) : W p l e R s m args below meth c H locs cells slots Q (F0 m pc ls (S.map (am_cv ad))) := by
  obtain ⟨hx, hb, hml, hown, hts, ⟨hK, hE, hX, hbl, hbA, hN, hA⟩, hF, hLo⟩ := hW
  obtain ⟨hl, hP, hD, hS, hG⟩ := hR
  simp only [am_okI, Bool.and_eq_true, decide_eq_true_eq] at hok
  obtain ⟨rfl, rfl⟩ := hok
  obtain ⟨x, y, r, rfl, rfl⟩ := am_lbin_inv h
  exact lv_land hx hb hdec (hk H ls locs ⟨hl, hP, hD, hS, hG⟩)
theorem am_s_lor (hW : am_Wk p R s m args c xs Ln D cA ad A mi) (hcs : cells ≤ R.cells ∧ slots ≤ R.slots) (hdec : decode (am_bytes mi) pc = .ok (.lor, len)) (hok : am_okI mi pc (.lor) len nxt v a b d w = true) (h : am_do (.lor) nxt v a b d mi pc L S g t = some act) (hk : am_Kn (am_PW p l e R s m args below meth c cells slots Q xs Ln D cA ad A) act) (hR : am_Rel xs Ln s D cA ad A mi L g H ls locs) : W p l e R s m args below meth c H locs cells slots Q (F0 m pc ls (S.map (am_cv ad))) := by
  obtain ⟨hx, hb, hml, hown, hts, ⟨hK, hE, hX, hbl, hbA, hN, hA⟩, hF, hLo⟩ := hW
  obtain ⟨hl, hP, hD, hS, hG⟩ := hR
  simp only [am_okI, Bool.and_eq_true, decide_eq_true_eq] at hok
  obtain ⟨rfl, rfl⟩ := hok
  obtain ⟨x, y, r, rfl, rfl⟩ := am_lbin_inv h
  exact lv_lor hx hb hdec (hk H ls locs ⟨hl, hP, hD, hS, hG⟩)
theorem am_s_lcmp (hW : am_Wk p R s m args c xs Ln D cA ad A mi) (hcs : cells ≤ R.cells ∧ slots ≤ R.slots) (hdec : decode (am_bytes mi) pc = .ok (.lcmp, len)) (hok : am_okI mi pc (.lcmp) len nxt v a b d w = true) (h : am_do (.lcmp) nxt v a b d mi pc L S g t = some act) (hk : am_Kn (am_PW p l e R s m args below meth c cells slots Q xs Ln D cA ad A) act) (hR : am_Rel xs Ln s D cA ad A mi L g H ls locs) : W p l e R s m args below meth c H locs cells slots Q (F0 m pc ls (S.map (am_cv ad))) := by
  obtain ⟨hx, hb, hml, hown, hts, ⟨hK, hE, hX, hbl, hbA, hN, hA⟩, hF, hLo⟩ := hW
  obtain ⟨hl, hP, hD, hS, hG⟩ := hR
  simp only [am_okI, Bool.and_eq_true, decide_eq_true_eq] at hok
  obtain ⟨rfl, rfl⟩ := hok
  obtain ⟨x, y, r, rfl, rfl⟩ := am_lbin_inv h
  exact W.lcmp hx hb hdec (hk H ls locs ⟨hl, hP, hD, hS, hG⟩)
theorem am_s_lshl (hW : am_Wk p R s m args c xs Ln D cA ad A mi) (hcs : cells ≤ R.cells ∧ slots ≤ R.slots) (hdec : decode (am_bytes mi) pc = .ok (.lshl, len)) (hok : am_okI mi pc (.lshl) len nxt v a b d w = true) (h : am_do (.lshl) nxt v a b d mi pc L S g t = some act) (hk : am_Kn (am_PW p l e R s m args below meth c cells slots Q xs Ln D cA ad A) act) (hR : am_Rel xs Ln s D cA ad A mi L g H ls locs) : W p l e R s m args below meth c H locs cells slots Q (F0 m pc ls (S.map (am_cv ad))) := by
  obtain ⟨hx, hb, hml, hown, hts, ⟨hK, hE, hX, hbl, hbA, hN, hA⟩, hF, hLo⟩ := hW
  obtain ⟨hl, hP, hD, hS, hG⟩ := hR
  simp only [am_okI, Bool.and_eq_true, decide_eq_true_eq] at hok
  obtain ⟨rfl, rfl⟩ := hok
  obtain ⟨x, y, r, rfl, rfl⟩ := am_lsh_inv h
  exact lv_lshl hx hb hdec rfl (hk H ls locs ⟨hl, hP, hD, hS, hG⟩)
theorem am_s_lshr (hW : am_Wk p R s m args c xs Ln D cA ad A mi) (hcs : cells ≤ R.cells ∧ slots ≤ R.slots) (hdec : decode (am_bytes mi) pc = .ok (.lshr, len)) (hok : am_okI mi pc (.lshr) len nxt v a b d w = true) (h : am_do (.lshr) nxt v a b d mi pc L S g t = some act) (hk : am_Kn (am_PW p l e R s m args below meth c cells slots Q xs Ln D cA ad A) act) (hR : am_Rel xs Ln s D cA ad A mi L g H ls locs) : W p l e R s m args below meth c H locs cells slots Q (F0 m pc ls (S.map (am_cv ad))) := by
  obtain ⟨hx, hb, hml, hown, hts, ⟨hK, hE, hX, hbl, hbA, hN, hA⟩, hF, hLo⟩ := hW
  obtain ⟨hl, hP, hD, hS, hG⟩ := hR
  simp only [am_okI, Bool.and_eq_true, decide_eq_true_eq] at hok
  obtain ⟨rfl, rfl⟩ := hok
  obtain ⟨x, y, r, rfl, rfl⟩ := am_lsh_inv h
  exact lv_lshr hx hb hdec rfl (hk H ls locs ⟨hl, hP, hD, hS, hG⟩)
theorem am_s_lushr (hW : am_Wk p R s m args c xs Ln D cA ad A mi) (hcs : cells ≤ R.cells ∧ slots ≤ R.slots) (hdec : decode (am_bytes mi) pc = .ok (.lushr, len)) (hok : am_okI mi pc (.lushr) len nxt v a b d w = true) (h : am_do (.lushr) nxt v a b d mi pc L S g t = some act) (hk : am_Kn (am_PW p l e R s m args below meth c cells slots Q xs Ln D cA ad A) act) (hR : am_Rel xs Ln s D cA ad A mi L g H ls locs) : W p l e R s m args below meth c H locs cells slots Q (F0 m pc ls (S.map (am_cv ad))) := by
  obtain ⟨hx, hb, hml, hown, hts, ⟨hK, hE, hX, hbl, hbA, hN, hA⟩, hF, hLo⟩ := hW
  obtain ⟨hl, hP, hD, hS, hG⟩ := hR
  simp only [am_okI, Bool.and_eq_true, decide_eq_true_eq] at hok
  obtain ⟨rfl, rfl⟩ := hok
  obtain ⟨x, y, r, rfl, rfl⟩ := am_lsh_inv h
  exact lv_lushr hx hb hdec rfl (hk H ls locs ⟨hl, hP, hD, hS, hG⟩)
theorem am_s_dup (hW : am_Wk p R s m args c xs Ln D cA ad A mi) (hcs : cells ≤ R.cells ∧ slots ≤ R.slots) (hdec : decode (am_bytes mi) pc = .ok (.dup, len)) (hok : am_okI mi pc (.dup) len nxt v a b d w = true) (h : am_do (.dup) nxt v a b d mi pc L S g t = some act) (hk : am_Kn (am_PW p l e R s m args below meth c cells slots Q xs Ln D cA ad A) act) (hR : am_Rel xs Ln s D cA ad A mi L g H ls locs) : W p l e R s m args below meth c H locs cells slots Q (F0 m pc ls (S.map (am_cv ad))) := by
  obtain ⟨hx, hb, hml, hown, hts, ⟨hK, hE, hX, hbl, hbA, hN, hA⟩, hF, hLo⟩ := hW
  obtain ⟨hl, hP, hD, hS, hG⟩ := hR
  simp only [am_okI, Bool.and_eq_true, decide_eq_true_eq] at hok
  obtain ⟨rfl, rfl⟩ := hok
  obtain ⟨x, r, rfl, hc, rfl⟩ := am_dup_inv h
  exact lv_dup hx hb hdec (by rw [am_cat]; exact hc) (hk H ls locs ⟨hl, hP, hD, hS, hG⟩)
theorem am_s_dup2 (hW : am_Wk p R s m args c xs Ln D cA ad A mi) (hcs : cells ≤ R.cells ∧ slots ≤ R.slots) (hdec : decode (am_bytes mi) pc = .ok (.dup2, len)) (hok : am_okI mi pc (.dup2) len nxt v a b d w = true) (h : am_do (.dup2) nxt v a b d mi pc L S g t = some act) (hk : am_Kn (am_PW p l e R s m args below meth c cells slots Q xs Ln D cA ad A) act) (hR : am_Rel xs Ln s D cA ad A mi L g H ls locs) : W p l e R s m args below meth c H locs cells slots Q (F0 m pc ls (S.map (am_cv ad))) := by
  obtain ⟨hx, hb, hml, hown, hts, ⟨hK, hE, hX, hbl, hbA, hN, hA⟩, hF, hLo⟩ := hW
  obtain ⟨hl, hP, hD, hS, hG⟩ := hR
  simp only [am_okI, Bool.and_eq_true, decide_eq_true_eq] at hok
  obtain ⟨rfl, rfl⟩ := hok
  obtain ⟨x, y, r, rfl, rfl⟩ := am_dup2_inv h
  exact lv_dup2_11 hx hb hdec rfl rfl (hk H ls locs ⟨hl, hP, hD, hS, hG⟩)
theorem am_s_ifCond {q : ClassFile.Cond} {n : Int} (hW : am_Wk p R s m args c xs Ln D cA ad A mi) (hcs : cells ≤ R.cells ∧ slots ≤ R.slots) (hdec : decode (am_bytes mi) pc = .ok (.ifCond q n, len)) (hok : am_okI mi pc (.ifCond q n) len nxt v a b d w = true) (h : am_do (.ifCond q n) nxt v a b d mi pc L S g t = some act) (hk : am_Kn (am_PW p l e R s m args below meth c cells slots Q xs Ln D cA ad A) act) (hR : am_Rel xs Ln s D cA ad A mi L g H ls locs) : W p l e R s m args below meth c H locs cells slots Q (F0 m pc ls (S.map (am_cv ad))) := by
  obtain ⟨hx, hb, hml, hown, hts, ⟨hK, hE, hX, hbl, hbA, hN, hA⟩, hF, hLo⟩ := hW
  obtain ⟨hl, hP, hD, hS, hG⟩ := hR
  simp only [am_okI, Bool.and_eq_true, decide_eq_true_eq] at hok
  obtain ⟨⟨rfl, rfl⟩, h3⟩ := hok
  obtain ⟨x, r, rfl, rfl⟩ := am_if1_inv h
  cases q with
  | eq => exact lv_if_eq hx hb hdec h3 (fun z => hk.1 (decide_eq_true z) H ls locs ⟨hl, hP, hD, hS, hG⟩) (fun z => hk.2 (decide_eq_false z) H ls locs ⟨hl, hP, hD, hS, hG⟩)
  | ne => exact lv_if_ne hx hb hdec h3 (fun z => hk.1 (decide_eq_true z) H ls locs ⟨hl, hP, hD, hS, hG⟩) (fun z => hk.2 (decide_eq_false (fun y => y z)) H ls locs ⟨hl, hP, hD, hS, hG⟩)
  | lt => exact lv_if_lt hx hb hdec h3 (fun z => hk.1 (decide_eq_true z) H ls locs ⟨hl, hP, hD, hS, hG⟩) (fun z => hk.2 (decide_eq_false z) H ls locs ⟨hl, hP, hD, hS, hG⟩)
  | ge => exact lv_if_ge hx hb hdec h3 (fun z => hk.1 (decide_eq_true z) H ls locs ⟨hl, hP, hD, hS, hG⟩) (fun z => hk.2 (decide_eq_false z) H ls locs ⟨hl, hP, hD, hS, hG⟩)
  | gt => exact lv_if_gt hx hb hdec h3 (fun z => hk.1 (decide_eq_true z) H ls locs ⟨hl, hP, hD, hS, hG⟩) (fun z => hk.2 (decide_eq_false z) H ls locs ⟨hl, hP, hD, hS, hG⟩)
  | le => exact lv_if_le hx hb hdec h3 (fun z => hk.1 (decide_eq_true z) H ls locs ⟨hl, hP, hD, hS, hG⟩) (fun z => hk.2 (decide_eq_false z) H ls locs ⟨hl, hP, hD, hS, hG⟩)
theorem am_s_if_icmp {q : ClassFile.Cond} {n : Int} (hW : am_Wk p R s m args c xs Ln D cA ad A mi) (hcs : cells ≤ R.cells ∧ slots ≤ R.slots) (hdec : decode (am_bytes mi) pc = .ok (.if_icmp q n, len)) (hok : am_okI mi pc (.if_icmp q n) len nxt v a b d w = true) (h : am_do (.if_icmp q n) nxt v a b d mi pc L S g t = some act) (hk : am_Kn (am_PW p l e R s m args below meth c cells slots Q xs Ln D cA ad A) act) (hR : am_Rel xs Ln s D cA ad A mi L g H ls locs) : W p l e R s m args below meth c H locs cells slots Q (F0 m pc ls (S.map (am_cv ad))) := by
  obtain ⟨hx, hb, hml, hown, hts, ⟨hK, hE, hX, hbl, hbA, hN, hA⟩, hF, hLo⟩ := hW
  obtain ⟨hl, hP, hD, hS, hG⟩ := hR
  simp only [am_okI, Bool.and_eq_true, decide_eq_true_eq] at hok
  obtain ⟨⟨rfl, rfl⟩, h3⟩ := hok
  obtain ⟨x, y, r, rfl, rfl⟩ := am_if2_inv h
  cases q with
  | eq => exact lv_icmp_eq hx hb hdec h3 (fun z => hk.1 (decide_eq_true z) H ls locs ⟨hl, hP, hD, hS, hG⟩) (fun z => hk.2 (decide_eq_false z) H ls locs ⟨hl, hP, hD, hS, hG⟩)
  | ne => exact lv_icmp_ne hx hb hdec h3 (fun z => hk.1 (decide_eq_true z) H ls locs ⟨hl, hP, hD, hS, hG⟩) (fun z => hk.2 (decide_eq_false (fun y => y z)) H ls locs ⟨hl, hP, hD, hS, hG⟩)
  | lt => exact lv_icmp_lt hx hb hdec h3 (fun z => hk.1 (decide_eq_true z) H ls locs ⟨hl, hP, hD, hS, hG⟩) (fun z => hk.2 (decide_eq_false z) H ls locs ⟨hl, hP, hD, hS, hG⟩)
  | ge => exact lv_icmp_ge hx hb hdec h3 (fun z => hk.1 (decide_eq_true z) H ls locs ⟨hl, hP, hD, hS, hG⟩) (fun z => hk.2 (decide_eq_false z) H ls locs ⟨hl, hP, hD, hS, hG⟩)
  | gt => exact lv_icmp_gt hx hb hdec h3 (fun z => hk.1 (decide_eq_true z) H ls locs ⟨hl, hP, hD, hS, hG⟩) (fun z => hk.2 (decide_eq_false z) H ls locs ⟨hl, hP, hD, hS, hG⟩)
  | le => exact lv_icmp_le hx hb hdec h3 (fun z => hk.1 (decide_eq_true z) H ls locs ⟨hl, hP, hD, hS, hG⟩) (fun z => hk.2 (decide_eq_false z) H ls locs ⟨hl, hP, hD, hS, hG⟩)
theorem am_s_if_acmp {q : ClassFile.ACond} {n : Int} (hW : am_Wk p R s m args c xs Ln D cA ad A mi) (hcs : cells ≤ R.cells ∧ slots ≤ R.slots) (hdec : decode (am_bytes mi) pc = .ok (.if_acmp q n, len)) (hok : am_okI mi pc (.if_acmp q n) len nxt v a b d w = true) (h : am_do (.if_acmp q n) nxt v a b d mi pc L S g t = some act) (hk : am_Kn (am_PW p l e R s m args below meth c cells slots Q xs Ln D cA ad A) act) (hR : am_Rel xs Ln s D cA ad A mi L g H ls locs) : W p l e R s m args below meth c H locs cells slots Q (F0 m pc ls (S.map (am_cv ad))) := by
  obtain ⟨hx, hb, hml, hown, hts, ⟨hK, hE, hX, hbl, hbA, hN, hA⟩, hF, hLo⟩ := hW
  obtain ⟨hl, hP, hD, hS, hG⟩ := hR
  simp only [am_okI, Bool.and_eq_true, decide_eq_true_eq] at hok
  obtain ⟨⟨rfl, rfl⟩, h3⟩ := hok
  obtain ⟨x, y, r, rfl, rfl, rfl⟩ := am_ifa_inv h
  obtain ⟨h6, hk1, hk2⟩ := hk
  rw [Bool.and_eq_true] at h6
  have h61 := am_blt h6.1
  have h62 := am_blt h6.2
  refine lv_acmp_ne (rx := some (ad x)) (ry := some (ad y)) hx hb hdec h3 (fun z => hk1 (decide_eq_true (fun z2 => z (by rw [am_six x h61 y h62 z2]))) H ls locs ⟨hl, hP, hD, hS, hG⟩) (fun z => hk2 (decide_eq_false (fun z2 => z2 (by rw [hE.2 x y h61 h62 (Option.some.inj z)]))) H ls locs ⟨hl, hP, hD, hS, hG⟩)
theorem am_s_goto {n : Int} (hW : am_Wk p R s m args c xs Ln D cA ad A mi) (hcs : cells ≤ R.cells ∧ slots ≤ R.slots) (hdec : decode (am_bytes mi) pc = .ok (.goto n, len)) (hok : am_okI mi pc (.goto n) len nxt v a b d w = true) (h : am_do (.goto n) nxt v a b d mi pc L S g t = some act) (hk : am_Kn (am_PW p l e R s m args below meth c cells slots Q xs Ln D cA ad A) act) (hR : am_Rel xs Ln s D cA ad A mi L g H ls locs) : W p l e R s m args below meth c H locs cells slots Q (F0 m pc ls (S.map (am_cv ad))) := by
  obtain ⟨hx, hb, hml, hown, hts, ⟨hK, hE, hX, hbl, hbA, hN, hA⟩, hF, hLo⟩ := hW
  obtain ⟨hl, hP, hD, hS, hG⟩ := hR
  simp only [am_okI, Bool.and_eq_true, decide_eq_true_eq] at hok
  obtain ⟨⟨rfl, rfl⟩, h3⟩ := hok
  cases Option.some.inj h
  exact lv_goto hx hb hdec h3 (hk H ls locs ⟨hl, hP, hD, hS, hG⟩)
theorem am_s_tableswitch {df lo hi : Int} {offs : Array Int} (hW : am_Wk p R s m args c xs Ln D cA ad A mi) (hcs : cells ≤ R.cells ∧ slots ≤ R.slots) (hdec : decode (am_bytes mi) pc = .ok (.tableswitch df lo hi offs, len)) (hok : am_okI mi pc (.tableswitch df lo hi offs) len nxt v a b d w = true) (h : am_do (.tableswitch df lo hi offs) nxt v a b d mi pc L S g t = some act) (hk : am_Kn (am_PW p l e R s m args below meth c cells slots Q xs Ln D cA ad A) act) (hR : am_Rel xs Ln s D cA ad A mi L g H ls locs) : W p l e R s m args below meth c H locs cells slots Q (F0 m pc ls (S.map (am_cv ad))) := by
  obtain ⟨hx, hb, hml, hown, hts, ⟨hK, hE, hX, hbl, hbA, hN, hA⟩, hF, hLo⟩ := hW
  obtain ⟨hl, hP, hD, hS, hG⟩ := hR
  simp only [am_okI, Bool.and_eq_true, decide_eq_true_eq, List.all_eq_true] at hok
  obtain ⟨⟨h1, h2⟩, h3⟩ := hok
  obtain ⟨x, r, rfl, rfl⟩ := am_sw_inv h
  by_cases hc : x.toInt < lo ∨ hi < x.toInt
  · have e : am_ts pc df lo hi offs x = ((pc : Int) + df).toNat := by
      unfold am_ts
      rw [show (decide (x.toInt < lo) || decide (hi < x.toInt)) = true by rcases hc with z | z; · rw [decide_eq_true z]; rfl
                                                                          · rw [decide_eq_true z, Bool.or_true]]
      rfl
    have K := hk H ls locs ⟨hl, hP, hD, hS, hG⟩
    dsimp only at K
    rw [e] at K
    exact lv_tableOut hx hb hdec hc (Int.toNat_of_nonneg h1).symm K
  · have c1 : ¬ x.toInt < lo := fun z => hc (Or.inl z)
    have c2 : ¬ hi < x.toInt := fun z => hc (Or.inr z)
    have hlt : (x.toInt - lo).toNat < offs.size := by omega
    have hget : offs[(x.toInt - lo).toNat]? = some (offs.getD (x.toInt - lo).toNat 0) := by
      rw [Array.getElem?_eq_getElem hlt, Array.getD_eq_getD_getElem?, Array.getElem?_eq_getElem hlt]; rfl
    have hnn := h3 _ (List.mem_of_getElem? (by rw [Array.getElem?_toList]; exact hget))
    have e : am_ts pc df lo hi offs x = ((pc : Int) + offs.getD (x.toInt - lo).toNat 0).toNat := by
      unfold am_ts
      rw [decide_eq_false c1, decide_eq_false c2]; rfl
    have K := hk H ls locs ⟨hl, hP, hD, hS, hG⟩
    dsimp only at K
    rw [e] at K
    exact lv_tableIn hx hb hdec c1 c2 hget (Int.toNat_of_nonneg hnn).symm K
theorem am_s_getstatic {n : Nat} (hW : am_Wk p R s m args c xs Ln D cA ad A mi) (hcs : cells ≤ R.cells ∧ slots ≤ R.slots) (hdec : decode (am_bytes mi) pc = .ok (.getstatic n, len)) (hok : am_okI mi pc (.getstatic n) len nxt v a b d w = true) (h : am_do (.getstatic n) nxt v a b d mi pc L S g t = some act) (hk : am_Kn (am_PW p l e R s m args below meth c cells slots Q xs Ln D cA ad A) act) (hR : am_Rel xs Ln s D cA ad A mi L g H ls locs) : W p l e R s m args below meth c H locs cells slots Q (F0 m pc ls (S.map (am_cv ad))) := by
  obtain ⟨hx, hb, hml, hown, hts, ⟨hK, hE, hX, hbl, hbA, hN, hA⟩, hF, hLo⟩ := hW
  obtain ⟨hl, hP, hD, hS, hG⟩ := hR
  simp only [am_okI, Bool.and_eq_true, decide_eq_true_eq] at hok
  obtain ⟨⟨rfl, rfl⟩, h3⟩ := hok
  obtain ⟨h6, rfl⟩ := am_gs_inv h
  exact va_gets hx hb (hE.1 a h6).1 hS hown (hts _ (am_word_in h3)) (fun _ z => z) hdec (hk H ls locs ⟨hl, hP, hD, hS, hG⟩)
theorem am_s_getfield {n : Nat} (hW : am_Wk p R s m args c xs Ln D cA ad A mi) (hcs : cells ≤ R.cells ∧ slots ≤ R.slots) (hdec : decode (am_bytes mi) pc = .ok (.getfield n, len)) (hok : am_okI mi pc (.getfield n) len nxt v a b d w = true) (h : am_do (.getfield n) nxt v a b d mi pc L S g t = some act) (hk : am_Kn (am_PW p l e R s m args below meth c cells slots Q xs Ln D cA ad A) act) (hR : am_Rel xs Ln s D cA ad A mi L g H ls locs) : W p l e R s m args below meth c H locs cells slots Q (F0 m pc ls (S.map (am_cv ad))) := by
  obtain ⟨hx, hb, hml, hown, hts, ⟨hK, hE, hX, hbl, hbA, hN, hA⟩, hF, hLo⟩ := hW
  obtain ⟨hl, hP, hD, hS, hG⟩ := hR
  cases hcl : am_nth am_cl a with
  | none => simp [am_okI, hcl] at hok
  | some q =>
    obtain ⟨C, T, N⟩ := q
    simp only [am_okI, hcl, Bool.and_eq_true, decide_eq_true_eq] at hok
    obtain ⟨⟨rfl, rfl⟩, h3, h4⟩ := hok
    obtain ⟨k, r, fs, rfl, ho, hcase⟩ := am_gf_inv h
    have hget := (am_ob_get (ad := ad) (cA := cA) (g := g) ho).2
    have hc : am_cl[a]? = some (C, T, N) := by rw [← am_nth_get]; exact hcl
    rcases hcase with ⟨q, hq, rfl⟩ | ⟨hq, rfl⟩
    · exact va_get hx hb hts (am_clok hcl).1 hown hK hP (k - 8) hget hc b h3 (hts _ (am_word_in h4)) (fun _ z => z) (am_fv_get hq) hdec (hk H ls locs ⟨hl, hP, hD, hS, hG⟩)
    · have hv := am_fv_get (ad := ad) (f := g k) (o := 0) hq
      rw [Nat.zero_add] at hv
      exact va_get hx hb hts (am_clok hcl).1 hown hK hP (k - 8) hget hc b h3 (hts _ (am_word_in h4)) (fun _ z => z) hv hdec (hk H ls locs ⟨hl, hP, hD, hS, hG⟩)
theorem am_s_putfield {n : Nat} (hW : am_Wk p R s m args c xs Ln D cA ad A mi) (hcs : cells ≤ R.cells ∧ slots ≤ R.slots) (hdec : decode (am_bytes mi) pc = .ok (.putfield n, len)) (hok : am_okI mi pc (.putfield n) len nxt v a b d w = true) (h : am_do (.putfield n) nxt v a b d mi pc L S g t = some act) (hk : am_Kn (am_PW p l e R s m args below meth c cells slots Q xs Ln D cA ad A) act) (hR : am_Rel xs Ln s D cA ad A mi L g H ls locs) : W p l e R s m args below meth c H locs cells slots Q (F0 m pc ls (S.map (am_cv ad))) := by
  obtain ⟨hx, hb, hml, hown, hts, ⟨hK, hE, hX, hbl, hbA, hN, hA⟩, hF, hLo⟩ := hW
  obtain ⟨hl, hP, hD, hS, hG⟩ := hR
  cases hcl : am_nth am_cl a with
  | none => simp [am_okI, hcl] at hok
  | some q =>
    obtain ⟨C, T, N⟩ := q
    simp only [am_okI, hcl, Bool.and_eq_true, decide_eq_true_eq] at hok
    obtain ⟨⟨rfl, rfl⟩, ⟨h3, h4⟩, h5, h6⟩ := hok
    obtain ⟨x, k, r, fs, rfl, ho, hq, rfl⟩ := am_pf_inv h
    have hget := am_ob_get (ad := ad) (cA := cA) (g := g) ho
    have hc : am_cl[a]? = some (C, T, N) := by rw [← am_nth_get]; exact hcl
    obtain ⟨k1, ⟨ty0, k2⟩, k3⟩ := am_clok hcl
    have hlen : b < (am_fv ad (g k) 0 fs).length := by
      have := am_fv_get (ad := ad) (f := g k) (o := 0) hq
      exact (List.getElem?_eq_some_iff.mp this).1
    have hd0 : parseFieldDescriptor (T b).2.2.1 = some .int := by rw [h5]; rfl
    refine va_put hx hb hts k1 ty0 k2 k3 hown hK hP hD hS (k - 8) hget.2 hc b h3 (hts _ (am_word_in h4)) (fun _ z => z) h6 hd0 rfl rfl hlen hdec (fun H1 locs1 hP1 hD1 hS1 => ?_)
    have e : (am_ws ad cA g).set (k - 8) (ad k, .inr (a, (am_fv ad (g k) 0 fs).set b (.int x))) = am_ws ad cA (am_w g k b x) := by
      rw [am_ob_set ho]
      have := am_fv_set (ad := ad) (f := g k) (v := x) (o := 0) hq
      rw [Nat.zero_add] at this
      show _ = (am_ws ad cA g).set (k - 8) (ad k, .inr (a, am_fv ad (upd (g k) b x) 0 fs))
      rw [this]
    have hP2 : va_P D am_cl ((am_ws ad cA g).set (k - 8) (ad k, .inr (a, (am_fv ad (g k) 0 fs).set b (.int x)))) H1 := hP1
    have hD2 : va_D A ((am_ws ad cA g).set (k - 8) (ad k, .inr (a, (am_fv ad (g k) 0 fs).set b (.int x)))) := hD1
    rw [e] at hP2 hD2
    exact hk H1 ls locs1 ⟨hl, hP2, hD2, hS1, am_Gx_w hG hget.1⟩
theorem am_s_arraylength (hW : am_Wk p R s m args c xs Ln D cA ad A mi) (hcs : cells ≤ R.cells ∧ slots ≤ R.slots) (hdec : decode (am_bytes mi) pc = .ok (.arraylength, len)) (hok : am_okI mi pc (.arraylength) len nxt v a b d w = true) (h : am_do (.arraylength) nxt v a b d mi pc L S g t = some act) (hk : am_Kn (am_PW p l e R s m args below meth c cells slots Q xs Ln D cA ad A) act) (hR : am_Rel xs Ln s D cA ad A mi L g H ls locs) : W p l e R s m args below meth c H locs cells slots Q (F0 m pc ls (S.map (am_cv ad))) := by
  obtain ⟨hx, hb, hml, hown, hts, ⟨hK, hE, hX, hbl, hbA, hN, hA⟩, hF, hLo⟩ := hW
  obtain ⟨hl, hP, hD, hS, hG⟩ := hR
  simp only [am_okI, Bool.and_eq_true, decide_eq_true_eq] at hok
  obtain ⟨rfl, rfl⟩ := hok
  obtain ⟨r, rfl, rfl⟩ := am_len_inv h
  refine va_slen hx hb hX hbl hbA hS hdec ?_
  have K := hk H ls locs ⟨hl, hP, hD, hS, hG⟩
  dsimp only [List.map_cons, am_cv] at K
  rw [hG.2.2] at K
  exact K
theorem am_s_iaload (hW : am_Wk p R s m args c xs Ln D cA ad A mi) (hcs : cells ≤ R.cells ∧ slots ≤ R.slots) (hdec : decode (am_bytes mi) pc = .ok (.iaload, len)) (hok : am_okI mi pc (.iaload) len nxt v a b d w = true) (h : am_do (.iaload) nxt v a b d mi pc L S g t = some act) (hk : am_Kn (am_PW p l e R s m args below meth c cells slots Q xs Ln D cA ad A) act) (hR : am_Rel xs Ln s D cA ad A mi L g H ls locs) : W p l e R s m args below meth c H locs cells slots Q (F0 m pc ls (S.map (am_cv ad))) := by
  obtain ⟨hx, hb, hml, hown, hts, ⟨hK, hE, hX, hbl, hbA, hN, hA⟩, hF, hLo⟩ := hW
  obtain ⟨hl, hP, hD, hS, hG⟩ := hR
  simp only [am_okI, Bool.and_eq_true, decide_eq_true_eq] at hok
  obtain ⟨rfl, rfl⟩ := hok
  rcases am_ild_inv h with ⟨j, r, rfl, rfl⟩ | ⟨j, k, r, mm, rfl, ho, rfl⟩
  · obtain ⟨hin, hk2⟩ := hk
    have e7 : (g 7 0).toNatClampNeg = Ln := by rw [hG.2.2, Int32.toNatClampNeg_ofNat_of_lt hG.1]
    rw [e7] at hin
    have hvp := am_in_vp hin
    have hj : j.toNatClampNeg < Ln := Nat.not_le.mp (fun z => hvp (Or.inr z))
    refine va_sld hx hb hX hbl hbA hS hvp hdec ?_
    have K := hk2 H ls locs ⟨hl, hP, hD, hS, hG⟩
    dsimp only [List.map_cons, am_cv] at K
    rw [hG.2.1 _ hj] at K
    exact K
  · exact va_iald hx hb hK hP (k - 8) 0 (am_ob_get ho).2 rfl (am_in_vp hk.1) hdec (hk.2 H ls locs ⟨hl, hP, hD, hS, hG⟩)
theorem am_s_caload (hW : am_Wk p R s m args c xs Ln D cA ad A mi) (hcs : cells ≤ R.cells ∧ slots ≤ R.slots) (hdec : decode (am_bytes mi) pc = .ok (.caload, len)) (hok : am_okI mi pc (.caload) len nxt v a b d w = true) (h : am_do (.caload) nxt v a b d mi pc L S g t = some act) (hk : am_Kn (am_PW p l e R s m args below meth c cells slots Q xs Ln D cA ad A) act) (hR : am_Rel xs Ln s D cA ad A mi L g H ls locs) : W p l e R s m args below meth c H locs cells slots Q (F0 m pc ls (S.map (am_cv ad))) := by
  obtain ⟨hx, hb, hml, hown, hts, ⟨hK, hE, hX, hbl, hbA, hN, hA⟩, hF, hLo⟩ := hW
  obtain ⟨hl, hP, hD, hS, hG⟩ := hR
  simp only [am_okI, Bool.and_eq_true, decide_eq_true_eq] at hok
  obtain ⟨rfl, rfl⟩ := hok
  obtain ⟨j, k, r, mm, rfl, ho, rfl⟩ := am_ald_inv (ty := 1) (f := fun x => .int x) h
  exact va_cald hx hb hK hP (k - 8) 1 (am_ob_get ho).2 rfl (am_in_vp hk.1) hdec (hk.2 H ls locs ⟨hl, hP, hD, hS, hG⟩)
theorem am_s_baload (hW : am_Wk p R s m args c xs Ln D cA ad A mi) (hcs : cells ≤ R.cells ∧ slots ≤ R.slots) (hdec : decode (am_bytes mi) pc = .ok (.baload, len)) (hok : am_okI mi pc (.baload) len nxt v a b d w = true) (h : am_do (.baload) nxt v a b d mi pc L S g t = some act) (hk : am_Kn (am_PW p l e R s m args below meth c cells slots Q xs Ln D cA ad A) act) (hR : am_Rel xs Ln s D cA ad A mi L g H ls locs) : W p l e R s m args below meth c H locs cells slots Q (F0 m pc ls (S.map (am_cv ad))) := by
  obtain ⟨hx, hb, hml, hown, hts, ⟨hK, hE, hX, hbl, hbA, hN, hA⟩, hF, hLo⟩ := hW
  obtain ⟨hl, hP, hD, hS, hG⟩ := hR
  simp only [am_okI, Bool.and_eq_true, decide_eq_true_eq] at hok
  obtain ⟨rfl, rfl⟩ := hok
  obtain ⟨j, k, r, mm, rfl, ho, rfl⟩ := am_ald_inv (ty := 3) (f := fun x => .int x) h
  exact va_zald hx hb hK hP (k - 8) 3 (am_ob_get ho).2 rfl (am_in_vp hk.1) hdec (hk.2 H ls locs ⟨hl, hP, hD, hS, hG⟩)
theorem am_s_laload (hW : am_Wk p R s m args c xs Ln D cA ad A mi) (hcs : cells ≤ R.cells ∧ slots ≤ R.slots) (hdec : decode (am_bytes mi) pc = .ok (.laload, len)) (hok : am_okI mi pc (.laload) len nxt v a b d w = true) (h : am_do (.laload) nxt v a b d mi pc L S g t = some act) (hk : am_Kn (am_PW p l e R s m args below meth c cells slots Q xs Ln D cA ad A) act) (hR : am_Rel xs Ln s D cA ad A mi L g H ls locs) : W p l e R s m args below meth c H locs cells slots Q (F0 m pc ls (S.map (am_cv ad))) := by
  obtain ⟨hx, hb, hml, hown, hts, ⟨hK, hE, hX, hbl, hbA, hN, hA⟩, hF, hLo⟩ := hW
  obtain ⟨hl, hP, hD, hS, hG⟩ := hR
  simp only [am_okI, Bool.and_eq_true, decide_eq_true_eq] at hok
  obtain ⟨rfl, rfl⟩ := hok
  obtain ⟨j, k, r, mm, rfl, ho, rfl⟩ := am_ald_inv (ty := 2) (f := fun x => .long x.toInt64) h
  exact va_lald hx hb hK hP (k - 8) 2 (am_ob_get ho).2 rfl (am_in_vp hk.1) hdec (hk.2 H ls locs ⟨hl, hP, hD, hS, hG⟩)
theorem am_s_aaload (hW : am_Wk p R s m args c xs Ln D cA ad A mi) (hcs : cells ≤ R.cells ∧ slots ≤ R.slots) (hdec : decode (am_bytes mi) pc = .ok (.aaload, len)) (hok : am_okI mi pc (.aaload) len nxt v a b d w = true) (h : am_do (.aaload) nxt v a b d mi pc L S g t = some act) (hk : am_Kn (am_PW p l e R s m args below meth c cells slots Q xs Ln D cA ad A) act) (hR : am_Rel xs Ln s D cA ad A mi L g H ls locs) : W p l e R s m args below meth c H locs cells slots Q (F0 m pc ls (S.map (am_cv ad))) := by
  obtain ⟨hx, hb, hml, hown, hts, ⟨hK, hE, hX, hbl, hbA, hN, hA⟩, hF, hLo⟩ := hW
  obtain ⟨hl, hP, hD, hS, hG⟩ := hR
  simp only [am_okI, Bool.and_eq_true, decide_eq_true_eq] at hok
  obtain ⟨rfl, rfl⟩ := hok
  obtain ⟨j, k, r, mm, rfl, ho, rfl⟩ := am_rld_inv h
  obtain ⟨hin, hk2⟩ := hk
  rw [Bool.and_eq_true] at hin
  refine va_aldq hx hb hK hP (k - 8) 4 (am_ob_get ho).2 rfl (am_in_vp hin.1) hdec ?_
  have K := hk2 H ls locs ⟨hl, hP, hD, hS, hG⟩
  have e : am_ev ad (g k j.toNatClampNeg) = some (ad (g k j.toNatClampNeg - 1).toNatClampNeg) := by
    unfold am_ev
    rw [hin.2]; rfl
  rw [e]
  exact K
theorem am_s_iastore (hW : am_Wk p R s m args c xs Ln D cA ad A mi) (hcs : cells ≤ R.cells ∧ slots ≤ R.slots) (hdec : decode (am_bytes mi) pc = .ok (.iastore, len)) (hok : am_okI mi pc (.iastore) len nxt v a b d w = true) (h : am_do (.iastore) nxt v a b d mi pc L S g t = some act) (hk : am_Kn (am_PW p l e R s m args below meth c cells slots Q xs Ln D cA ad A) act) (hR : am_Rel xs Ln s D cA ad A mi L g H ls locs) : W p l e R s m args below meth c H locs cells slots Q (F0 m pc ls (S.map (am_cv ad))) := by
  obtain ⟨hx, hb, hml, hown, hts, ⟨hK, hE, hX, hbl, hbA, hN, hA⟩, hF, hLo⟩ := hW
  obtain ⟨hl, hP, hD, hS, hG⟩ := hR
  simp only [am_okI, Bool.and_eq_true, decide_eq_true_eq] at hok
  obtain ⟨rfl, rfl⟩ := hok
  obtain ⟨x, j, k, r, mm, rfl, ho, rfl⟩ := am_ast_inv (ty := 0) (ck := fun b _ => b) (f := fun x => x) h
  have hget := am_ob_get (ad := ad) (cA := cA) (g := g) ho
  refine va_iast hx hb hK hP hD hS (k - 8) 0 hget.2 rfl (am_in_vp hk.1) hdec (fun H1 locs1 hP1 hD1 hS1 => ?_)
  refine hk.2 H1 ls locs1 ⟨hl, ?_, ?_, hS1, am_Gx_w hG hget.1⟩
  · rw [am_ob_set ho]; exact hP1
  · rw [am_ob_set ho]; exact hD1
theorem am_s_castore (hW : am_Wk p R s m args c xs Ln D cA ad A mi) (hcs : cells ≤ R.cells ∧ slots ≤ R.slots) (hdec : decode (am_bytes mi) pc = .ok (.castore, len)) (hok : am_okI mi pc (.castore) len nxt v a b d w = true) (h : am_do (.castore) nxt v a b d mi pc L S g t = some act) (hk : am_Kn (am_PW p l e R s m args below meth c cells slots Q xs Ln D cA ad A) act) (hR : am_Rel xs Ln s D cA ad A mi L g H ls locs) : W p l e R s m args below meth c H locs cells slots Q (F0 m pc ls (S.map (am_cv ad))) := by
  obtain ⟨hx, hb, hml, hown, hts, ⟨hK, hE, hX, hbl, hbA, hN, hA⟩, hF, hLo⟩ := hW
  obtain ⟨hl, hP, hD, hS, hG⟩ := hR
  simp only [am_okI, Bool.and_eq_true, decide_eq_true_eq] at hok
  obtain ⟨rfl, rfl⟩ := hok
  obtain ⟨x, j, k, r, mm, rfl, ho, rfl⟩ := am_ast_inv (ty := 1) (ck := fun b _ => b) (f := fun x => am_chr x) h
  have hget := am_ob_get (ad := ad) (cA := cA) (g := g) ho
  refine va_cast hx hb hK hP hD hS (k - 8) 1 hget.2 rfl (am_in_vp hk.1) hdec (fun H1 locs1 hP1 hD1 hS1 => ?_)
  rw [am_chr_nar] at hP1 hD1
  refine hk.2 H1 ls locs1 ⟨hl, ?_, ?_, hS1, am_Gx_w hG hget.1⟩
  · rw [am_ob_set ho]; exact hP1
  · rw [am_ob_set ho]; exact hD1
theorem am_s_bastore (hW : am_Wk p R s m args c xs Ln D cA ad A mi) (hcs : cells ≤ R.cells ∧ slots ≤ R.slots) (hdec : decode (am_bytes mi) pc = .ok (.bastore, len)) (hok : am_okI mi pc (.bastore) len nxt v a b d w = true) (h : am_do (.bastore) nxt v a b d mi pc L S g t = some act) (hk : am_Kn (am_PW p l e R s m args below meth c cells slots Q xs Ln D cA ad A) act) (hR : am_Rel xs Ln s D cA ad A mi L g H ls locs) : W p l e R s m args below meth c H locs cells slots Q (F0 m pc ls (S.map (am_cv ad))) := by
  obtain ⟨hx, hb, hml, hown, hts, ⟨hK, hE, hX, hbl, hbA, hN, hA⟩, hF, hLo⟩ := hW
  obtain ⟨hl, hP, hD, hS, hG⟩ := hR
  simp only [am_okI, Bool.and_eq_true, decide_eq_true_eq] at hok
  obtain ⟨rfl, rfl⟩ := hok
  obtain ⟨x, j, k, r, mm, rfl, ho, rfl⟩ := am_ast_inv (ty := 3) (ck := fun b x => b && am_isb x) (f := fun x => x) h
  obtain ⟨hin, hk2⟩ := hk
  rw [Bool.and_eq_true] at hin
  have hget := am_ob_get (ad := ad) (cA := cA) (g := g) ho
  refine va_zast hx hb hK hP hD hS (k - 8) 3 hget.2 rfl (am_in_vp hin.1) hdec (fun H1 locs1 hP1 hD1 hS1 => ?_)
  rw [am_isb_nar hin.2] at hP1 hD1
  refine hk2 H1 ls locs1 ⟨hl, ?_, ?_, hS1, am_Gx_w hG hget.1⟩
  · rw [am_ob_set ho]; exact hP1
  · rw [am_ob_set ho]; exact hD1
theorem am_s_lastore (hW : am_Wk p R s m args c xs Ln D cA ad A mi) (hcs : cells ≤ R.cells ∧ slots ≤ R.slots) (hdec : decode (am_bytes mi) pc = .ok (.lastore, len)) (hok : am_okI mi pc (.lastore) len nxt v a b d w = true) (h : am_do (.lastore) nxt v a b d mi pc L S g t = some act) (hk : am_Kn (am_PW p l e R s m args below meth c cells slots Q xs Ln D cA ad A) act) (hR : am_Rel xs Ln s D cA ad A mi L g H ls locs) : W p l e R s m args below meth c H locs cells slots Q (F0 m pc ls (S.map (am_cv ad))) := by
  obtain ⟨hx, hb, hml, hown, hts, ⟨hK, hE, hX, hbl, hbA, hN, hA⟩, hF, hLo⟩ := hW
  obtain ⟨hl, hP, hD, hS, hG⟩ := hR
  simp only [am_okI, Bool.and_eq_true, decide_eq_true_eq] at hok
  obtain ⟨rfl, rfl⟩ := hok
  obtain ⟨x, j, k, r, mm, rfl, ho, rfl⟩ := am_lst_inv h
  obtain ⟨hin, hk2⟩ := hk
  rw [Bool.and_eq_true, decide_eq_true_eq] at hin
  have hget := am_ob_get (ad := ad) (cA := cA) (g := g) ho
  refine va_last hx hb hK hP hD hS (k - 8) 2 hget.2 rfl (am_in_vp hin.1) hdec (fun H1 locs1 hP1 hD1 hS1 => ?_)
  have e : vp_updL (fun q => (g k q).toInt64) j.toNatClampNeg x = fun q => (upd (g k) j.toNatClampNeg x.toInt32 q).toInt64 := by
    funext q
    unfold vp_updL upd
    by_cases hq : q = j.toNatClampNeg
    · rw [if_pos hq, if_pos hq]; exact hin.2
    · rw [if_neg hq, if_neg hq]
  rw [e] at hP1 hD1
  refine hk2 H1 ls locs1 ⟨hl, ?_, ?_, hS1, am_Gx_w hG hget.1⟩
  · rw [am_ob_set ho]; exact hP1
  · rw [am_ob_set ho]; exact hD1
theorem am_s_aastore (hW : am_Wk p R s m args c xs Ln D cA ad A mi) (hcs : cells ≤ R.cells ∧ slots ≤ R.slots) (hdec : decode (am_bytes mi) pc = .ok (.aastore, len)) (hok : am_okI mi pc (.aastore) len nxt v a b d w = true) (h : am_do (.aastore) nxt v a b d mi pc L S g t = some act) (hk : am_Kn (am_PW p l e R s m args below meth c cells slots Q xs Ln D cA ad A) act) (hR : am_Rel xs Ln s D cA ad A mi L g H ls locs) : W p l e R s m args below meth c H locs cells slots Q (F0 m pc ls (S.map (am_cv ad))) := by
  obtain ⟨hx, hb, hml, hown, hts, ⟨hK, hE, hX, hbl, hbA, hN, hA⟩, hF, hLo⟩ := hW
  obtain ⟨hl, hP, hD, hS, hG⟩ := hR
  simp only [am_okI, Bool.and_eq_true, decide_eq_true_eq] at hok
  obtain ⟨rfl, rfl⟩ := hok
  obtain ⟨x, j, k, r, mm, rfl, ho, rfl⟩ := am_rst_inv h
  obtain ⟨hin, hk2⟩ := hk
  rw [Bool.and_eq_true] at hin
  have h6 := am_blt hin.2
  have hget := am_ob_get (ad := ad) (cA := cA) (g := g) ho
  refine vb_astq (E := am_LK) (C := am_LK) hx hb hK hP hD hS (k - 8) 4 hget.2 rfl (va_recvE hE h6 hS) (fun comp c0 h1 h2 => vb_asgS comp c0 h1 h2) (am_in_vp hin.1) hdec (fun H1 locs1 hP1 hD1 hS1 => ?_)
  have e : va_up (fun q => am_ev ad (g k q)) j.toNatClampNeg (some (ad x)) = fun q => am_ev ad (upd (g k) j.toNatClampNeg (Int32.ofNat x + 1) q) := by
    funext q
    unfold va_up upd
    by_cases hq : q = j.toNatClampNeg
    · rw [if_pos hq, if_pos hq, am_six_ev ad h6]
    · rw [if_neg hq, if_neg hq]
  rw [e] at hP1 hD1
  refine hk2 H1 ls locs1 ⟨hl, ?_, ?_, hS1, am_Gx_w hG hget.1⟩
  · rw [am_ob_set ho]; exact hP1
  · rw [am_ob_set ho]; exact hD1
end
end
section
theorem am_ok_0 : am_okT 0 am_t0 = true := by decide +kernel
theorem am_ok_1 : am_okT 1 am_t1 = true := by decide +kernel
theorem am_ok_2 : am_okT 2 am_t2 = true := by decide +kernel
theorem am_ok_3 : am_okT 3 am_t3 = true := by decide +kernel
theorem am_ok_4 : am_okT 4 am_t4 = true := by decide +kernel
theorem am_ok_5 : am_okT 5 am_t5 = true := by decide +kernel
theorem am_ok_6 : am_okT 6 am_t6 = true := by decide +kernel
theorem am_ok_7 : am_okT 7 am_t7 = true := by decide +kernel
theorem am_ok_8 : am_okT 8 am_t8 = true := by decide +kernel
theorem am_ok_9 : am_okT 9 am_t9 = true := by decide +kernel
theorem am_ok_10 : am_okT 10 am_t10 = true := by decide +kernel
theorem am_ok_11 : am_okT 11 am_t11 = true := by decide +kernel
theorem am_ok_12 : am_okT 12 am_t12 = true := by decide +kernel
theorem am_ok_13 : am_okT 13 am_t13 = true := by decide +kernel
theorem am_ok_14 : am_okT 14 am_t14 = true := by decide +kernel
theorem am_ok_15 : am_okT 15 am_t15 = true := by decide +kernel
theorem am_ok_16 : am_okT 16 am_t16 = true := by decide +kernel
theorem am_ok_17 : am_okT 17 am_t17 = true := by decide +kernel
theorem am_ok_18 : am_okT 18 am_t18 = true := by decide +kernel
theorem am_ok_19 : am_okT 19 am_t19 = true := by decide +kernel
theorem am_ok_20 : am_okT 20 am_t20 = true := by decide +kernel
theorem am_ok_21 : am_okT 21 am_t21 = true := by decide +kernel
theorem am_ok_22 : am_okT 22 am_t22 = true := by decide +kernel
theorem am_ok_23 : am_okT 23 am_t23 = true := by decide +kernel
theorem am_ok_24 : am_okT 24 am_t24 = true := by decide +kernel
theorem am_ok_25 : am_okT 25 am_t25 = true := by decide +kernel
theorem am_ok_26 : am_okT 26 am_t26 = true := by decide +kernel
theorem am_ok_27 : am_okT 27 am_t27 = true := by decide +kernel
theorem am_ok_28 : am_okT 28 am_t28 = true := by decide +kernel
theorem am_ok_29 : am_okT 29 am_t29 = true := by decide +kernel
theorem am_ok_30 : am_okT 30 am_t30 = true := by decide +kernel
end
section
theorem am_ok_31 : am_okT 31 am_t31 = true := by decide +kernel
theorem am_ok_32 : am_okT 32 am_t32 = true := by decide +kernel
theorem am_ok_33 : am_okT 33 am_t33 = true := by decide +kernel
theorem am_ok_34 : am_okT 34 am_t34 = true := by decide +kernel
theorem am_ok_35 : am_okT 35 am_t35 = true := by decide +kernel
theorem am_ok_36 : am_okT 36 am_t36 = true := by decide +kernel
theorem am_ok_37 : am_okT 37 am_t37 = true := by decide +kernel
theorem am_ok_38 : am_okT 38 am_t38 = true := by decide +kernel
theorem am_ok_39 : am_okT 39 am_t39 = true := by decide +kernel
theorem am_ok_40 : am_okT 40 am_t40 = true := by decide +kernel
theorem am_ok_41 : am_okT 41 am_t41 = true := by decide +kernel
theorem am_ok_42 : am_okT 42 am_t42 = true := by decide +kernel
theorem am_ok_43 : am_okT 43 am_t43 = true := by decide +kernel
theorem am_ok_44 : am_okT 44 am_t44 = true := by decide +kernel
theorem am_ok_45 : am_okT 45 am_t45 = true := by decide +kernel
theorem am_ok_46 : am_okT 46 am_t46 = true := by decide +kernel
theorem am_ok_47 : am_okT 47 am_t47 = true := by decide +kernel
theorem am_ok_48 : am_okT 48 am_t48 = true := by decide +kernel
theorem am_ok_49 : am_okT 49 am_t49 = true := by decide +kernel
theorem am_ok_50 : am_okT 50 am_t50 = true := by decide +kernel
theorem am_ok_51 : am_okT 51 am_t51 = true := by decide +kernel
theorem am_ok_52 : am_okT 52 am_t52 = true := by decide +kernel
theorem am_ok_53 : am_okT 53 am_t53 = true := by decide +kernel
theorem am_ok_54 : am_okT 54 am_t54 = true := by decide +kernel
theorem am_ok_55 : am_okT 55 am_t55 = true := by decide +kernel
theorem am_ok_56 : am_okT 56 am_t56 = true := by decide +kernel
theorem am_ok_57 : am_okT 57 am_t57 = true := by decide +kernel
theorem am_ok_58 : am_okT 58 am_t58 = true := by decide +kernel
theorem am_ok_59 : am_okT 59 am_t59 = true := by decide +kernel
theorem am_ok_60 : am_okT 60 am_t60 = true := by decide +kernel
theorem am_ok_61 : am_okT 61 am_t61 = true := by decide +kernel
end
section
theorem am_ok_62 : am_okT 62 am_t62 = true := by decide +kernel
theorem am_ok_63 : am_okT 63 am_t63 = true := by decide +kernel
theorem am_ok_64 : am_okT 64 am_t64 = true := by decide +kernel
theorem am_ok_65 : am_okT 65 am_t65 = true := by decide +kernel
theorem am_ok_66 : am_okT 66 am_t66 = true := by decide +kernel
theorem am_ok_67 : am_okT 67 am_t67 = true := by decide +kernel
theorem am_ok_68 : am_okT 68 am_t68 = true := by decide +kernel
theorem am_ok_69 : am_okT 69 am_t69 = true := by decide +kernel
theorem am_ok_70 : am_okT 70 am_t70 = true := by decide +kernel
theorem am_ok_71 : am_okT 71 am_t71 = true := by decide +kernel
theorem am_ok_72 : am_okT 72 am_t72 = true := by decide +kernel
theorem am_ok_73 : am_okT 73 am_t73 = true := by decide +kernel
theorem am_ok_74 : am_okT 74 am_t74 = true := by decide +kernel
theorem am_ok_75 : am_okT 75 am_t75 = true := by decide +kernel
theorem am_ok_76 : am_okT 76 am_t76 = true := by decide +kernel
theorem am_ok_77 : am_okT 77 am_t77 = true := by decide +kernel
theorem am_ok_78 : am_okT 78 am_t78 = true := by decide +kernel
theorem am_ok_79 : am_okT 79 am_t79 = true := by decide +kernel
theorem am_ok_80 : am_okT 80 am_t80 = true := by decide +kernel
theorem am_ok_81 : am_okT 81 am_t81 = true := by decide +kernel
theorem am_ok_82 : am_okT 82 am_t82 = true := by decide +kernel
theorem am_ok_83 : am_okT 83 am_t83 = true := by decide +kernel
theorem am_ok_84 : am_okT 84 am_t84 = true := by decide +kernel
theorem am_ok_85 : am_okT 85 am_t85 = true := by decide +kernel
theorem am_ok_86 : am_okT 86 am_t86 = true := by decide +kernel
theorem am_ok_87 : am_okT 87 am_t87 = true := by decide +kernel
theorem am_ok_88 : am_okT 88 am_t88 = true := by decide +kernel
theorem am_ok_89 : am_okT 89 am_t89 = true := by decide +kernel
theorem am_ok_90 : am_okT 90 am_t90 = true := by decide +kernel
theorem am_ok_91 : am_okT 91 am_t91 = true := by decide +kernel
theorem am_ok_92 : am_okT 92 am_t92 = true := by decide +kernel
end
section
theorem am_ok_93 : am_okT 93 am_t93 = true := by decide +kernel
theorem am_ok_94 : am_okT 94 am_t94 = true := by decide +kernel
theorem am_ok_95 : am_okT 95 am_t95 = true := by decide +kernel
theorem am_ok_96 : am_okT 96 am_t96 = true := by decide +kernel
theorem am_ok_97 : am_okT 97 am_t97 = true := by decide +kernel
theorem am_ok_98 : am_okT 98 am_t98 = true := by decide +kernel
theorem am_ok_99 : am_okT 99 am_t99 = true := by decide +kernel
theorem am_ok_100 : am_okT 100 am_t100 = true := by decide +kernel
theorem am_ok_101 : am_okT 101 am_t101 = true := by decide +kernel
theorem am_ok_102 : am_okT 102 am_t102 = true := by decide +kernel
theorem am_ok_103 : am_okT 103 am_t103 = true := by decide +kernel
theorem am_ok_104 : am_okT 104 am_t104 = true := by decide +kernel
theorem am_ok_105 : am_okT 105 am_t105 = true := by decide +kernel
theorem am_ok_106 : am_okT 106 am_t106 = true := by decide +kernel
theorem am_ok_107 : am_okT 107 am_t107 = true := by decide +kernel
theorem am_ok_108 : am_okT 108 am_t108 = true := by decide +kernel
theorem am_ok_109 : am_okT 109 am_t109 = true := by decide +kernel
theorem am_ok_110 : am_okT 110 am_t110 = true := by decide +kernel
theorem am_ok_111 : am_okT 111 am_t111 = true := by decide +kernel
theorem am_ok_112 : am_okT 112 am_t112 = true := by decide +kernel
theorem am_ok_113 : am_okT 113 am_t113 = true := by decide +kernel
theorem am_ok_114 : am_okT 114 am_t114 = true := by decide +kernel
theorem am_ok_115 : am_okT 115 am_t115 = true := by decide +kernel
theorem am_ok_116 : am_okT 116 am_t116 = true := by decide +kernel
theorem am_ok_117 : am_okT 117 am_t117 = true := by decide +kernel
theorem am_ok_118 : am_okT 118 am_t118 = true := by decide +kernel
theorem am_ok_119 : am_okT 119 am_t119 = true := by decide +kernel
theorem am_ok_120 : am_okT 120 am_t120 = true := by decide +kernel
end
section
def am_okU : Nat → List (List (List (Nat × am_E))) → Bool
  | _, [] => true
  | b, t :: r => am_okT b t && am_okU (b + 1) r
def am_okV : Nat → List (List (List (List (Nat × am_E)))) → Bool
  | _, [] => true
  | b, u :: r => am_okU b u && am_okV (b + 12) r
theorem am_okU_at : ∀ {u : List (List (List (Nat × am_E)))} {b j : Nat} {t : List (List (Nat × am_E))}, am_okU b u = true → am_nth u j = some t → am_okT (b + j) t = true
  | [], _, _, _, _, h => by cases h
  | x :: r, b, 0, t, h, hj => by
    cases hj
    rw [am_okU, Bool.and_eq_true] at h
    exact h.1
  | x :: r, b, j + 1, t, h, hj => by
    rw [am_okU, Bool.and_eq_true] at h
    rw [show b + (j + 1) = b + 1 + j by omega]
    exact am_okU_at (u := r) (b := b + 1) (j := j) h.2 hj
theorem am_okV_at : ∀ {v : List (List (List (List (Nat × am_E))))} {b i : Nat} {u : List (List (List (Nat × am_E)))}, am_okV b v = true → am_nth v i = some u → am_okU (b + 12 * i) u = true
  | [], _, _, _, _, h => by cases h
  | x :: r, b, 0, u, h, hj => by
    cases hj
    rw [am_okV, Bool.and_eq_true] at h
    exact h.1
  | x :: r, b, i + 1, u, h, hj => by
    rw [am_okV, Bool.and_eq_true] at h
    rw [show b + 12 * (i + 1) = b + 12 + 12 * i by omega]
    exact am_okV_at (v := r) (b := b + 12) (i := i) h.2 hj
theorem am_all_ok : am_okV 0 am_tabs = true := by
  simp only [am_okV, am_okU, am_tabs, Nat.reduceAdd, Nat.zero_add, am_ok_0, am_ok_1, am_ok_2, am_ok_3, am_ok_4, am_ok_5, am_ok_6, am_ok_7, am_ok_8, am_ok_9, am_ok_10, am_ok_11, am_ok_12, am_ok_13, am_ok_14, am_ok_15, am_ok_16, am_ok_17, am_ok_18, am_ok_19, am_ok_20, am_ok_21, am_ok_22, am_ok_23, am_ok_24, am_ok_25, am_ok_26, am_ok_27, am_ok_28, am_ok_29, am_ok_30, am_ok_31, am_ok_32, am_ok_33, am_ok_34, am_ok_35, am_ok_36, am_ok_37, am_ok_38, am_ok_39, am_ok_40, am_ok_41, am_ok_42, am_ok_43, am_ok_44, am_ok_45, am_ok_46, am_ok_47, am_ok_48, am_ok_49, am_ok_50, am_ok_51, am_ok_52, am_ok_53, am_ok_54, am_ok_55, am_ok_56, am_ok_57, am_ok_58, am_ok_59, am_ok_60, am_ok_61, am_ok_62, am_ok_63, am_ok_64, am_ok_65, am_ok_66, am_ok_67, am_ok_68, am_ok_69, am_ok_70, am_ok_71, am_ok_72, am_ok_73, am_ok_74, am_ok_75, am_ok_76, am_ok_77, am_ok_78, am_ok_79, am_ok_80, am_ok_81, am_ok_82, am_ok_83, am_ok_84, am_ok_85, am_ok_86, am_ok_87, am_ok_88, am_ok_89, am_ok_90, am_ok_91, am_ok_92, am_ok_93, am_ok_94, am_ok_95, am_ok_96, am_ok_97, am_ok_98, am_ok_99, am_ok_100, am_ok_101, am_ok_102, am_ok_103, am_ok_104, am_ok_105, am_ok_106, am_ok_107, am_ok_108, am_ok_109, am_ok_110, am_ok_111, am_ok_112, am_ok_113, am_ok_114, am_ok_115, am_ok_116, am_ok_117, am_ok_118, am_ok_119, am_ok_120, Bool.and_true, Bool.and_self]
theorem am_code_ok {mi pc : Nat} {e : am_E} (h : am_code mi pc = some e) : am_okE mi (pc, e) = true := by
  unfold am_code at h
  split at h
  · rename_i u hu
    split at h
    · rename_i t ht
      split at h
      · rename_i c hc
        have h1 := am_okV_at am_all_ok hu
        have h2 := am_okU_at h1 ht
        rw [show 0 + 12 * (mi / 12) + mi % 12 = mi by have := Nat.div_add_mod mi 12; omega] at h2
        unfold am_okT at h2
        rw [List.all_eq_true] at h2
        have h3 := h2 c (am_nth_mem hc)
        rw [List.all_eq_true] at h3
        exact h3 _ (am_find_mem h)
      · cases h
    · cases h
  · cases h
theorem am_code_dec {mi pc : Nat} {i : Instr} {nxt kp : Nat} {v : Value} {a b d w : Nat} (h : am_code mi pc = some (i, nxt, kp, v, a, b, d, w)) : ∃ len, decode (am_bytes mi) pc = .ok (i, len) ∧ am_okI mi pc i len nxt v a b d w = true := by
  have h0 := am_code_ok h
  unfold am_okE at h0
  split at h0
  · rename_i i' len hd
    rw [Bool.and_eq_true, decide_eq_true_eq] at h0
    obtain ⟨rfl, h1⟩ := h0
    exact ⟨len, hd, h1⟩
  · cases h0
end
section
theorem am_none {act : am_A} (h : (none : Option am_A) = some act) : False := by cases h
theorem am_call_inv {mi pc : Nat} {L : am_L} {g : am_G} {t a ml : Nat} {as r : List Value} {act : am_A} (h : am_call mi pc L g t a ml as r = some act) : am_wt r ≤ 8 ∧ am_wt as ≤ ml ∧ act = .inr (.inr (.inr (.inr (.inr (.inl ((a, 0, am_args 0 as, [], g, t), (mi, pc, L, r, g, t))))))) := by
  unfold am_call at h
  cases hb : (Nat.ble (am_wt r) 8 && Nat.ble (am_wt as) ml) with
  | false => rw [hb] at h; cases h
  | true =>
    rw [hb] at h
    rw [Bool.and_eq_true] at hb
    exact ⟨Nat.le_of_ble_eq_true hb.1, Nat.le_of_ble_eq_true hb.2, (Option.some.inj h).symm⟩
theorem am_pop_spec : ∀ (d : Nat) (S acc as r : List Value), am_pop d S acc = some (as, r) → ∃ xs, S = xs ++ r ∧ as = xs.reverse ++ acc ∧ xs.length = d
  | 0, S, acc, as, r, h => by
    cases Option.some.inj h
    exact ⟨[], rfl, rfl, rfl⟩
  | d + 1, [], acc, as, r, h => by cases h
  | d + 1, v :: S, acc, as, r, h => by
    obtain ⟨xs, h1, h2, h3⟩ := am_pop_spec d S (v :: acc) as r h
    refine ⟨v :: xs, by rw [h1]; rfl, ?_, by rw [List.length_cons, h3]⟩
    rw [h2, List.reverse_cons, List.append_assoc]; rfl
theorem am_iv_inv {mi pc : Nat} {L : am_L} {S : List Value} {g : am_G} {t : Nat} {v : Value} {a b d : Nat} {act : am_A} (h : am_iv mi pc L S g t v a b d = some act) : ∃ ml as k r fs, v = .ref ml ∧ am_pop d S [] = some (as, .ref k :: r) ∧ am_ob k = some (.inr (b, fs)) ∧ am_call mi pc L g t a ml (.ref k :: as) r = some act := by
  unfold am_iv at h
  split at h
  · rename_i ml as k r hp
    split at h
    · rename_i ci fs ho
      cases hb : Nat.beq ci b with
      | false => rw [hb] at h; cases h
      | true =>
        rw [hb] at h
        have e := Nat.eq_of_beq_eq_true hb
        subst e
        exact ⟨ml, as, k, r, fs, rfl, hp, ho, h⟩
    · cases h
  · cases h
theorem am_is_inv {mi pc : Nat} {L : am_L} {S : List Value} {g : am_G} {t : Nat} {v : Value} {a d : Nat} {act : am_A} (h : am_is mi pc L S g t v a d = some act) : ∃ ml as r, v = .ref ml ∧ am_pop d S [] = some (as, r) ∧ am_call mi pc L g t a ml as r = some act := by
  unfold am_is at h
  split at h
  · rename_i ml as r hp
    cases hb : am_w3 a as with
    | true => rw [hb] at h; exact ⟨ml, as, r, rfl, hp, h⟩
    | false => rw [hb] at h; cases h
  · cases h
theorem am_is_w3 {mi pc : Nat} {L : am_L} {S as r : List Value} {g : am_G} {t : Nat} {v : Value} {a d : Nat} {act : am_A} (h : am_is mi pc L S g t v a d = some act) (hp : am_pop d S [] = some (as, r)) : am_w3 a as = true := by
  unfold am_is at h
  rw [hp] at h
  split at h
  · rename_i ml as' r' hq
    cases Option.some.inj hq
    cases hb : am_w3 a as with
    | true => rfl
    | false => rw [hb] at h; cases h
  · cases h
def am_fin (act : am_A) (r : am_R) : Prop := act = .inr (.inr (.inr (.inl r))) ∨ act = .inr (.inr (.inr (.inr (.inl (true, r)))))
def am_Sh (mi : Nat) (act : am_A) : Prop := match act with
  | .inl s => s.1 = mi
  | .inr (.inl (_, s)) => s.1 = mi
  | .inr (.inr (.inl (.inl (_, _, _, s1, s2)))) => s1.1 = mi ∧ s2.1 = mi
  | .inr (.inr (.inl (.inr (_, _, _, _, s1, s2)))) => s1.1 = mi ∧ s2.1 = mi
  | .inr (.inr (.inr (.inr (.inr (.inr s))))) => s.1 = mi
  | _ => False
def am_plain (i : Instr) (b : Nat) : Bool := match i with
  | .invokevirtual _ => false
  | .invokestatic _ => Nat.beq b 1 || Nat.beq b 2
  | .ireturn => false
  | .areturn => false
  | .return_ => false
  | .new _ => false
  | _ => true
theorem am_do_sh {i : Instr} {nxt : Nat} {v : Value} {a b d mi pc : Nat} {L : am_L} {S : List Value} {g : am_G} {t : Nat} {act : am_A} (hp : am_plain i b = true) (h : am_do i nxt v a b d mi pc L S g t = some act) : am_Sh mi act := by
  cases i with
  | iconst n =>
    cases Option.some.inj h
    exact rfl
  | bipush n =>
    cases Option.some.inj h
    exact rfl
  | sipush n =>
    cases Option.some.inj h
    exact rfl
  | ldc n =>
    cases Option.some.inj h
    exact rfl
  | ldc_w n =>
    cases Option.some.inj h
    exact rfl
  | ldc2_w n =>
    cases Option.some.inj h
    exact rfl
  | goto n =>
    cases Option.some.inj h
    exact rfl
  | iload_n n =>
    obtain ⟨x, hf, rfl⟩ := am_iLd_inv h
    exact rfl
  | iload n =>
    obtain ⟨x, hf, rfl⟩ := am_iLd_inv h
    exact rfl
  | lload_n n =>
    obtain ⟨x, hf, rfl⟩ := am_lLd_inv h
    exact rfl
  | aload_n n =>
    obtain ⟨x, hf, rfl⟩ := am_aLd_inv h
    exact rfl
  | aload n =>
    obtain ⟨x, hf, rfl⟩ := am_aLd_inv h
    exact rfl
  | istore_n n =>
    obtain ⟨x, r, rfl, hn, rfl⟩ := am_iSt_inv h
    exact rfl
  | istore n =>
    obtain ⟨x, r, rfl, hn, rfl⟩ := am_iSt_inv h
    exact rfl
  | iinc n z =>
    obtain ⟨x, y, hf, hy, hn, rfl⟩ := am_iInc_inv h
    exact rfl
  | iadd =>
    obtain ⟨x, y, r, rfl, rfl⟩ := am_bin_inv (f := fun x y => x + y) h
    exact rfl
  | isub =>
    obtain ⟨x, y, r, rfl, rfl⟩ := am_bin_inv (f := fun x y => x - y) h
    exact rfl
  | imul =>
    obtain ⟨x, y, r, rfl, rfl⟩ := am_bin_inv (f := fun x y => x * y) h
    exact rfl
  | iand =>
    obtain ⟨x, y, r, rfl, rfl⟩ := am_bin_inv (f := fun x y => x &&& y) h
    exact rfl
  | ior =>
    obtain ⟨x, y, r, rfl, rfl⟩ := am_bin_inv (f := fun x y => x ||| y) h
    exact rfl
  | ixor =>
    obtain ⟨x, y, r, rfl, rfl⟩ := am_bin_inv (f := fun x y => x ^^^ y) h
    exact rfl
  | ishl =>
    obtain ⟨x, y, r, rfl, rfl⟩ := am_bin_inv (f := fun x y => x <<< (y &&& 31)) h
    exact rfl
  | ishr =>
    obtain ⟨x, y, r, rfl, rfl⟩ := am_bin_inv (f := fun x y => x >>> (y &&& 31)) h
    exact rfl
  | iushr =>
    obtain ⟨x, y, r, rfl, rfl⟩ := am_bin_inv (f := fun x y => (x.toUInt32 >>> (y.toUInt32 &&& Int32.toUInt32 31)).toInt32) h
    exact rfl
  | idiv =>
    obtain ⟨x, y, r, rfl, rfl⟩ := am_div_inv (f := fun x y => x / y) h
    exact rfl
  | irem =>
    obtain ⟨x, y, r, rfl, rfl⟩ := am_div_inv (f := fun x y => x - x / y * y) h
    exact rfl
  | i2l =>
    obtain ⟨x, r, rfl, rfl⟩ := am_un_inv (f := fun x => .long x.toInt64) h
    exact rfl
  | i2c =>
    obtain ⟨x, r, rfl, rfl⟩ := am_un_inv (f := fun x => .int (am_chr x)) h
    exact rfl
  | l2i =>
    obtain ⟨x, r, rfl, rfl⟩ := am_l2_inv h
    exact rfl
  | land =>
    obtain ⟨x, y, r, rfl, rfl⟩ := am_lbin_inv (f := fun x y => .long (x &&& y)) h
    exact rfl
  | lor =>
    obtain ⟨x, y, r, rfl, rfl⟩ := am_lbin_inv (f := fun x y => .long (x ||| y)) h
    exact rfl
  | lcmp =>
    obtain ⟨x, y, r, rfl, rfl⟩ := am_lbin_inv (f := fun x y => .int (lg_cmp x y)) h
    exact rfl
  | lshl =>
    obtain ⟨x, y, r, rfl, rfl⟩ := am_lsh_inv (f := fun x y => x <<< (y.toInt64 &&& 63)) h
    exact rfl
  | lshr =>
    obtain ⟨x, y, r, rfl, rfl⟩ := am_lsh_inv (f := fun x y => x >>> (y.toInt64 &&& 63)) h
    exact rfl
  | lushr =>
    obtain ⟨x, y, r, rfl, rfl⟩ := am_lsh_inv (f := fun x y => (x.toUInt64 >>> (y.toInt64.toUInt64 &&& Int64.toUInt64 63)).toInt64) h
    exact rfl
  | dup =>
    obtain ⟨x, r, rfl, hc, rfl⟩ := am_dup_inv h
    exact rfl
  | dup2 =>
    obtain ⟨x, y, r, rfl, rfl⟩ := am_dup2_inv h
    exact rfl
  | ifCond q n =>
    obtain ⟨x, r, rfl, rfl⟩ := am_if1_inv h
    exact ⟨rfl, rfl⟩
  | if_icmp q n =>
    obtain ⟨x, y, r, rfl, rfl⟩ := am_if2_inv h
    exact ⟨rfl, rfl⟩
  | if_acmp q n =>
    obtain ⟨x, y, r, rfl, rfl, rfl⟩ := am_ifa_inv h
    exact ⟨rfl, rfl⟩
  | tableswitch df lo hi offs =>
    obtain ⟨x, r, rfl, rfl⟩ := am_sw_inv h
    exact rfl
  | getstatic n =>
    obtain ⟨h6, rfl⟩ := am_gs_inv h
    exact rfl
  | getfield n =>
    obtain ⟨k, r, fs, rfl, ho, hcase⟩ := am_gf_inv h
    rcases hcase with ⟨q, hq, rfl⟩ | ⟨hq, rfl⟩
    · exact rfl
    · exact rfl
  | putfield n =>
    obtain ⟨x, k, r, fs, rfl, ho, hq, rfl⟩ := am_pf_inv h
    exact rfl
  | arraylength =>
    obtain ⟨r, rfl, rfl⟩ := am_len_inv h
    exact rfl
  | iaload =>
    rcases am_ild_inv h with ⟨j, r, rfl, rfl⟩ | ⟨j, k, r, mm, rfl, ho, rfl⟩
    · exact rfl
    · exact rfl
  | caload =>
    obtain ⟨j, k, r, mm, rfl, ho, rfl⟩ := am_ald_inv (ty := 1) (f := fun x => .int x) h
    exact rfl
  | baload =>
    obtain ⟨j, k, r, mm, rfl, ho, rfl⟩ := am_ald_inv (ty := 3) (f := fun x => .int x) h
    exact rfl
  | laload =>
    obtain ⟨j, k, r, mm, rfl, ho, rfl⟩ := am_ald_inv (ty := 2) (f := fun x => .long x.toInt64) h
    exact rfl
  | aaload =>
    obtain ⟨j, k, r, mm, rfl, ho, rfl⟩ := am_rld_inv h
    exact rfl
  | iastore =>
    obtain ⟨x, j, k, r, mm, rfl, ho, rfl⟩ := am_ast_inv (ty := 0) (ck := fun b _ => b) (f := fun x => x) h
    exact rfl
  | castore =>
    obtain ⟨x, j, k, r, mm, rfl, ho, rfl⟩ := am_ast_inv (ty := 1) (ck := fun b _ => b) (f := fun x => am_chr x) h
    exact rfl
  | bastore =>
    obtain ⟨x, j, k, r, mm, rfl, ho, rfl⟩ := am_ast_inv (ty := 3) (ck := fun b x => b && am_isb x) (f := fun x => x) h
    exact rfl
  | lastore =>
    obtain ⟨x, j, k, r, mm, rfl, ho, rfl⟩ := am_lst_inv h
    exact rfl
  | aastore =>
    obtain ⟨x, j, k, r, mm, rfl, ho, rfl⟩ := am_rst_inv h
    exact rfl
  | invokestatic n =>
    have hp : (Nat.beq b 1 || Nat.beq b 2) = true := hp
    cases h1 : Nat.beq b 1 with
    | true =>
      have h : (bif Nat.beq b 1 then am_mx mi nxt L S g t (fun x y => if x < y then y else x) else bif Nat.beq b 2 then am_mx mi nxt L S g t (fun x y => if y < x then y else x) else am_is mi pc L S g t v a d) = some act := h
      rw [h1] at h
      obtain ⟨x, y, r, rfl, hw, rfl⟩ := am_mx_inv h
      exact rfl
    | false =>
      have h : (bif Nat.beq b 1 then am_mx mi nxt L S g t (fun x y => if x < y then y else x) else bif Nat.beq b 2 then am_mx mi nxt L S g t (fun x y => if y < x then y else x) else am_is mi pc L S g t v a d) = some act := h
      rw [h1, Bool.false_or] at hp
      rw [h1, hp] at h
      obtain ⟨x, y, r, rfl, hw, rfl⟩ := am_mx_inv h
      exact rfl
  | invokevirtual n => cases hp
  | ireturn => cases hp
  | areturn => cases hp
  | return_ => cases hp
  | new n => cases hp
  | _ => exact (am_none h).elim
section
variable {p : Program} {l : Launch} {e : Env} {R : Room} {s : State} {m : MethodId} {args : Array Value} {below : List Frame} {meth : Method} {c : Code} {cells slots : Nat} {Q : State → Prop} {xs : Nat → Int32} {Ln : Nat} {D : va_G} {cA : Nat → ClassId} {ad : Nat → Nat} {A : Nat → Prop}
variable {mi pc nxt len a b d w t : Nat} {v : Value} {L : am_L} {S : List Value} {g : am_G} {act : am_A} {H : Heap} {ls : Array Slot} {locs : List Loc}
theorem am_do_sound {i : Instr} (hW : am_Wk p R s m args c xs Ln D cA ad A mi) (hcs : cells ≤ R.cells ∧ slots ≤ R.slots) (hdec : decode (am_bytes mi) pc = .ok (i, len)) (hok : am_okI mi pc i len nxt v a b d w = true) (hp : am_plain i b = true) (h : am_do i nxt v a b d mi pc L S g t = some act) (hk : am_Kn (am_PW p l e R s m args below meth c cells slots Q xs Ln D cA ad A) act) (hR : am_Rel xs Ln s D cA ad A mi L g H ls locs) : W p l e R s m args below meth c H locs cells slots Q (F0 m pc ls (S.map (am_cv ad))) := by
  cases i with
  | iconst n => exact am_s_iconst hW hcs hdec hok h hk hR
  | bipush n => exact am_s_bipush hW hcs hdec hok h hk hR
  | sipush n => exact am_s_sipush hW hcs hdec hok h hk hR
  | ldc n => exact am_s_ldc hW hcs hdec hok h hk hR
  | ldc_w n => exact am_s_ldc_w hW hcs hdec hok h hk hR
  | ldc2_w n => exact am_s_ldc2_w hW hcs hdec hok h hk hR
  | goto n => exact am_s_goto hW hcs hdec hok h hk hR
  | iload_n n => exact am_s_iload_n hW hcs hdec hok h hk hR
  | iload n => exact am_s_iload hW hcs hdec hok h hk hR
  | lload_n n => exact am_s_lload_n hW hcs hdec hok h hk hR
  | aload_n n => exact am_s_aload_n hW hcs hdec hok h hk hR
  | aload n => exact am_s_aload hW hcs hdec hok h hk hR
  | istore_n n => exact am_s_istore_n hW hcs hdec hok h hk hR
  | istore n => exact am_s_istore hW hcs hdec hok h hk hR
  | iinc n z => exact am_s_iinc hW hcs hdec hok h hk hR
  | iadd => exact am_s_iadd hW hcs hdec hok h hk hR
  | isub => exact am_s_isub hW hcs hdec hok h hk hR
  | imul => exact am_s_imul hW hcs hdec hok h hk hR
  | iand => exact am_s_iand hW hcs hdec hok h hk hR
  | ior => exact am_s_ior hW hcs hdec hok h hk hR
  | ixor => exact am_s_ixor hW hcs hdec hok h hk hR
  | ishl => exact am_s_ishl hW hcs hdec hok h hk hR
  | ishr => exact am_s_ishr hW hcs hdec hok h hk hR
  | iushr => exact am_s_iushr hW hcs hdec hok h hk hR
  | idiv => exact am_s_idiv hW hcs hdec hok h hk hR
  | irem => exact am_s_irem hW hcs hdec hok h hk hR
  | i2l => exact am_s_i2l hW hcs hdec hok h hk hR
  | i2c => exact am_s_i2c hW hcs hdec hok h hk hR
  | l2i => exact am_s_l2i hW hcs hdec hok h hk hR
  | land => exact am_s_land hW hcs hdec hok h hk hR
  | lor => exact am_s_lor hW hcs hdec hok h hk hR
  | lcmp => exact am_s_lcmp hW hcs hdec hok h hk hR
  | lshl => exact am_s_lshl hW hcs hdec hok h hk hR
  | lshr => exact am_s_lshr hW hcs hdec hok h hk hR
  | lushr => exact am_s_lushr hW hcs hdec hok h hk hR
  | dup => exact am_s_dup hW hcs hdec hok h hk hR
  | dup2 => exact am_s_dup2 hW hcs hdec hok h hk hR
  | ifCond q n => exact am_s_ifCond hW hcs hdec hok h hk hR
  | if_icmp q n => exact am_s_if_icmp hW hcs hdec hok h hk hR
  | if_acmp q n => exact am_s_if_acmp hW hcs hdec hok h hk hR
  | tableswitch df lo hi offs => exact am_s_tableswitch hW hcs hdec hok h hk hR
  | getstatic n => exact am_s_getstatic hW hcs hdec hok h hk hR
  | getfield n => exact am_s_getfield hW hcs hdec hok h hk hR
  | putfield n => exact am_s_putfield hW hcs hdec hok h hk hR
  | arraylength => exact am_s_arraylength hW hcs hdec hok h hk hR
  | iaload => exact am_s_iaload hW hcs hdec hok h hk hR
  | caload => exact am_s_caload hW hcs hdec hok h hk hR
  | baload => exact am_s_baload hW hcs hdec hok h hk hR
  | laload => exact am_s_laload hW hcs hdec hok h hk hR
  | aaload => exact am_s_aaload hW hcs hdec hok h hk hR
  | iastore => exact am_s_iastore hW hcs hdec hok h hk hR
  | castore => exact am_s_castore hW hcs hdec hok h hk hR
  | bastore => exact am_s_bastore hW hcs hdec hok h hk hR
  | lastore => exact am_s_lastore hW hcs hdec hok h hk hR
  | aastore => exact am_s_aastore hW hcs hdec hok h hk hR
  | invokestatic n =>
    have hp : (Nat.beq b 1 || Nat.beq b 2) = true := hp
    have h : (bif Nat.beq b 1 then am_mx mi nxt L S g t (fun x y => if x < y then y else x) else bif Nat.beq b 2 then am_mx mi nxt L S g t (fun x y => if y < x then y else x) else am_is mi pc L S g t v a d) = some act := h
    obtain ⟨hx, hb, hml, hown, hts, hXX, hF, hLo⟩ := hW
    obtain ⟨hl, hP, hD, hS, hG⟩ := hR
    cases h1 : Nat.beq b 1 with
    | true =>
      rw [h1] at h
      simp only [am_okI, h1, cond_true, Bool.and_eq_true, decide_eq_true_eq] at hok
      obtain ⟨⟨rfl, rfl⟩, ⟨h3, h4⟩, h5⟩ := hok
      obtain ⟨x, y, r, rfl, hw, rfl⟩ := am_mx_inv h
      have hm := am_max_ok
      unfold am_mathB at hm
      rw [Bool.and_eq_true, Bool.and_eq_true] at hm
      exact va_mmax hx hb (by rw [hml, hl.1]) hown (hts _ (am_word_in h3)) (hts _ (am_word_in hm.1.1)) (hts _ (am_word_in hm.1.2)) (hts _ (am_word_in hm.2)) (by omega) (by rw [am_wt_cat]; omega) hcs.1 hcs.2 hdec (hk H ls locs ⟨hl, hP, hD, hS, hG⟩)
    | false =>
      rw [h1, Bool.false_or] at hp
      rw [h1, hp] at h
      simp only [am_okI, h1, hp, cond_true, cond_false, Bool.and_eq_true, decide_eq_true_eq] at hok
      obtain ⟨⟨rfl, rfl⟩, ⟨h3, h4⟩, h5⟩ := hok
      obtain ⟨x, y, r, rfl, hw, rfl⟩ := am_mx_inv h
      have hm := am_min_ok
      unfold am_mathB at hm
      rw [Bool.and_eq_true, Bool.and_eq_true] at hm
      exact va_mmin hx hb (by rw [hml, hl.1]) hown (hts _ (am_word_in h3)) (hts _ (am_word_in hm.1.1)) (hts _ (am_word_in hm.1.2)) (hts _ (am_word_in hm.2)) (by omega) (by rw [am_wt_cat]; omega) hcs.1 hcs.2 hdec (hk H ls locs ⟨hl, hP, hD, hS, hG⟩)
  | invokevirtual n => cases hp
  | ireturn => cases hp
  | areturn => cases hp
  | return_ => cases hp
  | new n => cases hp
  | _ => exact (am_none h).elim
end
theorem am_step_inv {mi pc : Nat} {L : am_L} {S : List Value} {g : am_G} {t : Nat} {act : am_A} (h : am_step (mi, pc, L, S, g, t) = some act) : ∃ i nxt kp v a b d w L', am_code mi pc = some (i, nxt, kp, v, a, b, d, w) ∧ (∀ q ∈ L', q ∈ L) ∧ am_do i nxt v a b d mi pc L' S g t = some act := by
  unfold am_step at h
  dsimp only at h
  split at h
  · rename_i i nxt kp v a b d w hc
    split at h
    · exact ⟨i, nxt, _, v, a, b, d, w, L, hc, fun _ z => z, h⟩
    · rename_i q
      exact ⟨i, nxt, _, v, a, b, d, w, am_trim L q, hc, am_trim_sub L q, h⟩
  · cases h
theorem am_Rel_sub {xs : Nat → Int32} {Ln : Nat} {s : State} {D : va_G} {cA : Nat → ClassId} {ad : Nat → Nat} {A : Nat → Prop} {mi : Nat} {L L' : am_L} {g : am_G} {H : Heap} {ls : Array Slot} {locs : List Loc} (h : am_Rel xs Ln s D cA ad A mi L g H ls locs) (hs : ∀ q ∈ L', q ∈ L) : am_Rel xs Ln s D cA ad A mi L' g H ls locs := by
  refine ⟨am_lsub h.1 (fun q hq => ?_), h.2⟩
  obtain ⟨q0, h0, rfl⟩ := List.mem_map.mp hq
  exact List.mem_map.mpr ⟨q0, hs q0 h0, rfl⟩
end
section
theorem am_okm_0 : (!am_low 0 || am_okM 0) = true := by decide +kernel
theorem am_okm_1 : (!am_low 1 || am_okM 1) = true := by decide +kernel
theorem am_okm_2 : (!am_low 2 || am_okM 2) = true := by decide +kernel
theorem am_okm_3 : (!am_low 3 || am_okM 3) = true := by decide +kernel
theorem am_okm_4 : (!am_low 4 || am_okM 4) = true := by decide +kernel
theorem am_okm_5 : (!am_low 5 || am_okM 5) = true := by decide +kernel
theorem am_okm_6 : (!am_low 6 || am_okM 6) = true := by decide +kernel
theorem am_okm_7 : (!am_low 7 || am_okM 7) = true := by decide +kernel
theorem am_okm_8 : (!am_low 8 || am_okM 8) = true := by decide +kernel
theorem am_okm_9 : (!am_low 9 || am_okM 9) = true := by decide +kernel
theorem am_okm_10 : (!am_low 10 || am_okM 10) = true := by decide +kernel
theorem am_okm_11 : (!am_low 11 || am_okM 11) = true := by decide +kernel
theorem am_okm_12 : (!am_low 12 || am_okM 12) = true := by decide +kernel
theorem am_okm_13 : (!am_low 13 || am_okM 13) = true := by decide +kernel
theorem am_okm_14 : (!am_low 14 || am_okM 14) = true := by decide +kernel
theorem am_okm_15 : (!am_low 15 || am_okM 15) = true := by decide +kernel
theorem am_okm_16 : (!am_low 16 || am_okM 16) = true := by decide +kernel
theorem am_okm_17 : (!am_low 17 || am_okM 17) = true := by decide +kernel
theorem am_okm_18 : (!am_low 18 || am_okM 18) = true := by decide +kernel
theorem am_okm_19 : (!am_low 19 || am_okM 19) = true := by decide +kernel
theorem am_okm_20 : (!am_low 20 || am_okM 20) = true := by decide +kernel
theorem am_okm_21 : (!am_low 21 || am_okM 21) = true := by decide +kernel
theorem am_okm_22 : (!am_low 22 || am_okM 22) = true := by decide +kernel
theorem am_okm_23 : (!am_low 23 || am_okM 23) = true := by decide +kernel
theorem am_okm_24 : (!am_low 24 || am_okM 24) = true := by decide +kernel
theorem am_okm_25 : (!am_low 25 || am_okM 25) = true := by decide +kernel
theorem am_okm_26 : (!am_low 26 || am_okM 26) = true := by decide +kernel
theorem am_okm_27 : (!am_low 27 || am_okM 27) = true := by decide +kernel
theorem am_okm_28 : (!am_low 28 || am_okM 28) = true := by decide +kernel
theorem am_okm_29 : (!am_low 29 || am_okM 29) = true := by decide +kernel
theorem am_okm_30 : (!am_low 30 || am_okM 30) = true := by decide +kernel
theorem am_okm_31 : (!am_low 31 || am_okM 31) = true := by decide +kernel
theorem am_okm_32 : (!am_low 32 || am_okM 32) = true := by decide +kernel
theorem am_okm_33 : (!am_low 33 || am_okM 33) = true := by decide +kernel
theorem am_okm_34 : (!am_low 34 || am_okM 34) = true := by decide +kernel
theorem am_okm_35 : (!am_low 35 || am_okM 35) = true := by decide +kernel
theorem am_okm_36 : (!am_low 36 || am_okM 36) = true := by decide +kernel
theorem am_okm_37 : (!am_low 37 || am_okM 37) = true := by decide +kernel
theorem am_okm_38 : (!am_low 38 || am_okM 38) = true := by decide +kernel
theorem am_okm_39 : (!am_low 39 || am_okM 39) = true := by decide +kernel
theorem am_okm_40 : (!am_low 40 || am_okM 40) = true := by decide +kernel
end
section
theorem am_okm_41 : (!am_low 41 || am_okM 41) = true := by decide +kernel
theorem am_okm_42 : (!am_low 42 || am_okM 42) = true := by decide +kernel
theorem am_okm_43 : (!am_low 43 || am_okM 43) = true := by decide +kernel
theorem am_okm_44 : (!am_low 44 || am_okM 44) = true := by decide +kernel
theorem am_okm_45 : (!am_low 45 || am_okM 45) = true := by decide +kernel
theorem am_okm_46 : (!am_low 46 || am_okM 46) = true := by decide +kernel
theorem am_okm_47 : (!am_low 47 || am_okM 47) = true := by decide +kernel
theorem am_okm_48 : (!am_low 48 || am_okM 48) = true := by decide +kernel
theorem am_okm_49 : (!am_low 49 || am_okM 49) = true := by decide +kernel
theorem am_okm_50 : (!am_low 50 || am_okM 50) = true := by decide +kernel
theorem am_okm_51 : (!am_low 51 || am_okM 51) = true := by decide +kernel
theorem am_okm_52 : (!am_low 52 || am_okM 52) = true := by decide +kernel
theorem am_okm_53 : (!am_low 53 || am_okM 53) = true := by decide +kernel
theorem am_okm_54 : (!am_low 54 || am_okM 54) = true := by decide +kernel
theorem am_okm_55 : (!am_low 55 || am_okM 55) = true := by decide +kernel
theorem am_okm_56 : (!am_low 56 || am_okM 56) = true := by decide +kernel
theorem am_okm_57 : (!am_low 57 || am_okM 57) = true := by decide +kernel
theorem am_okm_58 : (!am_low 58 || am_okM 58) = true := by decide +kernel
theorem am_okm_59 : (!am_low 59 || am_okM 59) = true := by decide +kernel
theorem am_okm_60 : (!am_low 60 || am_okM 60) = true := by decide +kernel
theorem am_okm_61 : (!am_low 61 || am_okM 61) = true := by decide +kernel
theorem am_okm_62 : (!am_low 62 || am_okM 62) = true := by decide +kernel
theorem am_okm_63 : (!am_low 63 || am_okM 63) = true := by decide +kernel
theorem am_okm_64 : (!am_low 64 || am_okM 64) = true := by decide +kernel
theorem am_okm_65 : (!am_low 65 || am_okM 65) = true := by decide +kernel
theorem am_okm_66 : (!am_low 66 || am_okM 66) = true := by decide +kernel
theorem am_okm_67 : (!am_low 67 || am_okM 67) = true := by decide +kernel
theorem am_okm_68 : (!am_low 68 || am_okM 68) = true := by decide +kernel
theorem am_okm_69 : (!am_low 69 || am_okM 69) = true := by decide +kernel
theorem am_okm_70 : (!am_low 70 || am_okM 70) = true := by decide +kernel
theorem am_okm_71 : (!am_low 71 || am_okM 71) = true := by decide +kernel
theorem am_okm_72 : (!am_low 72 || am_okM 72) = true := by decide +kernel
theorem am_okm_73 : (!am_low 73 || am_okM 73) = true := by decide +kernel
theorem am_okm_74 : (!am_low 74 || am_okM 74) = true := by decide +kernel
theorem am_okm_75 : (!am_low 75 || am_okM 75) = true := by decide +kernel
theorem am_okm_76 : (!am_low 76 || am_okM 76) = true := by decide +kernel
theorem am_okm_77 : (!am_low 77 || am_okM 77) = true := by decide +kernel
theorem am_okm_78 : (!am_low 78 || am_okM 78) = true := by decide +kernel
theorem am_okm_79 : (!am_low 79 || am_okM 79) = true := by decide +kernel
theorem am_okm_80 : (!am_low 80 || am_okM 80) = true := by decide +kernel
end
section
theorem am_okm_81 : (!am_low 81 || am_okM 81) = true := by decide +kernel
theorem am_okm_82 : (!am_low 82 || am_okM 82) = true := by decide +kernel
theorem am_okm_83 : (!am_low 83 || am_okM 83) = true := by decide +kernel
theorem am_okm_84 : (!am_low 84 || am_okM 84) = true := by decide +kernel
theorem am_okm_85 : (!am_low 85 || am_okM 85) = true := by decide +kernel
theorem am_okm_86 : (!am_low 86 || am_okM 86) = true := by decide +kernel
theorem am_okm_87 : (!am_low 87 || am_okM 87) = true := by decide +kernel
theorem am_okm_88 : (!am_low 88 || am_okM 88) = true := by decide +kernel
theorem am_okm_89 : (!am_low 89 || am_okM 89) = true := by decide +kernel
theorem am_okm_90 : (!am_low 90 || am_okM 90) = true := by decide +kernel
theorem am_okm_91 : (!am_low 91 || am_okM 91) = true := by decide +kernel
theorem am_okm_92 : (!am_low 92 || am_okM 92) = true := by decide +kernel
theorem am_okm_93 : (!am_low 93 || am_okM 93) = true := by decide +kernel
theorem am_okm_94 : (!am_low 94 || am_okM 94) = true := by decide +kernel
theorem am_okm_95 : (!am_low 95 || am_okM 95) = true := by decide +kernel
theorem am_okm_96 : (!am_low 96 || am_okM 96) = true := by decide +kernel
theorem am_okm_97 : (!am_low 97 || am_okM 97) = true := by decide +kernel
theorem am_okm_98 : (!am_low 98 || am_okM 98) = true := by decide +kernel
theorem am_okm_99 : (!am_low 99 || am_okM 99) = true := by decide +kernel
theorem am_okm_100 : (!am_low 100 || am_okM 100) = true := by decide +kernel
theorem am_okm_101 : (!am_low 101 || am_okM 101) = true := by decide +kernel
theorem am_okm_102 : (!am_low 102 || am_okM 102) = true := by decide +kernel
theorem am_okm_103 : (!am_low 103 || am_okM 103) = true := by decide +kernel
theorem am_okm_104 : (!am_low 104 || am_okM 104) = true := by decide +kernel
theorem am_okm_105 : (!am_low 105 || am_okM 105) = true := by decide +kernel
theorem am_okm_106 : (!am_low 106 || am_okM 106) = true := by decide +kernel
theorem am_okm_107 : (!am_low 107 || am_okM 107) = true := by decide +kernel
theorem am_okm_108 : (!am_low 108 || am_okM 108) = true := by decide +kernel
theorem am_okm_109 : (!am_low 109 || am_okM 109) = true := by decide +kernel
theorem am_okm_110 : (!am_low 110 || am_okM 110) = true := by decide +kernel
theorem am_okm_111 : (!am_low 111 || am_okM 111) = true := by decide +kernel
theorem am_okm_112 : (!am_low 112 || am_okM 112) = true := by decide +kernel
theorem am_okm_113 : (!am_low 113 || am_okM 113) = true := by decide +kernel
theorem am_okm_114 : (!am_low 114 || am_okM 114) = true := by decide +kernel
theorem am_okm_115 : (!am_low 115 || am_okM 115) = true := by decide +kernel
theorem am_okm_116 : (!am_low 116 || am_okM 116) = true := by decide +kernel
theorem am_okm_117 : (!am_low 117 || am_okM 117) = true := by decide +kernel
theorem am_okm_118 : (!am_low 118 || am_okM 118) = true := by decide +kernel
theorem am_okm_119 : (!am_low 119 || am_okM 119) = true := by decide +kernel
theorem am_okm_120 : (!am_low 120 || am_okM 120) = true := by decide +kernel
end
section
theorem am_okM_all (a : Nat) (h : a < 121) : (!am_low a || am_okM a) = true := by
  match a, h with
  | 0, _ => exact am_okm_0
  | 1, _ => exact am_okm_1
  | 2, _ => exact am_okm_2
  | 3, _ => exact am_okm_3
  | 4, _ => exact am_okm_4
  | 5, _ => exact am_okm_5
  | 6, _ => exact am_okm_6
  | 7, _ => exact am_okm_7
  | 8, _ => exact am_okm_8
  | 9, _ => exact am_okm_9
  | 10, _ => exact am_okm_10
  | 11, _ => exact am_okm_11
  | 12, _ => exact am_okm_12
  | 13, _ => exact am_okm_13
  | 14, _ => exact am_okm_14
  | 15, _ => exact am_okm_15
  | 16, _ => exact am_okm_16
  | 17, _ => exact am_okm_17
  | 18, _ => exact am_okm_18
  | 19, _ => exact am_okm_19
  | 20, _ => exact am_okm_20
  | 21, _ => exact am_okm_21
  | 22, _ => exact am_okm_22
  | 23, _ => exact am_okm_23
  | 24, _ => exact am_okm_24
  | 25, _ => exact am_okm_25
  | 26, _ => exact am_okm_26
  | 27, _ => exact am_okm_27
  | 28, _ => exact am_okm_28
  | 29, _ => exact am_okm_29
  | 30, _ => exact am_okm_30
  | 31, _ => exact am_okm_31
  | 32, _ => exact am_okm_32
  | 33, _ => exact am_okm_33
  | 34, _ => exact am_okm_34
  | 35, _ => exact am_okm_35
  | 36, _ => exact am_okm_36
  | 37, _ => exact am_okm_37
  | 38, _ => exact am_okm_38
  | 39, _ => exact am_okm_39
  | 40, _ => exact am_okm_40
  | 41, _ => exact am_okm_41
  | 42, _ => exact am_okm_42
  | 43, _ => exact am_okm_43
  | 44, _ => exact am_okm_44
  | 45, _ => exact am_okm_45
  | 46, _ => exact am_okm_46
  | 47, _ => exact am_okm_47
  | 48, _ => exact am_okm_48
  | 49, _ => exact am_okm_49
  | 50, _ => exact am_okm_50
  | 51, _ => exact am_okm_51
  | 52, _ => exact am_okm_52
  | 53, _ => exact am_okm_53
  | 54, _ => exact am_okm_54
  | 55, _ => exact am_okm_55
  | 56, _ => exact am_okm_56
  | 57, _ => exact am_okm_57
  | 58, _ => exact am_okm_58
  | 59, _ => exact am_okm_59
  | 60, _ => exact am_okm_60
  | 61, _ => exact am_okm_61
  | 62, _ => exact am_okm_62
  | 63, _ => exact am_okm_63
  | 64, _ => exact am_okm_64
  | 65, _ => exact am_okm_65
  | 66, _ => exact am_okm_66
  | 67, _ => exact am_okm_67
  | 68, _ => exact am_okm_68
  | 69, _ => exact am_okm_69
  | 70, _ => exact am_okm_70
  | 71, _ => exact am_okm_71
  | 72, _ => exact am_okm_72
  | 73, _ => exact am_okm_73
  | 74, _ => exact am_okm_74
  | 75, _ => exact am_okm_75
  | 76, _ => exact am_okm_76
  | 77, _ => exact am_okm_77
  | 78, _ => exact am_okm_78
  | 79, _ => exact am_okm_79
  | 80, _ => exact am_okm_80
  | 81, _ => exact am_okm_81
  | 82, _ => exact am_okm_82
  | 83, _ => exact am_okm_83
  | 84, _ => exact am_okm_84
  | 85, _ => exact am_okm_85
  | 86, _ => exact am_okm_86
  | 87, _ => exact am_okm_87
  | 88, _ => exact am_okm_88
  | 89, _ => exact am_okm_89
  | 90, _ => exact am_okm_90
  | 91, _ => exact am_okm_91
  | 92, _ => exact am_okm_92
  | 93, _ => exact am_okm_93
  | 94, _ => exact am_okm_94
  | 95, _ => exact am_okm_95
  | 96, _ => exact am_okm_96
  | 97, _ => exact am_okm_97
  | 98, _ => exact am_okm_98
  | 99, _ => exact am_okm_99
  | 100, _ => exact am_okm_100
  | 101, _ => exact am_okm_101
  | 102, _ => exact am_okm_102
  | 103, _ => exact am_okm_103
  | 104, _ => exact am_okm_104
  | 105, _ => exact am_okm_105
  | 106, _ => exact am_okm_106
  | 107, _ => exact am_okm_107
  | 108, _ => exact am_okm_108
  | 109, _ => exact am_okm_109
  | 110, _ => exact am_okm_110
  | 111, _ => exact am_okm_111
  | 112, _ => exact am_okm_112
  | 113, _ => exact am_okm_113
  | 114, _ => exact am_okm_114
  | 115, _ => exact am_okm_115
  | 116, _ => exact am_okm_116
  | 117, _ => exact am_okm_117
  | 118, _ => exact am_okm_118
  | 119, _ => exact am_okm_119
  | 120, _ => exact am_okm_120
  | n + 121, h => omega
theorem am_okMs : (List.range 121).all (fun a => !am_low a || am_okM a) = true := by
  rw [List.all_eq_true]
  intro a ha
  exact am_okM_all a (List.mem_range.mp ha)
theorem am_len_ms : am_ms.length = 121 := by decide +kernel
theorem am_okM_of {a : Nat} (h : am_low a = true) : am_okM a = true := by
  by_cases ha : a < 121
  · have := List.all_eq_true.mp am_okMs a (List.mem_range.mpr ha)
    rw [h] at this
    exact this
  · exfalso
    have e : am_m a = (⟨"", "", ""⟩, code, 0, none, 0, 0, 9, 0, 0, 0, 0) := by
      unfold am_m
      rw [am_nth_get, List.getElem?_eq_none (by rw [am_len_ms]; omega)]
      rfl
    unfold am_low am_kd at h
    rw [e] at h
    cases h
theorem am_catch_none : ∀ (l : List (Nat × Nat × Nat × Nat)) (mi pc x : Nat), (∀ q ∈ l, q.1 ≠ mi) → am_catch l mi pc x = none
  | [], _, _, _, _ => rfl
  | (m, p, y, t) :: r, mi, pc, x, h => by
    rw [am_catch]
    have h0 := h _ List.mem_cons_self
    have e : Nat.beq m mi = false := by
      cases hb : Nat.beq m mi with
      | false => rfl
      | true => exact absurd (Nat.eq_of_beq_eq_true hb) h0
    rw [e, Bool.false_and]
    exact am_catch_none r mi pc x (fun q hq => h q (List.mem_cons_of_mem _ hq))
theorem am_hands_k : am_hands.all (fun q => Nat.beq (am_kd q.1) 3) = true := by decide +kernel
theorem am_catch_of {mi pc x : Nat} (h : am_kd mi ≠ 3) : am_catch am_hands mi pc x = none :=
  am_catch_none _ _ _ _ (fun q hq e => h (by
    have := List.all_eq_true.mp am_hands_k q hq
    rw [e] at this
    exact Nat.eq_of_beq_eq_true this))
theorem am_args_eq (ad : Nat → Nat) : ∀ (as : List Value) (n : Nat), am_lc ad (am_args n as) = lv_args n (as.map (am_cv ad))
  | [], _ => rfl
  | v :: r, n => by
    have e : (bif am_two v then n + 2 else n + 1) = (if (am_cv ad v).category = 2 then n + 2 else n + 1) := by
      cases v <;> rfl
    show (n, am_cv ad v) :: am_lc ad (am_args (bif am_two v then n + 2 else n + 1) r) = (n, am_cv ad v) :: lv_args (if (am_cv ad v).category = 2 then n + 2 else n + 1) (r.map (am_cv ad))
    rw [am_args_eq ad r, e]
theorem am_sl_len (ad : Nat → Nat) : ∀ (as : List Value), (lg_sl (as.map (am_cv ad))).length = am_wt as
  | [] => rfl
  | v :: r => by
    have ih := am_sl_len ad r
    unfold lg_sl at ih ⊢
    rw [List.map_cons, List.flatMap_cons, List.length_append, ih, am_wt]
    cases v <;> simp [am_two, am_cv, Value.category, Nat.add_comm]
section
variable {p : Program} {l : Launch} {e : Env} {R : Room} {s : State} {m : MethodId} {args : Array Value} {below : List Frame} {meth : Method} {c : Code} {H : Heap} {locs : List Loc} {cells slots : Nat} {Q : State → Prop} {A : Nat → Prop}
theorem am_callr {mc ms pc : Nat} {ls : Array Slot} {st0 rest : List Value} {vv : Option Value} {B : State → Prop}
    (hr : va_Run p l e R s m args below meth c H locs cells slots mc ms (F0 m pc ls st0) rest (fun st oc t => (oc = .returned vv ∧ B t) ∧ va_F A st t) A) (hS : va_S A s.heap H locs)
    (kk : ∀ (t : State) (H1 : Heap) (locs1 : List Loc), t.heap = H1 → B t → va_S A s.heap H1 locs1 → W p l e R s m args below meth c H1 locs1 (cells + mc) (slots + ms) Q (F0 m (pc + 3) ls (vv.toList ++ rest))) : W p l e R s m args below meth c H locs cells slots Q (F0 m pc ls st0) := by
  intro T hT X
  obtain ⟨v, st₀, t, T', L, h0, X', hL, e1, e2, ⟨⟨hv, hb⟩, hz, hk⟩, st⟩ := hr T hT X
  cases hv
  rw [h0] at hz hk
  obtain ⟨t2, a1, b1⟩ := kk t T'.heap (locs ++ L) e1.symm hb
    ⟨Nat.le_trans hS.1 (by rw [e1]; exact hz), fun q h1 h2 => by rw [e1, hk q (Nat.lt_of_lt_of_le h1 hS.1) h2]; exact hS.2.1 q h1 h2, fun q hq => by
      rcases List.mem_append.mp hq with h | h
      · exact hS.2.2 q h
      · exact hL q h⟩ T' rfl X'
  exact ⟨t2, st t2 a1, b1⟩
end
def am_B (xs : Nat → Int32) (Ln : Nat) (D : va_G) (cA : Nat → ClassId) (ad : Nat → Nat) (A : Nat → Prop) (g : am_G) (U : State) : Prop := am_X xs Ln D cA ad A U ∧ va_P D am_cl (am_ws ad cA g) U.heap ∧ va_D A (am_ws ad cA g)
def am_Bq (xs : Nat → Int32) (Ln : Nat) (D : va_G) (cA : Nat → ClassId) (ad : Nat → Nat) (A : Nat → Prop) (g : am_G) (t : State) : Prop := va_P D am_cl (am_ws ad cA g) t.heap ∧ va_D A (am_ws ad cA g) ∧ am_Gx xs Ln g
def am_Qm (xs : Nat → Int32) (Ln : Nat) (D : va_G) (cA : Nat → ClassId) (ad : Nat → Nat) (A : Nat → Prop) (g : am_G) (vo : Option Value) : Array Value → State → Outcome → State → Prop := fun _ st oc t => (oc = .returned (vo.map (am_cv ad)) ∧ am_Bq xs Ln D cA ad A g t) ∧ va_F A st t
theorem am_X_moved {xs : Nat → Int32} {Ln : Nat} {D : va_G} {cA : Nat → ClassId} {ad : Nat → Nat} {A : Nat → Prop} {s U : State} (h : am_X xs Ln D cA ad A s) (hW : s.WarmedH U.vm) (hz : s.heap.size ≤ U.heap.size) (hq : ∀ q, q < s.heap.size → ¬ A q → U.heap[q]? = s.heap[q]?) : am_X xs Ln D cA ad A U := by
  obtain ⟨h1, h2, h3, h4, h5, h6, h7⟩ := h
  exact ⟨va_K.moved hW.alike h1, va_En.kept (va_En.moved hW.alike h2) hq, va_X.kept (va_X.moved hW.alike h3) (hq _ h4 h5), by omega, h5, fun o k y h hm => va_Nw.warmM hW (h6 o k y h hm), fun q hq => h7 q (by omega)⟩
section
variable {l : Launch} {xs : Nat → Int32} {Ln : Nat} {D : va_G} {cA : Nat → ClassId} {ad : Nat → Nat} {A : Nat → Prop}
theorem am_fin_sound {p : Program} {e : Env} {R : Room} {s : State} {m : MethodId} {args : Array Value} {below : List Frame} {meth : Method} {c : Code} {mi pc : Nat} {L : am_L} {S : List Value} {g g1 : am_G} {t t1 : Nat} {vo : Option Value} {act : am_A} {cells slots : Nat}
    (hW : am_Wk p R s m args c xs Ln D cA ad A mi) (hret : meth.sig.returnType = am_rt mi) (hlocks : meth.locks = false) (hs : am_step (mi, pc, L, S, g, t) = some act) (hf : am_fin act (.inl vo, g1, t1)) :
    am_PW p l e R s m args below meth c cells slots (MQ below (am_Qm xs Ln D cA ad A g1 vo) args s cells slots A) xs Ln D cA ad A (mi, pc, L, S, g, t) := by
  intro H ls locs hR
  obtain ⟨i, nxt, kp, v, a, b, d, w, L', hc, hsub, h⟩ := am_step_inv hs
  obtain ⟨len, hdec, hok⟩ := am_code_dec hc
  have nopl : am_plain i b = true → False := by
    intro hp
    have := am_do_sh hp h
    rcases hf with e | e <;> rw [e] at this <;> exact this
  obtain ⟨hl, hP, hD, hS, hG⟩ := hR
  obtain ⟨hx, hb, hml, hown, hts, hXX, hF, hLo⟩ := hW
  have hq : ∀ (v' : Option Value), vo.map (am_cv ad) = v' → g1 = g → ∀ t : State, t.heap = H → s.WarmedH t.vm → am_Qm xs Ln D cA ad A g1 vo args s (.returned v') t := by
    intro v' e1 e2 t ht _
    subst e2
    refine ⟨⟨by rw [e1], by rw [ht]; exact hP, hD, hG⟩, va_S.F hS ht⟩
  have hloc : ∀ q ∈ locs, A q.base := hS.2.2
  cases i with
  | ireturn =>
    change am_irt S g t d = some act at h
    unfold am_irt at h
    split at h
    · rename_i x
      split at h
      · have ea := Option.some.inj h
        rcases hf with e | e
        · rw [e] at ea; cases ea
          simp only [am_okI, Bool.and_eq_true, decide_eq_true_eq] at hok
          obtain ⟨rfl, hr⟩ := hok
          exact W.iret hx hb (hret.trans hr) (hq _ rfl rfl) hloc hdec hlocks
        · rw [e] at ea; cases ea
      · have ea := Option.some.inj h
        rcases hf with e | e
        · rw [e] at ea; cases ea
        · rw [e] at ea
          simp only [Sum.inr.injEq, Sum.inl.injEq, Prod.mk.injEq] at ea
          obtain ⟨hchk, e1, rfl, rfl⟩ := ea
          cases e1
          simp only [am_okI, Bool.and_eq_true, decide_eq_true_eq] at hok
          obtain ⟨rfl, hr⟩ := hok
          refine W.zret (ty := .boolean) hx hb (hret.trans hr) ?_ (hq _ rfl rfl) hloc hdec hlocks
          simp only [am_isb, Bool.or_eq_true, decide_eq_true_eq] at hchk
          rcases hchk with z | z <;> subst z <;> rfl
      · have ea := Option.some.inj h
        rcases hf with e | e
        · rw [e] at ea; cases ea
        · rw [e] at ea
          simp only [Sum.inr.injEq, Sum.inl.injEq, Prod.mk.injEq] at ea
          obtain ⟨hchk, e1, rfl, rfl⟩ := ea
          cases e1
          simp only [am_okI, Bool.and_eq_true, decide_eq_true_eq] at hok
          obtain ⟨rfl, hr⟩ := hok
          refine W.zret (ty := .char) hx hb (hret.trans hr) ?_ (hq _ rfl rfl) hloc hdec hlocks
          simp only [am_isc, Bool.and_eq_true, decide_eq_true_eq] at hchk
          have e2 : vp_nar .char x = x := by
            rw [am_chr_nar]
            unfold am_chr
            have hx0 : x.toUInt32.toNat < 65536 := by
              have h0 := hchk.1
              have h1 := hchk.2
              rw [Int32.le_iff_toInt_le] at h0
              rw [Int32.lt_iff_toInt_lt] at h1
              have h2 : (0 : Int32).toInt = 0 := rfl
              have h3 : (65536 : Int32).toInt = 65536 := rfl
              have h4 : x.toInt = (x.toUInt32.toNat : Int) ∨ x.toInt = (x.toUInt32.toNat : Int) - 4294967296 := by
                have h5 : x.toInt = x.toBitVec.toInt := rfl
                have h6 : x.toUInt32.toNat = x.toBitVec.toNat := rfl
                rw [h5, h6, BitVec.toInt_eq_toNat_cond]
                split <;> omega
              have h7 := x.toUInt32.toNat_lt
              omega
            rw [show x.toUInt32 % 65536 = x.toUInt32 by
              apply UInt32.toNat_inj.mp
              rw [UInt32.toNat_mod]
              exact Nat.mod_eq_of_lt hx0]
            exact Int32.toInt32_toUInt32 x
          show Value.int (vp_nar .char x) = .int x
          rw [e2]
      · have ea := Option.some.inj h
        rcases hf with e | e
        · rw [e] at ea; cases ea
          simp only [am_okI, Bool.and_eq_true, decide_eq_true_eq] at hok
          obtain ⟨rfl, hr⟩ := hok
          exact W.iret hx hb (hret.trans hr) (hq _ rfl rfl) hloc hdec hlocks
        · rw [e] at ea; cases ea
    · cases h
  | areturn =>
    change am_art S g t = some act at h
    unfold am_art at h
    split at h
    · rename_i k
      have ea := Option.some.inj h
      rcases hf with e | e
      · rw [e] at ea; cases ea
      · rw [e] at ea
        simp only [Sum.inr.injEq, Sum.inl.injEq, Prod.mk.injEq] at ea
        obtain ⟨hchk, e1, rfl, rfl⟩ := ea
        cases e1
        simp only [am_okI, Bool.and_eq_true, decide_eq_true_eq] at hok
        obtain ⟨rfl, hr⟩ := hok
        split at hr
        · rename_i n hn
          exact W.aret hx hb (hret.trans hn) (Or.inl ⟨n, rfl⟩) (Or.inr ⟨ad k, rfl⟩) (hq _ rfl rfl) hloc hdec hlocks
        · cases hr
    · cases h
  | return_ =>
    change am_vrt S g t = some act at h
    unfold am_vrt at h
    split at h
    · have ea := Option.some.inj h
      rcases hf with e | e
      · rw [e] at ea; cases ea
        simp only [am_okI, Bool.and_eq_true, decide_eq_true_eq] at hok
        obtain ⟨rfl, hr⟩ := hok
        exact W.vret hx hb (hret.trans hr) (hq _ rfl rfl) hloc hdec hlocks
      · rw [e] at ea; cases ea
    · cases h
  | new n =>
    change am_thr S g t a = some act at h
    unfold am_thr at h
    split at h
    · have ea := Option.some.inj h
      rcases hf with e | e
      · rw [e] at ea; cases ea
      · rw [e] at ea; cases ea
    · cases h
  | invokevirtual n =>
    obtain ⟨ml, as, k, r, fs, rfl, hp, ho, h2⟩ := am_iv_inv h
    obtain ⟨_, _, ea⟩ := am_call_inv h2
    rcases hf with e | e <;> rw [e] at ea <;> cases ea
  | invokestatic n =>
    have h : (bif Nat.beq b 1 then am_mx mi nxt L' S g t (fun x y => if x < y then y else x) else bif Nat.beq b 2 then am_mx mi nxt L' S g t (fun x y => if y < x then y else x) else am_is mi pc L' S g t v a d) = some act := h
    cases h1 : Nat.beq b 1 with
    | true => exact (nopl (by show (Nat.beq b 1 || Nat.beq b 2) = true; rw [h1]; rfl)).elim
    | false =>
      cases h2 : Nat.beq b 2 with
      | true => exact (nopl (by show (Nat.beq b 1 || Nat.beq b 2) = true; rw [h2, Bool.or_true])).elim
      | false =>
        rw [h1, h2] at h
        obtain ⟨ml, as, r, rfl, hp, h3⟩ := am_is_inv h
        obtain ⟨_, _, ea⟩ := am_call_inv h3
        rcases hf with e | e <;> rw [e] at ea <;> cases ea
  | _ => exact (nopl rfl).elim
end
end
section
def am_wk (mi : Nat) : Bool := am_low mi || Nat.beq (am_kd mi) 4
theorem am_wk_ne {mi : Nat} (h : am_wk mi = true) : am_kd mi ≠ 3 ∧ am_kd mi ≠ 0 := by
  unfold am_wk am_low at h
  simp only [Bool.or_eq_true] at h
  have h2 : am_kd mi = 1 ∨ am_kd mi = 2 ∨ am_kd mi = 4 := by
    rcases h with (h | h) | h
    · exact Or.inl (Nat.eq_of_beq_eq_true h)
    · exact Or.inr (Or.inl (Nat.eq_of_beq_eq_true h))
    · exact Or.inr (Or.inr (Nat.eq_of_beq_eq_true h))
  omega
theorem am_good_cw {a : Nat} (m1 : am_word (am_wC a) (.code (am_y a) (am_bytes a) (am_maxL a) (am_rt a)) = true) : GoodIn am_WG (am_cw a) := am_good (fun w hw => (List.mem_cons.mp hw).elim (fun z => by rw [z]; exact am_word_in m1) (fun z => z))
theorem am_np {i : Instr} {nxt : Nat} {v : Value} {a b d mi pc : Nat} {L : am_L} {S : List Value} {g : am_G} {t : Nat} {act : am_A} (hp : ¬ am_plain i b = true) (h : am_do i nxt v a b d mi pc L S g t = some act) :
    (∃ r, act = .inr (.inr (.inr (.inl r)))) ∨ (∃ bb r, act = .inr (.inr (.inr (.inr (.inl (bb, r)))))) ∨
    (∃ n ml as k r0 fs, i = .invokevirtual n ∧ v = .ref ml ∧ am_pop d S [] = some (as, .ref k :: r0) ∧ am_ob k = some (.inr (b, fs)) ∧ am_wt r0 ≤ 8 ∧ am_wt (.ref k :: as) ≤ ml ∧ act = .inr (.inr (.inr (.inr (.inr (.inl ((a, 0, am_args 0 (.ref k :: as), [], g, t), (mi, pc, L, r0, g, t)))))))) ∨
    (∃ n ml as r0, i = .invokestatic n ∧ Nat.beq b 1 = false ∧ Nat.beq b 2 = false ∧ v = .ref ml ∧ am_pop d S [] = some (as, r0) ∧ am_wt r0 ≤ 8 ∧ am_wt as ≤ ml ∧ act = .inr (.inr (.inr (.inr (.inr (.inl ((a, 0, am_args 0 as, [], g, t), (mi, pc, L, r0, g, t)))))))) := by
  cases i with
  | invokevirtual n =>
    obtain ⟨ml, as, k, r, fs, rfl, h1, h2, h3⟩ := am_iv_inv h
    obtain ⟨h4, h5, h6⟩ := am_call_inv h3
    exact Or.inr (Or.inr (Or.inl ⟨n, ml, as, k, r, fs, rfl, rfl, h1, h2, h4, h5, h6⟩))
  | invokestatic n =>
    have hp : ¬ (Nat.beq b 1 || Nat.beq b 2) = true := hp
    rw [Bool.not_eq_true, Bool.or_eq_false_iff] at hp
    change (bif Nat.beq b 1 then am_mx mi nxt L S g t (fun x y => if x < y then y else x) else bif Nat.beq b 2 then am_mx mi nxt L S g t (fun x y => if y < x then y else x) else am_is mi pc L S g t v a d) = some act at h
    rw [hp.1, hp.2] at h
    obtain ⟨ml, as, r, rfl, h1, h3⟩ := am_is_inv h
    obtain ⟨h4, h5, h6⟩ := am_call_inv h3
    exact Or.inr (Or.inr (Or.inr ⟨n, ml, as, r, rfl, hp.1, hp.2, rfl, h1, h4, h5, h6⟩))
  | ireturn =>
    change am_irt S g t d = some act at h
    unfold am_irt at h
    split at h
    · split at h
      · exact Or.inl ⟨_, (Option.some.inj h).symm⟩
      · exact Or.inr (Or.inl ⟨_, _, (Option.some.inj h).symm⟩)
      · exact Or.inr (Or.inl ⟨_, _, (Option.some.inj h).symm⟩)
      · exact Or.inl ⟨_, (Option.some.inj h).symm⟩
    · cases h
  | areturn =>
    change am_art S g t = some act at h
    unfold am_art at h
    split at h
    · exact Or.inr (Or.inl ⟨_, _, (Option.some.inj h).symm⟩)
    · cases h
  | return_ =>
    change am_vrt S g t = some act at h
    unfold am_vrt at h
    split at h
    · exact Or.inl ⟨_, (Option.some.inj h).symm⟩
    · cases h
  | new n =>
    change am_thr S g t a = some act at h
    unfold am_thr at h
    split at h
    · exact Or.inl ⟨_, (Option.some.inj h).symm⟩
    · cases h
  | _ => exact absurd rfl hp
section
variable {l : Launch} {xs : Nat → Int32} {Ln : Nat} {D : va_G} {cA : Nat → ClassId} {ad : Nat → Nat} {A : Nat → Prop}
theorem am_met {a : Nat} {as : List Value} {g g1 : am_G} {t t1 : Nat} {vo : Option Value} (hlow : am_low a = true) (hw : am_wt as ≤ am_maxL a) (hG : am_Gx xs Ln g)
    (walk : ∀ (p : Program) (e : Env) (R : Room) (s : State) (m : MethodId) (args : Array Value) (below : List Frame) (meth : Method) (c : Code) (cells slots : Nat) (Q : State → Prop), am_Wk p R s m args c xs Ln D cA ad A a → cells ≤ R.cells ∧ slots ≤ R.slots →
      (∀ (st' : am_S) (act : am_A), st'.1 = a → am_step st' = some act → am_fin act (.inl vo, g1, t1) → am_PW p l e R s m args below meth c cells slots Q xs Ln D cA ad A st') → am_PW p l e R s m args below meth c cells slots Q xs Ln D cA ad A (a, 0, am_args 0 as, [], g, t)) :
    Met l (am_y a) (am_cw a) (am_rm a) (va_Pc (as.map (am_cv ad)) (am_B xs Ln D cA ad A g)) (am_Qm xs Ln D cA ad A g1 vo) 0 0 A := by
  have hM := am_okM_of hlow
  unfold am_okM at hM
  simp only [Bool.and_eq_true, decide_eq_true_eq] at hM
  obtain ⟨⟨⟨⟨⟨h1, h2⟩, h3⟩, h4⟩, h5⟩, h6⟩ := hM
  refine Met.ofW h3 rfl (fun p e s m args below meth c s₁ B hml hPc => ?_)
  obtain ⟨rfl, hX, hP, hD⟩ := hPc
  have hts := atoms_spec (ws := am_cw a) B.pre
  have hown := findClass_of_methodNamed B.named
  have hWk : am_Wk p (headSpec (am_cw a) (am_rm a)).room s m (as.map (am_cv ad)).toArray c xs Ln D cA ad A a := ⟨B.exec, B.bytes, hml, hown, fun w hw => hts w (List.mem_cons_of_mem _ hw), hX, Nat.le_refl _, Nat.le_refl _⟩
  rw [lg_entry_eq]
  refine walk p e _ s m _ below meth c 0 0 _ hWk ⟨Nat.zero_le _, Nat.zero_le _⟩ (fun st' act e1 e2 e3 => ?_) s.heap _ [] ⟨?_, hP, hD, ⟨Nat.le_refl _, fun _ _ _ => rfl, fun _ h => by cases h⟩, hG⟩
  · obtain ⟨mi', pc', L', S', g', t'⟩ := st'
    cases e1
    exact am_fin_sound hWk B.returns B.notSynchronized e2 e3
  · show lv_has _ _ (am_lc ad (am_args 0 as))
    rw [am_args_eq]
    exact lv_entry _ (by rw [am_sl_len]; exact hw)
theorem am_blind {av : List Value} {g : am_G} : FrameBlind (va_Pc av (am_B xs Ln D cA ad A g)) := fun a U gg mk q => ⟨q.1, am_X_moved (s := U) (U := U.calling gg mk a) q.2.1 (State.WarmedH.refl U) (Nat.le_refl _) (fun _ _ _ => rfl), q.2.2⟩
theorem am_pre_any {s : State} {H : Heap} {locs : List Loc} {g : am_G} {av : List Value} (hX : am_X xs Ln D cA ad A s) (hS : va_S A s.heap H locs) (hP : va_P D am_cl (am_ws ad cA g) H) (hD : va_D A (am_ws ad cA g)) : ∀ U : State, U.heap = H → s.WarmedH U.vm → va_Pc av (am_B xs Ln D cA ad A g) av.toArray U :=
  fun U hU hWm => ⟨rfl, am_X_moved hX hWm (by rw [hU]; exact hS.1) (fun q h1 h2 => by rw [hU]; exact hS.2.1 q h1 h2), by rw [hU]; exact hP, hD⟩
theorem am_map_app (ad : Nat → Nat) (vo : Option Value) (r : List Value) : (vo.map (am_cv ad)).toList ++ r.map (am_cv ad) = (vo.toList ++ r).map (am_cv ad) := by cases vo <;> rfl
theorem am_callv {p : Program} {e : Env} {R : Room} {s : State} {m : MethodId} {args : Array Value} {below : List Frame} {meth : Method} {c : Code} {cells slots : Nat} {Q : State → Prop} {mi pc nxt len a b d w n ml k : Nat} {v : Value} {L' : am_L} {S as r0 : List Value} {fs : List (Option Nat)} {g g1 : am_G} {vo : Option Value} {H : Heap} {ls : Array Slot} {locs : List Loc}
    (hW : am_Wk p R s m args c xs Ln D cA ad A mi) (hcs : cells ≤ R.cells ∧ slots ≤ R.slots) (hdec : decode (am_bytes mi) pc = .ok (.invokevirtual n, len)) (hok : am_okI mi pc (.invokevirtual n) len nxt v a b d w = true) (hk3 : am_kd mi ≠ 3)
    (hv : v = .ref ml) (hpop : am_pop d S [] = some (as, .ref k :: r0)) (ho : am_ob k = some (.inr (b, fs))) (hr8 : am_wt r0 ≤ 8) (hR : am_Rel xs Ln s D cA ad A mi L' g H ls locs)
    (hM : am_low a = true → am_maxL a = ml → Met l (am_y a) (am_cw a) (am_rm a) (va_Pc ((Value.ref k :: as).map (am_cv ad)) (am_B xs Ln D cA ad A g)) (am_Qm xs Ln D cA ad A g1 vo) 0 0 A)
    (kk : ∀ (H1 : Heap) (locs1 : List Loc), am_Rel xs Ln s D cA ad A mi L' g1 H1 ls locs1 → W p l e R s m args below meth c H1 locs1 cells slots Q (F0 m (pc + 3) ls ((vo.toList ++ r0).map (am_cv ad)))) :
    W p l e R s m args below meth c H locs cells slots Q (F0 m pc ls (S.map (am_cv ad))) := by
  obtain ⟨hx, hb, hml, hown, hts, hXX, hF, hLo⟩ := hW
  obtain ⟨hl, hP, hD, hS, hG⟩ := hR
  cases hcl : am_nth am_cl b with
  | none => simp [am_okI, hcl] at hok
  | some q =>
    obtain ⟨C, T, N⟩ := q
    have e3 : Nat.beq (am_kd mi) 3 = false := by
      cases hb : Nat.beq (am_kd mi) 3 with
      | false => rfl
      | true => exact absurd (Nat.eq_of_beq_eq_true hb) hk3
    simp only [am_okI, hcl, e3, am_callok, cond_false, Bool.and_eq_true, decide_eq_true_eq] at hok
    obtain ⟨⟨rfl, rfl⟩, ⟨⟨hl1, ⟨⟨hl2, hl3⟩, hl4⟩, hl5⟩, hl6⟩, hl7⟩ := hok
    have hkd := Nat.eq_of_beq_eq_true hl7
    have hlow : am_low a = true := by unfold am_low; rw [hkd]; rfl
    rw [hv] at hl2
    have hM' := hM hlow (by injection hl2 with z; exact z.symm)
    have hokm := am_okM_of hlow
    unfold am_okM at hokm
    rw [show Nat.beq (am_kd a) 1 = false by rw [hkd]; rfl] at hokm
    simp only [Bool.and_eq_true, decide_eq_true_eq, cond_false] at hokm
    obtain ⟨⟨⟨⟨⟨m1, m2⟩, m3⟩, m4⟩, m5⟩, m6, m7⟩ := hokm
    obtain ⟨ys, y1, y2, y3⟩ := am_pop_spec d S [] as _ hpop
    rw [List.append_nil] at y2
    have hc : am_cl[b]? = some (C, T, N) := by rw [← am_nth_get]; exact hcl
    have hcw : CallW R s args (am_own mi) (am_own a) n (am_y a) (am_bytes a) (am_maxL a) (am_rt a) (am_cw a) (am_rm a) 0 0 d :=
      ⟨callB_of d hts (am_good_cw m1) rfl rfl rfl (hts _ (am_word_in m2)) (hts _ (am_word_in hl1)) ⟨m4, m5, hl3⟩ ⟨by show am_fr a + 1 ≤ R.frames; omega, by show 8 + (am_maxL a + 11) + am_lo a ≤ R.locals; omega⟩, hts _ (am_word_in m6), hts _ (am_word_in m7)⟩
    have hrec := va_recv hXX.1 hP hc (am_ob_get ho).2
    rw [show ((C, T, N) : vw_C).1 = am_own a from hl6] at hrec
    refine am_callr (vv := vo.map (am_cv ad)) (B := am_Bq xs Ln D cA ad A g1) (rest := r0.map (am_cv ad)) (va_runV (As := as.map (am_cv ad)) (b := ad k) (Ts := am_WG) ⟨hx, hb, hml, hown, hts⟩ hM' hcw ⟨am_blind, hrec, am_pre_any hXX hS hP hD⟩ rfl ?_ hl.1 ?_ (lv_room (by rw [am_wt_cat]; exact hr8)) hdec hcs) hS (fun t2 H1 locs1 e1 hB hS1 => ?_)
    · rw [List.length_map, y2, List.length_reverse]; exact y3
    · show S.map (am_cv ad) = (as.map (am_cv ad)).reverse ++ .ref (ad k) :: r0.map (am_cv ad)
      rw [y1, y2, List.map_append, List.map_reverse, List.reverse_reverse]; rfl
    · obtain ⟨q1, q2, q3⟩ := hB
      rw [am_map_app]
      exact kk H1 locs1 ⟨hl, by rw [← e1]; exact q1, q2, hS1, q3⟩
theorem am_calls {p : Program} {e : Env} {R : Room} {s : State} {m : MethodId} {args : Array Value} {below : List Frame} {meth : Method} {c : Code} {cells slots : Nat} {Q : State → Prop} {mi pc nxt len a b d w n ml : Nat} {v : Value} {L' : am_L} {S as r0 : List Value} {g g1 : am_G} {vo : Option Value} {H : Heap} {ls : Array Slot} {locs : List Loc}
    (hW : am_Wk p R s m args c xs Ln D cA ad A mi) (hcs : cells ≤ R.cells ∧ slots ≤ R.slots) (hdec : decode (am_bytes mi) pc = .ok (.invokestatic n, len)) (hok : am_okI mi pc (.invokestatic n) len nxt v a b d w = true) (hk0 : am_kd mi ≠ 0 ∨ am_kd a ≠ 3)
    (hb1 : Nat.beq b 1 = false) (hb2 : Nat.beq b 2 = false) (hv : v = .ref ml) (hpop : am_pop d S [] = some (as, r0)) (hr8 : am_wt r0 ≤ 8) (hR : am_Rel xs Ln s D cA ad A mi L' g H ls locs)
    (hM : am_low a = true → am_maxL a = ml → Met l (am_y a) (am_cw a) (am_rm a) (va_Pc (as.map (am_cv ad)) (am_B xs Ln D cA ad A g)) (am_Qm xs Ln D cA ad A g1 vo) 0 0 A)
    (kk : ∀ (H1 : Heap) (locs1 : List Loc), am_Rel xs Ln s D cA ad A mi L' g1 H1 ls locs1 → W p l e R s m args below meth c H1 locs1 cells slots Q (F0 m (pc + 3) ls ((vo.toList ++ r0).map (am_cv ad)))) :
    W p l e R s m args below meth c H locs cells slots Q (F0 m pc ls (S.map (am_cv ad))) := by
  obtain ⟨hx, hb, hml, hown, hts, hXX, hF, hLo⟩ := hW
  obtain ⟨hl, hP, hD, hS, hG⟩ := hR
  obtain ⟨ys, y1, y2, y3⟩ := am_pop_spec d S [] as _ hpop
  rw [List.append_nil] at y2
  have hlen : (as.map (am_cv ad)).length = d := by rw [List.length_map, y2, List.length_reverse]; exact y3
  have hstk : S.map (am_cv ad) = (as.map (am_cv ad)).reverse ++ r0.map (am_cv ad) := by rw [y1, y2, List.map_append, List.map_reverse, List.reverse_reverse]
  have fin : ∀ (t2 : State) (H1 : Heap) (locs1 : List Loc), t2.heap = H1 → am_Bq xs Ln D cA ad A g1 t2 → va_S A s.heap H1 locs1 → W p l e R s m args below meth c H1 locs1 (cells + 0) (slots + 0) Q (F0 m (pc + 3) ls ((vo.map (am_cv ad)).toList ++ r0.map (am_cv ad))) := by
    intro t2 H1 locs1 e1 hB hS1
    obtain ⟨q1, q2, q3⟩ := hB
    rw [am_map_app]
    exact kk H1 locs1 ⟨hl, by rw [← e1]; exact q1, q2, hS1, q3⟩
  have words : am_kd a = 1 → am_low a = true ∧ am_word (am_wC a) (.code (am_y a) (am_bytes a) (am_maxL a) (am_rt a)) = true ∧ am_word (am_wI a) (.initialized (am_own a)) = true ∧ am_own a ≠ "java/lang/invoke/MethodHandle" ∧ am_own a ≠ "java/lang/invoke/VarHandle" ∧ am_word (am_wK a) (.static (am_y a)) = true := by
    intro hkd
    have hlow : am_low a = true := by unfold am_low; rw [hkd]; rfl
    have hokm := am_okM_of hlow
    unfold am_okM at hokm
    rw [show Nat.beq (am_kd a) 1 = true by rw [hkd]; rfl] at hokm
    simp only [Bool.and_eq_true, decide_eq_true_eq, cond_true] at hokm
    obtain ⟨⟨⟨⟨⟨m1, m2⟩, m3⟩, m4⟩, m5⟩, m6⟩ := hokm
    exact ⟨hlow, m1, m2, m4, m5, m6⟩
  cases hb3 : Nat.beq b 3 with
  | true =>
    simp only [am_okI, hb1, hb2, hb3, am_callok, cond_false, cond_true, Bool.and_eq_true, decide_eq_true_eq] at hok
    obtain ⟨⟨rfl, rfl⟩, ⟨hl1, ⟨⟨hl2, hl3⟩, hl4⟩, hl5⟩, hl7⟩ := hok
    obtain ⟨hlow, m1, m2, m4, m5, m6⟩ := words (Nat.eq_of_beq_eq_true hl7)
    rw [hv] at hl2
    have hM' := hM hlow (by injection hl2 with z; exact z.symm)
    have hcn : va_CN R s args (am_own mi) n (am_y a) "RebuildDesk" (am_bytes a) (am_maxL a) (am_rt a) (am_cw a) (am_rm a) 0 0 d :=
      va_cnB d hts (am_good_cw m1) rfl rfl rfl (hXX.2.2.2.2.2.1 _ _ _ _ (List.mem_of_getElem? hl1)) (hts _ (am_word_in m2)) ⟨m4, m5, hl3⟩ ⟨by show am_fr a + 1 ≤ R.frames; omega, by show 8 + (am_maxL a + 11) + am_lo a ≤ R.locals; omega⟩
    exact am_callr (vv := vo.map (am_cv ad)) (B := am_Bq xs Ln D cA ad A g1) (rest := r0.map (am_cv ad)) (va_runSN (As := as.map (am_cv ad)) (Ts := am_WG) ⟨hx, hb, hml, hown, hts⟩ hM' ⟨hcn, hts _ (am_word_in m6), trivial⟩ ⟨am_blind, am_pre_any hXX hS hP hD⟩ rfl hlen hl.1 hstk (lv_room (by rw [am_wt_cat]; exact hr8)) hdec hcs) hS fin
  | false =>
    simp only [am_okI, hb1, hb2, hb3, am_callok, cond_false, Bool.and_eq_true, Bool.or_eq_true, decide_eq_true_eq] at hok
    obtain ⟨⟨rfl, rfl⟩, ⟨hl1, ⟨⟨hl2, hl3⟩, hl4⟩, hl5⟩, hl7⟩ := hok
    have hkd : am_kd a = 1 := by
      rcases hl7 with z | z
      · exact Nat.eq_of_beq_eq_true z
      · exact absurd (Nat.eq_of_beq_eq_true z.2) (hk0.resolve_left (fun y => y (Nat.eq_of_beq_eq_true z.1)))
    obtain ⟨hlow, m1, m2, m4, m5, m6⟩ := words hkd
    rw [hv] at hl2
    have hM' := hM hlow (by injection hl2 with z; exact z.symm)
    have hcb : CallB R s args (am_own mi) n (am_y a) (am_bytes a) (am_maxL a) (am_rt a) (am_cw a) (am_rm a) 0 0 d :=
      callB_of d hts (am_good_cw m1) rfl rfl rfl (hts _ (am_word_in m2)) (hts _ (am_word_in hl1)) ⟨m4, m5, hl3⟩ ⟨by show am_fr a + 1 ≤ R.frames; omega, by show 8 + (am_maxL a + 11) + am_lo a ≤ R.locals; omega⟩
    exact am_callr (vv := vo.map (am_cv ad)) (B := am_Bq xs Ln D cA ad A g1) (rest := r0.map (am_cv ad)) (va_runS (As := as.map (am_cv ad)) (Ts := am_WG) ⟨hx, hb, hml, hown, hts⟩ hM' ⟨hcb, hts _ (am_word_in m6)⟩ ⟨am_blind, am_pre_any hXX hS hP hD⟩ rfl hlen hl.1 hstk (lv_room (by rw [am_wt_cat]; exact hr8)) hdec hcs) hS fin
theorem am_walk : ∀ (k : Nat) (st : am_S) (r : am_R), am_eval k st = some r → am_wk st.1 = true → ∀ (p : Program) (e : Env) (R : Room) (s : State) (m : MethodId) (args : Array Value) (below : List Frame) (meth : Method) (c : Code) (cells slots : Nat) (Q : State → Prop), am_Wk p R s m args c xs Ln D cA ad A st.1 → cells ≤ R.cells ∧ slots ≤ R.slots →
    (∀ (st' : am_S) (act : am_A), st'.1 = st.1 → am_step st' = some act → am_fin act r → am_PW p l e R s m args below meth c cells slots Q xs Ln D cA ad A st') → am_PW p l e R s m args below meth c cells slots Q xs Ln D cA ad A st := by
  intro k
  induction k with
  | zero => intro st r h; cases h
  | succ k ih =>
    rintro ⟨mi, pc, L, S, g, t⟩ r h hwk p e R s m args below meth c cells slots Q hW hcs hfin
    rw [am_eval] at h
    cases hs : am_step (mi, pc, L, S, g, t) with
    | none => rw [hs] at h; cases h
    | some act =>
      rw [hs] at h
      obtain ⟨i, nxt, kp, v, a, b, d, w, L', hc, hsub, hdo⟩ := am_step_inv hs
      obtain ⟨len, hdec, hok⟩ := am_code_dec hc
      intro H ls locs hR
      have hR' := am_Rel_sub hR hsub
      by_cases hp : am_plain i b = true
      · have hsh := am_do_sh hp hdo
        refine am_do_sound hW hcs hdec hok hp hdo ?_ hR'
        have go : ∀ s1 : am_S, s1.1 = mi → am_eval k s1 = some r → am_PW p l e R s m args below meth c cells slots Q xs Ln D cA ad A s1 := fun s1 e1 h1 => ih s1 r h1 (by rw [e1]; exact hwk) p e R s m args below meth c cells slots Q (by rw [e1]; exact hW) hcs (fun st' act' z1 z2 z3 => hfin st' act' (z1.trans e1) z2 z3)
        rcases act with s1 | ⟨bb, s1⟩ | (⟨q, x, y, s1, s2⟩ | ⟨bb, q, x, y, s1, s2⟩) | r' | ⟨bb, r'⟩ | ⟨e1, rs⟩ | s1
        · exact go s1 hsh h
        · cases bb with
          | false => cases h
          | true => exact ⟨rfl, go s1 hsh h⟩
        · exact ⟨fun z => go s1 hsh.1 (by dsimp only at h; rw [z] at h; exact h), fun z => go s2 hsh.2 (by dsimp only at h; rw [z] at h; exact h)⟩
        · cases bb with
          | false => cases h
          | true => exact ⟨rfl, fun z => go s1 hsh.1 (by dsimp only [cond_true] at h; rw [z] at h; exact h), fun z => go s2 hsh.2 (by dsimp only [cond_true] at h; rw [z] at h; exact h)⟩
        · exact hsh.elim
        · exact hsh.elim
        · exact hsh.elim
        · exact go s1 hsh h
      · have after : ∀ (e0 : am_S) (r0 : List Value), (match am_eval k e0 with
            | some r1 => match am_cont (mi, pc, L', r0, g, t) r1 with
              | some s1 => am_eval k s1
              | none => none
            | none => none) = some r → ∃ vo g1 t1, am_eval k e0 = some (.inl vo, g1, t1) ∧ am_eval k (mi, pc + 3, L', vo.toList ++ r0, g1, t1) = some r := by
          intro e0 r0 hh
          cases he : am_eval k e0 with
          | none => rw [he] at hh; cases hh
          | some r1 =>
            rw [he] at hh
            obtain ⟨o, g1, t1⟩ := r1
            rcases o with (_ | v1) | x
            · exact ⟨none, g1, t1, rfl, hh⟩
            · exact ⟨some v1, g1, t1, rfl, hh⟩
            · dsimp only [am_cont] at hh
              rw [am_catch_of (am_wk_ne hwk).1] at hh
              cases hh
        rcases am_np hp hdo with ⟨r', rfl⟩ | ⟨bb, r', rfl⟩ | ⟨n, ml, as, k0, r0, fs, rfl, hv, hpop, ho, hr8, hml, rfl⟩ | ⟨n, ml, as, r0, rfl, hb1, hb2, hv, hpop, hr8, hml, rfl⟩
        · cases Option.some.inj h
          exact hfin _ _ rfl hs (Or.inl rfl) H ls locs hR
        · cases bb with
          | false => cases h
          | true =>
            cases Option.some.inj h
            exact hfin _ _ rfl hs (Or.inr rfl) H ls locs hR
        · obtain ⟨vo, g1, t1, h1, h2⟩ := after _ _ h
          refine am_callv hW hcs hdec hok (am_wk_ne hwk).1 hv hpop ho hr8 hR' (fun hlow hmx => am_met hlow (by rw [hmx]; exact hml) hR.2.2.2.2 (fun p e R s m args below meth c cells slots Q hW1 hc1 hf1 => ih _ _ h1 (by unfold am_wk; rw [hlow]; rfl) p e R s m args below meth c cells slots Q hW1 hc1 hf1)) (fun H1 locs1 hR1 => ?_)
          exact ih (mi, pc + 3, L', vo.toList ++ r0, g1, t1) r h2 hwk p e R s m args below meth c cells slots Q hW hcs hfin H1 ls locs1 hR1
        · obtain ⟨vo, g1, t1, h1, h2⟩ := after _ _ h
          refine am_calls hW hcs hdec hok (Or.inl (am_wk_ne hwk).2) hb1 hb2 hv hpop hr8 hR' (fun hlow hmx => am_met hlow (by rw [hmx]; exact hml) hR.2.2.2.2 (fun p e R s m args below meth c cells slots Q hW1 hc1 hf1 => ih _ _ h1 (by unfold am_wk; rw [hlow]; rfl) p e R s m args below meth c cells slots Q hW1 hc1 hf1)) (fun H1 locs1 hR1 => ?_)
          exact ih (mi, pc + 3, L', vo.toList ++ r0, g1, t1) r h2 hwk p e R s m args below meth c cells slots Q hW hcs hfin H1 ls locs1 hR1
end
end
section
section
variable {E : CtlPost} {e : Env} {d : Bool} {acts : List Action} {s : State} {f : JFrame} {a : Addr} {Q : Handler → Pre}
theorem am_go_cold {x : ExceptionTableEntry} {t : List ExceptionTableEntry} {c : ClassId} (hx : covers x f.pc = true) (h0 : x.catchType ≠ 0) (hcl : s.vm.ClassLinks e.platform f.method.cls x.catchType c) :
    wp (findHandler.go f a (x :: t)) Q E e d acts s ↔ wp (findHandler.go f a (x :: t)) Q E e d acts (s.setVm (s.vm.noted f.method.cls x.catchType (.cls c))) := by
  obtain ⟨ha, ht⟩ := (resolveClass_links e.toSetting hcl).op (op := VmOp.resolveClass f.method.cls x.catchType) rfl
  obtain ⟨k, hk, hr⟩ := hcl.ready
  obtain ⟨ha2, ht2⟩ := resolveClass_memo e hk hr
  have hsz : (s.vm.noted f.method.cls x.catchType (.cls c)).classes.size ≤ s.vm.classes.size := by no_record
  have hvv : ∀ v, (s.setVm v).setVm v = s.setVm v := fun _ => rfl
  simp only [covers] at hx
  simp [findHandler.go, hx, h0, ha, ht, ha2, ht2, hsz, hvv, VmOp.dirties, VmOp.acts]
theorem am_go_one {x : ExceptionTableEntry} {t : List ExceptionTableEntry} {c : ClassId} {cell : Cell} (hx : covers x f.pc = true) (h0 : x.catchType ≠ 0) (hcl : s.vm.ClassLinks e.platform f.method.cls x.catchType c)
    (hcell : s.heap[a]? = some cell) (hobj : ∀ k, cell.vm ≠ .statics k) (hk : ∃ k, (s.vm.noted f.method.cls x.catchType (.cls c)).classes[cell.cls]? = some k) (hc : ∃ k, (s.vm.noted f.method.cls x.catchType (.cls c)).classes[c]? = some k) :
    wp (findHandler.go f a (x :: t)) Q E e d acts s ↔ if (s.vm.noted f.method.cls x.catchType (.cls c)).assignable cell.cls c = true then Q (.found x.handlerPc) d acts (s.setVm (s.vm.noted f.method.cls x.catchType (.cls c))) else wp (findHandler.go f a t) Q E e d acts (s.setVm (s.vm.noted f.method.cls x.catchType (.cls c))) := by
  rw [am_go_cold hx h0 hcl]
  exact W.findHandler_go_class (s := s.setVm (s.vm.noted f.method.cls x.catchType (.cls c))) hx h0 hcl.ready hcell hobj hk hc
def am_FT (e : Env) (s : State) (f : JFrame) (a : Addr) (h : Handler) (vm : Vm) : Prop := ∀ (Q : Handler → Pre) (E : CtlPost) (d : Bool) (acts : List Action), wp (findHandler f a) Q E e d acts s ↔ Q h d acts (s.setVm vm)
theorem am_catch_is {r : List Frame} {pc : Nat} {vm : Vm} (hfind : am_FT e s f a (.found pc) vm) : (stepThrowing e s a (.java f :: r)).Is ((s.setVm vm).setFrames (.java { f with pc := pc, stack := [.ref a] } :: r)) [] := by
  simp only [stepThrowing, searchFrame, vmDo]
  generalize hr : Sem.go _ e false [] s = res
  obtain ⟨as, rfl, ha⟩ := Sem.eq_ok_of hr (a := Handler.found pc) (s' := s.setVm vm) (acts' := []) (by simp [hfind _ _ _ _])
  exact ⟨rfl, ha⟩
theorem am_caught {tb : Tables} {target : State} {g : JFrame} {c : Code} {below : List Frame} {pc : Nat} {vm : Vm} (h : At s g.method c below) (hfind : am_FT e ((s.setTop g).pushFrame (.throwing a)) g a (.found pc) vm)
    (hrest : Steps tb e below ((s.setVm vm).setTop { g with pc := pc, stack := [.ref a] }) target) : Steps tb e below ((s.setTop g).pushFrame (.throwing a)) target := by
  obtain ⟨hgo, hw⟩ := h.throwing a
  refine Steps.head hgo hw ?_
  rw [stepThread_throwing (frames_entered h.top _), (am_catch_is (s := (s.setTop g).pushFrame (.throwing a)) hfind).1]
  obtain ⟨g₀, hg⟩ := Option.isSome_iff_exists.mp h.top
  obtain ⟨r, hr⟩ := State.topJava?_eq_some.mp hg
  have hr2 : (s.setVm vm).frames = .java g₀ :: r := hr
  rw [State.setTop_of_frames _ hr2] at hrest
  rw [State.pushFrame, State.setTop_of_frames _ hr, State.setFrames_setFrames]
  show Steps tb e below (((s.setVm vm).setFrames _).setFrames _) target
  rw [State.setFrames_setFrames, hr]
  exact hrest
end
def am_cls (s : State) (args : Array Value) (own : String) (cX : ClassId) (pc : Nat) (ok : Bool) (x : ExceptionTableEntry) : Prop :=
  covers x pc = true ∧ x.catchType ≠ 0 ∧ ∃ (name : String) (c : ClassId), (Cond.classLink own x.catchType name).before args s = true ∧ s.vm.findClass name = some c ∧ s.vm.assignable cX c = ok
section
variable {p : Program} {l : Launch} {e : Env} {R : Room} {s : State} {m : MethodId} {args : Array Value} {below : List Frame} {meth : Method} {c : Code} {locs : List Loc} {cells slots : Nat}
theorem am_search {own : String} {g : JFrame} {a : Addr} {cell : Cell} {kX : Class} (hown : s.vm.findClass own = some m.cls) (hg : g.method = m) (hobj : ∀ k, cell.vm ≠ .statics k) (hkX : s.vm.classes[cell.cls]? = some kX) :
    ∀ (pre : List ExceptionTableEntry) (x : ExceptionTableEntry) (rest : List ExceptionTableEntry) (T : State), Stand p l e R s m args below meth c T locs cells slots → T.heap[a]? = some cell →
      (∀ y ∈ pre, am_cls s args own cell.cls g.pc false y) → am_cls s args own cell.cls g.pc true x →
      ∃ vm, Stand p l e R s m args below meth c (T.setVm vm) locs cells slots ∧ ∀ (Q : Handler → Pre) (E : CtlPost) (d : Bool) (acts : List Action), wp (findHandler.go g a (pre ++ x :: rest)) Q E e d acts ((T.setTop g).pushFrame (.throwing a)) ↔ Q (.found x.handlerPc) d acts (((T.setTop g).pushFrame (.throwing a)).setVm vm) := by
  intro pre
  have one : ∀ (y : ExceptionTableEntry) (T : State) (ok : Bool), Stand p l e R s m args below meth c T locs cells slots → T.heap[a]? = some cell → am_cls s args own cell.cls g.pc ok y →
      ∃ vm, Stand p l e R s m args below meth c (T.setVm vm) locs cells slots ∧ ∀ (t : List ExceptionTableEntry) (Q : Handler → Pre) (E : CtlPost) (d : Bool) (acts : List Action), wp (findHandler.go g a (y :: t)) Q E e d acts ((T.setTop g).pushFrame (.throwing a)) ↔ if ok = true then Q (.found y.handlerPc) d acts (((T.setTop g).pushFrame (.throwing a)).setVm vm) else wp (findHandler.go g a t) Q E e d acts (((T.setTop g).pushFrame (.throwing a)).setVm vm) := by
    rintro y T ok X hcell ⟨h1, h2, name, cy, h3, h4, h5⟩
    have hpl : e.platform.magicAccessors = ({} : Platform).magicAccessors := by rw [X.admits.platform]
    obtain ⟨c', hc', hcl⟩ := Cond.classLink_spec hown h3 e.platform hpl
    cases h4.symm.trans hc'
    obtain ⟨dk, _, _, kt, hd, _, _, _, _, hkt, _, hopen⟩ := hcl.here
    have hcl₀ := X.warmed.classLinks hcl
    have hW' : s.WarmedH (T.vm.noted m.cls y.catchType (.cls cy)) := X.warmed.noted hd hopen (State.rightAt_cls hcl)
    obtain ⟨ks', hks', -⟩ := hW'.alike.2.2 _ _ hkX
    obtain ⟨kt', hkt', -⟩ := hW'.alike.2.2 _ _ hkt
    refine ⟨_, X.noted hW', fun t Q E d acts => ?_⟩
    subst hg
    have hvm : ((T.setTop g).pushFrame (.throwing a)).vm = T.vm := Stand.throwing_vm T g a
    have hheap : ((T.setTop g).pushFrame (.throwing a)).heap = T.heap := Stand.throwing_heap T g a
    have K := am_go_one (e := e) (E := E) (d := d) (acts := acts) (Q := Q) (s := (T.setTop g).pushFrame (.throwing a)) (f := g) (a := a) (t := t) h1 h2 (by rw [hvm]; exact hcl₀) (by rw [hheap]; exact hcell) hobj (by rw [hvm]; exact ⟨ks', hks'⟩) (by rw [hvm]; exact ⟨kt', hkt'⟩)
    rw [hvm, hW'.alike.assignable, h5] at K
    exact K
  induction pre with
  | nil =>
    intro x rest T X hcell _ hx
    obtain ⟨vm, X1, h1⟩ := one x T true X hcell hx
    exact ⟨vm, X1, fun Q E d acts => by rw [List.nil_append, h1 rest Q E d acts, if_pos rfl]⟩
  | cons y pre ih =>
    intro x rest T X hcell hpre hx
    obtain ⟨vm, X1, h1⟩ := one y T false X hcell (hpre y List.mem_cons_self)
    obtain ⟨vm2, X2, h2⟩ := ih x rest (T.setVm vm) X1 hcell (fun z hz => hpre z (List.mem_cons_of_mem _ hz)) hx
    refine ⟨vm2, X2, fun Q E d acts => ?_⟩
    rw [List.cons_append, h1 _ Q E d acts, if_neg (by decide)]
    have e1 : ((T.setTop g).pushFrame (.throwing a)).setVm vm = ((T.setVm vm).setTop g).pushFrame (.throwing a) := rfl
    rw [e1, h2 Q E d acts]
    exact Iff.rfl
theorem am_taken {T : State} {own : String} {g : JFrame} {a : Addr} {cell : Cell} {kX : Class} (X : Stand p l e R s m args below meth c T locs cells slots) (hown : s.vm.findClass own = some m.cls) (hg : g.method = m) (hobj : ∀ k, cell.vm ≠ .statics k) (hkX : s.vm.classes[cell.cls]? = some kX) (hcell : T.heap[a]? = some cell)
    {pre rest : List ExceptionTableEntry} {x : ExceptionTableEntry} (htab : c.exceptionTable.toList = pre ++ x :: rest) (hpre : ∀ y ∈ pre, am_cls s args own cell.cls g.pc false y) (hx : am_cls s args own cell.cls g.pc true x) :
    ∃ vm, Stand p l e R s m args below meth c (T.setVm vm) locs cells slots ∧ ∀ target, Steps p.tables e below ((T.setVm vm).setTop { g with pc := x.handlerPc, stack := [.ref a] }) target → Steps p.tables e below ((T.setTop g).pushFrame (.throwing a)) target := by
  obtain ⟨vm, X1, h1⟩ := am_search hown hg hobj hkX pre x rest T X hcell hpre hx
  refine ⟨vm, X1, fun target hrest => ?_⟩
  have h : At T g.method c below := by rw [hg]; exact X.here
  refine am_caught h (fun Q E d acts => ?_) hrest
  rw [W.findHandler_eq (s := (T.setTop g).pushFrame (.throwing a)) (meth := meth) (code := c) (by rw [Stand.throwing_vm, hg]; exact X.method') X.code, htab]
  exact h1 Q E d acts
end
end
section
section
variable {p : Program} {l : Launch} {e : Env} {R : Room} {s : State} {m : MethodId} {args : Array Value} {below : List Frame} {meth : Method} {c : Code} {T : State} {locs : List Loc} {cells slots : Nat}
theorem am_rebase (X : Stand p l e R s m args below meth c T locs cells slots) (hc : cells ≤ R.cells) (hs : slots ≤ R.slots) :
    Stand p l e { R with cells := R.cells - cells, slots := R.slots - slots } (T.setFrames (.invoking m args :: below)) m args below meth c T [] 0 0 := by
  obtain ⟨g₀, hg⟩ := Option.isSome_iff_exists.mp X.here.top
  obtain ⟨r, hr⟩ := State.topJava?_eq_some.mp hg
  obtain ⟨th, hth, hthf⟩ := State.frames_cons hr
  have hlt : T.cur < T.threads.size := (Array.getElem?_eq_some_iff.mp hth).1
  have hf : (T.setFrames (.invoking m args :: below)).frames = .invoking m args :: below := State.frames_setFrames _ hlt
  have hme : (T.setFrames (.invoking m args :: below)).me.stackBytes = T.me.stackBytes := by
    simp [State.me, State.setFrames, Array.getElem?_modify, hth]
  have hlim : e.platform.stackLimits (T.setFrames (.invoking m args :: below)).me = e.platform.stackLimits s.me := by
    rw [← X.limits]
    unfold Platform.stackLimits
    rw [hme]
  have hself : T.setFrames T.frames = T := State.setFrames_self hth
  refine ⟨X.admits, X.cas, X.clock, hf, ?_, ?_, X.method', X.code, X.here, X.tail, State.WarmedH.refl (T.setFrames (.invoking m args :: below)), ?_, ?_, ?_⟩
  · have h := X.room
    have hb := X.book
    have h1 := X.heapSize
    have h2 := X.used
    have h3 := X.bytes
    simp only [State.hasRoom, Bool.and_eq_true, decide_eq_true_eq] at h ⊢
    rw [State.localsInUse_invoking X.frames X.method X.code, X.frames] at h
    rw [State.localsInUse_invoking hf X.method' X.code, hf, hlim, hme]
    have hh : (T.setFrames (.invoking m args :: below)).heap = T.heap := rfl
    have hu : (T.setFrames (.invoking m args :: below)).slotsUsed = T.slotsUsed := rfl
    rw [hh, hu]
    obtain ⟨⟨⟨⟨a0, a1, a2, a3, a4, a5⟩, a6⟩, a7⟩, a8⟩ := h
    refine ⟨⟨⟨⟨a0, a1, a2, a3, a4, ?_⟩, ?_⟩, ?_⟩, hb⟩
    · rw [h3]; exact a5
    · omega
    · omega
  · have h := X.hears
    have ha := X.warmed.alike
    have hcode : ∀ k, (T.setFrames (.invoking m args :: below)).code? k = s.code? k := fun k => by
      rw [State.code?_eq, State.code?_eq]
      show (T.vm.method? k).bind _ = (s.vm.method? k).bind _
      rw [ha.method?]
    have hmm : (T.setFrames (.invoking m args :: below)).vm.method? m = s.vm.method? m := by
      show T.vm.method? m = s.vm.method? m
      rw [ha.method?]
    have e1 : (T.setFrames (.invoking m args :: below)).hears m below = s.hears m below := by
      unfold State.hears
      simp only [hcode, hmm]
    rw [e1]
    exact h
  · rw [hlim]; exact X.limits
  · exact hme.symm
  · refine ⟨?_, Nat.le_refl _, Nat.le_refl _, ?_, ?_, fun a c h => ⟨c, h, rfl, rfl, fun _ _ => rfl⟩⟩
    · show T.setVm _ = _
      rw [State.setFrames_setFrames]
      show T = { T.setFrames T.frames with heap := T.heap, slotsUsed := T.slotsUsed }
      rw [hself]
    · show T.slotsUsed = T.slotsUsed + _
      rw [List.drop_eq_nil_of_le (by simp)]
      rfl
    · rw [List.drop_eq_nil_of_le (by simp)]
      exact Nat.le_refl _
end
end
section
def am_exs : List String := ["java/lang/IllegalArgumentException", "java/lang/IllegalStateException", "java/lang/UnsupportedOperationException", "java/lang/IndexOutOfBoundsException", "java/util/NoSuchElementException", "java/lang/ArithmeticException"]
def am_ex (x : Nat) : String := am_exs.getD x ""
def am_sup : List String := ["java/lang/RuntimeException", "java/lang/Exception"]
def am_LS (C n d : String) (A : Nat → Prop) (U : State) (H : Heap) : Prop := ∃ (c : ClassId) (k : Class) (i : Nat) (f : Field) (a : Nat) (cell : Cell) (v : Value), U.vm.findClass C = some c ∧ U.fieldFound? C n d = some (c, k, i, f) ∧ f.isStatic = true ∧ k.statics = some a ∧ H[a]? = some cell ∧ cell.vm.isStatics = true ∧ cell.cls = c ∧ f.slot < cell.slots.size ∧ k.staticTypes[f.slot]? = some f.type ∧ cell.slots[f.slot]? = some v ∧ (v = .null ∨ ∃ t, v = .ref t) ∧ ¬ A a
theorem am_LS_of {args : Array Value} {s : State} {C n d : String} {A : Nat → Prop} (hl : (Cond.laysStatic C n d).before args s = true) (h : (Cond.isRef (.static C n d)).before args s = true) (hA : ∀ a : Nat, a < s.heap.size → ¬ A a) : am_LS C n d A s s.heap := by
  obtain ⟨c, k, i, f, a, cell, hc, hi, hst, ha, hcell, hs, hcls, hlt, hty⟩ := Cond.laysStatic_spec hl
  cases hv : (Term.static C n d).eval args s none [] s with
  | none => simp [Cond.before, Cond.holds, Cond.value, hv] at h
  | some w =>
    obtain ⟨hst', a', cell', ha', hcell', -, hslot⟩ := Term.static_spec hi hv
    cases ha.symm.trans ha'
    cases hcell.symm.trans hcell'
    refine ⟨c, k, i, f, a, cell, w, hc, hi, hst, ha, hcell, hs, hcls, hlt, hty, hslot, ?_, hA a (Array.getElem?_eq_some_iff.mp hcell).1⟩
    simp only [Cond.before, Cond.holds, Cond.value, hv] at h
    cases w <;> simp_all
theorem am_LS_kept {C n d : String} {A : Nat → Prop} {U : State} {H H1 : Heap} (h : am_LS C n d A U H) (hq : ∀ a : Nat, a < H.size → ¬ A a → H1[a]? = H[a]?) : am_LS C n d A U H1 := by
  obtain ⟨c, k, i, f, a, cell, v, h1, h2, h3, h4, h5, h6, h7, h8, h9, h10, h11, h12⟩ := h
  exact ⟨c, k, i, f, a, cell, v, h1, h2, h3, h4, by rw [hq a (Array.getElem?_eq_some_iff.mp h5).1 h12]; exact h5, h6, h7, h8, h9, h10, h11, h12⟩
theorem am_LS_moved {C n d : String} {A : Nat → Prop} {u U : State} {H : Heap} (hvm : u.vm.Alike U.vm) (h : am_LS C n d A u H) : am_LS C n d A U H := by
  obtain ⟨c, k, i, f, a, cell, v, h1, h2, h3, h4, h5, h6, h7, h8, h9, h10, h11, h12⟩ := h
  obtain ⟨k', hi', he⟩ := State.fieldFound?_setVm hvm h2
  exact ⟨c, k', i, f, a, cell, v, by rw [hvm.findClass]; exact h1, hi', h3, by rw [he]; exact h4, h5, h6, h7, h8, by rw [he]; exact h9, h10, h11, h12⟩
theorem am_LS_lays {C n d : String} {A : Nat → Prop} {U : State} {args : Array Value} (h : am_LS C n d A U U.heap) : (Cond.laysStatic C n d).before args U = true := by
  obtain ⟨c, k, i, f, a, cell, v, h1, h2, h3, h4, h5, h6, h7, h8, h9, h10, h11, h12⟩ := h
  simp [Cond.before, Cond.holds, Cond.value, h1, h2, h3, h4, h5, h6, h7, h8, h9]
theorem am_LS_ref {C n d : String} {A : Nat → Prop} {U : State} {args : Array Value} (h : am_LS C n d A U U.heap) : (Cond.isRef (.static C n d)).before args U = true := by
  obtain ⟨c, k, i, f, a, cell, v, h1, h2, h3, h4, h5, h6, h7, h8, h9, h10, h11, h12⟩ := h
  have e : (Term.static C n d).eval args U none [] U = some v := by
    simp [Term.eval, State.fieldNamed?, h2, h3, h4, h5, h6, h10]
  rcases h11 with rfl | ⟨t, rfl⟩
  · simp [Cond.before, Cond.holds, Cond.value, e]
  · simp [Cond.before, Cond.holds, Cond.value, e]
def am_dc (w : Cond) : Bool := match w with
  | .declares _ => true
  | .castable _ _ => true
  | _ => false
def am_Xt (A : Nat → Prop) (s : State) : Prop := am_LS Bundle.tN "UNASSIGNED_STACK" Bundle.steD A s s.heap ∧ am_LS Bundle.tN "SUPPRESSED_SENTINEL" Bundle.listD A s s.heap ∧ ∀ w ∈ lw_tbl, am_dc w = true → va_Nw w s
theorem am_Xt_moved {A : Nat → Prop} {s U : State} (h : am_Xt A s) (hW : s.WarmedH U.vm) (hq : ∀ q, q < s.heap.size → ¬ A q → U.heap[q]? = s.heap[q]?) : am_Xt A U := by
  obtain ⟨h1, h2, h3⟩ := h
  refine ⟨am_LS_kept (am_LS_moved hW.alike h1) hq, am_LS_kept (am_LS_moved hW.alike h2) hq, fun w hw hd => ?_⟩
  have := h3 w hw hd
  cases w with
  | declares x => exact va_Nw.warmD hW this
  | castable a b => exact va_Nw.warmC hW this
  | _ => cases hd
def am_thW (w : Cond) : Bool := (decide (w ∈ lw_tbl) && (goodWord w || am_dc w)) || (decide (w = .isRef (.static Bundle.tN "UNASSIGNED_STACK" Bundle.steD)) || decide (w = .isRef (.static Bundle.tN "SUPPRESSED_SENTINEL" Bundle.listD))) || (decide (w = .laysStatic Bundle.tN "UNASSIGNED_STACK" Bundle.steD) || decide (w = .laysStatic Bundle.tN "SUPPRESSED_SENTINEL" Bundle.listD))
theorem am_thW_use {A : Nat → Prop} {s : State} {args : Array Value} (hts : ∀ w ∈ am_WG, w.before args s = true) (hX : am_Xt A s) {w : Cond} (h : am_thW w = true) : w.before args s = true := by
  unfold am_thW at h
  simp only [Bool.or_eq_true, Bool.and_eq_true, decide_eq_true_eq] at h
  rcases h with (⟨h1, h2 | h2⟩ | h | h) | h | h
  · exact hts w (List.mem_filter.mpr ⟨h1, h2⟩)
  · refine va_Nw.use ?_ (hX.2.2 w h1 h2)
    cases w <;> first | rfl | cases h2
  · rw [h]; exact am_LS_ref hX.1
  · rw [h]; exact am_LS_ref hX.2.1
  · rw [h]; exact am_LS_lays hX.1
  · rw [h]; exact am_LS_lays hX.2.1
def am_thB (mi pc n ic x : Nat) : Bool := decide (decode (am_bytes mi) pc = .ok (.new n, 3)) && decide (decode (am_bytes mi) (pc + 3) = .ok (.dup, 1)) && decide (decode (am_bytes mi) (pc + 4) = .ok (.invokespecial ic, 3)) && decide (decode (am_bytes mi) (pc + 7) = .ok (.athrow, 1)) && decide (Cond.classLink (am_own mi) n (am_ex x) ∈ lw_tbl) && decide (Cond.initialized (am_ex x) ∈ lw_tbl) && Bundle.fit (am_ex x) && (Bundle.ownAtoms0 (am_own mi) ic (am_ex x) am_sup).all am_thW
end
section
theorem am_th_1 : am_thB 10 7 141 143 3 = true := by decide +kernel
theorem am_th_2 : am_thB 10 42 102 104 1 = true := by decide +kernel
theorem am_th_3 : am_thB 10 61 156 158 4 = true := by decide +kernel
theorem am_th_4 : am_thB 10 95 170 172 5 = true := by decide +kernel
theorem am_th_5 : am_thB 12 25 92 94 0 = true := by decide +kernel
theorem am_th_6 : am_thB 12 62 102 104 1 = true := by decide +kernel
theorem am_th_7 : am_thB 12 106 111 113 2 = true := by decide +kernel
end
section
def am_Qt (below : List Frame) (s : State) (locs : List Loc) (cells slots : Nat) (H : Heap) (x : Nat) (t : State) : Prop := ∃ (adr : Nat) (ce : Cell), t.status = .running ∧ Ended t below (.threw adr) ∧ s.WarmedH t.vm ∧ s.sameButNew ({ t with vm := s.vm } : State) locs (cells + 1) (slots + 6) ∧ t.heap[adr]? = some ce ∧ s.vm.findClass (am_ex x) = some ce.cls ∧ ce.vm = .none ∧ H.size ≤ t.heap.size ∧ (∀ q, q < H.size → t.heap[q]? = H[q]?) ∧ H.size ≤ adr
section
variable {p : Program} {l : Launch} {e : Env} {R : Room} {s : State} {m : MethodId} {args : Array Value} {below : List Frame} {meth : Method} {c : Code} {cells slots : Nat} {Q : State → Prop} {A : Nat → Prop}
set_option maxHeartbeats 1000000 in
theorem am_throwW {mi pc n ic x : Nat} {H : Heap} {ls : Array Slot} {locs : List Loc} (hlt : l.stackTraces = false) (hx : p.tables.exec = Jvm.exec) (hb : c.code = am_bytes mi) (hown : s.vm.findClass (am_own mi) = some m.cls) (hts : ∀ w ∈ am_WG, w.before args s = true) (hXt : am_Xt A s) (hS : va_S A s.heap H locs)
    (hsite : am_thB mi pc n ic x = true) (htab : c.exceptionTable.toList = []) (hcells : cells + 1 ≤ R.cells) (hslots : slots + 6 ≤ R.slots) (hframes : 6 ≤ R.frames) (hloc : 88 ≤ R.locals) (hsize : ls.size = c.maxLocals) (hlocks : meth.locks = false)
    (kk : ∀ t, am_Qt below s locs cells slots H x t → Q t) : W p l e R s m args below meth c H locs cells slots Q (F0 m pc ls []) := by
  unfold am_thB at hsite
  simp only [Bool.and_eq_true, decide_eq_true_eq] at hsite
  obtain ⟨⟨⟨⟨⟨⟨⟨d1, d2⟩, d3⟩, d4⟩, w1⟩, w2⟩, w3⟩, w4⟩ := hsite
  rw [List.all_eq_true] at w4
  intro T hT X
  have htr : e.platform.stackTraces = false := by rw [X.admits.platform]; exact hlt
  have X' := am_rebase X (by omega) (by omega)
  have hheap : (T.setFrames (.invoking m args :: below)).heap = H := hT
  have hWm : s.WarmedH (T.setFrames (.invoking m args :: below)).vm := X.warmed
  have hts' : ∀ w ∈ am_WG, w.before args (T.setFrames (.invoking m args :: below)) = true := fun w hw => word_at hWm (am_good (ws := am_WG) (fun _ z => z) w hw).2 (hts w hw)
  have hXt' : am_Xt A (T.setFrames (.invoking m args :: below)) := am_Xt_moved hXt hWm (fun q h1 h2 => by rw [hheap]; exact hS.2.1 q h1 h2)
  have hown' : (T.setFrames (.invoking m args :: below)).vm.findClass (am_own mi) = some m.cls := by rw [hWm.alike.findClass]; exact hown
  have gw : ∀ w, w ∈ lw_tbl → goodWord w = true → w.before args (T.setFrames (.invoking m args :: below)) = true := fun w h1 h2 => hts' w (List.mem_filter.mpr ⟨h1, h2⟩)
  have hwords : ∀ w ∈ Bundle.ownAtoms0 (am_own mi) ic (am_ex x) am_sup, w.before args (T.setFrames (.invoking m args :: below)) = true := fun w hw => am_thW_use hts' hXt' (w4 w hw)
  have hins : (Cond.instantiable (am_ex x) 6).before args (T.setFrames (.invoking m args :: below)) = true := hwords _ (by simp [Bundle.ownAtoms0])
  have hfit : ∀ q ∈ am_sup, Bundle.fit q = true := by decide +kernel
  obtain ⟨cX, kX0, hcX, hkX0, -⟩ := Cond.instantiable_spec hins
  have hdb : ∀ q i len, decode (am_bytes mi) q = .ok (i, len) → decode c.code q = .ok (i, len) := fun q i len hq => by rw [hb]; exact hq
  have K : W p l e { R with cells := R.cells - cells, slots := R.slots - slots } (T.setFrames (.invoking m args :: below)) m args below meth c H [] 0 0 (fun U => ∃ (adr : Nat) (ce : Cell), U.status = .running ∧ Ended U below (.threw adr) ∧ (T.setFrames (.invoking m args :: below)).WarmedH U.vm ∧ (T.setFrames (.invoking m args :: below)).sameButNew ({ U with vm := (T.setFrames (.invoking m args :: below)).vm } : State) [] 1 6 ∧ U.heap[adr]? = some ce ∧ (T.setFrames (.invoking m args :: below)).vm.findClass (am_ex x) = some ce.cls ∧ ce.vm = .none ∧ H.size ≤ adr) (F0 m pc ls []) := by
    refine W.newcK (g := F0 m pc ls []) (n := 6) (C := am_ex x) hx hb hown' (gw _ w1 rfl) hins (gw _ w2 rfl) rfl d1 (by show 0 + 1 ≤ R.cells - cells; omega) (by show 0 + 6 ≤ R.slots - slots; omega) hcX rfl (fun H' kC hkC hcell hsz hold => ?_)
    refine lv_dup (va := .ref H.size) (rest := []) (pc := pc + 3) hx hb d2 rfl ?_
    intro T2 hT2 X2
    obtain ⟨U, u1, u2, u3, u4, u5, ce, u6, u7⟩ := X2.ctorThrow0 hx htr (own := am_own mi) (cls := am_ex x) (names := am_sup) (ic := ic) hown' w3 hfit hwords (fun _ h => by cases h) (a := H.size) hcX hkC (by rw [hT2]; exact hcell) (by rw [hheap]; exact Nat.le_refl _)
      (g := F0 m (pc + 4) ls [.ref H.size, .ref H.size]) rfl hsize rfl rfl (rest := []) rfl (hdb _ _ _ d3) (hdb _ _ _ d4) (fun q hq => by rw [htab] at hq; cases hq) (by show 2 + 3 < R.frames; omega) (by
        have e1 : (F0 m (pc + 4) ls [.ref H.size, .ref H.size]).monitorRoom = 0 := rfl
        show 2 * (F0 m (pc + 4) ls [.ref H.size, .ref H.size]).monitorRoom + (1 + 0) + (13 * (2 + 1) + 41) ≤ R.locals
        rw [e1]; omega) hlocks
    exact ⟨U, u1, H.size, ce, u2, u3, u4, u5, u6, u7.cls, u7.vm, Nat.le_refl _⟩
  obtain ⟨U, st, adr, ce, v1, v2, v3, v4, v5, v6, v7, v8⟩ := K T hT X'
  refine ⟨U, st, kk U ⟨adr, ce, v1, v2, State.WarmedH.trans (t := T.setFrames (.invoking m args :: below)) hWm v3, ?_, v5, by rw [← hWm.alike.findClass]; exact v6, v7, ?_, ?_, v8⟩⟩
  · obtain ⟨b1, b2, b3, b4, b5, b6⟩ := v4
    have hs2 : (T.setVm s.vm).sameButNew ({ U with vm := s.vm } : State) [] 1 6 := by
      refine ⟨?_, b2, b3, b4, b5, b6⟩
      have := congrArg (fun z : State => z.setVm s.vm) b1
      refine this.trans ?_
      show _ = ({ (T.setVm s.vm).setFrames U.frames with heap := U.heap, slotsUsed := U.slotsUsed } : State)
      show ({ ((T.setFrames (.invoking m args :: below)).setFrames U.frames).setVm s.vm with heap := U.heap, slotsUsed := U.slotsUsed } : State) = _
      rw [State.setFrames_setFrames]
      rfl
    have := X.same.trans hs2
    rw [List.append_nil] at this
    exact this
  · have := v4.2.1
    rw [hheap] at this
    exact this
  · intro q hq
    obtain ⟨-, -, -, -, -, b6⟩ := v4
    have hq' : q < (T.setFrames (.invoking m args :: below)).heap.size := by rw [hheap]; exact hq
    obtain ⟨c', y1, y2, y3, y4⟩ := b6 q _ (Array.getElem?_eq_getElem hq')
    have e1 : U.heap[q]? = some c' := y1
    have e2 : c'.slots = ((T.setFrames (.invoking m args :: below)).heap[q]).slots := by
      apply Array.ext_getElem?
      intro i
      exact y4 i (fun h => by cases h)
    rw [e1, y2, e2, ← hheap, Array.getElem?_eq_getElem hq']
end
end
section
def am_rm4 (a : Nat) : Room := { frames := am_fr a, cells := 1, slots := 6, locals := am_lo a }
def am_B4 (xs : Nat → Int32) (Ln : Nat) (D : va_G) (cA : Nat → ClassId) (ad : Nat → Nat) (A : Nat → Prop) (g : am_G) (U : State) : Prop := am_B xs Ln D cA ad A g U ∧ am_Xt A U
def am_Qh (xs : Nat → Int32) (Ln : Nat) (D : va_G) (cA : Nat → ClassId) (ad : Nat → Nat) (A : Nat → Prop) (g : am_G) (x : Nat) : Array Value → State → Outcome → State → Prop := fun _ st o t => ∃ (adr : Nat) (ce : Cell) (L : List Loc), o = .threw adr ∧ st.WarmedH t.vm ∧ st.sameButNew ({ t with vm := st.vm } : State) L 1 6 ∧ (∀ q ∈ L, A q.base) ∧ t.heap[adr]? = some ce ∧ st.vm.findClass (am_ex x) = some ce.cls ∧ ce.vm = .none ∧ am_Bq xs Ln D cA ad A g t ∧ va_F A st t
theorem am_code_mem {mi pc : Nat} {e : am_E} (h : am_code mi pc = some e) : ∃ u t c, am_nth am_tabs (mi / 12) = some u ∧ am_nth u (mi % 12) = some t ∧ c ∈ t ∧ (pc, e) ∈ c := by
  unfold am_code at h
  split at h
  · rename_i u hu
    split at h
    · rename_i t ht
      split at h
      · rename_i c hc
        exact ⟨u, t, c, hu, ht, am_nth_mem hc, am_find_mem h⟩
      · cases h
    · cases h
  · cases h
def am_newB (l : List (Nat × Nat × Nat × Nat)) (t : List (List (Nat × am_E))) : Bool := t.all (fun c => c.all (fun q => match q.2.1 with
  | .new n => l.any (fun z => decide (z.1 = q.1) && decide (z.2.1 = n) && decide (z.2.2.2 = q.2.2.2.2.2.1))
  | _ => true))
def am_nw10 : List (Nat × Nat × Nat × Nat) := [(7, 141, 143, 3), (42, 102, 104, 1), (61, 156, 158, 4), (95, 170, 172, 5)]
def am_nw12 : List (Nat × Nat × Nat × Nat) := [(25, 92, 94, 0), (62, 102, 104, 1), (106, 111, 113, 2)]
theorem am_new10 : am_newB am_nw10 am_t10 = true := by decide +kernel
theorem am_new12 : am_newB am_nw12 am_t12 = true := by decide +kernel
theorem am_kd4 : (List.range 121).all (fun a => !Nat.beq (am_kd a) 4 || (Nat.beq a 10 || Nat.beq a 12)) = true := by decide +kernel
theorem am_kd4_of {a : Nat} (h : am_kd a = 4) : a = 10 ∨ a = 12 := by
  by_cases ha : a < 121
  · have := List.all_eq_true.mp am_kd4 a (List.mem_range.mpr ha)
    rw [h] at this
    simp only [show Nat.beq 4 4 = true from rfl, Bool.not_true, Bool.false_or, Bool.or_eq_true] at this
    rcases this with z | z
    · exact Or.inl (Nat.eq_of_beq_eq_true z)
    · exact Or.inr (Nat.eq_of_beq_eq_true z)
  · exfalso
    have e : am_m a = (⟨"", "", ""⟩, code, 0, none, 0, 0, 9, 0, 0, 0, 0) := by
      unfold am_m
      rw [am_nth_get, List.getElem?_eq_none (by rw [am_len_ms]; omega)]
      rfl
    unfold am_kd at h
    rw [e] at h
    cases h
theorem am_new_use {l : List (Nat × Nat × Nat × Nat)} {t c : List (List (Nat × am_E))} {cc : List (Nat × am_E)} {pc n nxt kp : Nat} {v : Value} {a b d w : Nat} (h : am_newB l t = true) (hc : cc ∈ t) (he : (pc, (Instr.new n, nxt, kp, v, a, b, d, w)) ∈ cc) : ∃ ic, (pc, n, ic, a) ∈ l := by
  unfold am_newB at h
  rw [List.all_eq_true] at h
  have h1 := h cc hc
  rw [List.all_eq_true] at h1
  have h2 := h1 _ he
  dsimp only at h2
  rw [List.any_eq_true] at h2
  obtain ⟨⟨z1, z2, z3, z4⟩, hz, h3⟩ := h2
  simp only [Bool.and_eq_true, decide_eq_true_eq] at h3
  obtain ⟨⟨rfl, rfl⟩, rfl⟩ := h3
  exact ⟨z3, hz⟩
theorem am_site_of {mi pc n nxt kp : Nat} {v : Value} {a b d w : Nat} (hk : am_kd mi = 4) (h : am_code mi pc = some (.new n, nxt, kp, v, a, b, d, w)) : ∃ ic, am_thB mi pc n ic a = true := by
  obtain ⟨u, t, c, hu, ht, hc, he⟩ := am_code_mem h
  rcases am_kd4_of hk with rfl | rfl
  · have e1 : am_nth am_tabs (10 / 12) = some [am_t0, am_t1, am_t2, am_t3, am_t4, am_t5, am_t6, am_t7, am_t8, am_t9, am_t10, am_t11] := rfl
    cases e1.symm.trans hu
    have e2 : am_nth [am_t0, am_t1, am_t2, am_t3, am_t4, am_t5, am_t6, am_t7, am_t8, am_t9, am_t10, am_t11] (10 % 12) = some am_t10 := rfl
    cases e2.symm.trans ht
    obtain ⟨ic, hm⟩ := am_new_use (c := []) am_new10 hc he
    refine ⟨ic, ?_⟩
    simp only [am_nw10, List.mem_cons, Prod.mk.injEq, List.not_mem_nil, or_false] at hm
    rcases hm with ⟨rfl, rfl, rfl, rfl⟩ | ⟨rfl, rfl, rfl, rfl⟩ | ⟨rfl, rfl, rfl, rfl⟩ | ⟨rfl, rfl, rfl, rfl⟩
    · exact am_th_1
    · exact am_th_2
    · exact am_th_3
    · exact am_th_4
  · have e1 : am_nth am_tabs (12 / 12) = some [am_t12, am_t13, am_t14, am_t15, am_t16, am_t17, am_t18, am_t19, am_t20, am_t21, am_t22, am_t23] := rfl
    cases e1.symm.trans hu
    have e2 : am_nth [am_t12, am_t13, am_t14, am_t15, am_t16, am_t17, am_t18, am_t19, am_t20, am_t21, am_t22, am_t23] (12 % 12) = some am_t12 := rfl
    cases e2.symm.trans ht
    obtain ⟨ic, hm⟩ := am_new_use (c := []) am_new12 hc he
    refine ⟨ic, ?_⟩
    simp only [am_nw12, List.mem_cons, Prod.mk.injEq, List.not_mem_nil, or_false] at hm
    rcases hm with ⟨rfl, rfl, rfl, rfl⟩ | ⟨rfl, rfl, rfl, rfl⟩ | ⟨rfl, rfl, rfl, rfl⟩
    · exact am_th_5
    · exact am_th_6
    · exact am_th_7
theorem am_okM_10 : am_okM 10 = true := by decide +kernel
theorem am_okM_12 : am_okM 12 = true := by decide +kernel
theorem am_rm_10 : 6 ≤ am_fr 10 ∧ 88 ≤ am_lo 10 ∧ 6 ≤ am_fr 12 ∧ 88 ≤ am_lo 12 := by decide +kernel
theorem am_okM_4 {a : Nat} (h : am_kd a = 4) : am_okM a = true ∧ 6 ≤ am_fr a ∧ 88 ≤ am_lo a := by
  rcases am_kd4_of h with rfl | rfl
  · exact ⟨am_okM_10, am_rm_10.1, am_rm_10.2.1⟩
  · exact ⟨am_okM_12, am_rm_10.2.2⟩
section
variable {l : Launch} {xs : Nat → Int32} {Ln : Nat} {D : va_G} {cA : Nat → ClassId} {ad : Nat → Nat} {A : Nat → Prop}
theorem am_fin_new {mi pc : Nat} {L : am_L} {S : List Value} {g g1 : am_G} {t t1 x : Nat} {act : am_A} (hs : am_step (mi, pc, L, S, g, t) = some act) (hf : am_fin act (.inr x, g1, t1)) : ∃ n nxt kp v b d w, am_code mi pc = some (.new n, nxt, kp, v, x, b, d, w) ∧ S = [] ∧ g1 = g := by
  obtain ⟨i, nxt, kp, v, a, b, d, w, L', hc, hsub, h⟩ := am_step_inv hs
  have nopl : am_plain i b = true → False := by
    intro hp
    have := am_do_sh hp h
    rcases hf with e | e <;> rw [e] at this <;> exact this
  cases i with
  | new n =>
    change am_thr S g t a = some act at h
    unfold am_thr at h
    split at h
    · have ea := Option.some.inj h
      rcases hf with e | e
      · rw [e] at ea
        simp only [Sum.inr.injEq, Sum.inl.injEq, Prod.mk.injEq] at ea
        obtain ⟨rfl, rfl, rfl⟩ := ea
        exact ⟨n, nxt, kp, v, b, d, w, hc, rfl, rfl⟩
      · rw [e] at ea; cases ea
    · cases h
  | ireturn =>
    change am_irt S g t d = some act at h
    unfold am_irt at h
    split at h
    · split at h <;> (have ea := Option.some.inj h; rcases hf with e | e <;> rw [e] at ea <;> simp at ea)
    · cases h
  | areturn =>
    change am_art S g t = some act at h
    unfold am_art at h
    split at h
    · have ea := Option.some.inj h
      rcases hf with e | e <;> rw [e] at ea <;> simp at ea
    · cases h
  | return_ =>
    change am_vrt S g t = some act at h
    unfold am_vrt at h
    split at h
    · have ea := Option.some.inj h
      rcases hf with e | e <;> rw [e] at ea <;> simp at ea
    · cases h
  | invokevirtual n =>
    obtain ⟨ml, as, k, r, fs, rfl, hp, ho, h2⟩ := am_iv_inv h
    obtain ⟨_, _, ea⟩ := am_call_inv h2
    rcases hf with e | e <;> rw [e] at ea <;> cases ea
  | invokestatic n =>
    change (bif Nat.beq b 1 then am_mx mi nxt L' S g t (fun x y => if x < y then y else x) else bif Nat.beq b 2 then am_mx mi nxt L' S g t (fun x y => if y < x then y else x) else am_is mi pc L' S g t v a d) = some act at h
    cases h1 : Nat.beq b 1 with
    | true => exact (nopl (by show (Nat.beq b 1 || Nat.beq b 2) = true; rw [h1]; rfl)).elim
    | false =>
      cases h2 : Nat.beq b 2 with
      | true => exact (nopl (by show (Nat.beq b 1 || Nat.beq b 2) = true; rw [h2, Bool.or_true])).elim
      | false =>
        rw [h1, h2] at h
        obtain ⟨ml, as, r, rfl, hp, h3⟩ := am_is_inv h
        obtain ⟨_, _, ea⟩ := am_call_inv h3
        rcases hf with e | e <;> rw [e] at ea <;> cases ea
  | _ => exact (nopl rfl).elim
theorem am_metT {a : Nat} {as : List Value} {g g1 : am_G} {t t1 x k : Nat} (hlt : l.stackTraces = false) (hkd : am_kd a = 4) (hw : am_wt as ≤ am_maxL a) (hG : am_Gx xs Ln g) (hev : am_eval k (a, 0, am_args 0 as, [], g, t) = some (.inr x, g1, t1)) :
    MetFree l (am_y a) (headSpec (am_cw a) (am_rm4 a)) (va_Pc (as.map (am_cv ad)) (am_B4 xs Ln D cA ad A g)) (fun _ _ _ _ _ => True) (am_Qh xs Ln D cA ad A g1 x) := by
  obtain ⟨hM, h6, h88⟩ := am_okM_4 hkd
  unfold am_okM at hM
  simp only [Bool.and_eq_true, decide_eq_true_eq] at hM
  obtain ⟨⟨⟨⟨⟨m1, m2⟩, m3⟩, m4⟩, m5⟩, m6⟩ := hM
  refine MetFree.of_bodyS (code := am_bytes a) (maxLocals := am_maxL a) (ret := am_rt a) m3 ?_ ?_
  · intro args s m h hn
    obtain ⟨meth, c, h1, h2, h3, h4, h5, h6, -, -⟩ := Cond.code_spec hn (atoms_spec (ws := am_cw a) h _ List.mem_cons_self)
    exact ⟨meth, c, h1, h2, h3, h4, h5, h6⟩
  · intro p e s m args below meth c s₁ B hml hP _
    obtain ⟨rfl, ⟨hX, hPP, hD⟩, hXt⟩ := hP
    have hts := atoms_spec (ws := am_cw a) B.pre
    have hown := findClass_of_methodNamed B.named
    have X₀ : Stand p l e (am_rm4 a) s m (as.map (am_cv ad)).toArray below meth c s₁ [] 0 0 := Stand.of_body B
    have hh0 : s₁.heap = s.heap := by rw [B.state]; rfl
    have htab : c.exceptionTable.toList = [] := by
      obtain ⟨meth', c', h1, h2, -, -, -, -, h7, -⟩ := Cond.code_spec B.named (hts _ List.mem_cons_self)
      cases h1.symm.trans B.method
      cases h2.symm.trans X₀.code
      have h0 : c.exceptionTable.size = 0 := by simpa [Array.isEmpty] using h7
      exact List.eq_nil_of_length_eq_zero (by simpa using h0)
    have hWk : am_Wk p (am_rm4 a) s m (as.map (am_cv ad)).toArray c xs Ln D cA ad A a := ⟨B.exec, B.bytes, hml, hown, fun w hw => hts w (List.mem_cons_of_mem _ hw), hX, Nat.le_refl _, Nat.le_refl _⟩
    have K : am_PW p l e (am_rm4 a) s m (as.map (am_cv ad)).toArray below meth c 0 0 (fun t2 => ∃ adr, t2.status = .running ∧ Ended t2 below (.threw adr) ∧ am_Qh xs Ln D cA ad A g1 x (as.map (am_cv ad)).toArray s (.threw adr) t2) xs Ln D cA ad A (a, 0, am_args 0 as, [], g, t) := by
      refine am_walk k _ _ hev (by unfold am_wk; show (am_low a || Nat.beq (am_kd a) 4) = true; rw [hkd]; exact Bool.or_true _) p e (am_rm4 a) s m _ below meth c 0 0 _ hWk ⟨Nat.zero_le _, Nat.zero_le _⟩ (fun st' act e1 e2 e3 => ?_)
      obtain ⟨mi', pc', L', S', g', t'⟩ := st'
      cases e1
      intro H ls locs hR
      obtain ⟨n, nxt, kp, v, b, d, w, hc, rfl, rfl⟩ := am_fin_new e2 e3
      obtain ⟨ic, hsite⟩ := am_site_of hkd hc
      obtain ⟨hl, hP2, hD2, hS2, hG2⟩ := hR
      refine am_throwW (Q := fun t2 => ∃ adr, t2.status = .running ∧ Ended t2 below (.threw adr) ∧ am_Qh xs Ln D cA ad A g1 x (as.map (am_cv ad)).toArray s (.threw adr) t2) hlt B.exec B.bytes hown (fun w hw => hts w (List.mem_cons_of_mem _ hw)) hXt hS2 hsite htab (Nat.le_refl 1) (Nat.le_refl 6) h6 h88 (by rw [hl.1]; exact hml.symm) B.notSynchronized (fun t2 hq => ?_)
      obtain ⟨adr, ce, v1, v2, v3, v4, v5, v6, v7, v8, v9, v10⟩ := hq
      refine ⟨adr, v1, v2, adr, ce, locs, rfl, v3, v4, hS2.2.2, v5, v6, v7, ⟨hP2.kept (fun k q hk => v9 q.1 ((hP2 k q hk).lt)), hD2, hG2⟩, ⟨Nat.le_trans hS2.1 v8, fun q h1 h2 => ?_⟩⟩
      rw [v9 q (Nat.lt_of_lt_of_le h1 hS2.1)]
      exact hS2.2.1 q h1 h2
    have K2 := K s.heap ((lg_sl (as.map (am_cv ad)) ++ List.replicate (am_maxL a - (lg_sl (as.map (am_cv ad))).length) Slot.unset).toArray) [] ⟨by
      show lv_has _ _ (am_lc ad (am_args 0 as))
      rw [am_args_eq]
      exact lv_entry _ (by rw [am_sl_len]; exact hw), hPP, hD, ⟨Nat.le_refl _, fun _ _ _ => rfl, fun _ h => by cases h⟩, hG⟩
    obtain ⟨t2, a1, adr, b1, b2, b3⟩ := K2 s₁ hh0 X₀
    refine ⟨t2, .threw adr, ?_, b1, b2, b3⟩
    rw [lg_entry_eq]
    exact a1
end
end
section
section
variable {l : Launch} {xs : Nat → Int32} {Ln : Nat} {D : va_G} {cA : Nat → ClassId} {ad : Nat → Nat} {A : Nat → Prop}
theorem am_blind4 {av : List Value} {g : am_G} : FrameBlind (va_Pc av (am_B4 xs Ln D cA ad A g)) := fun a U gg mk q => ⟨q.1, ⟨am_X_moved (s := U) (U := U.calling gg mk a) q.2.1.1 (State.WarmedH.refl U) (Nat.le_refl _) (fun _ _ _ => rfl), q.2.1.2⟩, am_Xt_moved (s := U) (U := U.calling gg mk a) q.2.2 (State.WarmedH.refl U) (fun _ _ _ => rfl)⟩
theorem am_pre4 {s : State} {H : Heap} {locs : List Loc} {g : am_G} {av : List Value} (hX : am_X xs Ln D cA ad A s) (hXt : am_Xt A s) (hS : va_S A s.heap H locs) (hP : va_P D am_cl (am_ws ad cA g) H) (hD : va_D A (am_ws ad cA g)) : ∀ U : State, U.heap = H → s.WarmedH U.vm → va_Pc av (am_B4 xs Ln D cA ad A g) av.toArray U :=
  fun U hU hWm => ⟨rfl, ⟨am_X_moved hX hWm (by rw [hU]; exact hS.1) (fun q h1 h2 => by rw [hU]; exact hS.2.1 q h1 h2), by rw [hU]; exact hP, hD⟩, am_Xt_moved hXt hWm (fun q h1 h2 => by rw [hU]; exact hS.2.1 q h1 h2)⟩
set_option maxHeartbeats 1000000 in
theorem am_callT {p : Program} {e : Env} {R : Room} {s : State} {m : MethodId} {args : Array Value} {below : List Frame} {meth : Method} {c : Code} {cells slots : Nat} {Q : State → Prop} {mi pc a n d k x : Nat} {C : String} {as r0 S : List Value} {g g1 : am_G} {H : Heap} {ls : Array Slot} {locs : List Loc} {L' : am_L}
    (hW : am_Wk p R s m args c xs Ln D cA ad A mi) (hXt : am_Xt A s) (hcs : cells + 1 ≤ R.cells ∧ slots + 6 ≤ R.slots) (hdec : decode (am_bytes mi) pc = .ok (.invokevirtual n, 3))
    (hlink : (Cond.methodLink (am_own mi) n (am_y a)).before args s = true) (hokm : am_okM a = true) (hkd : am_kd a = 4) (hdes : (parseMethodDescriptor (am_y a).desc).map (fun q => q.parameters.length) = some d) (hfr : am_fr a + 1 ≤ R.frames) (hlo : 8 + (am_maxL a + 11) + am_lo a ≤ R.locals)
    (hS0 : S.map (am_cv ad) = (as.map (am_cv ad)).reverse ++ .ref (ad k) :: r0.map (am_cv ad)) (hlen : (as.map (am_cv ad)).length = d) (hr8 : am_wt r0 ≤ 8) (hrec : ∃ cell : Cell, H[ad k]? = some cell ∧ cell.vm.isStatics = false ∧ s.vm.findClass (am_own a) = some cell.cls)
    (hR : am_Rel xs Ln s D cA ad A mi L' g H ls locs)
    (hM : MetFree l (am_y a) (headSpec (am_cw a) (am_rm4 a)) (va_Pc ((Value.ref k :: as).map (am_cv ad)) (am_B4 xs Ln D cA ad A g)) (fun _ _ _ _ _ => True) (am_Qh xs Ln D cA ad A g1 x))
    {pre rest : List ExceptionTableEntry} {xe : ExceptionTableEntry} (htab : c.exceptionTable.toList = pre ++ xe :: rest) (cX : ClassId) (hcX : s.vm.findClass (am_ex x) = some cX) (hpre : ∀ y ∈ pre, am_cls s args (am_own mi) cX pc false y) (hxe : am_cls s args (am_own mi) cX pc true xe)
    (kk : ∀ (H1 : Heap) (locs1 : List Loc) (adr : Nat), am_Rel xs Ln s D cA ad A mi L' g1 H1 ls locs1 → W p l e R s m args below meth c H1 locs1 (cells + 1) (slots + 6) Q (F0 m xe.handlerPc ls [.ref adr])) :
    W p l e R s m args below meth c H locs cells slots Q (F0 m pc ls (S.map (am_cv ad))) := by
  obtain ⟨hx, hb, hml, hown, hts, hXX, hF, hLo⟩ := hW
  obtain ⟨hl, hP, hD, hS, hG⟩ := hR
  obtain ⟨cellB, hcB, hoB, hclB⟩ := hrec
  unfold am_okM at hokm
  rw [show Nat.beq (am_kd a) 1 = false by rw [hkd]; rfl] at hokm
  simp only [Bool.and_eq_true, decide_eq_true_eq, cond_false] at hokm
  obtain ⟨⟨⟨⟨⟨m1, m2⟩, m3⟩, m4⟩, m5⟩, m6, m7⟩ := hokm
  have hcode : (Cond.code (am_y a) (am_bytes a) (am_maxL a) (am_rt a)).before args s = true := hts _ (am_word_in m1)
  have hini : (Cond.initialized (am_own a)).before args s = true := hts _ (am_word_in m2)
  intro T hT X
  obtain ⟨mk, methM, hnamed, hmethM, hstM, habM⟩ := Cond.instanceMethod_spec (hts _ (am_word_in m6))
  obtain ⟨methM', cM, hmethM', hcodeM, -, hlM, -, -, -, hsigM⟩ := Cond.code_spec hnamed hcode
  cases hmethM.symm.trans hmethM'
  obtain ⟨c2, r2, m2', q1, q2, q3, q4, kP, hkP, hkPi⟩ := Cond.selects_spec (hts _ (am_word_in m7))
  cases hclB.symm.trans q1
  cases (State.methodFound?_of_named hnamed ⟨m4, m5⟩).symm.trans q2
  cases hnamed.symm.trans q3
  have hselP : selectMethod e.platform s.vm cellB.cls mk = .method mk := by rw [Launch.admits_selectMethod X.admits]; exact q4
  have hdes' : (as.map (am_cv ad)).length = methM.sig.parameters.length := by
    rw [hlen]
    rw [hsigM] at hdes
    exact (Option.some.inj hdes).symm
  obtain ⟨vm₁, X₁, hstep₁⟩ := X.invokevirtual hx hown hlink hnamed hmethM hstM hkP hkPi ⟨m4, m5⟩ (a := ad k) (cell := cellB) (by rw [hT]; exact hcB)
    (fun z h => by rw [h] at hoB; cases hoB) hselP hmethM habM hkP hkPi (g := F0 m pc ls (S.map (am_cv ad))) rfl (argsL := as.map (am_cv ad)) (rest := r0.map (am_cv ad)) hdes' hS0 (by rw [hb]; exact hdec)
  have h : At (T.setVm vm₁) m c below := X₁.here
  have hn : (T.setVm vm₁).methodNamed? (am_y a) = some mk := X₁.named hnamed
  obtain ⟨kY, hkY, -⟩ := className_of_methodNamed hn
  have hws : ∀ w ∈ am_cw a, ∀ (a' : Array Value), w.before a' (T.setVm vm₁) = true := fun w hw a' => word_at X₁.warmed (am_good_cw m1 w hw).2 ((List.mem_cons.mp hw).elim (fun z => by rw [z]; exact hcode) (fun z => hts w z))
  have hinitY : kY.init = .initialized := Cond.initialized_spec (args := args) (findClass_of_methodNamed hn) hkY (hws _ (List.mem_cons_of_mem _ (am_word_in m2)) args)
  have hmY : (T.setVm vm₁).vm.method? mk = some methM := by rw [X₁.warmed.alike.method?]; exact hmethM
  have happ : (headSpec (am_cw a) (am_rm4 a)).appliesLoose (am_y a) e.platform ((T.setVm vm₁).calling (F0 m pc ls (r0.map (am_cv ad))) mk (Value.ref (ad k) :: as.map (am_cv ad)).toArray) = true :=
    Spec.appliesLoose_calling (g := F0 m pc ls (r0.map (am_cv ad))) h (by rw [hb]; exact hdec) hn hkY hinitY
      (X₁.room_calling (g := F0 m pc ls (r0.map (am_cv ad))) (R' := am_rm4 a) (by show ls.size = c.maxLocals; rw [hl.1, hml]) hmY hcodeM hfr (by
        rw [hlM]
        have := lv_room (m := m) (pc := pc) (ls := ls) (rest := r0.map (am_cv ad)) (st := r0.map (am_cv ad)) (by rw [am_wt_cat]; exact hr8)
        show 2 * (F0 m pc ls (r0.map (am_cv ad))).monitorRoom + ((r0.map (am_cv ad)).map fun v => v.category).sum + (am_maxL a + 11) + am_lo a ≤ R.locals
        omega) hcs.1 hcs.2) (atoms_intro (fun w hw => hws w hw _))
  obtain ⟨mid, hmid⟩ := h.above
  have hfr2 : ((T.setVm vm₁).setTop (F0 m pc ls (r0.map (am_cv ad)))).frames = (.java (F0 m pc ls (r0.map (am_cv ad))) :: mid) ++ below := by rw [State.frames_setTop' _ h.top, hmid]; rfl
  obtain ⟨o, s₂, hsteps, -, hend, hq⟩ := Steps.callFree hM p X₁.admits X₁.cas X₁.clock (acts := []) hfr2 happ (am_blind4 _ _ _ _ (am_pre4 hXX hXt hS hP hD (T.setVm vm₁) hT X₁.warmed)) trivial
  have hq' : am_Qh xs Ln D cA ad A g1 x (Value.ref (ad k) :: as.map (am_cv ad)).toArray ((T.setVm vm₁).calling (F0 m pc ls (r0.map (am_cv ad))) mk (Value.ref (ad k) :: as.map (am_cv ad)).toArray) o s₂ := hq
  obtain ⟨adr, ce, L, rfl, hW₂, hsame0, hLA, hce, hcls, hcevm, ⟨y1, y2, y3⟩, hFz, hFq⟩ := hq'
  rw [State.frames_setTop' _ h.top] at hend
  have hf₂ : s₂.frames = .throwing adr :: .java (F0 m pc ls (r0.map (am_cv ad))) :: (T.setVm vm₁).frames.tail := hend
  have hW' : (T.setVm vm₁).WarmedH s₂.vm := hW₂
  obtain ⟨e2, z2, z3, z4, z5, z6⟩ := hsame0
  have e3 : s₂ = ({ ((T.setVm vm₁).calling (F0 m pc ls (r0.map (am_cv ad))) mk (Value.ref (ad k) :: as.map (am_cv ad)).toArray).setFrames s₂.frames with heap := s₂.heap, slotsUsed := s₂.slotsUsed } : State).setVm s₂.vm := by
    have : s₂ = ({ s₂ with vm := ((T.setVm vm₁).calling (F0 m pc ls (r0.map (am_cv ad))) mk (Value.ref (ad k) :: as.map (am_cv ad)).toArray).vm } : State).setVm s₂.vm := rfl
    rw [e2] at this
    exact this
  obtain ⟨g₀, hg0⟩ := Option.isSome_iff_exists.mp h.top
  obtain ⟨r, hr⟩ := State.topJava?_eq_some.mp hg0
  have hsame : (T.setVm vm₁).sameButNew ({ (T.setVm vm₁) with heap := s₂.heap, slotsUsed := s₂.slotsUsed } : State) L 1 6 := by
    refine ⟨?_, z2, z3, z4, z5, z6⟩
    obtain ⟨t, ht, -⟩ := State.frames_cons hr
    show ({ (T.setVm vm₁) with heap := s₂.heap, slotsUsed := s₂.slotsUsed } : State) = { (T.setVm vm₁).setFrames (T.setVm vm₁).frames with heap := s₂.heap, slotsUsed := s₂.slotsUsed }
    rw [State.setFrames_self ht]
  have X₂ : Stand p l e R s m args below meth c (({ (T.setVm vm₁) with heap := s₂.heap, slotsUsed := s₂.slotsUsed } : State).setVm s₂.vm) (locs ++ L) (cells + 1) (slots + 6) :=
    ⟨X₁.admits, X₁.cas, X₁.clock, X₁.frames, X₁.room, X₁.hears, X₁.method, X₁.code, (X₁.here.setHeapUsed s₂.heap s₂.slotsUsed).setVm hW'.alike, X₁.tail, State.WarmedH.trans X₁.warmed hW', X₁.limits, X₁.bytes, X₁.same.trans (hsame.setVm s.vm)⟩
  have hs₂ : s₂ = ((({ (T.setVm vm₁) with heap := s₂.heap, slotsUsed := s₂.slotsUsed } : State).setVm s₂.vm).setTop (F0 m pc ls (r0.map (am_cv ad)))).pushFrame (.throwing adr) := by
    have hr' : (({ (T.setVm vm₁) with heap := s₂.heap, slotsUsed := s₂.slotsUsed } : State).setVm s₂.vm).frames = .java g₀ :: r := hr
    refine e3.trans ?_
    rw [hf₂, State.calling_eq h.top, State.setFrames_setFrames, State.pushFrame, State.frames_setTop _ hr', State.setTop_of_frames _ hr', State.setFrames_setFrames, hr]
    rfl
  have hcls2 : ce.cls = cX := by
    have : ((T.setVm vm₁).calling (F0 m pc ls (r0.map (am_cv ad))) mk (Value.ref (ad k) :: as.map (am_cv ad)).toArray).vm.findClass (am_ex x) = some ce.cls := hcls
    have h2 : (T.setVm vm₁).vm.findClass (am_ex x) = some ce.cls := this
    rw [X₁.warmed.alike.findClass, hcX] at h2
    exact (Option.some.inj h2).symm
  obtain ⟨kX, hkX⟩ := Vm.classAt_of_findClass hcX
  rw [← hcls2] at hkX hpre hxe
  obtain ⟨vm₃, X₃, hst₃⟩ := am_taken (own := am_own mi) (g := F0 m pc ls (r0.map (am_cv ad))) (a := adr) (cell := ce) X₂ hown rfl (fun z hz => by rw [hcevm] at hz; cases hz) hkX hce htab hpre hxe
  obtain ⟨t, w1, w2⟩ := kk s₂.heap (locs ++ L) adr ⟨hl, y1, y2, ⟨Nat.le_trans hS.1 (by rw [← hT]; exact hFz), fun q h1 h2 => by
    have h3 : q < T.heap.size := by rw [hT]; exact Nat.lt_of_lt_of_le h1 hS.1
    rw [hFq q h3 h2]
    show T.heap[q]? = s.heap[q]?
    rw [hT]
    exact hS.2.1 q h1 h2, fun q hq => (List.mem_append.mp hq).elim (hS.2.2 q) (hLA q)⟩, y3⟩ ((({ (T.setVm vm₁) with heap := s₂.heap, slotsUsed := s₂.slotsUsed } : State).setVm s₂.vm).setVm vm₃) rfl X₃
  refine ⟨t, hstep₁ t (fun acts => ?_), w2⟩
  rw [doInvoke_state]
  refine hsteps.trans ?_
  rw [hs₂]
  exact hst₃ t w1
end
end
section
theorem am_ev_nx {k : Nat} {st s1 : am_S} {r : am_R} (h : am_eval k st = some r) (hs : am_step st = some (.inl s1)) : ∃ k', am_eval k' s1 = some r := by
  cases k with
  | zero => cases h
  | succ k =>
    rw [am_eval, hs] at h
    exact ⟨k, h⟩
theorem am_ev_ck {k : Nat} {st s1 : am_S} {r : am_R} {b : Bool} (h : am_eval k st = some r) (hs : am_step st = some (.inr (.inl (b, s1)))) : b = true ∧ ∃ k', am_eval k' s1 = some r := by
  cases k with
  | zero => cases h
  | succ k =>
    rw [am_eval, hs] at h
    cases b with
    | false => cases h
    | true => exact ⟨rfl, k, h⟩
theorem am_ev_en {k : Nat} {st : am_S} {r r' : am_R} (h : am_eval k st = some r) (hs : am_step st = some (.inr (.inr (.inr (.inl r'))))) : r' = r := by
  cases k with
  | zero => cases h
  | succ k =>
    rw [am_eval, hs] at h
    exact Option.some.inj h
theorem am_ev_ca {k : Nat} {st e0 rs : am_S} {r : am_R} (h : am_eval k st = some r) (hs : am_step st = some (.inr (.inr (.inr (.inr (.inr (.inl (e0, rs)))))))) : ∃ k' r1 s1, am_eval k' e0 = some r1 ∧ am_cont rs r1 = some s1 ∧ am_eval k' s1 = some r := by
  cases k with
  | zero => cases h
  | succ k =>
    rw [am_eval, hs] at h
    dsimp only at h
    cases h1 : am_eval k e0 with
    | none => rw [h1] at h; cases h
    | some r1 =>
      rw [h1] at h
      dsimp only at h
      cases h2 : am_cont rs r1 with
      | none => rw [h2] at h; cases h
      | some s1 =>
        rw [h2] at h
        exact ⟨k, r1, s1, h1, h2, h⟩
theorem am_ev_no {k : Nat} {st : am_S} {r : am_R} (h : am_eval k st = some r) (hs : am_step st = none) : False := by
  cases k with
  | zero => cases h
  | succ k =>
    rw [am_eval, hs] at h
    cases h
def am_isPl (mi pc : Nat) : Bool := match am_code mi pc with
  | some (i, _, _, _, _, b, _, _) => am_plain i b
  | none => false
section
variable {l : Launch} {xs : Nat → Int32} {Ln : Nat} {D : va_G} {cA : Nat → ClassId} {ad : Nat → Nat} {A : Nat → Prop}
variable {p : Program} {e : Env} {R : Room} {s : State} {m : MethodId} {args : Array Value} {below : List Frame} {meth : Method} {c : Code} {cells slots : Nat} {Q : State → Prop}
theorem am_PW_st {mi pc : Nat} {L : am_L} {S : List Value} {g : am_G} {t : Nat} {act : am_A} (hW : am_Wk p R s m args c xs Ln D cA ad A mi) (hcs : cells ≤ R.cells ∧ slots ≤ R.slots) (hpl : am_isPl mi pc = true) (hs : am_step (mi, pc, L, S, g, t) = some act) (hk : am_Kn (am_PW p l e R s m args below meth c cells slots Q xs Ln D cA ad A) act) :
    am_PW p l e R s m args below meth c cells slots Q xs Ln D cA ad A (mi, pc, L, S, g, t) := by
  obtain ⟨i, nxt, kp, v, a, b, d, w, L', hc, hsub, hdo⟩ := am_step_inv hs
  obtain ⟨len, hdec, hok⟩ := am_code_dec hc
  unfold am_isPl at hpl
  rw [hc] at hpl
  exact fun H ls locs hR => am_do_sound hW hcs hdec hok hpl hdo hk (am_Rel_sub hR hsub)
theorem am_PW_wide {st : am_S} {k n : Nat} (h1 : cells ≤ k) (h2 : slots ≤ n) (h : am_PW p l e R s m args below meth c k n Q xs Ln D cA ad A st) : am_PW p l e R s m args below meth c cells slots Q xs Ln D cA ad A st :=
  fun H ls locs hR => W.widen h1 h2 (h H ls locs hR)
theorem am_PW_tail {mi pc z : Nat} {L : am_L} {g : am_G} {t : Nat} (hW : am_Wk p R s m args c xs Ln D cA ad A mi) (hcs : 1 ≤ R.cells ∧ 6 ≤ R.slots) (hret : meth.sig.returnType = am_rt mi) (hlocks : meth.locks = false)
    (hpl : am_isPl mi pc = true) (h1 : am_step (mi, pc, L, [], g, t) = some (.inl (mi, pc + 1, L, [.int (Int32.ofNat z)], g, t))) (h2 : am_step (mi, pc + 1, L, [.int (Int32.ofNat z)], g, t) = some (.inr (.inr (.inr (.inl (.inl (some (.int (Int32.ofNat z))), g, t + 1)))))) :
    am_PW p l e R s m args below meth c 1 6 (MQ below (am_Qm xs Ln D cA ad A g (some (.int (Int32.ofNat z)))) args s 1 6 A) xs Ln D cA ad A (mi, pc, L, [], g, t) :=
  am_PW_st hW hcs hpl h1 (am_fin_sound (t1 := t + 1) hW hret hlocks h2 (Or.inl rfl))
theorem am_met4 {a : Nat} {as : List Value} {g g1 : am_G} {t t1 k : Nat} {vo : Option Value} (hkd : am_kd a = 4) (hw : am_wt as ≤ am_maxL a) (hG : am_Gx xs Ln g) (hev : am_eval k (a, 0, am_args 0 as, [], g, t) = some (.inl vo, g1, t1)) :
    Met l (am_y a) (am_cw a) (am_rm a) (va_Pc (as.map (am_cv ad)) (am_B xs Ln D cA ad A g)) (am_Qm xs Ln D cA ad A g1 vo) 0 0 A := by
  obtain ⟨hM, h6, h88⟩ := am_okM_4 hkd
  unfold am_okM at hM
  simp only [Bool.and_eq_true, decide_eq_true_eq] at hM
  obtain ⟨⟨⟨⟨⟨h1, h2⟩, h3⟩, h4⟩, h5⟩, h6⟩ := hM
  refine Met.ofW h3 rfl (fun p e s m args below meth c s₁ B hml hPc => ?_)
  obtain ⟨rfl, hX, hP, hD⟩ := hPc
  have hts := atoms_spec (ws := am_cw a) B.pre
  have hown := findClass_of_methodNamed B.named
  have hWk : am_Wk p (headSpec (am_cw a) (am_rm a)).room s m (as.map (am_cv ad)).toArray c xs Ln D cA ad A a := ⟨B.exec, B.bytes, hml, hown, fun w hw => hts w (List.mem_cons_of_mem _ hw), hX, Nat.le_refl _, Nat.le_refl _⟩
  rw [lg_entry_eq]
  refine am_walk k _ _ hev (by unfold am_wk; show (am_low a || Nat.beq (am_kd a) 4) = true; rw [hkd]; exact Bool.or_true _) p e _ s m _ below meth c 0 0 _ hWk ⟨Nat.zero_le _, Nat.zero_le _⟩ (fun st' act e1 e2 e3 => ?_) s.heap _ [] ⟨?_, hP, hD, ⟨Nat.le_refl _, fun _ _ _ => rfl, fun _ h => by cases h⟩, hG⟩
  · obtain ⟨mi', pc', L', S', g', t'⟩ := st'
    cases e1
    exact am_fin_sound hWk B.returns B.notSynchronized e2 e3
  · show lv_has _ _ (am_lc ad (am_args 0 as))
    rw [am_args_eq]
    exact lv_entry _ (by rw [am_sl_len]; exact hw)
theorem am_ok4 {mi pc n len nxt a b d w : Nat} {v : Value} (hk3 : am_kd mi = 3) (hok : am_okI mi pc (.invokevirtual n) len nxt v a b d w = true) : len = 3 ∧ am_word w (.methodLink (am_own mi) n (am_y a)) = true ∧ v = .ref (am_maxL a) ∧ (parseMethodDescriptor (am_y a).desc).map (fun q => q.parameters.length) = some d ∧ am_fr a + 1 ≤ am_fr mi ∧ 8 + (am_maxL a + 11) + am_lo a ≤ am_lo mi ∧ am_kd a = 4 ∧ ∃ T N, am_nth am_cl b = some (am_own a, T, N) := by
  cases hcl : am_nth am_cl b with
  | none => simp [am_okI, hcl] at hok
  | some q =>
    obtain ⟨C, T, N⟩ := q
    have e3 : Nat.beq (am_kd mi) 3 = true := by rw [hk3]; rfl
    simp only [am_okI, hcl, e3, am_callok, cond_true, Bool.and_eq_true, decide_eq_true_eq] at hok
    obtain ⟨⟨rfl, rfl⟩, ⟨⟨hl1, ⟨⟨hl2, hl3⟩, hl4⟩, hl5⟩, hl6⟩, hl7⟩ := hok
    exact ⟨rfl, hl1, hl2, hl3, hl4, hl5, Nat.eq_of_beq_eq_true hl7, T, N, by rw [← hl6]⟩
theorem am_call4 {mi pc n len nxt a b d w k : Nat} {v : Value} {L' : am_L} {S as r0 : List Value} {fs : List (Option Nat)} {g g1 : am_G} {vo : Option Value}
    (hW : am_Wk p R s m args c xs Ln D cA ad A mi) (hcs : cells ≤ R.cells ∧ slots ≤ R.slots) (hk3 : am_kd mi = 3) (hdec : decode (am_bytes mi) pc = .ok (.invokevirtual n, len)) (hok : am_okI mi pc (.invokevirtual n) len nxt v a b d w = true)
    (hpop : am_pop d S [] = some (as, .ref k :: r0)) (ho : am_ob k = some (.inr (b, fs))) (hr8 : am_wt r0 ≤ 8) {H : Heap} {ls : Array Slot} {locs : List Loc} (hR : am_Rel xs Ln s D cA ad A mi L' g H ls locs)
    (hM : Met l (am_y a) (am_cw a) (am_rm a) (va_Pc ((Value.ref k :: as).map (am_cv ad)) (am_B xs Ln D cA ad A g)) (am_Qm xs Ln D cA ad A g1 vo) 0 0 A)
    (kk : ∀ (H1 : Heap) (locs1 : List Loc), am_Rel xs Ln s D cA ad A mi L' g1 H1 ls locs1 → W p l e R s m args below meth c H1 locs1 cells slots Q (F0 m (pc + 3) ls ((vo.toList ++ r0).map (am_cv ad)))) :
    W p l e R s m args below meth c H locs cells slots Q (F0 m pc ls (S.map (am_cv ad))) := by
  obtain ⟨hx, hb, hml, hown, hts, hXX, hF, hLo⟩ := hW
  obtain ⟨hl, hP, hD, hS, hG⟩ := hR
  obtain ⟨rfl, hl1, hl2, hl3, hl4, hl5, hkd, T, N, hcl⟩ := am_ok4 hk3 hok
  obtain ⟨hokm, -, -⟩ := am_okM_4 hkd
  unfold am_okM at hokm
  rw [show Nat.beq (am_kd a) 1 = false by rw [hkd]; rfl] at hokm
  simp only [Bool.and_eq_true, decide_eq_true_eq, cond_false] at hokm
  obtain ⟨⟨⟨⟨⟨m1, m2⟩, m3⟩, m4⟩, m5⟩, m6, m7⟩ := hokm
  obtain ⟨ys, y1, y2, y3⟩ := am_pop_spec d S [] as _ hpop
  rw [List.append_nil] at y2
  have hc : am_cl[b]? = some (am_own a, T, N) := by rw [← am_nth_get]; exact hcl
  have hcw : CallW R s args (am_own mi) (am_own a) n (am_y a) (am_bytes a) (am_maxL a) (am_rt a) (am_cw a) (am_rm a) 0 0 d :=
    ⟨callB_of d hts (am_good_cw m1) rfl rfl rfl (hts _ (am_word_in m2)) (hts _ (am_word_in hl1)) ⟨m4, m5, hl3⟩ ⟨by show am_fr a + 1 ≤ R.frames; omega, by show 8 + (am_maxL a + 11) + am_lo a ≤ R.locals; omega⟩, hts _ (am_word_in m6), hts _ (am_word_in m7)⟩
  have hrec := va_recv hXX.1 hP hc (am_ob_get ho).2
  refine am_callr (vv := vo.map (am_cv ad)) (B := am_Bq xs Ln D cA ad A g1) (rest := r0.map (am_cv ad)) (va_runV (As := as.map (am_cv ad)) (b := ad k) (Ts := am_WG) ⟨hx, hb, hml, hown, hts⟩ hM hcw ⟨am_blind, hrec, am_pre_any hXX hS hP hD⟩ rfl ?_ hl.1 ?_ (lv_room (by rw [am_wt_cat]; exact hr8)) hdec hcs) hS (fun t2 H1 locs1 e1 hB hS1 => ?_)
  · rw [List.length_map, y2, List.length_reverse]; exact y3
  · show S.map (am_cv ad) = (as.map (am_cv ad)).reverse ++ .ref (ad k) :: r0.map (am_cv ad)
    rw [y1, y2, List.map_append, List.map_reverse, List.reverse_reverse]; rfl
  · obtain ⟨q1, q2, q3⟩ := hB
    rw [am_map_app]
    exact kk H1 locs1 ⟨hl, by rw [← e1]; exact q1, q2, hS1, q3⟩
end
end
section
def am_nks : List (String × String) := [(am_ex 1, am_ex 0), (am_ex 2, am_ex 0), (am_ex 2, am_ex 1), (am_ex 1, am_ex 3), (am_ex 4, am_ex 3), (am_ex 4, am_ex 1), (am_ex 5, am_ex 3), (am_ex 5, am_ex 1), (am_ex 5, am_ex 4)]
def am_Nk (s : State) : Prop := ∀ q ∈ am_nks, va_Nc q.1 q.2 s
theorem am_Nk_moved {s U : State} (h : am_Nk s) (hW : s.WarmedH U.vm) : am_Nk U := fun q hq => va_Nc.moved hW.alike (h q hq)
def am_B5 (xs : Nat → Int32) (Ln : Nat) (D : va_G) (cA : Nat → ClassId) (ad : Nat → Nat) (A : Nat → Prop) (g : am_G) (U : State) : Prop := am_B4 xs Ln D cA ad A g U ∧ am_Nk U
def am_cw3 (a : Nat) (hh : List (Nat × Nat × Nat × Nat)) : List Cond := Cond.codeWith (am_y a) (am_bytes a) (am_maxL a) (am_rt a) hh :: am_WG
def am_hh91 : List (Nat × Nat × Nat × Nat) := [(0, 8, 11, 13), (0, 8, 14, 15), (0, 8, 17, 17)]
def am_hh90 : List (Nat × Nat × Nat × Nat) := [(0, 9, 12, 23), (0, 9, 15, 15), (0, 9, 18, 25), (0, 9, 21, 27)]
theorem am_castx : (List.range 6).all (fun x => decide (Cond.castable (am_ex x) (am_ex x) ∈ lw_tbl)) = true := by decide +kernel
def am_clB2 (q : Nat × Nat) : Bool := decide (Cond.classLink "RebuildDeskLaw" q.1 (am_ex q.2) ∈ lw_tbl)
theorem am_clx : [(13, 0), (15, 1), (17, 2), (23, 3), (25, 4), (27, 5)].all am_clB2 = true := by decide +kernel
theorem am_cl_in {ct x : Nat} (h : (ct, x) ∈ [(13, 0), (15, 1), (17, 2), (23, 3), (25, 4), (27, 5)]) : Cond.classLink "RebuildDeskLaw" ct (am_ex x) ∈ am_WG := by
  have := List.all_eq_true.mp am_clx _ h
  exact List.mem_filter.mpr ⟨of_decide_eq_true this, rfl⟩
theorem am_own9 : am_own 90 = "RebuildDeskLaw" ∧ am_own 91 = "RebuildDeskLaw" := by decide +kernel
theorem am_find_ex {A : Nat → Prop} {s : State} (hXt : am_Xt A s) {x : Nat} (hx : x < 6) : ∃ cX, s.vm.findClass (am_ex x) = some cX ∧ s.vm.assignable cX cX = true := by
  have h1 := of_decide_eq_true (List.all_eq_true.mp am_castx x (List.mem_range.mpr hx))
  obtain ⟨c, t, h2, h3, h4⟩ := Cond.castable_spec (va_Nw.use (A := #[]) rfl (hXt.2.2 _ h1 rfl))
  cases h2.symm.trans h3
  exact ⟨c, h2, h4⟩
theorem am_cls_f {s : State} {args : Array Value} {own : String} {y : ExceptionTableEntry} {pc x z ct : Nat} {cX : ClassId} (hts : ∀ w ∈ am_WG, w.before args s = true) (hN : am_Nk s) (h1 : y.startPc ≤ pc) (h2 : pc < y.endPc) (hct : y.catchType = ct) (h0 : ct ≠ 0) (hown : own = "RebuildDeskLaw") (hw : (ct, z) ∈ [(13, 0), (15, 1), (17, 2), (23, 3), (25, 4), (27, 5)]) (hcX : s.vm.findClass (am_ex x) = some cX) (hq : (am_ex x, am_ex z) ∈ am_nks) : am_cls s args own cX pc false y := by
  obtain ⟨c, t, a1, a2, a3⟩ := hN _ hq
  cases hcX.symm.trans a1
  subst hct
  subst hown
  exact ⟨by simp [covers, h1, h2], h0, am_ex z, t, hts _ (am_cl_in hw), a2, a3⟩
theorem am_cls_t {s : State} {args : Array Value} {own : String} {y : ExceptionTableEntry} {pc x ct : Nat} {cX : ClassId} (hts : ∀ w ∈ am_WG, w.before args s = true) (h1 : y.startPc ≤ pc) (h2 : pc < y.endPc) (hct : y.catchType = ct) (h0 : ct ≠ 0) (hown : own = "RebuildDeskLaw") (hw : (ct, x) ∈ [(13, 0), (15, 1), (17, 2), (23, 3), (25, 4), (27, 5)]) (hcX : s.vm.findClass (am_ex x) = some cX) (has : s.vm.assignable cX cX = true) : am_cls s args own cX pc true y := by
  subst hct
  subst hown
  exact ⟨by simp [covers, h1, h2], h0, am_ex x, cX, hts _ (am_cl_in hw), hcX, has⟩
theorem am_put_away {p : Program} {l : Launch} {e : Env} {R : Room} {s : State} {m : MethodId} {args : Array Value} {below : List Frame} {meth : Method} {c : Code} {cells slots : Nat} {Q : State → Prop} {xs : Nat → Int32} {Ln : Nat} {D : va_G} {cA : Nat → ClassId} {ad : Nat → Nat} {A : Nat → Prop} {mi pc i adr : Nat} {j : Fin 4} {L : am_L} {g : am_G} {t : Nat}
    (hW : am_Wk p R s m args c xs Ln D cA ad A mi) (hdec : decode (am_bytes mi) pc = .ok (.astore_n j, 1)) (hj : (j : Nat) = i) (hi : i < am_maxL mi) (hL : ∀ q ∈ L, q.1 + 2 ≤ i + 1) {H : Heap} {ls : Array Slot} {locs : List Loc} (hR : am_Rel xs Ln s D cA ad A mi L g H ls locs) (hone : ∀ q ∈ L, q.2.category = 1)
    (kk : am_PW p l e R s m args below meth c cells slots Q xs Ln D cA ad A (mi, pc + 1, L, [], g, t)) : W p l e R s m args below meth c H locs cells slots Q (F0 m pc ls [.ref adr]) := by
  obtain ⟨hx, hb, hml, hown, hts, hXX, hF, hLo⟩ := hW
  obtain ⟨hl, hP, hD, hS, hG⟩ := hR
  refine lv_astore_n hx hb hdec hj hl hi rfl (fun ls' hl' => ?_)
  refine kk H ls' locs ⟨am_lsub hl' (fun q hq => ?_), hP, hD, hS, hG⟩
  obtain ⟨q0, h0, rfl⟩ := List.mem_map.mp hq
  refine List.mem_cons_of_mem _ (List.mem_filter.mpr ⟨hq, ?_⟩)
  have h1 := hL q0 h0
  have h2 := hone q0 h0
  simp only [am_cat, h2]
  have h3 : ¬ q0.1 = i := by omega
  simp [h3]
section
variable {l : Launch} {xs : Nat → Int32} {Ln : Nat} {D : va_G} {cA : Nat → ClassId} {ad : Nat → Nat} {A : Nat → Prop}
set_option maxHeartbeats 1000000 in
theorem am_met91 {g g2 : am_G} {t t2 k : Nat} {v : Value} (hlt : l.stackTraces = false) (hG : am_Gx xs Ln g) (hev : am_eval k (91, 0, [(0, .ref 8), (1, .ref 53)], [], g, t) = some (.inl (some v), g2, t2)) :
    Met l (am_y 91) (am_cw3 91 am_hh91) (am_rm4 91) (va_Pc (([.ref 8, .ref 53] : List Value).map (am_cv ad)) (am_B5 xs Ln D cA ad A g)) (am_Qm xs Ln D cA ad A g2 (some v)) 1 6 A := by
  have hkd : am_kd 91 = 3 := by decide +kernel
  have hkd4 : am_kd 12 = 4 := by decide +kernel
  obtain ⟨k0, h0⟩ := am_ev_nx (s1 := (91, 1, [(0, .ref 8), (1, .ref 53)], [.ref 53], g, t)) hev rfl
  obtain ⟨k1, h1⟩ := am_ev_nx (s1 := (91, 2, [(0, .ref 8), (1, .ref 53)], [.int 0, .ref 53], g, t)) h0 rfl
  obtain ⟨k2, h2⟩ := am_ev_nx (s1 := (91, 3, [(0, .ref 8), (1, .ref 53)], [.ref 8, .int 0, .ref 53], g, t)) h1 rfl
  obtain ⟨k9, r1, s1, hcal, hcont, hrest⟩ := am_ev_ca (e0 := (12, 0, am_args 0 [.ref 8], [], g, t)) (rs := (91, 3, [(0, .ref 8), (1, .ref 53)], [.int 0, .ref 53], g, t)) h2 rfl
  have hdecT : ∀ q i len, decode (am_bytes 91) q = .ok (i, len) → decode (am_bytes 91) q = .ok (i, len) := fun _ _ _ h => h
  refine va_MetW (hh := am_hh91) (by decide +kernel) rfl (fun p e s m args0 below meth c s₁ B hml hPc => ?_)
  obtain ⟨rfl, ⟨⟨hX, hP, hD⟩, hXt⟩, hNk⟩ := hPc
  have hts0 := atoms_spec (ws := am_cw3 91 am_hh91) B.pre
  have hts : ∀ w ∈ am_WG, w.before (([.ref 8, .ref 53] : List Value).map (am_cv ad)).toArray s = true := fun w hw => hts0 w (List.mem_cons_of_mem _ hw)
  have hown := findClass_of_methodNamed B.named
  have hWk : am_Wk p (am_rm4 91) s m (([.ref 8, .ref 53] : List Value).map (am_cv ad)).toArray c xs Ln D cA ad A 91 := ⟨B.exec, B.bytes, hml, hown, hts, hX, Nat.le_refl _, Nat.le_refl _⟩
  have hret := B.returns
  have hlocks := B.notSynchronized
  have hcs0 : (0 : Nat) ≤ (am_rm4 91).cells ∧ (0 : Nat) ≤ (am_rm4 91).slots := ⟨Nat.zero_le _, Nat.zero_le _⟩
  have hcs1 : (1 : Nat) ≤ (am_rm4 91).cells ∧ (6 : Nat) ≤ (am_rm4 91).slots := ⟨Nat.le_refl _, Nat.le_refl _⟩
  show W p l e (am_rm4 91) s m _ below meth c s.heap [] 0 0 _ _
  rw [lg_entry_eq]
  have main : am_PW p l e (am_rm4 91) s m (([.ref 8, .ref 53] : List Value).map (am_cv ad)).toArray below meth c 0 0 (MQ below (am_Qm xs Ln D cA ad A g2 (some v)) (([.ref 8, .ref 53] : List Value).map (am_cv ad)).toArray s 1 6 A) xs Ln D cA ad A (91, 3, [(0, .ref 8), (1, .ref 53)], [.ref 8, .int 0, .ref 53], g, t) := by
    intro H ls locs hR
    obtain ⟨len, hdec, hok⟩ := am_code_dec (mi := 91) (pc := 3) rfl
    obtain ⟨o1, g1, t1⟩ := r1
    rcases o1 with vo | x
    · cases vo with
      | none =>
        cases Option.some.inj hcont
        obtain ⟨k10, h10⟩ := am_ev_nx hrest rfl
        exact (am_ev_no h10 rfl).elim
      | some v1 =>
        cases Option.some.inj hcont
        cases v1 with
        | int z =>
          obtain ⟨k10, h10⟩ := am_ev_nx hrest rfl
          obtain ⟨hck, k11, h11⟩ := am_ev_ck h10 rfl
          obtain ⟨k12, h12⟩ := am_ev_nx h11 rfl
          obtain ⟨k13, h13⟩ := am_ev_nx h12 rfl
          have hfin := am_ev_en h13 rfl
          simp only [Prod.mk.injEq, Sum.inl.injEq, Option.some.injEq] at hfin
          obtain ⟨rfl, rfl, rfl⟩ := hfin
          refine am_call4 (as := []) (r0 := [.int 0, .ref 53]) (k := 8) (vo := some (.int z)) (g1 := g1) hWk hcs0 hkd hdec hok rfl rfl (by decide) hR (am_met4 (as := .ref 8 :: []) hkd4 (by show 1 ≤ am_maxL 12; decide +kernel) hG hcal) (fun H1 locs1 hR1 => ?_)
          refine am_PW_wide (Nat.zero_le 1) (Nat.zero_le 6) ?_ H1 ls locs1 hR1 (st := (91, 6, [(0, .ref 8), (1, .ref 53)], .int z :: [.int 0, .ref 53], g1, t1))
          refine am_PW_st hWk hcs1 rfl rfl ?_
          refine am_PW_st hWk hcs1 rfl rfl ⟨hck, ?_⟩
          refine am_PW_st hWk hcs1 rfl rfl ?_
          exact am_PW_tail (z := 0) hWk hcs1 hret hlocks rfl rfl rfl
        | _ => exact (am_ev_no hrest rfl).elim
    · have htab : c.exceptionTable.toList.map (fun h => (h.startPc, h.endPc, h.handlerPc, h.catchType)) = am_hh91 := by
        obtain ⟨m', meth', c', q1, q2, q3, -, -, q6, -⟩ := Cond.codeWith_spec (hts0 _ List.mem_cons_self)
        cases B.named.symm.trans q1
        cases B.method.symm.trans q2
        have hc0 : meth.code = some c := (Stand.of_body B).code
        cases hc0.symm.trans q3
        exact q6
      obtain ⟨-, hl1, -, hl3, hl4, hl5, -, TT, NN, hcl⟩ := am_ok4 hkd hok
      have hrec := va_recv hX.1 hR.2.1 (q := (am_own 12, TT, NN)) (by rw [← am_nth_get]; exact hcl) (am_ob_get (k := 8) rfl).2
      have thrown : ∀ (x : Nat) (pre rest : List ExceptionTableEntry) (xe : ExceptionTableEntry) (z : Nat) (j : Fin 4), x < 6 → am_eval k9 (12, 0, am_args 0 [.ref 8], [], g, t) = some (.inr x, g1, t1) → c.exceptionTable.toList = pre ++ xe :: rest → (∀ cX, s.vm.findClass (am_ex x) = some cX → ∀ y ∈ pre, am_cls s (([.ref 8, .ref 53] : List Value).map (am_cv ad)).toArray (am_own 91) cX 3 false y) → (∀ cX, s.vm.findClass (am_ex x) = some cX → s.vm.assignable cX cX = true → am_cls s (([.ref 8, .ref 53] : List Value).map (am_cv ad)).toArray (am_own 91) cX 3 true xe) →
          decode (am_bytes 91) xe.handlerPc = .ok (.astore_n j, 1) → (j : Nat) = 2 → v = .int (Int32.ofNat z) → g2 = g1 → am_isPl 91 (xe.handlerPc + 1) = true → am_step (91, xe.handlerPc + 1, [(0, .ref 8), (1, .ref 53)], [], g1, t1) = some (.inl (91, xe.handlerPc + 1 + 1, [(0, .ref 8), (1, .ref 53)], [.int (Int32.ofNat z)], g1, t1)) → am_step (91, xe.handlerPc + 1 + 1, [(0, .ref 8), (1, .ref 53)], [.int (Int32.ofNat z)], g1, t1) = some (.inr (.inr (.inr (.inl (.inl (some (.int (Int32.ofNat z))), g1, t1 + 1))))) →
          W p l e (am_rm4 91) s m (([.ref 8, .ref 53] : List Value).map (am_cv ad)).toArray below meth c H locs 0 0 (MQ below (am_Qm xs Ln D cA ad A g2 (some v)) (([.ref 8, .ref 53] : List Value).map (am_cv ad)).toArray s 1 6 A) (F0 m 3 ls (([.ref 8, .int 0, .ref 53] : List Value).map (am_cv ad))) := by
        intro x pre rest xe z j hx6 hcal2 e1 e2 e3 e4 e5 e6 e7 e8 e9 e10
        subst e6
        subst e7
        obtain ⟨cX, hcX, has⟩ := am_find_ex hXt hx6
        have hdec3 : decode (am_bytes 91) 3 = .ok (.invokevirtual 7, 3) := by rw [hdec, (am_ok4 hkd hok).1]
        exact am_callT (C := "") (as := []) (r0 := [.int 0, .ref 53]) (k := 8) (x := x) (g1 := g2) (d := 0) hWk hXt hcs1 hdec3 (hts _ (am_word_in hl1)) (am_okM_4 hkd4).1 hkd4 hl3 hl4 hl5 rfl rfl (by decide) hrec hR (am_metT (as := .ref 8 :: []) hlt hkd4 (by show 1 ≤ am_maxL 12; decide +kernel) hG hcal2) e1 cX hcX (e2 cX hcX) (e3 cX hcX has)
          (fun H1 locs1 adr hR1 => am_put_away hWk e4 e5 (by decide +kernel) (by simp) hR1 (by simp [Value.category]) (am_PW_tail (z := z) hWk hcs1 hret hlocks e8 e9 e10))
      have hlen : c.exceptionTable.toList.length = 3 := by
        have := congrArg List.length htab
        rw [List.length_map] at this
        exact this
      obtain ⟨y0, y1, y2, ht⟩ : ∃ y0 y1 y2, c.exceptionTable.toList = [y0, y1, y2] := by
        match hq : c.exceptionTable.toList, hlen with
        | [y0, y1, y2], _ => exact ⟨y0, y1, y2, rfl⟩
      rw [ht] at htab
      simp only [am_hh91, List.map_cons, List.map_nil, List.cons.injEq, Prod.mk.injEq, and_true] at htab
      obtain ⟨⟨s0, e0, p0, c0⟩, ⟨s1, e1, p1, c1⟩, ⟨s2, e2, p2, c2⟩⟩ := htab
      have hx : x = 0 ∨ x = 1 ∨ x = 2 := by
        dsimp only [am_cont] at hcont
        by_cases z0 : x = 0 ∨ x = 1 ∨ x = 2
        · exact z0
        · exfalso
          have : am_catch am_hands 91 3 x = none := by
            have hb : ∀ y, x ≠ y → Nat.beq y x = false := fun y hy => by
              cases hbb : Nat.beq y x with
              | false => rfl
              | true => exact absurd (Nat.eq_of_beq_eq_true hbb).symm hy
            show (bif Nat.beq 0 x then some 12 else bif Nat.beq 1 x then some 15 else bif Nat.beq 2 x then some 18 else none) = none
            rw [hb 0 (by omega), hb 1 (by omega), hb 2 (by omega)]
            rfl
          rw [this] at hcont
          cases hcont
      rcases hx with rfl | rfl | rfl
      · cases Option.some.inj hcont
        obtain ⟨k10, h10⟩ := am_ev_nx hrest rfl
        have hfin := am_ev_en h10 rfl
        simp only [Prod.mk.injEq, Sum.inl.injEq, Option.some.injEq] at hfin
        obtain ⟨rfl, rfl, rfl⟩ := hfin
        refine thrown 0 [] [y1, y2] y0 1 2 (by omega) hcal ht ?_ ?_ ?_ rfl rfl rfl ?_ ?_ ?_
        · exact fun cX hcX y hy => by cases hy
        · exact fun cX hcX has => am_cls_t hts (by rw [s0]; omega) (by rw [e0]; omega) c0 (by decide) (am_own9.2) (by decide) hcX has
        · rw [p0]; decide +kernel
        · rw [p0]; rfl
        · rw [p0]; rfl
        · rw [p0]; rfl
      · cases Option.some.inj hcont
        obtain ⟨k10, h10⟩ := am_ev_nx hrest rfl
        have hfin := am_ev_en h10 rfl
        simp only [Prod.mk.injEq, Sum.inl.injEq, Option.some.injEq] at hfin
        obtain ⟨rfl, rfl, rfl⟩ := hfin
        refine thrown 1 [y0] [y2] y1 2 2 (by omega) hcal ht ?_ ?_ ?_ rfl rfl rfl ?_ ?_ ?_
        · intro cX hcX y hy
          simp only [List.mem_cons, List.not_mem_nil, or_false] at hy
          rcases hy with rfl
          · exact am_cls_f (z := 0) hts hNk (by rw [s0]; omega) (by rw [e0]; omega) c0 (by decide) (am_own9.2) (by decide) hcX (by simp [am_nks])
        · exact fun cX hcX has => am_cls_t hts (by rw [s1]; omega) (by rw [e1]; omega) c1 (by decide) (am_own9.2) (by decide) hcX has
        · rw [p1]; decide +kernel
        · rw [p1]; rfl
        · rw [p1]; rfl
        · rw [p1]; rfl
      · cases Option.some.inj hcont
        obtain ⟨k10, h10⟩ := am_ev_nx hrest rfl
        have hfin := am_ev_en h10 rfl
        simp only [Prod.mk.injEq, Sum.inl.injEq, Option.some.injEq] at hfin
        obtain ⟨rfl, rfl, rfl⟩ := hfin
        refine thrown 2 [y0, y1] [] y2 3 2 (by omega) hcal ht ?_ ?_ ?_ rfl rfl rfl ?_ ?_ ?_
        · intro cX hcX y hy
          simp only [List.mem_cons, List.not_mem_nil, or_false] at hy
          rcases hy with rfl | rfl
          · exact am_cls_f (z := 0) hts hNk (by rw [s0]; omega) (by rw [e0]; omega) c0 (by decide) (am_own9.2) (by decide) hcX (by simp [am_nks])
          · exact am_cls_f (z := 1) hts hNk (by rw [s1]; omega) (by rw [e1]; omega) c1 (by decide) (am_own9.2) (by decide) hcX (by simp [am_nks])
        · exact fun cX hcX has => am_cls_t hts (by rw [s2]; omega) (by rw [e2]; omega) c2 (by decide) (am_own9.2) (by decide) hcX has
        · rw [p2]; decide +kernel
        · rw [p2]; rfl
        · rw [p2]; rfl
        · rw [p2]; rfl
  refine am_PW_st hWk hcs0 rfl rfl ?_ s.heap _ [] ⟨?_, hP, hD, ⟨Nat.le_refl _, fun _ _ _ => rfl, fun _ h => by cases h⟩, hG⟩ (pc := 0) (L := [(0, .ref 8), (1, .ref 53)]) (S := []) (t := t)
  · refine am_PW_st hWk hcs0 rfl rfl ?_
    refine am_PW_st hWk hcs0 rfl rfl ?_
    exact main
  · show lv_has _ _ (am_lc ad (am_args 0 ([.ref 8, .ref 53] : List Value)))
    rw [am_args_eq]
    exact lv_entry _ (by rw [am_sl_len]; show 2 ≤ am_maxL 91; decide +kernel)
set_option maxHeartbeats 1000000 in
theorem am_met90 {q : Int32} {g g2 : am_G} {t t2 k : Nat} {v : Value} (hlt : l.stackTraces = false) (hG : am_Gx xs Ln g) (hev : am_eval k (90, 0, [(0, .ref 8), (1, .int q), (2, .ref 53)], [], g, t) = some (.inl (some v), g2, t2)) :
    Met l (am_y 90) (am_cw3 90 am_hh90) (am_rm4 90) (va_Pc (([.ref 8, .int q, .ref 53] : List Value).map (am_cv ad)) (am_B5 xs Ln D cA ad A g)) (am_Qm xs Ln D cA ad A g2 (some v)) 1 6 A := by
  have hkd : am_kd 90 = 3 := by decide +kernel
  have hkd4 : am_kd 10 = 4 := by decide +kernel
  obtain ⟨k0, h0⟩ := am_ev_nx (s1 := (90, 1, [(0, .ref 8), (1, .int q), (2, .ref 53)], [.ref 53], g, t)) hev rfl
  obtain ⟨k1, h1⟩ := am_ev_nx (s1 := (90, 2, [(0, .ref 8), (1, .int q), (2, .ref 53)], [.int 0, .ref 53], g, t)) h0 rfl
  obtain ⟨k2, h2⟩ := am_ev_nx (s1 := (90, 3, [(0, .ref 8), (1, .int q), (2, .ref 53)], [.ref 8, .int 0, .ref 53], g, t)) h1 rfl
  obtain ⟨k3, h3⟩ := am_ev_nx (s1 := (90, 4, [(0, .ref 8), (1, .int q), (2, .ref 53)], [.int q, .ref 8, .int 0, .ref 53], g, t)) h2 rfl
  obtain ⟨k9, r1, s1, hcal, hcont, hrest⟩ := am_ev_ca (e0 := (10, 0, am_args 0 [.ref 8, .int q], [], g, t)) (rs := (90, 4, [(0, .ref 8), (1, .int q), (2, .ref 53)], [.int 0, .ref 53], g, t)) h3 rfl
  have hdecT : ∀ q i len, decode (am_bytes 90) q = .ok (i, len) → decode (am_bytes 90) q = .ok (i, len) := fun _ _ _ h => h
  refine va_MetW (hh := am_hh90) (by decide +kernel) rfl (fun p e s m args0 below meth c s₁ B hml hPc => ?_)
  obtain ⟨rfl, ⟨⟨hX, hP, hD⟩, hXt⟩, hNk⟩ := hPc
  have hts0 := atoms_spec (ws := am_cw3 90 am_hh90) B.pre
  have hts : ∀ w ∈ am_WG, w.before (([.ref 8, .int q, .ref 53] : List Value).map (am_cv ad)).toArray s = true := fun w hw => hts0 w (List.mem_cons_of_mem _ hw)
  have hown := findClass_of_methodNamed B.named
  have hWk : am_Wk p (am_rm4 90) s m (([.ref 8, .int q, .ref 53] : List Value).map (am_cv ad)).toArray c xs Ln D cA ad A 90 := ⟨B.exec, B.bytes, hml, hown, hts, hX, Nat.le_refl _, Nat.le_refl _⟩
  have hret := B.returns
  have hlocks := B.notSynchronized
  have hcs0 : (0 : Nat) ≤ (am_rm4 90).cells ∧ (0 : Nat) ≤ (am_rm4 90).slots := ⟨Nat.zero_le _, Nat.zero_le _⟩
  have hcs1 : (1 : Nat) ≤ (am_rm4 90).cells ∧ (6 : Nat) ≤ (am_rm4 90).slots := ⟨Nat.le_refl _, Nat.le_refl _⟩
  show W p l e (am_rm4 90) s m _ below meth c s.heap [] 0 0 _ _
  rw [lg_entry_eq]
  have main : am_PW p l e (am_rm4 90) s m (([.ref 8, .int q, .ref 53] : List Value).map (am_cv ad)).toArray below meth c 0 0 (MQ below (am_Qm xs Ln D cA ad A g2 (some v)) (([.ref 8, .int q, .ref 53] : List Value).map (am_cv ad)).toArray s 1 6 A) xs Ln D cA ad A (90, 4, [(0, .ref 8), (1, .int q), (2, .ref 53)], [.int q, .ref 8, .int 0, .ref 53], g, t) := by
    intro H ls locs hR
    obtain ⟨len, hdec, hok⟩ := am_code_dec (mi := 90) (pc := 4) rfl
    obtain ⟨o1, g1, t1⟩ := r1
    rcases o1 with vo | x
    · cases vo with
      | none =>
        cases Option.some.inj hcont
        obtain ⟨k10, h10⟩ := am_ev_nx hrest rfl
        exact (am_ev_no h10 rfl).elim
      | some v1 =>
        cases Option.some.inj hcont
        cases v1 with
        | int z =>
          obtain ⟨k10, h10⟩ := am_ev_nx hrest rfl
          obtain ⟨hck, k11, h11⟩ := am_ev_ck h10 rfl
          obtain ⟨k12, h12⟩ := am_ev_nx h11 rfl
          obtain ⟨k13, h13⟩ := am_ev_nx h12 rfl
          have hfin := am_ev_en h13 rfl
          simp only [Prod.mk.injEq, Sum.inl.injEq, Option.some.injEq] at hfin
          obtain ⟨rfl, rfl, rfl⟩ := hfin
          refine am_call4 (as := [.int q]) (r0 := [.int 0, .ref 53]) (k := 8) (vo := some (.int z)) (g1 := g1) hWk hcs0 hkd hdec hok rfl rfl (by decide) hR (am_met4 (as := .ref 8 :: [.int q]) hkd4 (by show 2 ≤ am_maxL 10; decide +kernel) hG hcal) (fun H1 locs1 hR1 => ?_)
          refine am_PW_wide (Nat.zero_le 1) (Nat.zero_le 6) ?_ H1 ls locs1 hR1 (st := (90, 7, [(0, .ref 8), (1, .int q), (2, .ref 53)], .int z :: [.int 0, .ref 53], g1, t1))
          refine am_PW_st hWk hcs1 rfl rfl ?_
          refine am_PW_st hWk hcs1 rfl rfl ⟨hck, ?_⟩
          refine am_PW_st hWk hcs1 rfl rfl ?_
          exact am_PW_tail (z := 0) hWk hcs1 hret hlocks rfl rfl rfl
        | _ => exact (am_ev_no hrest rfl).elim
    · have htab : c.exceptionTable.toList.map (fun h => (h.startPc, h.endPc, h.handlerPc, h.catchType)) = am_hh90 := by
        obtain ⟨m', meth', c', q1, q2, q3, -, -, q6, -⟩ := Cond.codeWith_spec (hts0 _ List.mem_cons_self)
        cases B.named.symm.trans q1
        cases B.method.symm.trans q2
        have hc0 : meth.code = some c := (Stand.of_body B).code
        cases hc0.symm.trans q3
        exact q6
      obtain ⟨-, hl1, -, hl3, hl4, hl5, -, TT, NN, hcl⟩ := am_ok4 hkd hok
      have hrec := va_recv hX.1 hR.2.1 (q := (am_own 10, TT, NN)) (by rw [← am_nth_get]; exact hcl) (am_ob_get (k := 8) rfl).2
      have thrown : ∀ (x : Nat) (pre rest : List ExceptionTableEntry) (xe : ExceptionTableEntry) (z : Nat) (j : Fin 4), x < 6 → am_eval k9 (10, 0, am_args 0 [.ref 8, .int q], [], g, t) = some (.inr x, g1, t1) → c.exceptionTable.toList = pre ++ xe :: rest → (∀ cX, s.vm.findClass (am_ex x) = some cX → ∀ y ∈ pre, am_cls s (([.ref 8, .int q, .ref 53] : List Value).map (am_cv ad)).toArray (am_own 90) cX 4 false y) → (∀ cX, s.vm.findClass (am_ex x) = some cX → s.vm.assignable cX cX = true → am_cls s (([.ref 8, .int q, .ref 53] : List Value).map (am_cv ad)).toArray (am_own 90) cX 4 true xe) →
          decode (am_bytes 90) xe.handlerPc = .ok (.astore_n j, 1) → (j : Nat) = 3 → v = .int (Int32.ofNat z) → g2 = g1 → am_isPl 90 (xe.handlerPc + 1) = true → am_step (90, xe.handlerPc + 1, [(0, .ref 8), (1, .int q), (2, .ref 53)], [], g1, t1) = some (.inl (90, xe.handlerPc + 1 + 1, [(0, .ref 8), (1, .int q), (2, .ref 53)], [.int (Int32.ofNat z)], g1, t1)) → am_step (90, xe.handlerPc + 1 + 1, [(0, .ref 8), (1, .int q), (2, .ref 53)], [.int (Int32.ofNat z)], g1, t1) = some (.inr (.inr (.inr (.inl (.inl (some (.int (Int32.ofNat z))), g1, t1 + 1))))) →
          W p l e (am_rm4 90) s m (([.ref 8, .int q, .ref 53] : List Value).map (am_cv ad)).toArray below meth c H locs 0 0 (MQ below (am_Qm xs Ln D cA ad A g2 (some v)) (([.ref 8, .int q, .ref 53] : List Value).map (am_cv ad)).toArray s 1 6 A) (F0 m 4 ls (([.int q, .ref 8, .int 0, .ref 53] : List Value).map (am_cv ad))) := by
        intro x pre rest xe z j hx6 hcal2 e1 e2 e3 e4 e5 e6 e7 e8 e9 e10
        subst e6
        subst e7
        obtain ⟨cX, hcX, has⟩ := am_find_ex hXt hx6
        have hdec3 : decode (am_bytes 90) 4 = .ok (.invokevirtual 19, 3) := by rw [hdec, (am_ok4 hkd hok).1]
        exact am_callT (C := "") (as := [.int q]) (r0 := [.int 0, .ref 53]) (k := 8) (x := x) (g1 := g2) (d := 1) hWk hXt hcs1 hdec3 (hts _ (am_word_in hl1)) (am_okM_4 hkd4).1 hkd4 hl3 hl4 hl5 rfl rfl (by decide) hrec hR (am_metT (as := .ref 8 :: [.int q]) hlt hkd4 (by show 2 ≤ am_maxL 10; decide +kernel) hG hcal2) e1 cX hcX (e2 cX hcX) (e3 cX hcX has)
          (fun H1 locs1 adr hR1 => am_put_away hWk e4 e5 (by decide +kernel) (by simp) hR1 (by simp [Value.category]) (am_PW_tail (z := z) hWk hcs1 hret hlocks e8 e9 e10))
      have hlen : c.exceptionTable.toList.length = 4 := by
        have := congrArg List.length htab
        rw [List.length_map] at this
        exact this
      obtain ⟨y0, y1, y2, y3, ht⟩ : ∃ y0 y1 y2 y3, c.exceptionTable.toList = [y0, y1, y2, y3] := by
        match hq : c.exceptionTable.toList, hlen with
        | [y0, y1, y2, y3], _ => exact ⟨y0, y1, y2, y3, rfl⟩
      rw [ht] at htab
      simp only [am_hh90, List.map_cons, List.map_nil, List.cons.injEq, Prod.mk.injEq, and_true] at htab
      obtain ⟨⟨s0, e0, p0, c0⟩, ⟨s1, e1, p1, c1⟩, ⟨s2, e2, p2, c2⟩, ⟨s3, e3, p3, c3⟩⟩ := htab
      have hx : x = 3 ∨ x = 1 ∨ x = 4 ∨ x = 5 := by
        dsimp only [am_cont] at hcont
        by_cases z0 : x = 3 ∨ x = 1 ∨ x = 4 ∨ x = 5
        · exact z0
        · exfalso
          have : am_catch am_hands 90 4 x = none := by
            have hb : ∀ y, x ≠ y → Nat.beq y x = false := fun y hy => by
              cases hbb : Nat.beq y x with
              | false => rfl
              | true => exact absurd (Nat.eq_of_beq_eq_true hbb).symm hy
            show (bif Nat.beq 3 x then some 13 else bif Nat.beq 1 x then some 16 else bif Nat.beq 4 x then some 19 else bif Nat.beq 5 x then some 22 else none) = none
            rw [hb 3 (by omega), hb 1 (by omega), hb 4 (by omega), hb 5 (by omega)]
            rfl
          rw [this] at hcont
          cases hcont
      rcases hx with rfl | rfl | rfl | rfl
      · cases Option.some.inj hcont
        obtain ⟨k10, h10⟩ := am_ev_nx hrest rfl
        have hfin := am_ev_en h10 rfl
        simp only [Prod.mk.injEq, Sum.inl.injEq, Option.some.injEq] at hfin
        obtain ⟨rfl, rfl, rfl⟩ := hfin
        refine thrown 3 [] [y1, y2, y3] y0 1 3 (by omega) hcal ht ?_ ?_ ?_ rfl rfl rfl ?_ ?_ ?_
        · exact fun cX hcX y hy => by cases hy
        · exact fun cX hcX has => am_cls_t hts (by rw [s0]; omega) (by rw [e0]; omega) c0 (by decide) (am_own9.1) (by decide) hcX has
        · rw [p0]; decide +kernel
        · rw [p0]; rfl
        · rw [p0]; rfl
        · rw [p0]; rfl
      · cases Option.some.inj hcont
        obtain ⟨k10, h10⟩ := am_ev_nx hrest rfl
        have hfin := am_ev_en h10 rfl
        simp only [Prod.mk.injEq, Sum.inl.injEq, Option.some.injEq] at hfin
        obtain ⟨rfl, rfl, rfl⟩ := hfin
        refine thrown 1 [y0] [y2, y3] y1 2 3 (by omega) hcal ht ?_ ?_ ?_ rfl rfl rfl ?_ ?_ ?_
        · intro cX hcX y hy
          simp only [List.mem_cons, List.not_mem_nil, or_false] at hy
          rcases hy with rfl
          · exact am_cls_f (z := 3) hts hNk (by rw [s0]; omega) (by rw [e0]; omega) c0 (by decide) (am_own9.1) (by decide) hcX (by simp [am_nks])
        · exact fun cX hcX has => am_cls_t hts (by rw [s1]; omega) (by rw [e1]; omega) c1 (by decide) (am_own9.1) (by decide) hcX has
        · rw [p1]; decide +kernel
        · rw [p1]; rfl
        · rw [p1]; rfl
        · rw [p1]; rfl
      · cases Option.some.inj hcont
        obtain ⟨k10, h10⟩ := am_ev_nx hrest rfl
        have hfin := am_ev_en h10 rfl
        simp only [Prod.mk.injEq, Sum.inl.injEq, Option.some.injEq] at hfin
        obtain ⟨rfl, rfl, rfl⟩ := hfin
        refine thrown 4 [y0, y1] [y3] y2 3 3 (by omega) hcal ht ?_ ?_ ?_ rfl rfl rfl ?_ ?_ ?_
        · intro cX hcX y hy
          simp only [List.mem_cons, List.not_mem_nil, or_false] at hy
          rcases hy with rfl | rfl
          · exact am_cls_f (z := 3) hts hNk (by rw [s0]; omega) (by rw [e0]; omega) c0 (by decide) (am_own9.1) (by decide) hcX (by simp [am_nks])
          · exact am_cls_f (z := 1) hts hNk (by rw [s1]; omega) (by rw [e1]; omega) c1 (by decide) (am_own9.1) (by decide) hcX (by simp [am_nks])
        · exact fun cX hcX has => am_cls_t hts (by rw [s2]; omega) (by rw [e2]; omega) c2 (by decide) (am_own9.1) (by decide) hcX has
        · rw [p2]; decide +kernel
        · rw [p2]; rfl
        · rw [p2]; rfl
        · rw [p2]; rfl
      · cases Option.some.inj hcont
        obtain ⟨k10, h10⟩ := am_ev_nx hrest rfl
        have hfin := am_ev_en h10 rfl
        simp only [Prod.mk.injEq, Sum.inl.injEq, Option.some.injEq] at hfin
        obtain ⟨rfl, rfl, rfl⟩ := hfin
        refine thrown 5 [y0, y1, y2] [] y3 4 3 (by omega) hcal ht ?_ ?_ ?_ rfl rfl rfl ?_ ?_ ?_
        · intro cX hcX y hy
          simp only [List.mem_cons, List.not_mem_nil, or_false] at hy
          rcases hy with rfl | rfl | rfl
          · exact am_cls_f (z := 3) hts hNk (by rw [s0]; omega) (by rw [e0]; omega) c0 (by decide) (am_own9.1) (by decide) hcX (by simp [am_nks])
          · exact am_cls_f (z := 1) hts hNk (by rw [s1]; omega) (by rw [e1]; omega) c1 (by decide) (am_own9.1) (by decide) hcX (by simp [am_nks])
          · exact am_cls_f (z := 4) hts hNk (by rw [s2]; omega) (by rw [e2]; omega) c2 (by decide) (am_own9.1) (by decide) hcX (by simp [am_nks])
        · exact fun cX hcX has => am_cls_t hts (by rw [s3]; omega) (by rw [e3]; omega) c3 (by decide) (am_own9.1) (by decide) hcX has
        · rw [p3]; decide +kernel
        · rw [p3]; rfl
        · rw [p3]; rfl
        · rw [p3]; rfl
  refine am_PW_st hWk hcs0 rfl rfl ?_ s.heap _ [] ⟨?_, hP, hD, ⟨Nat.le_refl _, fun _ _ _ => rfl, fun _ h => by cases h⟩, hG⟩ (pc := 0) (L := [(0, .ref 8), (1, .int q), (2, .ref 53)]) (S := []) (t := t)
  · refine am_PW_st hWk hcs0 rfl rfl ?_
    refine am_PW_st hWk hcs0 rfl rfl ?_
    refine am_PW_st hWk hcs0 rfl rfl ?_
    exact main
  · show lv_has _ _ (am_lc ad (am_args 0 ([.ref 8, .int q, .ref 53] : List Value)))
    rw [am_args_eq]
    exact lv_entry _ (by rw [am_sl_len]; show 3 ≤ am_maxL 90; decide +kernel)
end
end
section
def am_Tk (t : Nat) (act : am_A) : Prop := match act with
  | .inl s => s.2.2.2.2.2 = t
  | .inr (.inl (_, s)) => s.2.2.2.2.2 = t
  | .inr (.inr (.inl (.inl (_, _, _, s1, s2)))) => s1.2.2.2.2.2 = t ∧ s2.2.2.2.2.2 = t
  | .inr (.inr (.inl (.inr (_, _, _, _, s1, s2)))) => s1.2.2.2.2.2 = t ∧ s2.2.2.2.2.2 = t
  | .inr (.inr (.inr (.inr (.inr (.inr s))))) => s.2.2.2.2.2 = t
  | _ => False
theorem am_do_tk {i : Instr} {nxt : Nat} {v : Value} {a b d mi pc : Nat} {L : am_L} {S : List Value} {g : am_G} {t : Nat} {act : am_A} (hp : am_plain i b = true) (h : am_do i nxt v a b d mi pc L S g t = some act) : am_Tk t act := by
  cases i with
  | iconst n =>
    cases Option.some.inj h
    exact rfl
  | bipush n =>
    cases Option.some.inj h
    exact rfl
  | sipush n =>
    cases Option.some.inj h
    exact rfl
  | ldc n =>
    cases Option.some.inj h
    exact rfl
  | ldc_w n =>
    cases Option.some.inj h
    exact rfl
  | ldc2_w n =>
    cases Option.some.inj h
    exact rfl
  | goto n =>
    cases Option.some.inj h
    exact rfl
  | iload_n n =>
    obtain ⟨x, hf, rfl⟩ := am_iLd_inv h
    exact rfl
  | iload n =>
    obtain ⟨x, hf, rfl⟩ := am_iLd_inv h
    exact rfl
  | lload_n n =>
    obtain ⟨x, hf, rfl⟩ := am_lLd_inv h
    exact rfl
  | aload_n n =>
    obtain ⟨x, hf, rfl⟩ := am_aLd_inv h
    exact rfl
  | aload n =>
    obtain ⟨x, hf, rfl⟩ := am_aLd_inv h
    exact rfl
  | istore_n n =>
    obtain ⟨x, r, rfl, hn, rfl⟩ := am_iSt_inv h
    exact rfl
  | istore n =>
    obtain ⟨x, r, rfl, hn, rfl⟩ := am_iSt_inv h
    exact rfl
  | iinc n z =>
    obtain ⟨x, y, hf, hy, hn, rfl⟩ := am_iInc_inv h
    exact rfl
  | iadd =>
    obtain ⟨x, y, r, rfl, rfl⟩ := am_bin_inv (f := fun x y => x + y) h
    exact rfl
  | isub =>
    obtain ⟨x, y, r, rfl, rfl⟩ := am_bin_inv (f := fun x y => x - y) h
    exact rfl
  | imul =>
    obtain ⟨x, y, r, rfl, rfl⟩ := am_bin_inv (f := fun x y => x * y) h
    exact rfl
  | iand =>
    obtain ⟨x, y, r, rfl, rfl⟩ := am_bin_inv (f := fun x y => x &&& y) h
    exact rfl
  | ior =>
    obtain ⟨x, y, r, rfl, rfl⟩ := am_bin_inv (f := fun x y => x ||| y) h
    exact rfl
  | ixor =>
    obtain ⟨x, y, r, rfl, rfl⟩ := am_bin_inv (f := fun x y => x ^^^ y) h
    exact rfl
  | ishl =>
    obtain ⟨x, y, r, rfl, rfl⟩ := am_bin_inv (f := fun x y => x <<< (y &&& 31)) h
    exact rfl
  | ishr =>
    obtain ⟨x, y, r, rfl, rfl⟩ := am_bin_inv (f := fun x y => x >>> (y &&& 31)) h
    exact rfl
  | iushr =>
    obtain ⟨x, y, r, rfl, rfl⟩ := am_bin_inv (f := fun x y => (x.toUInt32 >>> (y.toUInt32 &&& Int32.toUInt32 31)).toInt32) h
    exact rfl
  | idiv =>
    obtain ⟨x, y, r, rfl, rfl⟩ := am_div_inv (f := fun x y => x / y) h
    exact rfl
  | irem =>
    obtain ⟨x, y, r, rfl, rfl⟩ := am_div_inv (f := fun x y => x - x / y * y) h
    exact rfl
  | i2l =>
    obtain ⟨x, r, rfl, rfl⟩ := am_un_inv (f := fun x => .long x.toInt64) h
    exact rfl
  | i2c =>
    obtain ⟨x, r, rfl, rfl⟩ := am_un_inv (f := fun x => .int (am_chr x)) h
    exact rfl
  | l2i =>
    obtain ⟨x, r, rfl, rfl⟩ := am_l2_inv h
    exact rfl
  | land =>
    obtain ⟨x, y, r, rfl, rfl⟩ := am_lbin_inv (f := fun x y => .long (x &&& y)) h
    exact rfl
  | lor =>
    obtain ⟨x, y, r, rfl, rfl⟩ := am_lbin_inv (f := fun x y => .long (x ||| y)) h
    exact rfl
  | lcmp =>
    obtain ⟨x, y, r, rfl, rfl⟩ := am_lbin_inv (f := fun x y => .int (lg_cmp x y)) h
    exact rfl
  | lshl =>
    obtain ⟨x, y, r, rfl, rfl⟩ := am_lsh_inv (f := fun x y => x <<< (y.toInt64 &&& 63)) h
    exact rfl
  | lshr =>
    obtain ⟨x, y, r, rfl, rfl⟩ := am_lsh_inv (f := fun x y => x >>> (y.toInt64 &&& 63)) h
    exact rfl
  | lushr =>
    obtain ⟨x, y, r, rfl, rfl⟩ := am_lsh_inv (f := fun x y => (x.toUInt64 >>> (y.toInt64.toUInt64 &&& Int64.toUInt64 63)).toInt64) h
    exact rfl
  | dup =>
    obtain ⟨x, r, rfl, hc, rfl⟩ := am_dup_inv h
    exact rfl
  | dup2 =>
    obtain ⟨x, y, r, rfl, rfl⟩ := am_dup2_inv h
    exact rfl
  | ifCond q n =>
    obtain ⟨x, r, rfl, rfl⟩ := am_if1_inv h
    exact ⟨rfl, rfl⟩
  | if_icmp q n =>
    obtain ⟨x, y, r, rfl, rfl⟩ := am_if2_inv h
    exact ⟨rfl, rfl⟩
  | if_acmp q n =>
    obtain ⟨x, y, r, rfl, rfl, rfl⟩ := am_ifa_inv h
    exact ⟨rfl, rfl⟩
  | tableswitch df lo hi offs =>
    obtain ⟨x, r, rfl, rfl⟩ := am_sw_inv h
    exact rfl
  | getstatic n =>
    obtain ⟨h6, rfl⟩ := am_gs_inv h
    exact rfl
  | getfield n =>
    obtain ⟨k, r, fs, rfl, ho, hcase⟩ := am_gf_inv h
    rcases hcase with ⟨q, hq, rfl⟩ | ⟨hq, rfl⟩
    · exact rfl
    · exact rfl
  | putfield n =>
    obtain ⟨x, k, r, fs, rfl, ho, hq, rfl⟩ := am_pf_inv h
    exact rfl
  | arraylength =>
    obtain ⟨r, rfl, rfl⟩ := am_len_inv h
    exact rfl
  | iaload =>
    rcases am_ild_inv h with ⟨j, r, rfl, rfl⟩ | ⟨j, k, r, mm, rfl, ho, rfl⟩
    · exact rfl
    · exact rfl
  | caload =>
    obtain ⟨j, k, r, mm, rfl, ho, rfl⟩ := am_ald_inv (ty := 1) (f := fun x => .int x) h
    exact rfl
  | baload =>
    obtain ⟨j, k, r, mm, rfl, ho, rfl⟩ := am_ald_inv (ty := 3) (f := fun x => .int x) h
    exact rfl
  | laload =>
    obtain ⟨j, k, r, mm, rfl, ho, rfl⟩ := am_ald_inv (ty := 2) (f := fun x => .long x.toInt64) h
    exact rfl
  | aaload =>
    obtain ⟨j, k, r, mm, rfl, ho, rfl⟩ := am_rld_inv h
    exact rfl
  | iastore =>
    obtain ⟨x, j, k, r, mm, rfl, ho, rfl⟩ := am_ast_inv (ty := 0) (ck := fun b _ => b) (f := fun x => x) h
    exact rfl
  | castore =>
    obtain ⟨x, j, k, r, mm, rfl, ho, rfl⟩ := am_ast_inv (ty := 1) (ck := fun b _ => b) (f := fun x => am_chr x) h
    exact rfl
  | bastore =>
    obtain ⟨x, j, k, r, mm, rfl, ho, rfl⟩ := am_ast_inv (ty := 3) (ck := fun b x => b && am_isb x) (f := fun x => x) h
    exact rfl
  | lastore =>
    obtain ⟨x, j, k, r, mm, rfl, ho, rfl⟩ := am_lst_inv h
    exact rfl
  | aastore =>
    obtain ⟨x, j, k, r, mm, rfl, ho, rfl⟩ := am_rst_inv h
    exact rfl
  | invokestatic n =>
    have hp : (Nat.beq b 1 || Nat.beq b 2) = true := hp
    cases h1 : Nat.beq b 1 with
    | true =>
      have h : (bif Nat.beq b 1 then am_mx mi nxt L S g t (fun x y => if x < y then y else x) else bif Nat.beq b 2 then am_mx mi nxt L S g t (fun x y => if y < x then y else x) else am_is mi pc L S g t v a d) = some act := h
      rw [h1] at h
      obtain ⟨x, y, r, rfl, hw, rfl⟩ := am_mx_inv h
      exact rfl
    | false =>
      have h : (bif Nat.beq b 1 then am_mx mi nxt L S g t (fun x y => if x < y then y else x) else bif Nat.beq b 2 then am_mx mi nxt L S g t (fun x y => if y < x then y else x) else am_is mi pc L S g t v a d) = some act := h
      rw [h1, Bool.false_or] at hp
      rw [h1, hp] at h
      obtain ⟨x, y, r, rfl, hw, rfl⟩ := am_mx_inv h
      exact rfl
  | invokevirtual n => cases hp
  | ireturn => cases hp
  | areturn => cases hp
  | return_ => cases hp
  | new n => cases hp
  | _ => exact (am_none h).elim
def am_r3 (i : Instr) (d : Nat) : Bool := match i with
  | .ireturn => Nat.beq d 3
  | .areturn => false
  | .return_ => false
  | .new _ => false
  | _ => true
def am_dl (mi : Nat) : Nat := bif Nat.beq (am_kd mi) 3 then 1 else 0
theorem am_kd3 : (List.range 121).all (fun a => !Nat.beq (am_kd a) 3 || (Nat.beq a 90 || Nat.beq a 91)) = true := by decide +kernel
theorem am_kd3_of {a : Nat} (h : am_kd a = 3) : a = 90 ∨ a = 91 := by
  by_cases ha : a < 121
  · have := List.all_eq_true.mp am_kd3 a (List.mem_range.mpr ha)
    rw [h] at this
    simp only [show Nat.beq 3 3 = true from rfl, Bool.not_true, Bool.false_or, Bool.or_eq_true] at this
    rcases this with z | z
    · exact Or.inl (Nat.eq_of_beq_eq_true z)
    · exact Or.inr (Nat.eq_of_beq_eq_true z)
  · exfalso
    have e : am_m a = (⟨"", "", ""⟩, code, 0, none, 0, 0, 9, 0, 0, 0, 0) := by
      unfold am_m
      rw [am_nth_get, List.getElem?_eq_none (by rw [am_len_ms]; omega)]
      rfl
    unfold am_kd at h
    rw [e] at h
    cases h
def am_r3B (t : List (List (Nat × am_E))) : Bool := t.all (fun c => c.all (fun q => am_r3 q.2.1 q.2.2.2.2.2.2.2.1))
theorem am_r3_90 : am_r3B am_t90 = true := by decide +kernel
theorem am_r3_91 : am_r3B am_t91 = true := by decide +kernel
theorem am_r3_of {mi pc nxt kp a b d w : Nat} {i : Instr} {v : Value} (hk : am_kd mi = 3) (hc : am_code mi pc = some (i, nxt, kp, v, a, b, d, w)) : am_r3 i d = true := by
  have use : ∀ t : List (List (Nat × am_E)), am_r3B t = true → ∀ c ∈ t, (pc, (i, nxt, kp, v, a, b, d, w)) ∈ c → am_r3 i d = true := fun t h c hc he => List.all_eq_true.mp (List.all_eq_true.mp h c hc) _ he
  obtain ⟨u, t, c, h1, h2, h3, h4⟩ := am_code_mem hc
  rcases am_kd3_of hk with rfl | rfl
  · cases Option.some.inj h1
    cases Option.some.inj h2
    exact use _ am_r3_90 c h3 h4
  · cases Option.some.inj h1
    cases Option.some.inj h2
    exact use _ am_r3_91 c h3 h4
theorem am_dl_le (mi : Nat) : am_dl mi ≤ 1 := by
  unfold am_dl
  cases Nat.beq (am_kd mi) 3 <;> simp
theorem am_dl_0 {mi pc nxt kp a b d w : Nat} {i : Instr} {v : Value} (hc : am_code mi pc = some (i, nxt, kp, v, a, b, d, w)) (h : am_r3 i d = false) : am_dl mi = 0 := by
  unfold am_dl
  cases hb : Nat.beq (am_kd mi) 3 with
  | false => rfl
  | true =>
    rw [am_r3_of (Nat.eq_of_beq_eq_true hb) hc] at h
    cases h
theorem am_fin_t {i : Instr} {nxt kp w : Nat} {v : Value} {a b d mi pc : Nat} {L : am_L} {S : List Value} {g : am_G} {t : Nat} {act : am_A} {r : am_R} (hp : ¬ am_plain i b = true) (hc : am_code mi pc = some (i, nxt, kp, v, a, b, d, w)) (h : am_do i nxt v a b d mi pc L S g t = some act) (hf : am_fin act r) : t + am_dl mi ≤ r.2.2 := by
  have h1 := am_dl_le mi
  have h0 := @am_dl_0 mi pc nxt kp a b d w i v hc
  have en : ∀ (o : Option Value ⊕ Nat) (t1 : Nat), act = .inr (.inr (.inr (.inl (o, g, t1)))) → t + am_dl mi ≤ t1 → t + am_dl mi ≤ r.2.2 := by
    intro o t1 e ht
    rcases hf with z | z
    · rw [e] at z
      simp only [Sum.inr.injEq, Sum.inl.injEq] at z
      rw [← z]
      exact ht
    · rw [e] at z
      simp at z
  have ec : ∀ (bb : Bool) (o : Option Value ⊕ Nat), act = .inr (.inr (.inr (.inr (.inl (bb, (o, g, t)))))) → am_dl mi = 0 → t + am_dl mi ≤ r.2.2 := by
    intro bb o e ht
    rcases hf with z | z
    · rw [e] at z
      simp at z
    · rw [e] at z
      simp only [Sum.inr.injEq, Sum.inl.injEq, Prod.mk.injEq] at z
      rw [← z.2, ht]
      exact Nat.le_refl _
  rcases am_np hp h with ⟨r', e⟩ | ⟨bb, r', e⟩ | ⟨n, ml, as, k0, r0, fs, e1, hv, hpop, ho, hr8, hml, e⟩ | ⟨n, ml, as, r0, e1, hb1, hb2, hv, hpop, hr8, hml, e⟩
  case inr.inr.inl => rcases hf with z | z <;> (rw [e] at z; simp at z)
  case inr.inr.inr => rcases hf with z | z <;> (rw [e] at z; simp at z)
  all_goals
    clear e
    cases i with
    | invokevirtual n =>
      obtain ⟨ml, as, k, r, fs, rfl, h1, h2, h3⟩ := am_iv_inv h
      obtain ⟨h4, h5, h6⟩ := am_call_inv h3
      rcases hf with z | z <;> (rw [h6] at z; simp at z)
    | invokestatic n =>
      have hp : ¬ (Nat.beq b 1 || Nat.beq b 2) = true := hp
      rw [Bool.not_eq_true, Bool.or_eq_false_iff] at hp
      change (bif Nat.beq b 1 then am_mx mi nxt L S g t (fun x y => if x < y then y else x) else bif Nat.beq b 2 then am_mx mi nxt L S g t (fun x y => if y < x then y else x) else am_is mi pc L S g t v a d) = some act at h
      rw [hp.1, hp.2] at h
      obtain ⟨ml, as, r, rfl, h1, h3⟩ := am_is_inv h
      obtain ⟨h4, h5, h6⟩ := am_call_inv h3
      rcases hf with z | z <;> (rw [h6] at z; simp at z)
    | ireturn =>
      change am_irt S g t d = some act at h
      unfold am_irt at h
      split at h
      · split at h
        · exact en _ _ (Option.some.inj h).symm (by rw [h0 rfl]; exact Nat.le_refl _)
        · exact ec _ _ (Option.some.inj h).symm (h0 rfl)
        · exact ec _ _ (Option.some.inj h).symm (h0 rfl)
        · exact en _ _ (Option.some.inj h).symm (by omega)
      · cases h
    | areturn =>
      change am_art S g t = some act at h
      unfold am_art at h
      split at h
      · exact ec _ _ (Option.some.inj h).symm (h0 rfl)
      · cases h
    | return_ =>
      change am_vrt S g t = some act at h
      unfold am_vrt at h
      split at h
      · exact en _ _ (Option.some.inj h).symm (by rw [h0 rfl]; exact Nat.le_refl _)
      · cases h
    | new n =>
      change am_thr S g t a = some act at h
      unfold am_thr at h
      split at h
      · exact en _ _ (Option.some.inj h).symm (by rw [h0 rfl]; exact Nat.le_refl _)
      · cases h
    | _ => exact absurd rfl hp
theorem am_cont_t {rs s : am_S} {r : am_R} (h : am_cont rs r = some s) : s.2.2.2.2.2 = r.2.2 ∧ s.1 = rs.1 := by
  obtain ⟨mi, pc, L, S, g, t⟩ := rs
  obtain ⟨o, g1, t1⟩ := r
  rcases o with (_ | v1) | x
  · cases Option.some.inj h
    exact ⟨rfl, rfl⟩
  · cases Option.some.inj h
    exact ⟨rfl, rfl⟩
  · dsimp only [am_cont] at h
    split at h
    · cases Option.some.inj h
      exact ⟨rfl, rfl⟩
    · cases h
theorem am_ev_t : ∀ (k : Nat) (st : am_S) (r : am_R), am_eval k st = some r → st.2.2.2.2.2 + am_dl st.1 ≤ r.2.2 := by
  intro k
  induction k with
  | zero => intro st r h; cases h
  | succ k ih =>
    rintro ⟨mi, pc, L, S, g, t⟩ r h
    rw [am_eval] at h
    show t + am_dl mi ≤ r.2.2
    cases hs : am_step (mi, pc, L, S, g, t) with
    | none => rw [hs] at h; cases h
    | some act =>
      rw [hs] at h
      obtain ⟨i, nxt, kp, v, a, b, d, w, L', hc, hsub, hdo⟩ := am_step_inv hs
      by_cases hp : am_plain i b = true
      · have hsh := am_do_sh hp hdo
        have htk := am_do_tk hp hdo
        have go : ∀ s1 : am_S, s1.1 = mi → s1.2.2.2.2.2 = t → am_eval k s1 = some r → t + am_dl mi ≤ r.2.2 := fun s1 e1 e2 h1 => by
          have := ih s1 r h1
          rw [e1, e2] at this
          exact this
        rcases act with s1 | ⟨bb, s1⟩ | (⟨q, x, y, s1, s2⟩ | ⟨bb, q, x, y, s1, s2⟩) | r' | ⟨bb, r'⟩ | ⟨e1, rs⟩ | s1
        · exact go s1 hsh htk h
        · cases bb with
          | false => cases h
          | true => exact go s1 hsh htk h
        · dsimp only at h
          cases hq : am_cmp q x y with
          | true => rw [hq] at h; exact go s1 hsh.1 htk.1 h
          | false => rw [hq] at h; exact go s2 hsh.2 htk.2 h
        · cases bb with
          | false => cases h
          | true =>
            dsimp only [cond_true] at h
            cases hq : am_cmp q x y with
            | true => rw [hq] at h; exact go s1 hsh.1 htk.1 h
            | false => rw [hq] at h; exact go s2 hsh.2 htk.2 h
        · exact hsh.elim
        · exact hsh.elim
        · exact hsh.elim
        · exact go s1 hsh htk h
      · have after : ∀ (e0 : am_S) (r0 : List Value), e0.2.2.2.2.2 = t → (match am_eval k e0 with
            | some r1 => match am_cont (mi, pc, L', r0, g, t) r1 with
              | some s1 => am_eval k s1
              | none => none
            | none => none) = some r → t + am_dl mi ≤ r.2.2 := by
          intro e0 r0 et hh
          cases he : am_eval k e0 with
          | none => rw [he] at hh; cases hh
          | some r1 =>
            rw [he] at hh
            dsimp only at hh
            cases hcn : am_cont (mi, pc, L', r0, g, t) r1 with
            | none => rw [hcn] at hh; cases hh
            | some s1 =>
              rw [hcn] at hh
              have h1 := ih _ _ he
              have h2 := ih _ _ hh
              obtain ⟨h3, h4⟩ := am_cont_t hcn
              rw [h3, h4] at h2
              rw [et] at h1
              dsimp only at h2
              omega
        rcases am_np hp hdo with ⟨r', rfl⟩ | ⟨bb, r', rfl⟩ | ⟨n, ml, as, k0, r0, fs, rfl, hv, hpop, ho, hr8, hml, rfl⟩ | ⟨n, ml, as, r0, rfl, hb1, hb2, hv, hpop, hr8, hml, rfl⟩
        · cases Option.some.inj h
          exact am_fin_t hp hc hdo (Or.inl rfl)
        · cases bb with
          | false => cases h
          | true =>
            cases Option.some.inj h
            exact am_fin_t hp hc hdo (Or.inr rfl)
        · exact after _ _ rfl h
        · exact after _ _ rfl h
end
section
def am_hhs (a : Nat) : List (Nat × Nat × Nat × Nat) := bif Nat.beq a 90 then am_hh90 else am_hh91
def am_okW (a : Nat) : Bool := decide (Cond.codeWith (am_y a) (am_bytes a) (am_maxL a) (am_rt a) (am_hhs a) ∈ lw_tbl) && decide (Cond.initialized (am_own a) ∈ lw_tbl) && decide (am_own a ≠ "java/lang/invoke/MethodHandle") && decide (am_own a ≠ "java/lang/invoke/VarHandle") && decide (Cond.static (am_y a) ∈ lw_tbl)
theorem am_okW90 : am_okW 90 = true := by decide +kernel
theorem am_okW91 : am_okW 91 = true := by decide +kernel
theorem am_okW_of {a : Nat} (h : am_kd a = 3) : am_okW a = true := by
  rcases am_kd3_of h with rfl | rfl
  · exact am_okW90
  · exact am_okW91
theorem am_in_WG {w : Cond} (h : w ∈ lw_tbl) (hg : goodWord w = true) : w ∈ am_WG := List.mem_filter.mpr ⟨h, hg⟩
section
variable {p : Program} {l : Launch} {e : Env} {R : Room} {s : State} {m : MethodId} {args : Array Value} {below : List Frame} {meth : Method} {c : Code} {H : Heap} {locs : List Loc} {cells slots : Nat} {Q : State → Prop}
variable {y : MethodName} {bytes cc : ByteArray} {maxL nL mc ms n index : Nat} {ret : Option FieldType} {ws : List Cond} {rm : Room} {Pc : Array Value → State → Prop} {Qc : Array Value → State → Outcome → State → Prop} {free : Addr → Prop} {Ts : List Cond} {own : String} {As rest : List Value} {g : JFrame} {hh : List (Nat × Nat × Nat × Nat)}
theorem am_runSW (S : CallFix p m c cc nL s args Ts own) (hM : Met l y ws rm Pc Qc mc ms free) (hrc : rm.cells = mc) (hrs : rm.slots = ms) (hfr : rm.frames + 1 ≤ R.frames) (hlo : 8 + (maxL + 11) + rm.locals ≤ R.locals) (hws : ∀ w ∈ ws, ∀ (a' : Array Value) (U : State), s.WarmedH U.vm → w.before a' U = true) (hcw : Cond.codeWith y bytes maxL ret hh ∈ ws)
    (hcode : (Cond.codeWith y bytes maxL ret hh).before args s = true) (hini : (Cond.initialized y.cls).before args s = true) (hstt : (Cond.static y).before args s = true) (hy : y.cls ≠ "java/lang/invoke/MethodHandle" ∧ y.cls ≠ "java/lang/invoke/VarHandle") (hlen : (parseMethodDescriptor y.desc).map (fun q => q.parameters.length) = some n) (hl : (Cond.methodLink own index y).before args s = true) (hp : PreS s H Pc As)
    (hg : g.method = m) (hn : As.length = n) (hsize : g.locals.size = nL) (hstack : g.stack = As.reverse ++ rest) (hW : 2 * g.monitorRoom + (rest.map fun v => v.category).sum ≤ 8) (hdg : decode cc g.pc = .ok (.invokestatic index, 3)) (hf : cells + mc ≤ R.cells ∧ slots + ms ≤ R.slots) :
    va_Run p l e R s m args below meth c H locs cells slots mc ms g rest (Qc As.toArray) (free) := by
  have hK : Back l R p e below s args y 3 8 (PreOf R mc ms Pc) (PostOf Qc mc ms free) := va_backW (hh := hh) (bytes := bytes) (maxL := maxL) (ret := ret) hM hp.1 hrc hrs hfr hlo hws hcw (fun a' U hW => word_at hW (Or.inl (by first | rfl | simp [Cond.onTables, Cond.keeps, Cond.steady])) hini)
  obtain ⟨hx, hb, hml, ho, -⟩ := S
  intro T hT X
  obtain ⟨mk, methM, cM, hnamed, hmethM, -, -, -, -, -, -, hsigM⟩ := Cond.codeWith_spec hcode
  have hstatic : methM.isStatic = true := Cond.static_spec hnamed hmethM hstt
  obtain ⟨kP, hkP, -⟩ := className_of_methodNamed hnamed
  have hinitP : kP.init = .initialized := Cond.initialized_spec (findClass_of_methodNamed hnamed) hkP hini
  have hcount : As.length = methM.sig.parameters.length := by
    rw [hsigM] at hlen
    rw [hn]
    exact (Option.some.inj hlen).symm
  obtain ⟨vm₁, X₁, hstep₁⟩ := X.invokestatic hx ho hl hnamed hmethM hstatic hkP hinitP hy (g := g) hg (argsL := As) (rest := rest) hcount hstack (by rw [hb]; exact hdg)
  obtain ⟨v, B, X', hpost, hsteps⟩ := hK m meth c ⟨T.setVm vm₁, locs, cells, slots⟩ { g with stack := rest } (.invokestatic index) mk As.toArray X₁ hg (hsize.trans hml.symm) (by rw [hb]; exact hdg) hW (X₁.named hnamed) ⟨hf.1, hf.2, hp.2 (T.setVm vm₁) hT X₁.warmed⟩
  obtain ⟨U', l2, c2, s2⟩ := B
  obtain ⟨g', mk2, t, L, e1, e2, hq, h1, hL, h2, h3⟩ := hpost
  dsimp only [Pt.U, Pt.locs, Pt.cells, Pt.slots] at X' e1 e2 h1 h2 h3 hsteps
  subst h1; subst h2; subst h3
  exact ⟨v, (T.setVm vm₁).calling g' mk2 As.toArray, t, U', L, hT, X', hL, e1, e2, hq, fun target h => hstep₁ _ fun acts => by rw [doInvoke_state]; exact hsteps.trans h⟩
end
section
variable {l : Launch} {xs : Nat → Int32} {Ln : Nat} {D : va_G} {cA : Nat → ClassId} {ad : Nat → Nat} {A : Nat → Prop}
theorem am_blind5 {av : List Value} {g : am_G} : FrameBlind (va_Pc av (am_B5 xs Ln D cA ad A g)) := fun a U gg mk q => ⟨q.1, ⟨⟨am_X_moved (s := U) (U := U.calling gg mk a) q.2.1.1.1 (State.WarmedH.refl U) (Nat.le_refl _) (fun _ _ _ => rfl), q.2.1.1.2⟩, am_Xt_moved (s := U) (U := U.calling gg mk a) q.2.1.2 (State.WarmedH.refl U) (fun _ _ _ => rfl)⟩, am_Nk_moved (s := U) (U := U.calling gg mk a) q.2.2 (State.WarmedH.refl U)⟩
theorem am_pre5 {s : State} {H : Heap} {locs : List Loc} {g : am_G} {av : List Value} (hX : am_X xs Ln D cA ad A s) (hXt : am_Xt A s) (hNk : am_Nk s) (hS : va_S A s.heap H locs) (hP : va_P D am_cl (am_ws ad cA g) H) (hD : va_D A (am_ws ad cA g)) : ∀ U : State, U.heap = H → s.WarmedH U.vm → va_Pc av (am_B5 xs Ln D cA ad A g) av.toArray U :=
  fun U hU hWm => ⟨rfl, ⟨⟨am_X_moved hX hWm (by rw [hU]; exact hS.1) (fun q h1 h2 => by rw [hU]; exact hS.2.1 q h1 h2), by rw [hU]; exact hP, hD⟩, am_Xt_moved hXt hWm (fun q h1 h2 => by rw [hU]; exact hS.2.1 q h1 h2)⟩, am_Nk_moved hNk hWm⟩
theorem am_call3 {p : Program} {e : Env} {R : Room} {s : State} {m : MethodId} {args : Array Value} {below : List Frame} {meth : Method} {c : Code} {cells slots : Nat} {Q : State → Prop} {mi pc nxt len a b d w n : Nat} {v : Value} {L' : am_L} {S as r0 : List Value} {g g1 : am_G} {vo : Option Value} {H : Heap} {ls : Array Slot} {locs : List Loc}
    (hW : am_Wk p R s m args c xs Ln D cA ad A mi) (hXt : am_Xt A s) (hNk : am_Nk s) (hcs : cells + 1 ≤ R.cells ∧ slots + 6 ≤ R.slots) (hdec : decode (am_bytes mi) pc = .ok (.invokestatic n, len)) (hok : am_okI mi pc (.invokestatic n) len nxt v a b d w = true) (hk3 : am_kd a = 3)
    (hb1 : Nat.beq b 1 = false) (hb2 : Nat.beq b 2 = false) (hpop : am_pop d S [] = some (as, r0)) (hr8 : am_wt r0 ≤ 8) (hR : am_Rel xs Ln s D cA ad A mi L' g H ls locs)
    (hM : Met l (am_y a) (am_cw3 a (am_hhs a)) (am_rm4 a) (va_Pc (as.map (am_cv ad)) (am_B5 xs Ln D cA ad A g)) (am_Qm xs Ln D cA ad A g1 vo) 1 6 A)
    (kk : ∀ (H1 : Heap) (locs1 : List Loc), am_Rel xs Ln s D cA ad A mi L' g1 H1 ls locs1 → W p l e R s m args below meth c H1 locs1 (cells + 1) (slots + 6) Q (F0 m (pc + 3) ls ((vo.toList ++ r0).map (am_cv ad)))) :
    W p l e R s m args below meth c H locs cells slots Q (F0 m pc ls (S.map (am_cv ad))) := by
  obtain ⟨hx, hb, hml, hown, hts, hXX, hF, hLo⟩ := hW
  obtain ⟨hl, hP, hD, hS, hG⟩ := hR
  obtain ⟨ys, y1, y2, y3⟩ := am_pop_spec d S [] as _ hpop
  rw [List.append_nil] at y2
  have hlen : (as.map (am_cv ad)).length = d := by rw [List.length_map, y2, List.length_reverse]; exact y3
  have hstk : S.map (am_cv ad) = (as.map (am_cv ad)).reverse ++ r0.map (am_cv ad) := by rw [y1, y2, List.map_append, List.map_reverse, List.reverse_reverse]
  have e1 : Nat.beq (am_kd a) 1 = false := by rw [hk3]; rfl
  cases hb3 : Nat.beq b 3 with
  | true =>
    simp only [am_okI, hb1, hb2, hb3, am_callok, cond_false, cond_true, Bool.and_eq_true, decide_eq_true_eq] at hok
    obtain ⟨⟨rfl, rfl⟩, ⟨hl1, ⟨⟨hl2, hl3⟩, hl4⟩, hl5⟩, hl7⟩ := hok
    rw [e1] at hl7
    cases hl7
  | false =>
    simp only [am_okI, hb1, hb2, hb3, am_callok, cond_false, Bool.and_eq_true, Bool.or_eq_true, decide_eq_true_eq] at hok
    obtain ⟨⟨rfl, rfl⟩, ⟨hl1, ⟨⟨hl2, hl3⟩, hl4⟩, hl5⟩, hl7⟩ := hok
    have hw3 := am_okW_of hk3
    unfold am_okW at hw3
    simp only [Bool.and_eq_true, decide_eq_true_eq] at hw3
    obtain ⟨⟨⟨⟨w1, w2⟩, w3⟩, w4⟩, w5⟩ := hw3
    have w1' := am_in_WG w1 rfl
    have hws : ∀ w ∈ am_cw3 a (am_hhs a), ∀ (a' : Array Value) (U : State), s.WarmedH U.vm → w.before a' U = true := pay_in hts (am_good (fun w hw => (List.mem_cons.mp hw).elim (fun z => by rw [z]; exact w1') (fun z => z)))
    refine am_callr (vv := vo.map (am_cv ad)) (B := am_Bq xs Ln D cA ad A g1) (rest := r0.map (am_cv ad)) (am_runSW (As := as.map (am_cv ad)) (Ts := am_WG) (hh := am_hhs a) (bytes := am_bytes a) (maxL := am_maxL a) (ret := am_rt a) ⟨hx, hb, hml, hown, hts⟩ hM rfl rfl (by show am_fr a + 1 ≤ R.frames; omega) (by show 8 + (am_maxL a + 11) + am_lo a ≤ R.locals; omega) hws List.mem_cons_self (hts _ w1') (hts _ (am_in_WG w2 rfl)) (hts _ (am_in_WG w5 rfl)) ⟨w3, w4⟩ hl3 (hts _ (am_word_in hl1)) ⟨am_blind5, am_pre5 hXX hXt hNk hS hP hD⟩ rfl hlen hl.1 hstk (lv_room (by rw [am_wt_cat]; exact hr8)) hdec hcs) hS (fun t2 H1 locs1 e1 hB hS1 => ?_)
    obtain ⟨q1, q2, q3⟩ := hB
    rw [am_map_app]
    exact kk H1 locs1 ⟨hl, by rw [← e1]; exact q1, q2, hS1, q3⟩
theorem am_w3_90 {as : List Value} (h : am_w3 90 as = true) : ∃ q, as = [.ref 8, .int q, .ref 53] := by
  simp only [am_w3, show Nat.beq 90 91 = false from rfl, show Nat.beq 90 90 = true from rfl, cond_false, cond_true] at h
  split at h
  · rename_i x q y
    rw [Bool.and_eq_true] at h
    cases Nat.eq_of_beq_eq_true h.1
    cases Nat.eq_of_beq_eq_true h.2
    exact ⟨q, rfl⟩
  · cases h
theorem am_w3_91 {as : List Value} (h : am_w3 91 as = true) : as = [.ref 8, .ref 53] := by
  simp only [am_w3, show Nat.beq 91 91 = true from rfl, cond_true] at h
  split at h
  · rename_i x y
    rw [Bool.and_eq_true] at h
    cases Nat.eq_of_beq_eq_true h.1
    cases Nat.eq_of_beq_eq_true h.2
    rfl
  · cases h
theorem am_fin_v {i : Instr} {nxt kp w : Nat} {v : Value} {a b d mi pc : Nat} {L : am_L} {S : List Value} {g : am_G} {t : Nat} {act : am_A} {r : am_R} (hk : am_kd mi = 3) (hc : am_code mi pc = some (i, nxt, kp, v, a, b, d, w)) (hp : ¬ am_plain i b = true) (h : am_do i nxt v a b d mi pc L S g t = some act) (hf : am_fin act r) : ∃ v, r.1 = .inl (some v) := by
  have hr := am_r3_of hk hc
  cases i with
  | invokevirtual n =>
    obtain ⟨ml, as, k, r, fs, rfl, h1, h2, h3⟩ := am_iv_inv h
    obtain ⟨h4, h5, h6⟩ := am_call_inv h3
    rcases hf with z | z <;> (rw [h6] at z; simp at z)
  | invokestatic n =>
    have hp : ¬ (Nat.beq b 1 || Nat.beq b 2) = true := hp
    rw [Bool.not_eq_true, Bool.or_eq_false_iff] at hp
    change (bif Nat.beq b 1 then am_mx mi nxt L S g t (fun x y => if x < y then y else x) else bif Nat.beq b 2 then am_mx mi nxt L S g t (fun x y => if y < x then y else x) else am_is mi pc L S g t v a d) = some act at h
    rw [hp.1, hp.2] at h
    obtain ⟨ml, as, r, rfl, h1, h3⟩ := am_is_inv h
    obtain ⟨h4, h5, h6⟩ := am_call_inv h3
    rcases hf with z | z <;> (rw [h6] at z; simp at z)
  | ireturn =>
    change Nat.beq d 3 = true at hr
    cases Nat.eq_of_beq_eq_true hr
    change am_irt S g t 3 = some act at h
    unfold am_irt at h
    split at h
    · have e := (Option.some.inj h).symm
      rcases hf with z | z
      · rw [e] at z
        simp only [Sum.inr.injEq, Sum.inl.injEq] at z
        rw [← z]
        exact ⟨_, rfl⟩
      · rw [e] at z
        simp at z
    · cases h
  | areturn => cases hr
  | return_ => cases hr
  | new n => cases hr
  | _ => exact absurd rfl hp
theorem am_ev_v : ∀ (k : Nat) (st : am_S) (r : am_R), am_eval k st = some r → am_kd st.1 = 3 → ∃ v, r.1 = .inl (some v) := by
  intro k
  induction k with
  | zero => intro st r h; cases h
  | succ k ih =>
    rintro ⟨mi, pc, L, S, g, t⟩ r h hk
    rw [am_eval] at h
    cases hs : am_step (mi, pc, L, S, g, t) with
    | none => rw [hs] at h; cases h
    | some act =>
      rw [hs] at h
      obtain ⟨i, nxt, kp, v, a, b, d, w, L', hc, hsub, hdo⟩ := am_step_inv hs
      by_cases hp : am_plain i b = true
      · have hsh := am_do_sh hp hdo
        have go : ∀ s1 : am_S, s1.1 = mi → am_eval k s1 = some r → ∃ v, r.1 = .inl (some v) := fun s1 e1 h1 => ih s1 r h1 (by rw [e1]; exact hk)
        rcases act with s1 | ⟨bb, s1⟩ | (⟨q, x, y, s1, s2⟩ | ⟨bb, q, x, y, s1, s2⟩) | r' | ⟨bb, r'⟩ | ⟨e1, rs⟩ | s1
        · exact go s1 hsh h
        · cases bb with
          | false => cases h
          | true => exact go s1 hsh h
        · dsimp only at h
          cases hq : am_cmp q x y with
          | true => rw [hq] at h; exact go s1 hsh.1 h
          | false => rw [hq] at h; exact go s2 hsh.2 h
        · cases bb with
          | false => cases h
          | true =>
            dsimp only [cond_true] at h
            cases hq : am_cmp q x y with
            | true => rw [hq] at h; exact go s1 hsh.1 h
            | false => rw [hq] at h; exact go s2 hsh.2 h
        · exact hsh.elim
        · exact hsh.elim
        · exact hsh.elim
        · exact go s1 hsh h
      · have after : ∀ (e0 : am_S) (r0 : List Value), (match am_eval k e0 with
            | some r1 => match am_cont (mi, pc, L', r0, g, t) r1 with
              | some s1 => am_eval k s1
              | none => none
            | none => none) = some r → ∃ v, r.1 = .inl (some v) := by
          intro e0 r0 hh
          cases he : am_eval k e0 with
          | none => rw [he] at hh; cases hh
          | some r1 =>
            rw [he] at hh
            dsimp only at hh
            cases hcn : am_cont (mi, pc, L', r0, g, t) r1 with
            | none => rw [hcn] at hh; cases hh
            | some s1 =>
              rw [hcn] at hh
              exact ih _ _ hh (by rw [(am_cont_t hcn).2]; exact hk)
        rcases am_np hp hdo with ⟨r', rfl⟩ | ⟨bb, r', rfl⟩ | ⟨n, ml, as, k0, r0, fs, rfl, hv, hpop, ho, hr8, hml, rfl⟩ | ⟨n, ml, as, r0, rfl, hb1, hb2, hv, hpop, hr8, hml, rfl⟩
        · cases Option.some.inj h
          exact am_fin_v hk hc hp hdo (Or.inl rfl)
        · cases bb with
          | false => cases h
          | true =>
            cases Option.some.inj h
            exact am_fin_v hk hc hp hdo (Or.inr rfl)
        · exact after _ _ h
        · exact after _ _ h
theorem am_met3 {a k t t1 : Nat} {as : List Value} {g g1 : am_G} {vo : Option Value} (hk3 : am_kd a = 3) (hlt : l.stackTraces = false) (hG : am_Gx xs Ln g) (hw : am_w3 a as = true) (hev : am_eval k (a, 0, am_args 0 as, [], g, t) = some (.inl vo, g1, t1)) :
    Met l (am_y a) (am_cw3 a (am_hhs a)) (am_rm4 a) (va_Pc (as.map (am_cv ad)) (am_B5 xs Ln D cA ad A g)) (am_Qm xs Ln D cA ad A g1 vo) 1 6 A := by
  obtain ⟨v, hv⟩ := am_ev_v _ _ _ hev hk3
  cases Sum.inl.inj hv
  rcases am_kd3_of hk3 with rfl | rfl
  · obtain ⟨q, rfl⟩ := am_w3_90 hw
    exact am_met90 hlt hG hev
  · obtain rfl := am_w3_91 hw
    exact am_met91 hlt hG hev
def am_PL (p : Program) (l : Launch) (e : Env) (R : Room) (s : State) (m : MethodId) (args : Array Value) (below : List Frame) (meth : Method) (c : Code) (c0 n0 : Nat) (Q : State → Prop) (xs : Nat → Int32) (Ln : Nat) (D : va_G) (cA : Nat → ClassId) (ad : Nat → Nat) (A : Nat → Prop) (st : am_S) : Prop := am_PW p l e R s m args below meth c (c0 + st.2.2.2.2.2) (n0 + 6 * st.2.2.2.2.2) Q xs Ln D cA ad A st
theorem am_kd0 : am_kd 0 = 0 := by decide +kernel
theorem am_lwalk (hlt : l.stackTraces = false) : ∀ (k : Nat) (st : am_S) (r : am_R), am_eval k st = some r → st.1 = 0 → ∀ (p : Program) (e : Env) (R : Room) (s : State) (m : MethodId) (args : Array Value) (below : List Frame) (meth : Method) (c : Code) (c0 n0 : Nat) (Q : State → Prop), am_Wk p R s m args c xs Ln D cA ad A 0 → am_Xt A s → am_Nk s → c0 + r.2.2 ≤ R.cells ∧ n0 + 6 * r.2.2 ≤ R.slots →
    (∀ (st' : am_S) (act : am_A), st'.1 = 0 → am_step st' = some act → am_fin act r → am_PL p l e R s m args below meth c c0 n0 Q xs Ln D cA ad A st') → am_PL p l e R s m args below meth c c0 n0 Q xs Ln D cA ad A st := by
  intro k
  induction k with
  | zero => intro st r h; cases h
  | succ k ih =>
    rintro ⟨mi, pc, L, S, g, t⟩ r h hmi p e R s m args below meth c c0 n0 Q hW hXt hNk hcs hfin
    cases hmi
    have hrt := am_ev_t _ _ _ h
    have hle : t ≤ r.2.2 := by
      dsimp only at hrt
      omega
    rw [am_eval] at h
    have hk0 : am_kd 0 ≠ 3 := by rw [am_kd0]; decide
    have hct : c0 + t ≤ R.cells ∧ n0 + 6 * t ≤ R.slots := ⟨by omega, by omega⟩
    cases hs : am_step (0, pc, L, S, g, t) with
    | none => rw [hs] at h; cases h
    | some act =>
      rw [hs] at h
      obtain ⟨i, nxt, kp, v, a, b, d, w, L', hc, hsub, hdo⟩ := am_step_inv hs
      obtain ⟨len, hdec, hok⟩ := am_code_dec hc
      show am_PW p l e R s m args below meth c (c0 + t) (n0 + 6 * t) Q xs Ln D cA ad A (0, pc, L, S, g, t)
      intro H ls locs hR
      have hR' := am_Rel_sub hR hsub
      by_cases hp : am_plain i b = true
      · have hsh := am_do_sh hp hdo
        have htk := am_do_tk hp hdo
        refine am_do_sound hW hct hdec hok hp hdo ?_ hR'
        have go : ∀ s1 : am_S, s1.1 = 0 → s1.2.2.2.2.2 = t → am_eval k s1 = some r → am_PW p l e R s m args below meth c (c0 + t) (n0 + 6 * t) Q xs Ln D cA ad A s1 := fun s1 e1 e2 h1 => by
          have := ih s1 r h1 e1 p e R s m args below meth c c0 n0 Q hW hXt hNk hcs hfin
          unfold am_PL at this
          rw [e2] at this
          exact this
        rcases act with s1 | ⟨bb, s1⟩ | (⟨q, x, y, s1, s2⟩ | ⟨bb, q, x, y, s1, s2⟩) | r' | ⟨bb, r'⟩ | ⟨e1, rs⟩ | s1
        · exact go s1 hsh htk h
        · cases bb with
          | false => cases h
          | true => exact ⟨rfl, go s1 hsh htk h⟩
        · exact ⟨fun z => go s1 hsh.1 htk.1 (by dsimp only at h; rw [z] at h; exact h), fun z => go s2 hsh.2 htk.2 (by dsimp only at h; rw [z] at h; exact h)⟩
        · cases bb with
          | false => cases h
          | true => exact ⟨rfl, fun z => go s1 hsh.1 htk.1 (by dsimp only [cond_true] at h; rw [z] at h; exact h), fun z => go s2 hsh.2 htk.2 (by dsimp only [cond_true] at h; rw [z] at h; exact h)⟩
        · exact hsh.elim
        · exact hsh.elim
        · exact hsh.elim
        · exact go s1 hsh htk h
      · have after : ∀ (e0 : am_S) (r0 : List Value), (match am_eval k e0 with
            | some r1 => match am_cont (0, pc, L', r0, g, t) r1 with
              | some s1 => am_eval k s1
              | none => none
            | none => none) = some r → ∃ vo g1 t1, am_eval k e0 = some (.inl vo, g1, t1) ∧ am_eval k (0, pc + 3, L', vo.toList ++ r0, g1, t1) = some r := by
          intro e0 r0 hh
          cases he : am_eval k e0 with
          | none => rw [he] at hh; cases hh
          | some r1 =>
            rw [he] at hh
            obtain ⟨o, g1, t1⟩ := r1
            rcases o with (_ | v1) | x
            · exact ⟨none, g1, t1, rfl, hh⟩
            · exact ⟨some v1, g1, t1, rfl, hh⟩
            · dsimp only [am_cont] at hh
              rw [am_catch_of hk0] at hh
              cases hh
        rcases am_np hp hdo with ⟨r', rfl⟩ | ⟨bb, r', rfl⟩ | ⟨n, ml, as, k0, r0, fs, rfl, hv, hpop, ho, hr8, hml, rfl⟩ | ⟨n, ml, as, r0, rfl, hb1, hb2, hv, hpop, hr8, hml, rfl⟩
        · cases Option.some.inj h
          exact hfin _ _ rfl hs (Or.inl rfl) H ls locs hR
        · cases bb with
          | false => cases h
          | true =>
            cases Option.some.inj h
            exact hfin _ _ rfl hs (Or.inr rfl) H ls locs hR
        · obtain ⟨vo, g1, t1, h1, h2⟩ := after _ _ h
          have ht1 := am_ev_t _ _ _ h1
          dsimp only at ht1
          refine am_callv hW hct hdec hok hk0 hv hpop ho hr8 hR' (fun hlow hmx => am_met hlow (by rw [hmx]; exact hml) hR.2.2.2.2 (fun p e R s m args below meth c cells slots Q hW1 hc1 hf1 => am_walk k _ _ h1 (by unfold am_wk; rw [hlow]; rfl) p e R s m args below meth c cells slots Q hW1 hc1 hf1)) (fun H1 locs1 hR1 => ?_)
          exact W.widen (by show c0 + t ≤ c0 + t1; omega) (by show n0 + 6 * t ≤ n0 + 6 * t1; omega) (ih (0, pc + 3, L', vo.toList ++ r0, g1, t1) r h2 rfl p e R s m args below meth c c0 n0 Q hW hXt hNk hcs hfin H1 ls locs1 hR1)
        · obtain ⟨vo, g1, t1, h1, h2⟩ := after _ _ h
          have ht1 := am_ev_t _ _ _ h1
          have ht2 := am_ev_t _ _ _ h2
          dsimp only at ht1 ht2
          by_cases hk3 : am_kd a = 3
          · have hd1 : am_dl a = 1 := by unfold am_dl; rw [hk3]; rfl
            have hw3 : am_w3 a as = true := by
              have h9 : (bif Nat.beq b 1 then am_mx 0 nxt L' S g t (fun x y => if x < y then y else x) else bif Nat.beq b 2 then am_mx 0 nxt L' S g t (fun x y => if y < x then y else x) else am_is 0 pc L' S g t v a d) = some _ := hdo
              rw [hb1, hb2] at h9
              exact am_is_w3 h9 hpop
            refine am_call3 hW hXt hNk ⟨by omega, by omega⟩ hdec hok hk3 hb1 hb2 hpop hr8 hR' (am_met3 hk3 hlt hR.2.2.2.2 hw3 h1) (fun H1 locs1 hR1 => ?_)
            exact W.widen (by show c0 + t + 1 ≤ c0 + t1; omega) (by show n0 + 6 * t + 6 ≤ n0 + 6 * t1; omega) (ih (0, pc + 3, L', vo.toList ++ r0, g1, t1) r h2 rfl p e R s m args below meth c c0 n0 Q hW hXt hNk hcs hfin H1 ls locs1 hR1)
          · refine am_calls hW hct hdec hok (Or.inr hk3) hb1 hb2 hv hpop hr8 hR' (fun hlow hmx => am_met hlow (by rw [hmx]; exact hml) hR.2.2.2.2 (fun p e R s m args below meth c cells slots Q hW1 hc1 hf1 => am_walk k _ _ h1 (by unfold am_wk; rw [hlow]; rfl) p e R s m args below meth c cells slots Q hW1 hc1 hf1)) (fun H1 locs1 hR1 => ?_)
            exact W.widen (by show c0 + t ≤ c0 + t1; omega) (by show n0 + 6 * t ≤ n0 + 6 * t1; omega) (ih (0, pc + 3, L', vo.toList ++ r0, g1, t1) r h2 rfl p e R s m args below meth c c0 n0 Q hW hXt hNk hcs hfin H1 ls locs1 hR1)
end
end
section
def R_law : String := "RebuildDeskLaw"
def lw_P (b : Addr) (xs : List Int32) (args : Array Value) (s : State) : Prop := args = #[.ref b] ∧ s.IntsAt b xs ∧ xs.length ≤ 1536 ∧ (Jvm.Cond.and given_1 narrow_1).before args s = true
def lw_Q (_ : Array Value) (s : State) (o : Outcome) (t : State) : Prop := o = .returned (some (.int 1)) ∧ Framed s o t [] 1077 10360
def lw_Z (below : List Frame) (a : Array Value) (s : State) : State → Prop := fun t => ∃ o, t.status = .running ∧ Ended t below o ∧ lw_Q a s o t
theorem lw_ret {p : Program} {l : Launch} {e : Env} {s : State} {m : MethodId} {below : List Frame} {meth : Method} {c : Code} {b : Nat} (hx : p.tables.exec = Jvm.exec) (hb : c.code = code) (hr : meth.sig.returnType = ret) (hlocks : meth.locks = false) {pc : Nat} {H : Heap} {ls : Array Slot} (hdg : decode code pc = .ok (.ireturn, 1)) : W p l e room_1 s m #[Value.ref b] below meth c H [] 1077 10360 (lw_Z below #[Value.ref b] s) (F0 m pc ls [.int 1]) := by
  intro T hT X
  obtain ⟨fs, hret, hrun, hended, hW, hframe⟩ := X.leave (v := some (.int 1)) (hlocks := hlocks) (fun h => by rw [hr] at h; cases h)
  have hmeth' : T.vm.method? m = some meth := X.method'
  refine ⟨T.setFrames fs, ?_, .returned (some (.int 1)), hrun, hended, rfl, ⟨_, rfl⟩, hW, hframe⟩
  jvm_step X.here [X.here.top, hx, hb, hdg, hmeth', hr, ret, narrow_b1]
  (try refine ⟨rfl, ?_⟩); (try refine ⟨rfl, ?_⟩)
  first | (intro acts; rw [hret _ acts rfl rfl rfl]) | rw [hret _ _ rfl rfl rfl]
  exact Steps.refl _
def lw_At (p : Program) (s : State) (m : MethodId) (meth : Method) (c : Code) (b L : Nat) (xs : Nat → Int32) : Prop :=
  p.tables.exec = Jvm.exec ∧ c.code = code ∧ meth.sig.returnType = ret ∧ c.maxLocals = 7 ∧ s.vm.findClass R_law = some m.cls ∧ (∀ w ∈ lw_tbl, w.before #[Value.ref b] s = true) ∧ va_X b L xs s s.heap ∧ b < s.heap.size ∧ meth.locks = false ∧ (Jvm.Cond.and given_1 narrow_1).before #[Value.ref b] s = true
section
variable {l : Launch} {xs : Nat → Int32} {Ln : Nat} {D : va_G} {cA : Nat → ClassId} {ad : Nat → Nat} {A : Nat → Prop}
theorem am_law_end {p : Program} {e : Env} {s : State} {m : MethodId} {below : List Frame} {meth : Method} {c : Code} {b pc : Nat} {L : am_L} {S : List Value} {g g1 : am_G} {t t1 cells slots : Nat} {act : am_A}
    (hW : am_Wk p room_1 s m #[Value.ref b] c xs Ln D cA ad A 0) (hr : meth.sig.returnType = ret) (hlocks : meth.locks = false) (hA : ∀ q, A q → s.heap.size ≤ q) (hs : am_step (0, pc, L, S, g, t) = some act) (hf : am_fin act (.inl (some (.int 1)), g1, t1)) (hcl : cells ≤ 1077) (hsl : slots ≤ 10360) :
    am_PW p l e room_1 s m #[Value.ref b] below meth c cells slots (lw_Z below #[Value.ref b] s) xs Ln D cA ad A (0, pc, L, S, g, t) := by
  intro H ls locs hR
  obtain ⟨i, nxt, kp, v, a, bb, d, w, L', hc, hsub, h⟩ := am_step_inv hs
  obtain ⟨len, hdec, hok⟩ := am_code_dec hc
  obtain ⟨hl, hP, hD, hS, hG⟩ := hR
  obtain ⟨hx, hb, hml, hown, hts, hXX, hF, hLo⟩ := hW
  have nopl : am_plain i bb = true → False := by
    intro hp
    have := am_do_sh hp h
    rcases hf with e | e <;> rw [e] at this <;> exact this
  have en : ∀ (r : am_R), act = .inr (.inr (.inr (.inl r))) → r.1 = .inl (some (.int 1)) := by
    intro r e0
    rcases hf with e | e
    · rw [e0] at e
      simp only [Sum.inr.injEq, Sum.inl.injEq] at e
      rw [e]
    · rw [e0] at e
      simp at e
  have ec : ∀ (q : Bool) (r : am_R), act = .inr (.inr (.inr (.inr (.inl (q, r))))) → r.1 = .inl (some (.int 1)) := by
    intro q r e0
    rcases hf with e | e
    · rw [e0] at e
      simp at e
    · rw [e0] at e
      simp only [Sum.inr.injEq, Sum.inl.injEq, Prod.mk.injEq] at e
      rw [e.2]
  cases i with
  | ireturn =>
    change am_irt S g t d = some act at h
    unfold am_irt at h
    split at h
    · rename_i x
      have hx1 : (Sum.inl (some (Value.int x)) : Option Value ⊕ Nat) = .inl (some (.int 1)) := by
        split at h
        · exact en _ (Option.some.inj h).symm
        · exact ec _ _ (Option.some.inj h).symm
        · exact ec _ _ (Option.some.inj h).symm
        · exact en _ (Option.some.inj h).symm
      cases hx1
      have hlen : len = 1 := by
        unfold am_okI at hok
        dsimp only at hok
        rw [Bool.and_eq_true] at hok
        exact of_decide_eq_true hok.1
      subst hlen
      exact W.widen hcl hsl (va_forget (fun q hq => hA _ (hS.2.2 q hq)) (lw_ret hx hb hr hlocks hdec))
    · cases h
  | areturn =>
    change am_art S g t = some act at h
    unfold am_art at h
    split at h
    · have := ec _ _ (Option.some.inj h).symm
      cases this
    · cases h
  | return_ =>
    change am_vrt S g t = some act at h
    unfold am_vrt at h
    split at h
    · have := en _ (Option.some.inj h).symm
      cases this
    · cases h
  | new n =>
    change am_thr S g t a = some act at h
    unfold am_thr at h
    split at h
    · have := en _ (Option.some.inj h).symm
      cases this
    · cases h
  | invokevirtual n =>
    obtain ⟨ml, as, k, r, fs, rfl, h1, h2, h3⟩ := am_iv_inv h
    obtain ⟨h4, h5, h6⟩ := am_call_inv h3
    rcases hf with z | z <;> (rw [h6] at z; simp at z)
  | invokestatic n =>
    have hp : ¬ (Nat.beq bb 1 || Nat.beq bb 2) = true := fun q => nopl q
    rw [Bool.not_eq_true, Bool.or_eq_false_iff] at hp
    change (bif Nat.beq bb 1 then am_mx 0 nxt L' S g t (fun x y => if x < y then y else x) else bif Nat.beq bb 2 then am_mx 0 nxt L' S g t (fun x y => if y < x then y else x) else am_is 0 pc L' S g t v a d) = some act at h
    rw [hp.1, hp.2] at h
    obtain ⟨ml, as, r, rfl, h1, h3⟩ := am_is_inv h
    obtain ⟨h4, h5, h6⟩ := am_call_inv h3
    rcases hf with z | z <;> (rw [h6] at z; simp at z)
  | _ => exact (nopl rfl).elim
theorem am_law {p : Program} {e : Env} {s : State} {m : MethodId} {below : List Frame} {meth : Method} {c : Code} {b pc k t2 c0 n0 : Nat} {L : am_L} {S : List Value} {g g2 : am_G} (hlt : l.stackTraces = false)
    (hW : am_Wk p room_1 s m #[Value.ref b] c xs Ln D cA ad A 0) (hXt : am_Xt A s) (hNk : am_Nk s) (hr : meth.sig.returnType = ret) (hlocks : meth.locks = false) (hA : ∀ q, A q → s.heap.size ≤ q) (hev : am_eval k (0, pc, L, S, g, 0) = some (.inl (some (.int 1)), g2, t2)) (ht : t2 ≤ 512) (hc : c0 + 512 ≤ 1077) (hn : n0 + 3072 ≤ 10360) :
    am_PW p l e room_1 s m #[Value.ref b] below meth c c0 n0 (lw_Z below #[Value.ref b] s) xs Ln D cA ad A (0, pc, L, S, g, 0) := by
  refine am_lwalk hlt k _ _ hev rfl p e room_1 s m _ below meth c c0 n0 _ hW hXt hNk ⟨?_, ?_⟩ (fun st' act e1 e2 e3 => ?_)
  · show c0 + t2 ≤ 1077
    omega
  · show n0 + 6 * t2 ≤ 10360
    omega
  · have h1 : am_eval 1 st' = some (.inl (some (.int 1)), g2, t2) := by
      rw [am_eval, e2]
      rcases e3 with rfl | rfl <;> rfl
    have h2 := am_ev_t _ _ _ h1
    obtain ⟨mi', pc', L', S', g', t'⟩ := st'
    cases e1
    dsimp only at h2
    exact am_law_end hW hr hlocks hA e2 e3 (by show c0 + t' ≤ 1077; omega) (by show n0 + 6 * t' ≤ 10360; omega)
end
end
section
theorem am_sameA {s : State} {c1 c2 : ClassId} {ty : FieldType} (h1 : va_RA s c1 ty) (h2 : va_RA s c2 ty) : c1 = c2 := by
  cases ty with
  | object C =>
    obtain ⟨_, _, _, _, _, h⟩ := h1
    obtain ⟨_, _, _, _, _, h'⟩ := h2
    exact Option.some.inj (h.symm.trans h')
  | _ => exact Option.some.inj (Eq.trans (Eq.symm h1) h2)
abbrev am_iP (D : va_G) (cA : Nat → ClassId) (h0 : Nat) (df : va_E) (sz : Nat) (U : State) : Prop := U.heap.size = sz ∧ va_P D am_cl [(h0, df)] U.heap ∧ va_K D am_cl (am_tys cA) U ∧ va_D (fun _ => True) [(h0, df)] ∧ va_AO am_LK U
section
variable {p : Program} {l : Launch} {e : Env} {R : Room} {s : State} {m : MethodId} {args : Array Value} {below : List Frame} {meth : Method} {c : Code} {H0 H : Heap} {locs : List Loc} {cells slots : Nat} {Q : State → Prop} {D : va_G} {cA : Nat → ClassId} {A : Nat → Prop} {ws : va_W} {cc : ByteArray} {pc : Nat} {ls : Array Slot} {rest : List Value}
theorem am_newi (hexec : p.tables.exec = Jvm.exec) (hb : c.code = cc) {atype : ArrayType} (harr : (Cond.arrayClass (newarray.typeOf atype)).before args s = true) {ty : FieldType} (hty : newarray.typeOf atype = ty) (k : Nat) (hk : (am_tys cA)[k]? = some (cA k, ty)) (hK : va_K D am_cl (am_tys cA) s) (hP : va_P D am_cl ws H) (hD : va_D A ws) (hS : va_S A H0 H locs) (hA : ∀ q, H0.size ≤ q → A q)
    {n : Int32} {N' : Nat} {a0 : vp_A} (ha : ∀ cA : ClassId, vp_cell cA a0 = arrV cA N' (fun _ => defaultValue ty)) (hn : ¬ n < 0) (hN : n.toNatClampNeg = N') (hbytes : N' * componentBytes ty ≤ 536870912) (hcells : cells + 1 ≤ R.cells) (hslots : slots + N' ≤ R.slots) (hdg : decode cc pc = .ok (.newarray atype, 2))
    (kk : ∀ (q : Nat) (H1 : Heap), va_P D am_cl (ws ++ [(q, .inl (cA k, a0))]) H1 → va_D A (ws ++ [(q, .inl (cA k, a0))]) → va_S A H0 H1 locs →
      W p l e R s m args below meth c H1 locs (cells + 1) (slots + N') Q (F0 m (pc + 2) ls (.ref q :: rest))) : W p l e R s m args below meth c H locs cells slots Q (F0 m pc ls (.int n :: rest)) :=
  va_newa hexec hb harr hty hK hP hD hS hA ha hn hN hbytes hcells hslots hdg (fun q c1 H1 hK1 hP1 hD1 hS1 => by
    have e1 : c1 = cA k := am_sameA (hK1.2 5 (c1, ty) rfl).2 (hK.2 k _ hk).2
    subst e1
    exact kk q H1 hP1 hD1 hS1)
theorem am_newk (hexec : p.tables.exec = Jvm.exec) (hb : c.code = cc) {own : String} {index : Nat} (hown : s.vm.findClass own = some m.cls) (hclink : (Cond.classLink own index am_LK).before args s = true) (hover : va_AO am_LK s) (hK : va_K D am_cl (am_tys cA) s) (hP : va_P D am_cl ws H) (hD : va_D A ws) (hS : va_S A H0 H locs) (hA : ∀ q, H0.size ≤ q → A q)
    {n : Int32} {N' : Nat} (hn : ¬ n < 0) (hN : n.toNatClampNeg = N') (hbytes : N' * 4 ≤ 536870912) (hcells : cells + 1 ≤ R.cells) (hslots : slots + N' ≤ R.slots) (hdg : decode cc pc = .ok (.anewarray index, 3))
    (kk : ∀ (q : Nat) (H1 : Heap), va_P D am_cl (ws ++ [(q, .inl (cA 4, N', .inr (.inr (.inr (.inr (fun _ => none))))))]) H1 → va_D A (ws ++ [(q, .inl (cA 4, N', .inr (.inr (.inr (.inr (fun _ => none))))))]) → va_S A H0 H1 locs →
      W p l e R s m args below meth c H1 locs (cells + 1) (slots + N') Q (F0 m (pc + 3) ls (.ref q :: rest))) : W p l e R s m args below meth c H locs cells slots Q (F0 m pc ls (.int n :: rest)) :=
  va_newq hexec hb hown hclink hover hK hP hD hS hA hn hN hbytes hcells hslots hdg (fun q c1 H1 hK1 hP1 hD1 hS1 => by
    have e1 : c1 = cA 4 := am_sameA (hK1.2 5 (c1, .object am_LK) rfl).2 (hK.2 4 _ rfl).2
    subst e1
    exact kk q H1 hP1 hD1 hS1)
end
set_option maxHeartbeats 1000000 in
set_option maxRecDepth 100000 in
theorem am_i0 (l : Launch) (D : va_G) (cA : Nat → ClassId) (h0 x1 x2 sz : Nat) : Met l ⟨"RebuildDesk$Graph", "<init>", "(LRebuildDesk$Rules;LRebuildDesk$Stamps;)V"⟩ (Cond.code ⟨"RebuildDesk$Graph", "<init>", "(LRebuildDesk$Rules;LRebuildDesk$Stamps;)V"⟩ prog_2_method_1_code 3 none :: am_WG) { frames := 1, cells := 2, slots := 64, locals := 12 } (va_Pc [.ref h0, .ref x1, .ref x2] (am_iP D cA h0 (.inr (0, [.null, .null, .null, .null, .int 0])) sz)) (va_Qv (fun _ : Unit => True) (fun _ t => ∃ q1 q2 : Nat, va_P D am_cl [(h0, .inr (0, [.ref x1, .ref x2, .ref q1, .ref q2, .int 0])), (q1, .inl (cA 0, 32, .inl (fun _ => 0))), (q2, .inl (cA 0, 32, .inl (fun _ => 0)))] t.heap ∧ va_D (va_A [(h0, .inr (0, [.null, .null, .null, .null, .int 0]))] sz) [(h0, .inr (0, [.ref x1, .ref x2, .ref q1, .ref q2, .int 0])), (q1, .inl (cA 0, 32, .inl (fun _ => 0))), (q2, .inl (cA 0, 32, .inl (fun _ => 0)))]) (va_A [(h0, .inr (0, [.null, .null, .null, .null, .int 0]))] sz)) 2 64 (va_A [(h0, .inr (0, [.null, .null, .null, .null, .int 0]))] sz) := by
  refine Met.ofW (cc := prog_2_method_1_code) (maxL := 3) (ret := none) (by decide) rfl ?_
  intro p e s m args below meth c s₁ B hml hv
  obtain ⟨rfl, hsz, hP, hK, hD0, hO⟩ := hv
  have hx := B.exec
  have hb := B.bytes
  have hr := B.returns
  have htW : ∀ w ∈ am_WG, w.before _ s = true := fun w hw => atoms_spec (ws := Cond.code ⟨"RebuildDesk$Graph", "<init>", "(LRebuildDesk$Rules;LRebuildDesk$Stamps;)V"⟩ prog_2_method_1_code 3 none :: am_WG) B.pre w (List.mem_cons_of_mem _ hw)
  have hown : s.vm.findClass "RebuildDesk$Graph" = some m.cls := findClass_of_methodNamed B.named
  have hlocks := B.notSynchronized
  have hin : meth.name = "<init>" := (name_of_methodNamed B.named B.method).1
  obtain ⟨k1, ⟨ty0, k2⟩, k3⟩ := am_clok (ci := 0) (C := "RebuildDesk$Graph") (T := am_T0) (N := 5) rfl
  subst hsz
  have hD := hD0.self (sz := s.heap.size)
  generalize hAe : va_A [(h0, .inr (0, [.null, .null, .null, .null, .int 0]))] s.heap.size = A at hD ⊢
  have hA : ∀ q : Nat, s.heap.size ≤ q → A q := fun q h => by rw [← hAe]; exact Or.inr h
  have hS : va_S A s.heap s.heap [] := va_S.rf
  have hl := lv_entry ([.ref h0, .ref x1, .ref x2]) (n := 3) (Nat.le_of_ble_eq_true rfl)
  rw [lg_entry_eq]
  generalize (lg_sl ([.ref h0, .ref x1, .ref x2]) ++ List.replicate (3 - (lg_sl ([.ref h0, .ref x1, .ref x2])).length) Slot.unset).toArray = ls at hl ⊢
  have hl : lv_has ls 3 [(0, .ref h0), (1, .ref x1), (2, .ref x2)] := hl
  refine lv_aload_n hx hb (show decode prog_2_method_1_code 0 = .ok (.aload_n 0, 1) by decide +kernel) rfl (lv_at hl 0 rfl) ?_
  refine W.objInit hx hb hown (htW (.methodLink "RebuildDesk$Graph" 3 objectInit) (am_in_WG (by decide +kernel) rfl)) (htW (.instanceMethod objectInit) (am_in_WG (by decide +kernel) rfl)) (htW (.code objectInit ⟨#[0xb1]⟩ 1 none) (am_in_WG (by decide +kernel) rfl)) rfl (by rw [hml]; exact hl.1) rfl (show decode prog_2_method_1_code 1 = .ok (.invokespecial 3, 3) by decide +kernel) (Nat.le_of_ble_eq_true rfl) (Nat.le_of_ble_eq_true rfl) ?_
  refine W.eq (g2 := F0 m 4 ls []) rfl ?_
  refine lv_aload_n hx hb (show decode prog_2_method_1_code 4 = .ok (.aload_n 0, 1) by decide +kernel) rfl (lv_at hl 0 rfl) ?_
  refine lv_bipush (v := 32) hx hb (show decode prog_2_method_1_code 5 = .ok (.bipush 32, 2) by decide +kernel) (by decide +kernel) ?_
  refine am_newi (atype := .int) (ty := .int) (cells := 0) (slots := 0) (N' := 32) (a0 := (32, .inl (fun _ => 0))) hx hb (htW (.arrayClass .int) (am_in_WG (by decide +kernel) rfl)) rfl 0 rfl hK hP hD hS hA (fun _ => rfl) (by decide +kernel) (by decide +kernel) (show 32 * componentBytes .int ≤ 536870912 by decide +kernel) (show 0 + 1 ≤ 2 by decide) (show 0 + 32 ≤ 64 by decide) (show decode prog_2_method_1_code 7 = .ok (.newarray .int, 2) by decide +kernel) (fun q1 H hP hD hS => ?_)
  have hP : va_P D am_cl [(h0, .inr (0, [.null, .null, .null, .null, .int 0])), (q1, .inl (cA 0, 32, .inl (fun _ => 0)))] H := hP
  have hD : va_D A [(h0, .inr (0, [.null, .null, .null, .null, .int 0])), (q1, .inl (cA 0, 32, .inl (fun _ => 0)))] := hD
  refine va_putF (D := D) (ci := 0) (v := .ref q1) (ty := (.array .int)) (C := "RebuildDesk$Graph") (T := am_T0) (N := 5) hx hb htW k1 ty0 k2 k3 hown hK hP hD hS 0 rfl rfl 2 (by decide) (htW (.fieldLink "RebuildDesk$Graph" 9 "RebuildDesk$Graph" "sources" "[I") (am_in_WG (by decide +kernel) rfl)) (fun _ h9 => h9) rfl hin rfl (by decide +kernel) rfl rfl (Nat.le_of_ble_eq_true rfl) (show decode prog_2_method_1_code 9 = .ok (.putfield 9, 3) by decide +kernel) (fun H locs hP hD hS => ?_)
  have hP : va_P D am_cl [(h0, .inr (0, [.null, .null, .ref q1, .null, .int 0])), (q1, .inl (cA 0, 32, .inl (fun _ => 0)))] H := hP
  have hD : va_D A [(h0, .inr (0, [.null, .null, .ref q1, .null, .int 0])), (q1, .inl (cA 0, 32, .inl (fun _ => 0)))] := hD
  refine lv_aload_n hx hb (show decode prog_2_method_1_code 12 = .ok (.aload_n 0, 1) by decide +kernel) rfl (lv_at hl 0 rfl) ?_
  refine lv_bipush (v := 32) hx hb (show decode prog_2_method_1_code 13 = .ok (.bipush 32, 2) by decide +kernel) (by decide +kernel) ?_
  refine am_newi (atype := .int) (ty := .int) (cells := 1) (slots := 32) (N' := 32) (a0 := (32, .inl (fun _ => 0))) hx hb (htW (.arrayClass .int) (am_in_WG (by decide +kernel) rfl)) rfl 0 rfl hK hP hD hS hA (fun _ => rfl) (by decide +kernel) (by decide +kernel) (show 32 * componentBytes .int ≤ 536870912 by decide +kernel) (show 1 + 1 ≤ 2 by decide) (show 32 + 32 ≤ 64 by decide) (show decode prog_2_method_1_code 15 = .ok (.newarray .int, 2) by decide +kernel) (fun q2 H hP hD hS => ?_)
  have hP : va_P D am_cl [(h0, .inr (0, [.null, .null, .ref q1, .null, .int 0])), (q1, .inl (cA 0, 32, .inl (fun _ => 0))), (q2, .inl (cA 0, 32, .inl (fun _ => 0)))] H := hP
  have hD : va_D A [(h0, .inr (0, [.null, .null, .ref q1, .null, .int 0])), (q1, .inl (cA 0, 32, .inl (fun _ => 0))), (q2, .inl (cA 0, 32, .inl (fun _ => 0)))] := hD
  refine va_putF (D := D) (ci := 0) (v := .ref q2) (ty := (.array .int)) (C := "RebuildDesk$Graph") (T := am_T0) (N := 5) hx hb htW k1 ty0 k2 k3 hown hK hP hD hS 0 rfl rfl 3 (by decide) (htW (.fieldLink "RebuildDesk$Graph" 15 "RebuildDesk$Graph" "foundations" "[I") (am_in_WG (by decide +kernel) rfl)) (fun _ h9 => h9) rfl hin rfl (by decide +kernel) rfl rfl (Nat.le_of_ble_eq_true rfl) (show decode prog_2_method_1_code 17 = .ok (.putfield 15, 3) by decide +kernel) (fun H locs hP hD hS => ?_)
  have hP : va_P D am_cl [(h0, .inr (0, [.null, .null, .ref q1, .ref q2, .int 0])), (q1, .inl (cA 0, 32, .inl (fun _ => 0))), (q2, .inl (cA 0, 32, .inl (fun _ => 0)))] H := hP
  have hD : va_D A [(h0, .inr (0, [.null, .null, .ref q1, .ref q2, .int 0])), (q1, .inl (cA 0, 32, .inl (fun _ => 0))), (q2, .inl (cA 0, 32, .inl (fun _ => 0)))] := hD
  refine lv_aload_n hx hb (show decode prog_2_method_1_code 20 = .ok (.aload_n 0, 1) by decide +kernel) rfl (lv_at hl 0 rfl) ?_
  refine lv_aload_n hx hb (show decode prog_2_method_1_code 21 = .ok (.aload_n 1, 1) by decide +kernel) rfl (lv_at hl 1 rfl) ?_
  have hP : va_P D am_cl [(h0, .inr (0, [.null, .null, .ref q1, .ref q2, .int 0])), (q1, .inl (cA 0, 32, .inl (fun _ => 0))), (q2, .inl (cA 0, 32, .inl (fun _ => 0)))] H := hP
  have hD : va_D A [(h0, .inr (0, [.null, .null, .ref q1, .ref q2, .int 0])), (q1, .inl (cA 0, 32, .inl (fun _ => 0))), (q2, .inl (cA 0, 32, .inl (fun _ => 0)))] := hD
  refine va_putF (D := D) (ci := 0) (v := .ref x1) (ty := (.object "RebuildDesk$Rules")) (C := "RebuildDesk$Graph") (T := am_T0) (N := 5) hx hb htW k1 ty0 k2 k3 hown hK hP hD hS 0 rfl rfl 0 (by decide) (htW (.fieldLink "RebuildDesk$Graph" 18 "RebuildDesk$Graph" "rules" "LRebuildDesk$Rules;") (am_in_WG (by decide +kernel) rfl)) (fun _ h9 => h9) rfl hin rfl (by decide +kernel) rfl rfl (Nat.le_of_ble_eq_true rfl) (show decode prog_2_method_1_code 22 = .ok (.putfield 18, 3) by decide +kernel) (fun H locs hP hD hS => ?_)
  have hP : va_P D am_cl [(h0, .inr (0, [.ref x1, .null, .ref q1, .ref q2, .int 0])), (q1, .inl (cA 0, 32, .inl (fun _ => 0))), (q2, .inl (cA 0, 32, .inl (fun _ => 0)))] H := hP
  have hD : va_D A [(h0, .inr (0, [.ref x1, .null, .ref q1, .ref q2, .int 0])), (q1, .inl (cA 0, 32, .inl (fun _ => 0))), (q2, .inl (cA 0, 32, .inl (fun _ => 0)))] := hD
  refine lv_aload_n hx hb (show decode prog_2_method_1_code 25 = .ok (.aload_n 0, 1) by decide +kernel) rfl (lv_at hl 0 rfl) ?_
  refine lv_aload_n hx hb (show decode prog_2_method_1_code 26 = .ok (.aload_n 2, 1) by decide +kernel) rfl (lv_at hl 2 rfl) ?_
  have hP : va_P D am_cl [(h0, .inr (0, [.ref x1, .null, .ref q1, .ref q2, .int 0])), (q1, .inl (cA 0, 32, .inl (fun _ => 0))), (q2, .inl (cA 0, 32, .inl (fun _ => 0)))] H := hP
  have hD : va_D A [(h0, .inr (0, [.ref x1, .null, .ref q1, .ref q2, .int 0])), (q1, .inl (cA 0, 32, .inl (fun _ => 0))), (q2, .inl (cA 0, 32, .inl (fun _ => 0)))] := hD
  refine va_putF (D := D) (ci := 0) (v := .ref x2) (ty := (.object "RebuildDesk$Stamps")) (C := "RebuildDesk$Graph") (T := am_T0) (N := 5) hx hb htW k1 ty0 k2 k3 hown hK hP hD hS 0 rfl rfl 1 (by decide) (htW (.fieldLink "RebuildDesk$Graph" 22 "RebuildDesk$Graph" "stamps" "LRebuildDesk$Stamps;") (am_in_WG (by decide +kernel) rfl)) (fun _ h9 => h9) rfl hin rfl (by decide +kernel) rfl rfl (Nat.le_of_ble_eq_true rfl) (show decode prog_2_method_1_code 27 = .ok (.putfield 22, 3) by decide +kernel) (fun H locs hP hD hS => ?_)
  have hP : va_P D am_cl [(h0, .inr (0, [.ref x1, .ref x2, .ref q1, .ref q2, .int 0])), (q1, .inl (cA 0, 32, .inl (fun _ => 0))), (q2, .inl (cA 0, 32, .inl (fun _ => 0)))] H := hP
  have hD : va_D A [(h0, .inr (0, [.ref x1, .ref x2, .ref q1, .ref q2, .int 0])), (q1, .inl (cA 0, 32, .inl (fun _ => 0))), (q2, .inl (cA 0, 32, .inl (fun _ => 0)))] := hD
  exact W.vret hx hb hr (fun t ht _ => ⟨⟨(), rfl, trivial, q1, q2, by rw [ht]; exact hP, hD⟩, hS.F ht⟩) hS.2.2 (show decode prog_2_method_1_code 30 = .ok (.return_, 1) by decide +kernel)
set_option maxHeartbeats 1000000 in
set_option maxRecDepth 100000 in
theorem am_i1 (l : Launch) (D : va_G) (cA : Nat → ClassId) (h0 x1 sz : Nat) : Met l ⟨"RebuildDesk$Lines", "<init>", "(LRebuildDesk$Text;)V"⟩ (Cond.code ⟨"RebuildDesk$Lines", "<init>", "(LRebuildDesk$Text;)V"⟩ prog_4_method_1_code 2 none :: am_WG) { frames := 1, cells := 2, slots := 480, locals := 12 } (va_Pc [.ref h0, .ref x1] (am_iP D cA h0 (.inr (1, [.null, .null, .null, .int 0])) sz)) (va_Qv (fun _ : Unit => True) (fun _ t => ∃ q1 q2 : Nat, va_P D am_cl [(h0, .inr (1, [.ref x1, .ref q1, .ref q2, .int 0])), (q1, .inl (cA 0, 240, .inl (fun _ => 0))), (q2, .inl (cA 4, 240, .inr (.inr (.inr (.inr (fun _ => none))))))] t.heap ∧ va_D (va_A [(h0, .inr (1, [.null, .null, .null, .int 0]))] sz) [(h0, .inr (1, [.ref x1, .ref q1, .ref q2, .int 0])), (q1, .inl (cA 0, 240, .inl (fun _ => 0))), (q2, .inl (cA 4, 240, .inr (.inr (.inr (.inr (fun _ => none))))))]) (va_A [(h0, .inr (1, [.null, .null, .null, .int 0]))] sz)) 2 480 (va_A [(h0, .inr (1, [.null, .null, .null, .int 0]))] sz) := by
  refine Met.ofW (cc := prog_4_method_1_code) (maxL := 2) (ret := none) (by decide) rfl ?_
  intro p e s m args below meth c s₁ B hml hv
  obtain ⟨rfl, hsz, hP, hK, hD0, hO⟩ := hv
  have hx := B.exec
  have hb := B.bytes
  have hr := B.returns
  have htW : ∀ w ∈ am_WG, w.before _ s = true := fun w hw => atoms_spec (ws := Cond.code ⟨"RebuildDesk$Lines", "<init>", "(LRebuildDesk$Text;)V"⟩ prog_4_method_1_code 2 none :: am_WG) B.pre w (List.mem_cons_of_mem _ hw)
  have hown : s.vm.findClass "RebuildDesk$Lines" = some m.cls := findClass_of_methodNamed B.named
  have hlocks := B.notSynchronized
  have hin : meth.name = "<init>" := (name_of_methodNamed B.named B.method).1
  obtain ⟨k1, ⟨ty0, k2⟩, k3⟩ := am_clok (ci := 1) (C := "RebuildDesk$Lines") (T := am_T1) (N := 4) rfl
  subst hsz
  have hD := hD0.self (sz := s.heap.size)
  generalize hAe : va_A [(h0, .inr (1, [.null, .null, .null, .int 0]))] s.heap.size = A at hD ⊢
  have hA : ∀ q : Nat, s.heap.size ≤ q → A q := fun q h => by rw [← hAe]; exact Or.inr h
  have hS : va_S A s.heap s.heap [] := va_S.rf
  have hl := lv_entry ([.ref h0, .ref x1]) (n := 2) (Nat.le_of_ble_eq_true rfl)
  rw [lg_entry_eq]
  generalize (lg_sl ([.ref h0, .ref x1]) ++ List.replicate (2 - (lg_sl ([.ref h0, .ref x1])).length) Slot.unset).toArray = ls at hl ⊢
  have hl : lv_has ls 2 [(0, .ref h0), (1, .ref x1)] := hl
  refine lv_aload_n hx hb (show decode prog_4_method_1_code 0 = .ok (.aload_n 0, 1) by decide +kernel) rfl (lv_at hl 0 rfl) ?_
  refine W.objInit hx hb hown (htW (.methodLink "RebuildDesk$Lines" 3 objectInit) (am_in_WG (by decide +kernel) rfl)) (htW (.instanceMethod objectInit) (am_in_WG (by decide +kernel) rfl)) (htW (.code objectInit ⟨#[0xb1]⟩ 1 none) (am_in_WG (by decide +kernel) rfl)) rfl (by rw [hml]; exact hl.1) rfl (show decode prog_4_method_1_code 1 = .ok (.invokespecial 3, 3) by decide +kernel) (Nat.le_of_ble_eq_true rfl) (Nat.le_of_ble_eq_true rfl) ?_
  refine W.eq (g2 := F0 m 4 ls []) rfl ?_
  refine lv_aload_n hx hb (show decode prog_4_method_1_code 4 = .ok (.aload_n 0, 1) by decide +kernel) rfl (lv_at hl 0 rfl) ?_
  refine lv_sipush (v := 240) hx hb (show decode prog_4_method_1_code 5 = .ok (.sipush 240, 3) by decide +kernel) (by decide +kernel) ?_
  refine am_newi (atype := .int) (ty := .int) (cells := 0) (slots := 0) (N' := 240) (a0 := (240, .inl (fun _ => 0))) hx hb (htW (.arrayClass .int) (am_in_WG (by decide +kernel) rfl)) rfl 0 rfl hK hP hD hS hA (fun _ => rfl) (by decide +kernel) (by decide +kernel) (show 240 * componentBytes .int ≤ 536870912 by decide +kernel) (show 0 + 1 ≤ 2 by decide) (show 0 + 240 ≤ 480 by decide) (show decode prog_4_method_1_code 8 = .ok (.newarray .int, 2) by decide +kernel) (fun q1 H hP hD hS => ?_)
  have hP : va_P D am_cl [(h0, .inr (1, [.null, .null, .null, .int 0])), (q1, .inl (cA 0, 240, .inl (fun _ => 0)))] H := hP
  have hD : va_D A [(h0, .inr (1, [.null, .null, .null, .int 0])), (q1, .inl (cA 0, 240, .inl (fun _ => 0)))] := hD
  refine va_putF (D := D) (ci := 1) (v := .ref q1) (ty := (.array .int)) (C := "RebuildDesk$Lines") (T := am_T1) (N := 4) hx hb htW k1 ty0 k2 k3 hown hK hP hD hS 0 rfl rfl 1 (by decide) (htW (.fieldLink "RebuildDesk$Lines" 9 "RebuildDesk$Lines" "starts" "[I") (am_in_WG (by decide +kernel) rfl)) (fun _ h9 => h9) rfl hin rfl (by decide +kernel) rfl rfl (Nat.le_of_ble_eq_true rfl) (show decode prog_4_method_1_code 10 = .ok (.putfield 9, 3) by decide +kernel) (fun H locs hP hD hS => ?_)
  have hP : va_P D am_cl [(h0, .inr (1, [.null, .ref q1, .null, .int 0])), (q1, .inl (cA 0, 240, .inl (fun _ => 0)))] H := hP
  have hD : va_D A [(h0, .inr (1, [.null, .ref q1, .null, .int 0])), (q1, .inl (cA 0, 240, .inl (fun _ => 0)))] := hD
  refine lv_aload_n hx hb (show decode prog_4_method_1_code 13 = .ok (.aload_n 0, 1) by decide +kernel) rfl (lv_at hl 0 rfl) ?_
  refine lv_sipush (v := 240) hx hb (show decode prog_4_method_1_code 14 = .ok (.sipush 240, 3) by decide +kernel) (by decide +kernel) ?_
  refine am_newk (cells := 1) (slots := 240) (N' := 240) hx hb hown (htW (.classLink "RebuildDesk$Lines" 15 am_LK) (am_in_WG (by decide +kernel) rfl)) hO hK hP hD hS hA (by decide +kernel) (by decide +kernel) (by decide +kernel) (show 1 + 1 ≤ 2 by decide) (show 240 + 240 ≤ 480 by decide) (show decode prog_4_method_1_code 17 = .ok (.anewarray 15, 3) by decide +kernel) (fun q2 H hP hD hS => ?_)
  have hP : va_P D am_cl [(h0, .inr (1, [.null, .ref q1, .null, .int 0])), (q1, .inl (cA 0, 240, .inl (fun _ => 0))), (q2, .inl (cA 4, 240, .inr (.inr (.inr (.inr (fun _ => none))))))] H := hP
  have hD : va_D A [(h0, .inr (1, [.null, .ref q1, .null, .int 0])), (q1, .inl (cA 0, 240, .inl (fun _ => 0))), (q2, .inl (cA 4, 240, .inr (.inr (.inr (.inr (fun _ => none))))))] := hD
  refine va_putF (D := D) (ci := 1) (v := .ref q2) (ty := (.array (.object "RebuildDesk$LineKind"))) (C := "RebuildDesk$Lines") (T := am_T1) (N := 4) hx hb htW k1 ty0 k2 k3 hown hK hP hD hS 0 rfl rfl 2 (by decide) (htW (.fieldLink "RebuildDesk$Lines" 17 "RebuildDesk$Lines" "kinds" "[LRebuildDesk$LineKind;") (am_in_WG (by decide +kernel) rfl)) (fun _ h9 => h9) rfl hin rfl (by decide +kernel) rfl rfl (Nat.le_of_ble_eq_true rfl) (show decode prog_4_method_1_code 20 = .ok (.putfield 17, 3) by decide +kernel) (fun H locs hP hD hS => ?_)
  have hP : va_P D am_cl [(h0, .inr (1, [.null, .ref q1, .ref q2, .int 0])), (q1, .inl (cA 0, 240, .inl (fun _ => 0))), (q2, .inl (cA 4, 240, .inr (.inr (.inr (.inr (fun _ => none))))))] H := hP
  have hD : va_D A [(h0, .inr (1, [.null, .ref q1, .ref q2, .int 0])), (q1, .inl (cA 0, 240, .inl (fun _ => 0))), (q2, .inl (cA 4, 240, .inr (.inr (.inr (.inr (fun _ => none))))))] := hD
  refine lv_aload_n hx hb (show decode prog_4_method_1_code 23 = .ok (.aload_n 0, 1) by decide +kernel) rfl (lv_at hl 0 rfl) ?_
  refine lv_aload_n hx hb (show decode prog_4_method_1_code 24 = .ok (.aload_n 1, 1) by decide +kernel) rfl (lv_at hl 1 rfl) ?_
  have hP : va_P D am_cl [(h0, .inr (1, [.null, .ref q1, .ref q2, .int 0])), (q1, .inl (cA 0, 240, .inl (fun _ => 0))), (q2, .inl (cA 4, 240, .inr (.inr (.inr (.inr (fun _ => none))))))] H := hP
  have hD : va_D A [(h0, .inr (1, [.null, .ref q1, .ref q2, .int 0])), (q1, .inl (cA 0, 240, .inl (fun _ => 0))), (q2, .inl (cA 4, 240, .inr (.inr (.inr (.inr (fun _ => none))))))] := hD
  refine va_putF (D := D) (ci := 1) (v := .ref x1) (ty := (.object "RebuildDesk$Text")) (C := "RebuildDesk$Lines") (T := am_T1) (N := 4) hx hb htW k1 ty0 k2 k3 hown hK hP hD hS 0 rfl rfl 0 (by decide) (htW (.fieldLink "RebuildDesk$Lines" 21 "RebuildDesk$Lines" "text" "LRebuildDesk$Text;") (am_in_WG (by decide +kernel) rfl)) (fun _ h9 => h9) rfl hin rfl (by decide +kernel) rfl rfl (Nat.le_of_ble_eq_true rfl) (show decode prog_4_method_1_code 25 = .ok (.putfield 21, 3) by decide +kernel) (fun H locs hP hD hS => ?_)
  have hP : va_P D am_cl [(h0, .inr (1, [.ref x1, .ref q1, .ref q2, .int 0])), (q1, .inl (cA 0, 240, .inl (fun _ => 0))), (q2, .inl (cA 4, 240, .inr (.inr (.inr (.inr (fun _ => none))))))] H := hP
  have hD : va_D A [(h0, .inr (1, [.ref x1, .ref q1, .ref q2, .int 0])), (q1, .inl (cA 0, 240, .inl (fun _ => 0))), (q2, .inl (cA 4, 240, .inr (.inr (.inr (.inr (fun _ => none))))))] := hD
  exact W.vret hx hb hr (fun t ht _ => ⟨⟨(), rfl, trivial, q1, q2, by rw [ht]; exact hP, hD⟩, hS.F ht⟩) hS.2.2 (show decode prog_4_method_1_code 28 = .ok (.return_, 1) by decide +kernel)
set_option maxHeartbeats 1000000 in
set_option maxRecDepth 100000 in
theorem am_i2 (l : Launch) (D : va_G) (cA : Nat → ClassId) (h0 x1 sz : Nat) : Met l ⟨"RebuildDesk$Macros", "<init>", "(LRebuildDesk$Text;)V"⟩ (Cond.code ⟨"RebuildDesk$Macros", "<init>", "(LRebuildDesk$Text;)V"⟩ prog_5_method_1_code 2 none :: am_WG) { frames := 1, cells := 4, slots := 104, locals := 12 } (va_Pc [.ref h0, .ref x1] (am_iP D cA h0 (.inr (2, [.null, .null, .null, .null, .null, .int 0])) sz)) (va_Qv (fun _ : Unit => True) (fun _ t => ∃ q1 q2 q3 q4 : Nat, va_P D am_cl [(h0, .inr (2, [.ref x1, .ref q1, .ref q2, .ref q3, .ref q4, .int 0])), (q1, .inl (cA 0, 26, .inl (fun _ => 0))), (q2, .inl (cA 0, 26, .inl (fun _ => 0))), (q3, .inl (cA 0, 26, .inl (fun _ => 0))), (q4, .inl (cA 0, 26, .inl (fun _ => 0)))] t.heap ∧ va_D (va_A [(h0, .inr (2, [.null, .null, .null, .null, .null, .int 0]))] sz) [(h0, .inr (2, [.ref x1, .ref q1, .ref q2, .ref q3, .ref q4, .int 0])), (q1, .inl (cA 0, 26, .inl (fun _ => 0))), (q2, .inl (cA 0, 26, .inl (fun _ => 0))), (q3, .inl (cA 0, 26, .inl (fun _ => 0))), (q4, .inl (cA 0, 26, .inl (fun _ => 0)))]) (va_A [(h0, .inr (2, [.null, .null, .null, .null, .null, .int 0]))] sz)) 4 104 (va_A [(h0, .inr (2, [.null, .null, .null, .null, .null, .int 0]))] sz) := by
  refine Met.ofW (cc := prog_5_method_1_code) (maxL := 2) (ret := none) (by decide) rfl ?_
  intro p e s m args below meth c s₁ B hml hv
  obtain ⟨rfl, hsz, hP, hK, hD0, hO⟩ := hv
  have hx := B.exec
  have hb := B.bytes
  have hr := B.returns
  have htW : ∀ w ∈ am_WG, w.before _ s = true := fun w hw => atoms_spec (ws := Cond.code ⟨"RebuildDesk$Macros", "<init>", "(LRebuildDesk$Text;)V"⟩ prog_5_method_1_code 2 none :: am_WG) B.pre w (List.mem_cons_of_mem _ hw)
  have hown : s.vm.findClass "RebuildDesk$Macros" = some m.cls := findClass_of_methodNamed B.named
  have hlocks := B.notSynchronized
  have hin : meth.name = "<init>" := (name_of_methodNamed B.named B.method).1
  obtain ⟨k1, ⟨ty0, k2⟩, k3⟩ := am_clok (ci := 2) (C := "RebuildDesk$Macros") (T := am_T2) (N := 6) rfl
  subst hsz
  have hD := hD0.self (sz := s.heap.size)
  generalize hAe : va_A [(h0, .inr (2, [.null, .null, .null, .null, .null, .int 0]))] s.heap.size = A at hD ⊢
  have hA : ∀ q : Nat, s.heap.size ≤ q → A q := fun q h => by rw [← hAe]; exact Or.inr h
  have hS : va_S A s.heap s.heap [] := va_S.rf
  have hl := lv_entry ([.ref h0, .ref x1]) (n := 2) (Nat.le_of_ble_eq_true rfl)
  rw [lg_entry_eq]
  generalize (lg_sl ([.ref h0, .ref x1]) ++ List.replicate (2 - (lg_sl ([.ref h0, .ref x1])).length) Slot.unset).toArray = ls at hl ⊢
  have hl : lv_has ls 2 [(0, .ref h0), (1, .ref x1)] := hl
  refine lv_aload_n hx hb (show decode prog_5_method_1_code 0 = .ok (.aload_n 0, 1) by decide +kernel) rfl (lv_at hl 0 rfl) ?_
  refine W.objInit hx hb hown (htW (.methodLink "RebuildDesk$Macros" 3 objectInit) (am_in_WG (by decide +kernel) rfl)) (htW (.instanceMethod objectInit) (am_in_WG (by decide +kernel) rfl)) (htW (.code objectInit ⟨#[0xb1]⟩ 1 none) (am_in_WG (by decide +kernel) rfl)) rfl (by rw [hml]; exact hl.1) rfl (show decode prog_5_method_1_code 1 = .ok (.invokespecial 3, 3) by decide +kernel) (Nat.le_of_ble_eq_true rfl) (Nat.le_of_ble_eq_true rfl) ?_
  refine W.eq (g2 := F0 m 4 ls []) rfl ?_
  refine lv_aload_n hx hb (show decode prog_5_method_1_code 4 = .ok (.aload_n 0, 1) by decide +kernel) rfl (lv_at hl 0 rfl) ?_
  refine lv_bipush (v := 26) hx hb (show decode prog_5_method_1_code 5 = .ok (.bipush 26, 2) by decide +kernel) (by decide +kernel) ?_
  refine am_newi (atype := .int) (ty := .int) (cells := 0) (slots := 0) (N' := 26) (a0 := (26, .inl (fun _ => 0))) hx hb (htW (.arrayClass .int) (am_in_WG (by decide +kernel) rfl)) rfl 0 rfl hK hP hD hS hA (fun _ => rfl) (by decide +kernel) (by decide +kernel) (show 26 * componentBytes .int ≤ 536870912 by decide +kernel) (show 0 + 1 ≤ 4 by decide) (show 0 + 26 ≤ 104 by decide) (show decode prog_5_method_1_code 7 = .ok (.newarray .int, 2) by decide +kernel) (fun q1 H hP hD hS => ?_)
  have hP : va_P D am_cl [(h0, .inr (2, [.null, .null, .null, .null, .null, .int 0])), (q1, .inl (cA 0, 26, .inl (fun _ => 0)))] H := hP
  have hD : va_D A [(h0, .inr (2, [.null, .null, .null, .null, .null, .int 0])), (q1, .inl (cA 0, 26, .inl (fun _ => 0)))] := hD
  refine va_putF (D := D) (ci := 2) (v := .ref q1) (ty := (.array .int)) (C := "RebuildDesk$Macros") (T := am_T2) (N := 6) hx hb htW k1 ty0 k2 k3 hown hK hP hD hS 0 rfl rfl 1 (by decide) (htW (.fieldLink "RebuildDesk$Macros" 9 "RebuildDesk$Macros" "values" "[I") (am_in_WG (by decide +kernel) rfl)) (fun _ h9 => h9) rfl hin rfl (by decide +kernel) rfl rfl (Nat.le_of_ble_eq_true rfl) (show decode prog_5_method_1_code 9 = .ok (.putfield 9, 3) by decide +kernel) (fun H locs hP hD hS => ?_)
  have hP : va_P D am_cl [(h0, .inr (2, [.null, .ref q1, .null, .null, .null, .int 0])), (q1, .inl (cA 0, 26, .inl (fun _ => 0)))] H := hP
  have hD : va_D A [(h0, .inr (2, [.null, .ref q1, .null, .null, .null, .int 0])), (q1, .inl (cA 0, 26, .inl (fun _ => 0)))] := hD
  refine lv_aload_n hx hb (show decode prog_5_method_1_code 12 = .ok (.aload_n 0, 1) by decide +kernel) rfl (lv_at hl 0 rfl) ?_
  refine lv_bipush (v := 26) hx hb (show decode prog_5_method_1_code 13 = .ok (.bipush 26, 2) by decide +kernel) (by decide +kernel) ?_
  refine am_newi (atype := .int) (ty := .int) (cells := 1) (slots := 26) (N' := 26) (a0 := (26, .inl (fun _ => 0))) hx hb (htW (.arrayClass .int) (am_in_WG (by decide +kernel) rfl)) rfl 0 rfl hK hP hD hS hA (fun _ => rfl) (by decide +kernel) (by decide +kernel) (show 26 * componentBytes .int ≤ 536870912 by decide +kernel) (show 1 + 1 ≤ 4 by decide) (show 26 + 26 ≤ 104 by decide) (show decode prog_5_method_1_code 15 = .ok (.newarray .int, 2) by decide +kernel) (fun q2 H hP hD hS => ?_)
  have hP : va_P D am_cl [(h0, .inr (2, [.null, .ref q1, .null, .null, .null, .int 0])), (q1, .inl (cA 0, 26, .inl (fun _ => 0))), (q2, .inl (cA 0, 26, .inl (fun _ => 0)))] H := hP
  have hD : va_D A [(h0, .inr (2, [.null, .ref q1, .null, .null, .null, .int 0])), (q1, .inl (cA 0, 26, .inl (fun _ => 0))), (q2, .inl (cA 0, 26, .inl (fun _ => 0)))] := hD
  refine va_putF (D := D) (ci := 2) (v := .ref q2) (ty := (.array .int)) (C := "RebuildDesk$Macros") (T := am_T2) (N := 6) hx hb htW k1 ty0 k2 k3 hown hK hP hD hS 0 rfl rfl 2 (by decide) (htW (.fieldLink "RebuildDesk$Macros" 15 "RebuildDesk$Macros" "leads" "[I") (am_in_WG (by decide +kernel) rfl)) (fun _ h9 => h9) rfl hin rfl (by decide +kernel) rfl rfl (Nat.le_of_ble_eq_true rfl) (show decode prog_5_method_1_code 17 = .ok (.putfield 15, 3) by decide +kernel) (fun H locs hP hD hS => ?_)
  have hP : va_P D am_cl [(h0, .inr (2, [.null, .ref q1, .ref q2, .null, .null, .int 0])), (q1, .inl (cA 0, 26, .inl (fun _ => 0))), (q2, .inl (cA 0, 26, .inl (fun _ => 0)))] H := hP
  have hD : va_D A [(h0, .inr (2, [.null, .ref q1, .ref q2, .null, .null, .int 0])), (q1, .inl (cA 0, 26, .inl (fun _ => 0))), (q2, .inl (cA 0, 26, .inl (fun _ => 0)))] := hD
  refine lv_aload_n hx hb (show decode prog_5_method_1_code 20 = .ok (.aload_n 0, 1) by decide +kernel) rfl (lv_at hl 0 rfl) ?_
  refine lv_bipush (v := 26) hx hb (show decode prog_5_method_1_code 21 = .ok (.bipush 26, 2) by decide +kernel) (by decide +kernel) ?_
  refine am_newi (atype := .int) (ty := .int) (cells := 2) (slots := 52) (N' := 26) (a0 := (26, .inl (fun _ => 0))) hx hb (htW (.arrayClass .int) (am_in_WG (by decide +kernel) rfl)) rfl 0 rfl hK hP hD hS hA (fun _ => rfl) (by decide +kernel) (by decide +kernel) (show 26 * componentBytes .int ≤ 536870912 by decide +kernel) (show 2 + 1 ≤ 4 by decide) (show 52 + 26 ≤ 104 by decide) (show decode prog_5_method_1_code 23 = .ok (.newarray .int, 2) by decide +kernel) (fun q3 H hP hD hS => ?_)
  have hP : va_P D am_cl [(h0, .inr (2, [.null, .ref q1, .ref q2, .null, .null, .int 0])), (q1, .inl (cA 0, 26, .inl (fun _ => 0))), (q2, .inl (cA 0, 26, .inl (fun _ => 0))), (q3, .inl (cA 0, 26, .inl (fun _ => 0)))] H := hP
  have hD : va_D A [(h0, .inr (2, [.null, .ref q1, .ref q2, .null, .null, .int 0])), (q1, .inl (cA 0, 26, .inl (fun _ => 0))), (q2, .inl (cA 0, 26, .inl (fun _ => 0))), (q3, .inl (cA 0, 26, .inl (fun _ => 0)))] := hD
  refine va_putF (D := D) (ci := 2) (v := .ref q3) (ty := (.array .int)) (C := "RebuildDesk$Macros") (T := am_T2) (N := 6) hx hb htW k1 ty0 k2 k3 hown hK hP hD hS 0 rfl rfl 3 (by decide) (htW (.fieldLink "RebuildDesk$Macros" 18 "RebuildDesk$Macros" "files" "[I") (am_in_WG (by decide +kernel) rfl)) (fun _ h9 => h9) rfl hin rfl (by decide +kernel) rfl rfl (Nat.le_of_ble_eq_true rfl) (show decode prog_5_method_1_code 25 = .ok (.putfield 18, 3) by decide +kernel) (fun H locs hP hD hS => ?_)
  have hP : va_P D am_cl [(h0, .inr (2, [.null, .ref q1, .ref q2, .ref q3, .null, .int 0])), (q1, .inl (cA 0, 26, .inl (fun _ => 0))), (q2, .inl (cA 0, 26, .inl (fun _ => 0))), (q3, .inl (cA 0, 26, .inl (fun _ => 0)))] H := hP
  have hD : va_D A [(h0, .inr (2, [.null, .ref q1, .ref q2, .ref q3, .null, .int 0])), (q1, .inl (cA 0, 26, .inl (fun _ => 0))), (q2, .inl (cA 0, 26, .inl (fun _ => 0))), (q3, .inl (cA 0, 26, .inl (fun _ => 0)))] := hD
  refine lv_aload_n hx hb (show decode prog_5_method_1_code 28 = .ok (.aload_n 0, 1) by decide +kernel) rfl (lv_at hl 0 rfl) ?_
  refine lv_bipush (v := 26) hx hb (show decode prog_5_method_1_code 29 = .ok (.bipush 26, 2) by decide +kernel) (by decide +kernel) ?_
  refine am_newi (atype := .int) (ty := .int) (cells := 3) (slots := 78) (N' := 26) (a0 := (26, .inl (fun _ => 0))) hx hb (htW (.arrayClass .int) (am_in_WG (by decide +kernel) rfl)) rfl 0 rfl hK hP hD hS hA (fun _ => rfl) (by decide +kernel) (by decide +kernel) (show 26 * componentBytes .int ≤ 536870912 by decide +kernel) (show 3 + 1 ≤ 4 by decide) (show 78 + 26 ≤ 104 by decide) (show decode prog_5_method_1_code 31 = .ok (.newarray .int, 2) by decide +kernel) (fun q4 H hP hD hS => ?_)
  have hP : va_P D am_cl [(h0, .inr (2, [.null, .ref q1, .ref q2, .ref q3, .null, .int 0])), (q1, .inl (cA 0, 26, .inl (fun _ => 0))), (q2, .inl (cA 0, 26, .inl (fun _ => 0))), (q3, .inl (cA 0, 26, .inl (fun _ => 0))), (q4, .inl (cA 0, 26, .inl (fun _ => 0)))] H := hP
  have hD : va_D A [(h0, .inr (2, [.null, .ref q1, .ref q2, .ref q3, .null, .int 0])), (q1, .inl (cA 0, 26, .inl (fun _ => 0))), (q2, .inl (cA 0, 26, .inl (fun _ => 0))), (q3, .inl (cA 0, 26, .inl (fun _ => 0))), (q4, .inl (cA 0, 26, .inl (fun _ => 0)))] := hD
  refine va_putF (D := D) (ci := 2) (v := .ref q4) (ty := (.array .int)) (C := "RebuildDesk$Macros") (T := am_T2) (N := 6) hx hb htW k1 ty0 k2 k3 hown hK hP hD hS 0 rfl rfl 4 (by decide) (htW (.fieldLink "RebuildDesk$Macros" 21 "RebuildDesk$Macros" "names" "[I") (am_in_WG (by decide +kernel) rfl)) (fun _ h9 => h9) rfl hin rfl (by decide +kernel) rfl rfl (Nat.le_of_ble_eq_true rfl) (show decode prog_5_method_1_code 33 = .ok (.putfield 21, 3) by decide +kernel) (fun H locs hP hD hS => ?_)
  have hP : va_P D am_cl [(h0, .inr (2, [.null, .ref q1, .ref q2, .ref q3, .ref q4, .int 0])), (q1, .inl (cA 0, 26, .inl (fun _ => 0))), (q2, .inl (cA 0, 26, .inl (fun _ => 0))), (q3, .inl (cA 0, 26, .inl (fun _ => 0))), (q4, .inl (cA 0, 26, .inl (fun _ => 0)))] H := hP
  have hD : va_D A [(h0, .inr (2, [.null, .ref q1, .ref q2, .ref q3, .ref q4, .int 0])), (q1, .inl (cA 0, 26, .inl (fun _ => 0))), (q2, .inl (cA 0, 26, .inl (fun _ => 0))), (q3, .inl (cA 0, 26, .inl (fun _ => 0))), (q4, .inl (cA 0, 26, .inl (fun _ => 0)))] := hD
  refine lv_aload_n hx hb (show decode prog_5_method_1_code 36 = .ok (.aload_n 0, 1) by decide +kernel) rfl (lv_at hl 0 rfl) ?_
  refine lv_aload_n hx hb (show decode prog_5_method_1_code 37 = .ok (.aload_n 1, 1) by decide +kernel) rfl (lv_at hl 1 rfl) ?_
  have hP : va_P D am_cl [(h0, .inr (2, [.null, .ref q1, .ref q2, .ref q3, .ref q4, .int 0])), (q1, .inl (cA 0, 26, .inl (fun _ => 0))), (q2, .inl (cA 0, 26, .inl (fun _ => 0))), (q3, .inl (cA 0, 26, .inl (fun _ => 0))), (q4, .inl (cA 0, 26, .inl (fun _ => 0)))] H := hP
  have hD : va_D A [(h0, .inr (2, [.null, .ref q1, .ref q2, .ref q3, .ref q4, .int 0])), (q1, .inl (cA 0, 26, .inl (fun _ => 0))), (q2, .inl (cA 0, 26, .inl (fun _ => 0))), (q3, .inl (cA 0, 26, .inl (fun _ => 0))), (q4, .inl (cA 0, 26, .inl (fun _ => 0)))] := hD
  refine va_putF (D := D) (ci := 2) (v := .ref x1) (ty := (.object "RebuildDesk$Text")) (C := "RebuildDesk$Macros") (T := am_T2) (N := 6) hx hb htW k1 ty0 k2 k3 hown hK hP hD hS 0 rfl rfl 0 (by decide) (htW (.fieldLink "RebuildDesk$Macros" 24 "RebuildDesk$Macros" "text" "LRebuildDesk$Text;") (am_in_WG (by decide +kernel) rfl)) (fun _ h9 => h9) rfl hin rfl (by decide +kernel) rfl rfl (Nat.le_of_ble_eq_true rfl) (show decode prog_5_method_1_code 38 = .ok (.putfield 24, 3) by decide +kernel) (fun H locs hP hD hS => ?_)
  have hP : va_P D am_cl [(h0, .inr (2, [.ref x1, .ref q1, .ref q2, .ref q3, .ref q4, .int 0])), (q1, .inl (cA 0, 26, .inl (fun _ => 0))), (q2, .inl (cA 0, 26, .inl (fun _ => 0))), (q3, .inl (cA 0, 26, .inl (fun _ => 0))), (q4, .inl (cA 0, 26, .inl (fun _ => 0)))] H := hP
  have hD : va_D A [(h0, .inr (2, [.ref x1, .ref q1, .ref q2, .ref q3, .ref q4, .int 0])), (q1, .inl (cA 0, 26, .inl (fun _ => 0))), (q2, .inl (cA 0, 26, .inl (fun _ => 0))), (q3, .inl (cA 0, 26, .inl (fun _ => 0))), (q4, .inl (cA 0, 26, .inl (fun _ => 0)))] := hD
  exact W.vret hx hb hr (fun t ht _ => ⟨⟨(), rfl, trivial, q1, q2, q3, q4, by rw [ht]; exact hP, hD⟩, hS.F ht⟩) hS.2.2 (show decode prog_5_method_1_code 41 = .ok (.return_, 1) by decide +kernel)
set_option maxHeartbeats 1000000 in
set_option maxRecDepth 100000 in
theorem am_i3 (l : Launch) (D : va_G) (cA : Nat → ClassId) (h0 sz : Nat) : Met l ⟨"RebuildDesk$Report", "<init>", "()V"⟩ (Cond.code ⟨"RebuildDesk$Report", "<init>", "()V"⟩ prog_6_method_1_code 1 none :: am_WG) { frames := 1, cells := 2, slots := 64, locals := 12 } (va_Pc [.ref h0] (am_iP D cA h0 (.inr (3, [.null, .null, .int 0])) sz)) (va_Qv (fun _ : Unit => True) (fun _ t => ∃ q1 q2 : Nat, va_P D am_cl [(h0, .inr (3, [.ref q1, .ref q2, .int 0])), (q1, .inl (cA 0, 32, .inl (fun _ => 0))), (q2, .inl (cA 0, 32, .inl (fun _ => 0)))] t.heap ∧ va_D (va_A [(h0, .inr (3, [.null, .null, .int 0]))] sz) [(h0, .inr (3, [.ref q1, .ref q2, .int 0])), (q1, .inl (cA 0, 32, .inl (fun _ => 0))), (q2, .inl (cA 0, 32, .inl (fun _ => 0)))]) (va_A [(h0, .inr (3, [.null, .null, .int 0]))] sz)) 2 64 (va_A [(h0, .inr (3, [.null, .null, .int 0]))] sz) := by
  refine Met.ofW (cc := prog_6_method_1_code) (maxL := 1) (ret := none) (by decide) rfl ?_
  intro p e s m args below meth c s₁ B hml hv
  obtain ⟨rfl, hsz, hP, hK, hD0, hO⟩ := hv
  have hx := B.exec
  have hb := B.bytes
  have hr := B.returns
  have htW : ∀ w ∈ am_WG, w.before _ s = true := fun w hw => atoms_spec (ws := Cond.code ⟨"RebuildDesk$Report", "<init>", "()V"⟩ prog_6_method_1_code 1 none :: am_WG) B.pre w (List.mem_cons_of_mem _ hw)
  have hown : s.vm.findClass "RebuildDesk$Report" = some m.cls := findClass_of_methodNamed B.named
  have hlocks := B.notSynchronized
  have hin : meth.name = "<init>" := (name_of_methodNamed B.named B.method).1
  obtain ⟨k1, ⟨ty0, k2⟩, k3⟩ := am_clok (ci := 3) (C := "RebuildDesk$Report") (T := am_T3) (N := 3) rfl
  subst hsz
  have hD := hD0.self (sz := s.heap.size)
  generalize hAe : va_A [(h0, .inr (3, [.null, .null, .int 0]))] s.heap.size = A at hD ⊢
  have hA : ∀ q : Nat, s.heap.size ≤ q → A q := fun q h => by rw [← hAe]; exact Or.inr h
  have hS : va_S A s.heap s.heap [] := va_S.rf
  have hl := lv_entry ([.ref h0]) (n := 1) (Nat.le_of_ble_eq_true rfl)
  rw [lg_entry_eq]
  generalize (lg_sl ([.ref h0]) ++ List.replicate (1 - (lg_sl ([.ref h0])).length) Slot.unset).toArray = ls at hl ⊢
  have hl : lv_has ls 1 [(0, .ref h0)] := hl
  refine lv_aload_n hx hb (show decode prog_6_method_1_code 0 = .ok (.aload_n 0, 1) by decide +kernel) rfl (lv_at hl 0 rfl) ?_
  refine W.objInit hx hb hown (htW (.methodLink "RebuildDesk$Report" 3 objectInit) (am_in_WG (by decide +kernel) rfl)) (htW (.instanceMethod objectInit) (am_in_WG (by decide +kernel) rfl)) (htW (.code objectInit ⟨#[0xb1]⟩ 1 none) (am_in_WG (by decide +kernel) rfl)) rfl (by rw [hml]; exact hl.1) rfl (show decode prog_6_method_1_code 1 = .ok (.invokespecial 3, 3) by decide +kernel) (Nat.le_of_ble_eq_true rfl) (Nat.le_of_ble_eq_true rfl) ?_
  refine W.eq (g2 := F0 m 4 ls []) rfl ?_
  refine lv_aload_n hx hb (show decode prog_6_method_1_code 4 = .ok (.aload_n 0, 1) by decide +kernel) rfl (lv_at hl 0 rfl) ?_
  refine lv_bipush (v := 32) hx hb (show decode prog_6_method_1_code 5 = .ok (.bipush 32, 2) by decide +kernel) (by decide +kernel) ?_
  refine am_newi (atype := .int) (ty := .int) (cells := 0) (slots := 0) (N' := 32) (a0 := (32, .inl (fun _ => 0))) hx hb (htW (.arrayClass .int) (am_in_WG (by decide +kernel) rfl)) rfl 0 rfl hK hP hD hS hA (fun _ => rfl) (by decide +kernel) (by decide +kernel) (show 32 * componentBytes .int ≤ 536870912 by decide +kernel) (show 0 + 1 ≤ 2 by decide) (show 0 + 32 ≤ 64 by decide) (show decode prog_6_method_1_code 7 = .ok (.newarray .int, 2) by decide +kernel) (fun q1 H hP hD hS => ?_)
  have hP : va_P D am_cl [(h0, .inr (3, [.null, .null, .int 0])), (q1, .inl (cA 0, 32, .inl (fun _ => 0)))] H := hP
  have hD : va_D A [(h0, .inr (3, [.null, .null, .int 0])), (q1, .inl (cA 0, 32, .inl (fun _ => 0)))] := hD
  refine va_putF (D := D) (ci := 3) (v := .ref q1) (ty := (.array .int)) (C := "RebuildDesk$Report") (T := am_T3) (N := 3) hx hb htW k1 ty0 k2 k3 hown hK hP hD hS 0 rfl rfl 0 (by decide) (htW (.fieldLink "RebuildDesk$Report" 9 "RebuildDesk$Report" "runs" "[I") (am_in_WG (by decide +kernel) rfl)) (fun _ h9 => h9) rfl hin rfl (by decide +kernel) rfl rfl (Nat.le_of_ble_eq_true rfl) (show decode prog_6_method_1_code 9 = .ok (.putfield 9, 3) by decide +kernel) (fun H locs hP hD hS => ?_)
  have hP : va_P D am_cl [(h0, .inr (3, [.ref q1, .null, .int 0])), (q1, .inl (cA 0, 32, .inl (fun _ => 0)))] H := hP
  have hD : va_D A [(h0, .inr (3, [.ref q1, .null, .int 0])), (q1, .inl (cA 0, 32, .inl (fun _ => 0)))] := hD
  refine lv_aload_n hx hb (show decode prog_6_method_1_code 12 = .ok (.aload_n 0, 1) by decide +kernel) rfl (lv_at hl 0 rfl) ?_
  refine lv_bipush (v := 32) hx hb (show decode prog_6_method_1_code 13 = .ok (.bipush 32, 2) by decide +kernel) (by decide +kernel) ?_
  refine am_newi (atype := .int) (ty := .int) (cells := 1) (slots := 32) (N' := 32) (a0 := (32, .inl (fun _ => 0))) hx hb (htW (.arrayClass .int) (am_in_WG (by decide +kernel) rfl)) rfl 0 rfl hK hP hD hS hA (fun _ => rfl) (by decide +kernel) (by decide +kernel) (show 32 * componentBytes .int ≤ 536870912 by decide +kernel) (show 1 + 1 ≤ 2 by decide) (show 32 + 32 ≤ 64 by decide) (show decode prog_6_method_1_code 15 = .ok (.newarray .int, 2) by decide +kernel) (fun q2 H hP hD hS => ?_)
  have hP : va_P D am_cl [(h0, .inr (3, [.ref q1, .null, .int 0])), (q1, .inl (cA 0, 32, .inl (fun _ => 0))), (q2, .inl (cA 0, 32, .inl (fun _ => 0)))] H := hP
  have hD : va_D A [(h0, .inr (3, [.ref q1, .null, .int 0])), (q1, .inl (cA 0, 32, .inl (fun _ => 0))), (q2, .inl (cA 0, 32, .inl (fun _ => 0)))] := hD
  refine va_putF (D := D) (ci := 3) (v := .ref q2) (ty := (.array .int)) (C := "RebuildDesk$Report") (T := am_T3) (N := 3) hx hb htW k1 ty0 k2 k3 hown hK hP hD hS 0 rfl rfl 1 (by decide) (htW (.fieldLink "RebuildDesk$Report" 15 "RebuildDesk$Report" "reasons" "[I") (am_in_WG (by decide +kernel) rfl)) (fun _ h9 => h9) rfl hin rfl (by decide +kernel) rfl rfl (Nat.le_of_ble_eq_true rfl) (show decode prog_6_method_1_code 17 = .ok (.putfield 15, 3) by decide +kernel) (fun H locs hP hD hS => ?_)
  have hP : va_P D am_cl [(h0, .inr (3, [.ref q1, .ref q2, .int 0])), (q1, .inl (cA 0, 32, .inl (fun _ => 0))), (q2, .inl (cA 0, 32, .inl (fun _ => 0)))] H := hP
  have hD : va_D A [(h0, .inr (3, [.ref q1, .ref q2, .int 0])), (q1, .inl (cA 0, 32, .inl (fun _ => 0))), (q2, .inl (cA 0, 32, .inl (fun _ => 0)))] := hD
  exact W.vret hx hb hr (fun t ht _ => ⟨⟨(), rfl, trivial, q1, q2, by rw [ht]; exact hP, hD⟩, hS.F ht⟩) hS.2.2 (show decode prog_6_method_1_code 20 = .ok (.return_, 1) by decide +kernel)
set_option maxHeartbeats 1000000 in
set_option maxRecDepth 100000 in
theorem am_i4 (l : Launch) (D : va_G) (cA : Nat → ClassId) (h0 x1 x2 x3 sz : Nat) : Met l ⟨"RebuildDesk$RuleLines", "<init>", "(LRebuildDesk$Text;LRebuildDesk$Lines;LRebuildDesk$Macros;)V"⟩ (Cond.code ⟨"RebuildDesk$RuleLines", "<init>", "(LRebuildDesk$Text;LRebuildDesk$Lines;LRebuildDesk$Macros;)V"⟩ prog_7_method_1_code 4 none :: am_WG) { frames := 1, cells := 0, slots := 0, locals := 12 } (va_Pc [.ref h0, .ref x1, .ref x2, .ref x3] (am_iP D cA h0 (.inr (4, [.null, .null, .null])) sz)) (va_Qv (fun _ : Unit => True) (fun _ t => va_P D am_cl [(h0, .inr (4, [.ref x1, .ref x2, .ref x3]))] t.heap ∧ va_D (va_A [(h0, .inr (4, [.null, .null, .null]))] sz) [(h0, .inr (4, [.ref x1, .ref x2, .ref x3]))]) (va_A [(h0, .inr (4, [.null, .null, .null]))] sz)) 0 0 (va_A [(h0, .inr (4, [.null, .null, .null]))] sz) := by
  refine Met.ofW (cc := prog_7_method_1_code) (maxL := 4) (ret := none) (by decide) rfl ?_
  intro p e s m args below meth c s₁ B hml hv
  obtain ⟨rfl, hsz, hP, hK, hD0, hO⟩ := hv
  have hx := B.exec
  have hb := B.bytes
  have hr := B.returns
  have htW : ∀ w ∈ am_WG, w.before _ s = true := fun w hw => atoms_spec (ws := Cond.code ⟨"RebuildDesk$RuleLines", "<init>", "(LRebuildDesk$Text;LRebuildDesk$Lines;LRebuildDesk$Macros;)V"⟩ prog_7_method_1_code 4 none :: am_WG) B.pre w (List.mem_cons_of_mem _ hw)
  have hown : s.vm.findClass "RebuildDesk$RuleLines" = some m.cls := findClass_of_methodNamed B.named
  have hlocks := B.notSynchronized
  have hin : meth.name = "<init>" := (name_of_methodNamed B.named B.method).1
  obtain ⟨k1, ⟨ty0, k2⟩, k3⟩ := am_clok (ci := 4) (C := "RebuildDesk$RuleLines") (T := am_T4) (N := 3) rfl
  subst hsz
  have hD := hD0.self (sz := s.heap.size)
  generalize hAe : va_A [(h0, .inr (4, [.null, .null, .null]))] s.heap.size = A at hD ⊢
  have hA : ∀ q : Nat, s.heap.size ≤ q → A q := fun q h => by rw [← hAe]; exact Or.inr h
  have hS : va_S A s.heap s.heap [] := va_S.rf
  have hl := lv_entry ([.ref h0, .ref x1, .ref x2, .ref x3]) (n := 4) (Nat.le_of_ble_eq_true rfl)
  rw [lg_entry_eq]
  generalize (lg_sl ([.ref h0, .ref x1, .ref x2, .ref x3]) ++ List.replicate (4 - (lg_sl ([.ref h0, .ref x1, .ref x2, .ref x3])).length) Slot.unset).toArray = ls at hl ⊢
  have hl : lv_has ls 4 [(0, .ref h0), (1, .ref x1), (2, .ref x2), (3, .ref x3)] := hl
  refine lv_aload_n hx hb (show decode prog_7_method_1_code 0 = .ok (.aload_n 0, 1) by decide +kernel) rfl (lv_at hl 0 rfl) ?_
  refine W.objInit hx hb hown (htW (.methodLink "RebuildDesk$RuleLines" 3 objectInit) (am_in_WG (by decide +kernel) rfl)) (htW (.instanceMethod objectInit) (am_in_WG (by decide +kernel) rfl)) (htW (.code objectInit ⟨#[0xb1]⟩ 1 none) (am_in_WG (by decide +kernel) rfl)) rfl (by rw [hml]; exact hl.1) rfl (show decode prog_7_method_1_code 1 = .ok (.invokespecial 3, 3) by decide +kernel) (Nat.le_of_ble_eq_true rfl) (Nat.le_of_ble_eq_true rfl) ?_
  refine W.eq (g2 := F0 m 4 ls []) rfl ?_
  refine lv_aload_n hx hb (show decode prog_7_method_1_code 4 = .ok (.aload_n 0, 1) by decide +kernel) rfl (lv_at hl 0 rfl) ?_
  refine lv_aload_n hx hb (show decode prog_7_method_1_code 5 = .ok (.aload_n 1, 1) by decide +kernel) rfl (lv_at hl 1 rfl) ?_
  have hP : va_P D am_cl [(h0, .inr (4, [.null, .null, .null]))] _ := hP
  have hD : va_D A [(h0, .inr (4, [.null, .null, .null]))] := hD
  refine va_putF (D := D) (ci := 4) (v := .ref x1) (ty := (.object "RebuildDesk$Text")) (C := "RebuildDesk$RuleLines") (T := am_T4) (N := 3) hx hb htW k1 ty0 k2 k3 hown hK hP hD hS 0 rfl rfl 0 (by decide) (htW (.fieldLink "RebuildDesk$RuleLines" 9 "RebuildDesk$RuleLines" "text" "LRebuildDesk$Text;") (am_in_WG (by decide +kernel) rfl)) (fun _ h9 => h9) rfl hin rfl (by decide +kernel) rfl rfl (Nat.le_of_ble_eq_true rfl) (show decode prog_7_method_1_code 6 = .ok (.putfield 9, 3) by decide +kernel) (fun H locs hP hD hS => ?_)
  have hP : va_P D am_cl [(h0, .inr (4, [.ref x1, .null, .null]))] H := hP
  have hD : va_D A [(h0, .inr (4, [.ref x1, .null, .null]))] := hD
  refine lv_aload_n hx hb (show decode prog_7_method_1_code 9 = .ok (.aload_n 0, 1) by decide +kernel) rfl (lv_at hl 0 rfl) ?_
  refine lv_aload_n hx hb (show decode prog_7_method_1_code 10 = .ok (.aload_n 2, 1) by decide +kernel) rfl (lv_at hl 2 rfl) ?_
  have hP : va_P D am_cl [(h0, .inr (4, [.ref x1, .null, .null]))] _ := hP
  have hD : va_D A [(h0, .inr (4, [.ref x1, .null, .null]))] := hD
  refine va_putF (D := D) (ci := 4) (v := .ref x2) (ty := (.object "RebuildDesk$Lines")) (C := "RebuildDesk$RuleLines") (T := am_T4) (N := 3) hx hb htW k1 ty0 k2 k3 hown hK hP hD hS 0 rfl rfl 1 (by decide) (htW (.fieldLink "RebuildDesk$RuleLines" 15 "RebuildDesk$RuleLines" "lines" "LRebuildDesk$Lines;") (am_in_WG (by decide +kernel) rfl)) (fun _ h9 => h9) rfl hin rfl (by decide +kernel) rfl rfl (Nat.le_of_ble_eq_true rfl) (show decode prog_7_method_1_code 11 = .ok (.putfield 15, 3) by decide +kernel) (fun H locs hP hD hS => ?_)
  have hP : va_P D am_cl [(h0, .inr (4, [.ref x1, .ref x2, .null]))] H := hP
  have hD : va_D A [(h0, .inr (4, [.ref x1, .ref x2, .null]))] := hD
  refine lv_aload_n hx hb (show decode prog_7_method_1_code 14 = .ok (.aload_n 0, 1) by decide +kernel) rfl (lv_at hl 0 rfl) ?_
  refine lv_aload_n hx hb (show decode prog_7_method_1_code 15 = .ok (.aload_n 3, 1) by decide +kernel) rfl (lv_at hl 3 rfl) ?_
  have hP : va_P D am_cl [(h0, .inr (4, [.ref x1, .ref x2, .null]))] _ := hP
  have hD : va_D A [(h0, .inr (4, [.ref x1, .ref x2, .null]))] := hD
  refine va_putF (D := D) (ci := 4) (v := .ref x3) (ty := (.object "RebuildDesk$Macros")) (C := "RebuildDesk$RuleLines") (T := am_T4) (N := 3) hx hb htW k1 ty0 k2 k3 hown hK hP hD hS 0 rfl rfl 2 (by decide) (htW (.fieldLink "RebuildDesk$RuleLines" 19 "RebuildDesk$RuleLines" "macros" "LRebuildDesk$Macros;") (am_in_WG (by decide +kernel) rfl)) (fun _ h9 => h9) rfl hin rfl (by decide +kernel) rfl rfl (Nat.le_of_ble_eq_true rfl) (show decode prog_7_method_1_code 16 = .ok (.putfield 19, 3) by decide +kernel) (fun H locs hP hD hS => ?_)
  have hP : va_P D am_cl [(h0, .inr (4, [.ref x1, .ref x2, .ref x3]))] H := hP
  have hD : va_D A [(h0, .inr (4, [.ref x1, .ref x2, .ref x3]))] := hD
  exact W.vret hx hb hr (fun t ht _ => ⟨⟨(), rfl, trivial, by rw [ht]; exact hP, hD⟩, hS.F ht⟩) hS.2.2 (show decode prog_7_method_1_code 19 = .ok (.return_, 1) by decide +kernel)
set_option maxHeartbeats 1000000 in
set_option maxRecDepth 100000 in
theorem am_i5 (l : Launch) (D : va_G) (cA : Nat → ClassId) (h0 sz : Nat) : Met l ⟨"RebuildDesk$Rules", "<init>", "()V"⟩ (Cond.code ⟨"RebuildDesk$Rules", "<init>", "()V"⟩ prog_8_method_1_code 1 none :: am_WG) { frames := 1, cells := 3, slots := 92, locals := 12 } (va_Pc [.ref h0] (am_iP D cA h0 (.inr (5, [.null, .null, .null, .int 0, .int 0])) sz)) (va_Qv (fun _ : Unit => True) (fun _ t => ∃ q1 q2 q3 : Nat, va_P D am_cl [(h0, .inr (5, [.ref q1, .ref q2, .ref q3, .int 0, .int 0])), (q1, .inl (cA 0, 32, .inl (fun _ => 0))), (q2, .inl (cA 0, 30, .inl (fun _ => 0))), (q3, .inl (cA 0, 30, .inl (fun _ => 0)))] t.heap ∧ va_D (va_A [(h0, .inr (5, [.null, .null, .null, .int 0, .int 0]))] sz) [(h0, .inr (5, [.ref q1, .ref q2, .ref q3, .int 0, .int 0])), (q1, .inl (cA 0, 32, .inl (fun _ => 0))), (q2, .inl (cA 0, 30, .inl (fun _ => 0))), (q3, .inl (cA 0, 30, .inl (fun _ => 0)))]) (va_A [(h0, .inr (5, [.null, .null, .null, .int 0, .int 0]))] sz)) 3 92 (va_A [(h0, .inr (5, [.null, .null, .null, .int 0, .int 0]))] sz) := by
  refine Met.ofW (cc := prog_8_method_1_code) (maxL := 1) (ret := none) (by decide) rfl ?_
  intro p e s m args below meth c s₁ B hml hv
  obtain ⟨rfl, hsz, hP, hK, hD0, hO⟩ := hv
  have hx := B.exec
  have hb := B.bytes
  have hr := B.returns
  have htW : ∀ w ∈ am_WG, w.before _ s = true := fun w hw => atoms_spec (ws := Cond.code ⟨"RebuildDesk$Rules", "<init>", "()V"⟩ prog_8_method_1_code 1 none :: am_WG) B.pre w (List.mem_cons_of_mem _ hw)
  have hown : s.vm.findClass "RebuildDesk$Rules" = some m.cls := findClass_of_methodNamed B.named
  have hlocks := B.notSynchronized
  have hin : meth.name = "<init>" := (name_of_methodNamed B.named B.method).1
  obtain ⟨k1, ⟨ty0, k2⟩, k3⟩ := am_clok (ci := 5) (C := "RebuildDesk$Rules") (T := am_T5) (N := 5) rfl
  subst hsz
  have hD := hD0.self (sz := s.heap.size)
  generalize hAe : va_A [(h0, .inr (5, [.null, .null, .null, .int 0, .int 0]))] s.heap.size = A at hD ⊢
  have hA : ∀ q : Nat, s.heap.size ≤ q → A q := fun q h => by rw [← hAe]; exact Or.inr h
  have hS : va_S A s.heap s.heap [] := va_S.rf
  have hl := lv_entry ([.ref h0]) (n := 1) (Nat.le_of_ble_eq_true rfl)
  rw [lg_entry_eq]
  generalize (lg_sl ([.ref h0]) ++ List.replicate (1 - (lg_sl ([.ref h0])).length) Slot.unset).toArray = ls at hl ⊢
  have hl : lv_has ls 1 [(0, .ref h0)] := hl
  refine lv_aload_n hx hb (show decode prog_8_method_1_code 0 = .ok (.aload_n 0, 1) by decide +kernel) rfl (lv_at hl 0 rfl) ?_
  refine W.objInit hx hb hown (htW (.methodLink "RebuildDesk$Rules" 3 objectInit) (am_in_WG (by decide +kernel) rfl)) (htW (.instanceMethod objectInit) (am_in_WG (by decide +kernel) rfl)) (htW (.code objectInit ⟨#[0xb1]⟩ 1 none) (am_in_WG (by decide +kernel) rfl)) rfl (by rw [hml]; exact hl.1) rfl (show decode prog_8_method_1_code 1 = .ok (.invokespecial 3, 3) by decide +kernel) (Nat.le_of_ble_eq_true rfl) (Nat.le_of_ble_eq_true rfl) ?_
  refine W.eq (g2 := F0 m 4 ls []) rfl ?_
  refine lv_aload_n hx hb (show decode prog_8_method_1_code 4 = .ok (.aload_n 0, 1) by decide +kernel) rfl (lv_at hl 0 rfl) ?_
  refine lv_bipush (v := 32) hx hb (show decode prog_8_method_1_code 5 = .ok (.bipush 32, 2) by decide +kernel) (by decide +kernel) ?_
  refine am_newi (atype := .int) (ty := .int) (cells := 0) (slots := 0) (N' := 32) (a0 := (32, .inl (fun _ => 0))) hx hb (htW (.arrayClass .int) (am_in_WG (by decide +kernel) rfl)) rfl 0 rfl hK hP hD hS hA (fun _ => rfl) (by decide +kernel) (by decide +kernel) (show 32 * componentBytes .int ≤ 536870912 by decide +kernel) (show 0 + 1 ≤ 3 by decide) (show 0 + 32 ≤ 92 by decide) (show decode prog_8_method_1_code 7 = .ok (.newarray .int, 2) by decide +kernel) (fun q1 H hP hD hS => ?_)
  have hP : va_P D am_cl [(h0, .inr (5, [.null, .null, .null, .int 0, .int 0])), (q1, .inl (cA 0, 32, .inl (fun _ => 0)))] H := hP
  have hD : va_D A [(h0, .inr (5, [.null, .null, .null, .int 0, .int 0])), (q1, .inl (cA 0, 32, .inl (fun _ => 0)))] := hD
  refine va_putF (D := D) (ci := 5) (v := .ref q1) (ty := (.array .int)) (C := "RebuildDesk$Rules") (T := am_T5) (N := 5) hx hb htW k1 ty0 k2 k3 hown hK hP hD hS 0 rfl rfl 0 (by decide) (htW (.fieldLink "RebuildDesk$Rules" 9 "RebuildDesk$Rules" "sources" "[I") (am_in_WG (by decide +kernel) rfl)) (fun _ h9 => h9) rfl hin rfl (by decide +kernel) rfl rfl (Nat.le_of_ble_eq_true rfl) (show decode prog_8_method_1_code 9 = .ok (.putfield 9, 3) by decide +kernel) (fun H locs hP hD hS => ?_)
  have hP : va_P D am_cl [(h0, .inr (5, [.ref q1, .null, .null, .int 0, .int 0])), (q1, .inl (cA 0, 32, .inl (fun _ => 0)))] H := hP
  have hD : va_D A [(h0, .inr (5, [.ref q1, .null, .null, .int 0, .int 0])), (q1, .inl (cA 0, 32, .inl (fun _ => 0)))] := hD
  refine lv_aload_n hx hb (show decode prog_8_method_1_code 12 = .ok (.aload_n 0, 1) by decide +kernel) rfl (lv_at hl 0 rfl) ?_
  refine lv_bipush (v := 30) hx hb (show decode prog_8_method_1_code 13 = .ok (.bipush 30, 2) by decide +kernel) (by decide +kernel) ?_
  refine am_newi (atype := .int) (ty := .int) (cells := 1) (slots := 32) (N' := 30) (a0 := (30, .inl (fun _ => 0))) hx hb (htW (.arrayClass .int) (am_in_WG (by decide +kernel) rfl)) rfl 0 rfl hK hP hD hS hA (fun _ => rfl) (by decide +kernel) (by decide +kernel) (show 30 * componentBytes .int ≤ 536870912 by decide +kernel) (show 1 + 1 ≤ 3 by decide) (show 32 + 30 ≤ 92 by decide) (show decode prog_8_method_1_code 15 = .ok (.newarray .int, 2) by decide +kernel) (fun q2 H hP hD hS => ?_)
  have hP : va_P D am_cl [(h0, .inr (5, [.ref q1, .null, .null, .int 0, .int 0])), (q1, .inl (cA 0, 32, .inl (fun _ => 0))), (q2, .inl (cA 0, 30, .inl (fun _ => 0)))] H := hP
  have hD : va_D A [(h0, .inr (5, [.ref q1, .null, .null, .int 0, .int 0])), (q1, .inl (cA 0, 32, .inl (fun _ => 0))), (q2, .inl (cA 0, 30, .inl (fun _ => 0)))] := hD
  refine va_putF (D := D) (ci := 5) (v := .ref q2) (ty := (.array .int)) (C := "RebuildDesk$Rules") (T := am_T5) (N := 5) hx hb htW k1 ty0 k2 k3 hown hK hP hD hS 0 rfl rfl 1 (by decide) (htW (.fieldLink "RebuildDesk$Rules" 15 "RebuildDesk$Rules" "patternTargets" "[I") (am_in_WG (by decide +kernel) rfl)) (fun _ h9 => h9) rfl hin rfl (by decide +kernel) rfl rfl (Nat.le_of_ble_eq_true rfl) (show decode prog_8_method_1_code 17 = .ok (.putfield 15, 3) by decide +kernel) (fun H locs hP hD hS => ?_)
  have hP : va_P D am_cl [(h0, .inr (5, [.ref q1, .ref q2, .null, .int 0, .int 0])), (q1, .inl (cA 0, 32, .inl (fun _ => 0))), (q2, .inl (cA 0, 30, .inl (fun _ => 0)))] H := hP
  have hD : va_D A [(h0, .inr (5, [.ref q1, .ref q2, .null, .int 0, .int 0])), (q1, .inl (cA 0, 32, .inl (fun _ => 0))), (q2, .inl (cA 0, 30, .inl (fun _ => 0)))] := hD
  refine lv_aload_n hx hb (show decode prog_8_method_1_code 20 = .ok (.aload_n 0, 1) by decide +kernel) rfl (lv_at hl 0 rfl) ?_
  refine lv_bipush (v := 30) hx hb (show decode prog_8_method_1_code 21 = .ok (.bipush 30, 2) by decide +kernel) (by decide +kernel) ?_
  refine am_newi (atype := .int) (ty := .int) (cells := 2) (slots := 62) (N' := 30) (a0 := (30, .inl (fun _ => 0))) hx hb (htW (.arrayClass .int) (am_in_WG (by decide +kernel) rfl)) rfl 0 rfl hK hP hD hS hA (fun _ => rfl) (by decide +kernel) (by decide +kernel) (show 30 * componentBytes .int ≤ 536870912 by decide +kernel) (show 2 + 1 ≤ 3 by decide) (show 62 + 30 ≤ 92 by decide) (show decode prog_8_method_1_code 23 = .ok (.newarray .int, 2) by decide +kernel) (fun q3 H hP hD hS => ?_)
  have hP : va_P D am_cl [(h0, .inr (5, [.ref q1, .ref q2, .null, .int 0, .int 0])), (q1, .inl (cA 0, 32, .inl (fun _ => 0))), (q2, .inl (cA 0, 30, .inl (fun _ => 0))), (q3, .inl (cA 0, 30, .inl (fun _ => 0)))] H := hP
  have hD : va_D A [(h0, .inr (5, [.ref q1, .ref q2, .null, .int 0, .int 0])), (q1, .inl (cA 0, 32, .inl (fun _ => 0))), (q2, .inl (cA 0, 30, .inl (fun _ => 0))), (q3, .inl (cA 0, 30, .inl (fun _ => 0)))] := hD
  refine va_putF (D := D) (ci := 5) (v := .ref q3) (ty := (.array .int)) (C := "RebuildDesk$Rules") (T := am_T5) (N := 5) hx hb htW k1 ty0 k2 k3 hown hK hP hD hS 0 rfl rfl 2 (by decide) (htW (.fieldLink "RebuildDesk$Rules" 18 "RebuildDesk$Rules" "patternSources" "[I") (am_in_WG (by decide +kernel) rfl)) (fun _ h9 => h9) rfl hin rfl (by decide +kernel) rfl rfl (Nat.le_of_ble_eq_true rfl) (show decode prog_8_method_1_code 25 = .ok (.putfield 18, 3) by decide +kernel) (fun H locs hP hD hS => ?_)
  have hP : va_P D am_cl [(h0, .inr (5, [.ref q1, .ref q2, .ref q3, .int 0, .int 0])), (q1, .inl (cA 0, 32, .inl (fun _ => 0))), (q2, .inl (cA 0, 30, .inl (fun _ => 0))), (q3, .inl (cA 0, 30, .inl (fun _ => 0)))] H := hP
  have hD : va_D A [(h0, .inr (5, [.ref q1, .ref q2, .ref q3, .int 0, .int 0])), (q1, .inl (cA 0, 32, .inl (fun _ => 0))), (q2, .inl (cA 0, 30, .inl (fun _ => 0))), (q3, .inl (cA 0, 30, .inl (fun _ => 0)))] := hD
  exact W.vret hx hb hr (fun t ht _ => ⟨⟨(), rfl, trivial, q1, q2, q3, by rw [ht]; exact hP, hD⟩, hS.F ht⟩) hS.2.2 (show decode prog_8_method_1_code 28 = .ok (.return_, 1) by decide +kernel)
set_option maxHeartbeats 1000000 in
set_option maxRecDepth 100000 in
theorem am_i6 (l : Launch) (D : va_G) (cA : Nat → ClassId) (h0 sz : Nat) : Met l ⟨"RebuildDesk$Stamps", "<init>", "()V"⟩ (Cond.code ⟨"RebuildDesk$Stamps", "<init>", "()V"⟩ prog_9_method_1_code 1 none :: am_WG) { frames := 1, cells := 1, slots := 32, locals := 12 } (va_Pc [.ref h0] (am_iP D cA h0 (.inr (6, [.null])) sz)) (va_Qv (fun _ : Unit => True) (fun _ t => ∃ q1 : Nat, va_P D am_cl [(h0, .inr (6, [.ref q1])), (q1, .inl (cA 0, 32, .inl (fun _ => 0)))] t.heap ∧ va_D (va_A [(h0, .inr (6, [.null]))] sz) [(h0, .inr (6, [.ref q1])), (q1, .inl (cA 0, 32, .inl (fun _ => 0)))]) (va_A [(h0, .inr (6, [.null]))] sz)) 1 32 (va_A [(h0, .inr (6, [.null]))] sz) := by
  refine Met.ofW (cc := prog_9_method_1_code) (maxL := 1) (ret := none) (by decide) rfl ?_
  intro p e s m args below meth c s₁ B hml hv
  obtain ⟨rfl, hsz, hP, hK, hD0, hO⟩ := hv
  have hx := B.exec
  have hb := B.bytes
  have hr := B.returns
  have htW : ∀ w ∈ am_WG, w.before _ s = true := fun w hw => atoms_spec (ws := Cond.code ⟨"RebuildDesk$Stamps", "<init>", "()V"⟩ prog_9_method_1_code 1 none :: am_WG) B.pre w (List.mem_cons_of_mem _ hw)
  have hown : s.vm.findClass "RebuildDesk$Stamps" = some m.cls := findClass_of_methodNamed B.named
  have hlocks := B.notSynchronized
  have hin : meth.name = "<init>" := (name_of_methodNamed B.named B.method).1
  obtain ⟨k1, ⟨ty0, k2⟩, k3⟩ := am_clok (ci := 6) (C := "RebuildDesk$Stamps") (T := am_T6) (N := 1) rfl
  subst hsz
  have hD := hD0.self (sz := s.heap.size)
  generalize hAe : va_A [(h0, .inr (6, [.null]))] s.heap.size = A at hD ⊢
  have hA : ∀ q : Nat, s.heap.size ≤ q → A q := fun q h => by rw [← hAe]; exact Or.inr h
  have hS : va_S A s.heap s.heap [] := va_S.rf
  have hl := lv_entry ([.ref h0]) (n := 1) (Nat.le_of_ble_eq_true rfl)
  rw [lg_entry_eq]
  generalize (lg_sl ([.ref h0]) ++ List.replicate (1 - (lg_sl ([.ref h0])).length) Slot.unset).toArray = ls at hl ⊢
  have hl : lv_has ls 1 [(0, .ref h0)] := hl
  refine lv_aload_n hx hb (show decode prog_9_method_1_code 0 = .ok (.aload_n 0, 1) by decide +kernel) rfl (lv_at hl 0 rfl) ?_
  refine W.objInit hx hb hown (htW (.methodLink "RebuildDesk$Stamps" 3 objectInit) (am_in_WG (by decide +kernel) rfl)) (htW (.instanceMethod objectInit) (am_in_WG (by decide +kernel) rfl)) (htW (.code objectInit ⟨#[0xb1]⟩ 1 none) (am_in_WG (by decide +kernel) rfl)) rfl (by rw [hml]; exact hl.1) rfl (show decode prog_9_method_1_code 1 = .ok (.invokespecial 3, 3) by decide +kernel) (Nat.le_of_ble_eq_true rfl) (Nat.le_of_ble_eq_true rfl) ?_
  refine W.eq (g2 := F0 m 4 ls []) rfl ?_
  refine lv_aload_n hx hb (show decode prog_9_method_1_code 4 = .ok (.aload_n 0, 1) by decide +kernel) rfl (lv_at hl 0 rfl) ?_
  refine lv_bipush (v := 32) hx hb (show decode prog_9_method_1_code 5 = .ok (.bipush 32, 2) by decide +kernel) (by decide +kernel) ?_
  refine am_newi (atype := .int) (ty := .int) (cells := 0) (slots := 0) (N' := 32) (a0 := (32, .inl (fun _ => 0))) hx hb (htW (.arrayClass .int) (am_in_WG (by decide +kernel) rfl)) rfl 0 rfl hK hP hD hS hA (fun _ => rfl) (by decide +kernel) (by decide +kernel) (show 32 * componentBytes .int ≤ 536870912 by decide +kernel) (show 0 + 1 ≤ 1 by decide) (show 0 + 32 ≤ 32 by decide) (show decode prog_9_method_1_code 7 = .ok (.newarray .int, 2) by decide +kernel) (fun q1 H hP hD hS => ?_)
  have hP : va_P D am_cl [(h0, .inr (6, [.null])), (q1, .inl (cA 0, 32, .inl (fun _ => 0)))] H := hP
  have hD : va_D A [(h0, .inr (6, [.null])), (q1, .inl (cA 0, 32, .inl (fun _ => 0)))] := hD
  refine va_putF (D := D) (ci := 6) (v := .ref q1) (ty := (.array .int)) (C := "RebuildDesk$Stamps") (T := am_T6) (N := 1) hx hb htW k1 ty0 k2 k3 hown hK hP hD hS 0 rfl rfl 0 (by decide) (htW (.fieldLink "RebuildDesk$Stamps" 9 "RebuildDesk$Stamps" "stamps" "[I") (am_in_WG (by decide +kernel) rfl)) (fun _ h9 => h9) rfl hin rfl (by decide +kernel) rfl rfl (Nat.le_of_ble_eq_true rfl) (show decode prog_9_method_1_code 9 = .ok (.putfield 9, 3) by decide +kernel) (fun H locs hP hD hS => ?_)
  have hP : va_P D am_cl [(h0, .inr (6, [.ref q1])), (q1, .inl (cA 0, 32, .inl (fun _ => 0)))] H := hP
  have hD : va_D A [(h0, .inr (6, [.ref q1])), (q1, .inl (cA 0, 32, .inl (fun _ => 0)))] := hD
  exact W.vret hx hb hr (fun t ht _ => ⟨⟨(), rfl, trivial, q1, by rw [ht]; exact hP, hD⟩, hS.F ht⟩) hS.2.2 (show decode prog_9_method_1_code 12 = .ok (.return_, 1) by decide +kernel)
set_option maxHeartbeats 1000000 in
set_option maxRecDepth 100000 in
theorem am_i7 (l : Launch) (D : va_G) (cA : Nat → ClassId) (h0 sz : Nat) : Met l ⟨"RebuildDesk$Text", "<init>", "()V"⟩ (Cond.code ⟨"RebuildDesk$Text", "<init>", "()V"⟩ prog_10_method_1_code 1 none :: am_WG) { frames := 1, cells := 1, slots := 240, locals := 12 } (va_Pc [.ref h0] (am_iP D cA h0 (.inr (7, [.null, .int 0])) sz)) (va_Qv (fun _ : Unit => True) (fun _ t => ∃ q1 : Nat, va_P D am_cl [(h0, .inr (7, [.ref q1, .int 0])), (q1, .inl (cA 1, 240, .inl (fun _ => 0)))] t.heap ∧ va_D (va_A [(h0, .inr (7, [.null, .int 0]))] sz) [(h0, .inr (7, [.ref q1, .int 0])), (q1, .inl (cA 1, 240, .inl (fun _ => 0)))]) (va_A [(h0, .inr (7, [.null, .int 0]))] sz)) 1 240 (va_A [(h0, .inr (7, [.null, .int 0]))] sz) := by
  refine Met.ofW (cc := prog_10_method_1_code) (maxL := 1) (ret := none) (by decide) rfl ?_
  intro p e s m args below meth c s₁ B hml hv
  obtain ⟨rfl, hsz, hP, hK, hD0, hO⟩ := hv
  have hx := B.exec
  have hb := B.bytes
  have hr := B.returns
  have htW : ∀ w ∈ am_WG, w.before _ s = true := fun w hw => atoms_spec (ws := Cond.code ⟨"RebuildDesk$Text", "<init>", "()V"⟩ prog_10_method_1_code 1 none :: am_WG) B.pre w (List.mem_cons_of_mem _ hw)
  have hown : s.vm.findClass "RebuildDesk$Text" = some m.cls := findClass_of_methodNamed B.named
  have hlocks := B.notSynchronized
  have hin : meth.name = "<init>" := (name_of_methodNamed B.named B.method).1
  obtain ⟨k1, ⟨ty0, k2⟩, k3⟩ := am_clok (ci := 7) (C := "RebuildDesk$Text") (T := am_T7) (N := 2) rfl
  subst hsz
  have hD := hD0.self (sz := s.heap.size)
  generalize hAe : va_A [(h0, .inr (7, [.null, .int 0]))] s.heap.size = A at hD ⊢
  have hA : ∀ q : Nat, s.heap.size ≤ q → A q := fun q h => by rw [← hAe]; exact Or.inr h
  have hS : va_S A s.heap s.heap [] := va_S.rf
  have hl := lv_entry ([.ref h0]) (n := 1) (Nat.le_of_ble_eq_true rfl)
  rw [lg_entry_eq]
  generalize (lg_sl ([.ref h0]) ++ List.replicate (1 - (lg_sl ([.ref h0])).length) Slot.unset).toArray = ls at hl ⊢
  have hl : lv_has ls 1 [(0, .ref h0)] := hl
  refine lv_aload_n hx hb (show decode prog_10_method_1_code 0 = .ok (.aload_n 0, 1) by decide +kernel) rfl (lv_at hl 0 rfl) ?_
  refine W.objInit hx hb hown (htW (.methodLink "RebuildDesk$Text" 3 objectInit) (am_in_WG (by decide +kernel) rfl)) (htW (.instanceMethod objectInit) (am_in_WG (by decide +kernel) rfl)) (htW (.code objectInit ⟨#[0xb1]⟩ 1 none) (am_in_WG (by decide +kernel) rfl)) rfl (by rw [hml]; exact hl.1) rfl (show decode prog_10_method_1_code 1 = .ok (.invokespecial 3, 3) by decide +kernel) (Nat.le_of_ble_eq_true rfl) (Nat.le_of_ble_eq_true rfl) ?_
  refine W.eq (g2 := F0 m 4 ls []) rfl ?_
  refine lv_aload_n hx hb (show decode prog_10_method_1_code 4 = .ok (.aload_n 0, 1) by decide +kernel) rfl (lv_at hl 0 rfl) ?_
  refine lv_sipush (v := 240) hx hb (show decode prog_10_method_1_code 5 = .ok (.sipush 240, 3) by decide +kernel) (by decide +kernel) ?_
  refine am_newi (atype := .char) (ty := .char) (cells := 0) (slots := 0) (N' := 240) (a0 := (240, .inl (fun _ => 0))) hx hb (htW (.arrayClass .char) (am_in_WG (by decide +kernel) rfl)) rfl 1 rfl hK hP hD hS hA (fun _ => rfl) (by decide +kernel) (by decide +kernel) (show 240 * componentBytes .char ≤ 536870912 by decide +kernel) (show 0 + 1 ≤ 1 by decide) (show 0 + 240 ≤ 240 by decide) (show decode prog_10_method_1_code 8 = .ok (.newarray .char, 2) by decide +kernel) (fun q1 H hP hD hS => ?_)
  have hP : va_P D am_cl [(h0, .inr (7, [.null, .int 0])), (q1, .inl (cA 1, 240, .inl (fun _ => 0)))] H := hP
  have hD : va_D A [(h0, .inr (7, [.null, .int 0])), (q1, .inl (cA 1, 240, .inl (fun _ => 0)))] := hD
  refine va_putF (D := D) (ci := 7) (v := .ref q1) (ty := (.array .char)) (C := "RebuildDesk$Text") (T := am_T7) (N := 2) hx hb htW k1 ty0 k2 k3 hown hK hP hD hS 0 rfl rfl 0 (by decide) (htW (.fieldLink "RebuildDesk$Text" 9 "RebuildDesk$Text" "codes" "[C") (am_in_WG (by decide +kernel) rfl)) (fun _ h9 => h9) rfl hin rfl (by decide +kernel) rfl rfl (Nat.le_of_ble_eq_true rfl) (show decode prog_10_method_1_code 10 = .ok (.putfield 9, 3) by decide +kernel) (fun H locs hP hD hS => ?_)
  have hP : va_P D am_cl [(h0, .inr (7, [.ref q1, .int 0])), (q1, .inl (cA 1, 240, .inl (fun _ => 0)))] H := hP
  have hD : va_D A [(h0, .inr (7, [.ref q1, .int 0])), (q1, .inl (cA 1, 240, .inl (fun _ => 0)))] := hD
  exact W.vret hx hb hr (fun t ht _ => ⟨⟨(), rfl, trivial, q1, by rw [ht]; exact hP, hD⟩, hS.F ht⟩) hS.2.2 (show decode prog_10_method_1_code 13 = .ok (.return_, 1) by decide +kernel)
set_option maxHeartbeats 1000000 in
set_option maxRecDepth 100000 in
theorem am_i9 (l : Launch) (D : va_G) (cA : Nat → ClassId) (h0 sz : Nat) : Met l ⟨"RebuildDeskModel", "<init>", "()V"⟩ (Cond.code ⟨"RebuildDeskModel", "<init>", "()V"⟩ prog_12_method_1_code 1 none :: am_WG) { frames := 1, cells := 20, slots := 978, locals := 12 } (va_Pc [.ref h0] (am_iP D cA h0 (.inr (9, [.null, .int 0, .int 0, .int 0, .null, .null, .null, .null, .null, .null, .null, .null, .null, .null, .int 0, .null, .int 0, .null, .int 0, .null, .int 0, .null, .int 0, .int 0, .null, .null, .null, .null, .int 0, .null, .int 0, .int 0, .int 0])) sz)) (va_Qv (fun _ : Unit => True) (fun _ t => ∃ q1 q2 q3 q4 q5 q6 q7 q8 q9 q10 q11 q12 q13 q14 q15 q16 q17 q18 q19 q20 : Nat, va_P D am_cl [(h0, .inr (9, [.ref q1, .int 0, .int 0, .int 0, .ref q2, .ref q3, .ref q4, .ref q5, .ref q6, .ref q7, .ref q8, .ref q9, .ref q10, .ref q11, .int 0, .ref q12, .int 0, .ref q13, .int 0, .ref q14, .int 0, .ref q15, .int 0, .int 0, .ref q16, .ref q17, .ref q18, .ref q19, .int 0, .ref q20, .int 0, .int 0, .int 0])), (q1, .inl (cA 0, 240, .inl (fun _ => 0))), (q2, .inl (cA 0, 26, .inl (fun _ => 0))), (q3, .inl (cA 0, 26, .inl (fun _ => 0))), (q4, .inl (cA 0, 26, .inl (fun _ => 0))), (q5, .inl (cA 0, 26, .inl (fun _ => 0))), (q6, .inl (cA 0, 26, .inl (fun _ => 0))), (q7, .inl (cA 0, 64, .inl (fun _ => 0))), (q8, .inl (cA 0, 64, .inl (fun _ => 0))), (q9, .inl (cA 0, 64, .inl (fun _ => 0))), (q10, .inl (cA 0, 64, .inl (fun _ => 0))), (q11, .inl (cA 3, 64, .inl (fun _ => 0))), (q12, .inl (cA 0, 32, .inl (fun _ => 0))), (q13, .inl (cA 0, 32, .inl (fun _ => 0))), (q14, .inl (cA 0, 32, .inl (fun _ => 0))), (q15, .inl (cA 0, 32, .inl (fun _ => 0))), (q16, .inl (cA 0, 32, .inl (fun _ => 0))), (q17, .inl (cA 0, 32, .inl (fun _ => 0))), (q18, .inl (cA 0, 32, .inl (fun _ => 0))), (q19, .inl (cA 0, 32, .inl (fun _ => 0))), (q20, .inl (cA 0, 32, .inl (fun _ => 0)))] t.heap ∧ va_D (va_A [(h0, .inr (9, [.null, .int 0, .int 0, .int 0, .null, .null, .null, .null, .null, .null, .null, .null, .null, .null, .int 0, .null, .int 0, .null, .int 0, .null, .int 0, .null, .int 0, .int 0, .null, .null, .null, .null, .int 0, .null, .int 0, .int 0, .int 0]))] sz) [(h0, .inr (9, [.ref q1, .int 0, .int 0, .int 0, .ref q2, .ref q3, .ref q4, .ref q5, .ref q6, .ref q7, .ref q8, .ref q9, .ref q10, .ref q11, .int 0, .ref q12, .int 0, .ref q13, .int 0, .ref q14, .int 0, .ref q15, .int 0, .int 0, .ref q16, .ref q17, .ref q18, .ref q19, .int 0, .ref q20, .int 0, .int 0, .int 0])), (q1, .inl (cA 0, 240, .inl (fun _ => 0))), (q2, .inl (cA 0, 26, .inl (fun _ => 0))), (q3, .inl (cA 0, 26, .inl (fun _ => 0))), (q4, .inl (cA 0, 26, .inl (fun _ => 0))), (q5, .inl (cA 0, 26, .inl (fun _ => 0))), (q6, .inl (cA 0, 26, .inl (fun _ => 0))), (q7, .inl (cA 0, 64, .inl (fun _ => 0))), (q8, .inl (cA 0, 64, .inl (fun _ => 0))), (q9, .inl (cA 0, 64, .inl (fun _ => 0))), (q10, .inl (cA 0, 64, .inl (fun _ => 0))), (q11, .inl (cA 3, 64, .inl (fun _ => 0))), (q12, .inl (cA 0, 32, .inl (fun _ => 0))), (q13, .inl (cA 0, 32, .inl (fun _ => 0))), (q14, .inl (cA 0, 32, .inl (fun _ => 0))), (q15, .inl (cA 0, 32, .inl (fun _ => 0))), (q16, .inl (cA 0, 32, .inl (fun _ => 0))), (q17, .inl (cA 0, 32, .inl (fun _ => 0))), (q18, .inl (cA 0, 32, .inl (fun _ => 0))), (q19, .inl (cA 0, 32, .inl (fun _ => 0))), (q20, .inl (cA 0, 32, .inl (fun _ => 0)))]) (va_A [(h0, .inr (9, [.null, .int 0, .int 0, .int 0, .null, .null, .null, .null, .null, .null, .null, .null, .null, .null, .int 0, .null, .int 0, .null, .int 0, .null, .int 0, .null, .int 0, .int 0, .null, .null, .null, .null, .int 0, .null, .int 0, .int 0, .int 0]))] sz)) 20 978 (va_A [(h0, .inr (9, [.null, .int 0, .int 0, .int 0, .null, .null, .null, .null, .null, .null, .null, .null, .null, .null, .int 0, .null, .int 0, .null, .int 0, .null, .int 0, .null, .int 0, .int 0, .null, .null, .null, .null, .int 0, .null, .int 0, .int 0, .int 0]))] sz) := by
  refine Met.ofW (cc := prog_12_method_1_code) (maxL := 1) (ret := none) (by decide) rfl ?_
  intro p e s m args below meth c s₁ B hml hv
  obtain ⟨rfl, hsz, hP, hK, hD0, hO⟩ := hv
  have hx := B.exec
  have hb := B.bytes
  have hr := B.returns
  have htW : ∀ w ∈ am_WG, w.before _ s = true := fun w hw => atoms_spec (ws := Cond.code ⟨"RebuildDeskModel", "<init>", "()V"⟩ prog_12_method_1_code 1 none :: am_WG) B.pre w (List.mem_cons_of_mem _ hw)
  have hown : s.vm.findClass "RebuildDeskModel" = some m.cls := findClass_of_methodNamed B.named
  have hlocks := B.notSynchronized
  have hin : meth.name = "<init>" := (name_of_methodNamed B.named B.method).1
  obtain ⟨k1, ⟨ty0, k2⟩, k3⟩ := am_clok (ci := 9) (C := "RebuildDeskModel") (T := am_T9) (N := 33) rfl
  subst hsz
  have hD := hD0.self (sz := s.heap.size)
  generalize hAe : va_A [(h0, .inr (9, [.null, .int 0, .int 0, .int 0, .null, .null, .null, .null, .null, .null, .null, .null, .null, .null, .int 0, .null, .int 0, .null, .int 0, .null, .int 0, .null, .int 0, .int 0, .null, .null, .null, .null, .int 0, .null, .int 0, .int 0, .int 0]))] s.heap.size = A at hD ⊢
  have hA : ∀ q : Nat, s.heap.size ≤ q → A q := fun q h => by rw [← hAe]; exact Or.inr h
  have hS : va_S A s.heap s.heap [] := va_S.rf
  have hl := lv_entry ([.ref h0]) (n := 1) (Nat.le_of_ble_eq_true rfl)
  rw [lg_entry_eq]
  generalize (lg_sl ([.ref h0]) ++ List.replicate (1 - (lg_sl ([.ref h0])).length) Slot.unset).toArray = ls at hl ⊢
  have hl : lv_has ls 1 [(0, .ref h0)] := hl
  refine lv_aload_n hx hb (show decode prog_12_method_1_code 0 = .ok (.aload_n 0, 1) by decide +kernel) rfl (lv_at hl 0 rfl) ?_
  refine W.objInit hx hb hown (htW (.methodLink "RebuildDeskModel" 1 objectInit) (am_in_WG (by decide +kernel) rfl)) (htW (.instanceMethod objectInit) (am_in_WG (by decide +kernel) rfl)) (htW (.code objectInit ⟨#[0xb1]⟩ 1 none) (am_in_WG (by decide +kernel) rfl)) rfl (by rw [hml]; exact hl.1) rfl (show decode prog_12_method_1_code 1 = .ok (.invokespecial 1, 3) by decide +kernel) (Nat.le_of_ble_eq_true rfl) (Nat.le_of_ble_eq_true rfl) ?_
  refine W.eq (g2 := F0 m 4 ls []) rfl ?_
  refine lv_aload_n hx hb (show decode prog_12_method_1_code 4 = .ok (.aload_n 0, 1) by decide +kernel) rfl (lv_at hl 0 rfl) ?_
  refine lv_sipush (v := 240) hx hb (show decode prog_12_method_1_code 5 = .ok (.sipush 240, 3) by decide +kernel) (by decide +kernel) ?_
  refine am_newi (atype := .int) (ty := .int) (cells := 0) (slots := 0) (N' := 240) (a0 := (240, .inl (fun _ => 0))) hx hb (htW (.arrayClass .int) (am_in_WG (by decide +kernel) rfl)) rfl 0 rfl hK hP hD hS hA (fun _ => rfl) (by decide +kernel) (by decide +kernel) (show 240 * componentBytes .int ≤ 536870912 by decide +kernel) (show 0 + 1 ≤ 20 by decide) (show 0 + 240 ≤ 978 by decide) (show decode prog_12_method_1_code 8 = .ok (.newarray .int, 2) by decide +kernel) (fun q1 H hP hD hS => ?_)
  have hP : va_P D am_cl [(h0, .inr (9, [.null, .int 0, .int 0, .int 0, .null, .null, .null, .null, .null, .null, .null, .null, .null, .null, .int 0, .null, .int 0, .null, .int 0, .null, .int 0, .null, .int 0, .int 0, .null, .null, .null, .null, .int 0, .null, .int 0, .int 0, .int 0])), (q1, .inl (cA 0, 240, .inl (fun _ => 0)))] H := hP
  have hD : va_D A [(h0, .inr (9, [.null, .int 0, .int 0, .int 0, .null, .null, .null, .null, .null, .null, .null, .null, .null, .null, .int 0, .null, .int 0, .null, .int 0, .null, .int 0, .null, .int 0, .int 0, .null, .null, .null, .null, .int 0, .null, .int 0, .int 0, .int 0])), (q1, .inl (cA 0, 240, .inl (fun _ => 0)))] := hD
  refine va_putF (D := D) (ci := 9) (v := .ref q1) (ty := (.array .int)) (C := "RebuildDeskModel") (T := am_T9) (N := 33) hx hb htW k1 ty0 k2 k3 hown hK hP hD hS 0 rfl rfl 0 (by decide) (htW (.fieldLink "RebuildDeskModel" 7 "RebuildDeskModel" "text" "[I") (am_in_WG (by decide +kernel) rfl)) (fun _ h9 => h9) rfl hin rfl (by decide +kernel) rfl rfl (Nat.le_of_ble_eq_true rfl) (show decode prog_12_method_1_code 10 = .ok (.putfield 7, 3) by decide +kernel) (fun H locs hP hD hS => ?_)
  have hP : va_P D am_cl [(h0, .inr (9, [.ref q1, .int 0, .int 0, .int 0, .null, .null, .null, .null, .null, .null, .null, .null, .null, .null, .int 0, .null, .int 0, .null, .int 0, .null, .int 0, .null, .int 0, .int 0, .null, .null, .null, .null, .int 0, .null, .int 0, .int 0, .int 0])), (q1, .inl (cA 0, 240, .inl (fun _ => 0)))] H := hP
  have hD : va_D A [(h0, .inr (9, [.ref q1, .int 0, .int 0, .int 0, .null, .null, .null, .null, .null, .null, .null, .null, .null, .null, .int 0, .null, .int 0, .null, .int 0, .null, .int 0, .null, .int 0, .int 0, .null, .null, .null, .null, .int 0, .null, .int 0, .int 0, .int 0])), (q1, .inl (cA 0, 240, .inl (fun _ => 0)))] := hD
  refine lv_aload_n hx hb (show decode prog_12_method_1_code 13 = .ok (.aload_n 0, 1) by decide +kernel) rfl (lv_at hl 0 rfl) ?_
  refine lv_bipush (v := 26) hx hb (show decode prog_12_method_1_code 14 = .ok (.bipush 26, 2) by decide +kernel) (by decide +kernel) ?_
  refine am_newi (atype := .int) (ty := .int) (cells := 1) (slots := 240) (N' := 26) (a0 := (26, .inl (fun _ => 0))) hx hb (htW (.arrayClass .int) (am_in_WG (by decide +kernel) rfl)) rfl 0 rfl hK hP hD hS hA (fun _ => rfl) (by decide +kernel) (by decide +kernel) (show 26 * componentBytes .int ≤ 536870912 by decide +kernel) (show 1 + 1 ≤ 20 by decide) (show 240 + 26 ≤ 978 by decide) (show decode prog_12_method_1_code 16 = .ok (.newarray .int, 2) by decide +kernel) (fun q2 H hP hD hS => ?_)
  have hP : va_P D am_cl [(h0, .inr (9, [.ref q1, .int 0, .int 0, .int 0, .null, .null, .null, .null, .null, .null, .null, .null, .null, .null, .int 0, .null, .int 0, .null, .int 0, .null, .int 0, .null, .int 0, .int 0, .null, .null, .null, .null, .int 0, .null, .int 0, .int 0, .int 0])), (q1, .inl (cA 0, 240, .inl (fun _ => 0))), (q2, .inl (cA 0, 26, .inl (fun _ => 0)))] H := hP
  have hD : va_D A [(h0, .inr (9, [.ref q1, .int 0, .int 0, .int 0, .null, .null, .null, .null, .null, .null, .null, .null, .null, .null, .int 0, .null, .int 0, .null, .int 0, .null, .int 0, .null, .int 0, .int 0, .null, .null, .null, .null, .int 0, .null, .int 0, .int 0, .int 0])), (q1, .inl (cA 0, 240, .inl (fun _ => 0))), (q2, .inl (cA 0, 26, .inl (fun _ => 0)))] := hD
  refine va_putF (D := D) (ci := 9) (v := .ref q2) (ty := (.array .int)) (C := "RebuildDeskModel") (T := am_T9) (N := 33) hx hb htW k1 ty0 k2 k3 hown hK hP hD hS 0 rfl rfl 4 (by decide) (htW (.fieldLink "RebuildDeskModel" 13 "RebuildDeskModel" "macroFrom" "[I") (am_in_WG (by decide +kernel) rfl)) (fun _ h9 => h9) rfl hin rfl (by decide +kernel) rfl rfl (Nat.le_of_ble_eq_true rfl) (show decode prog_12_method_1_code 18 = .ok (.putfield 13, 3) by decide +kernel) (fun H locs hP hD hS => ?_)
  have hP : va_P D am_cl [(h0, .inr (9, [.ref q1, .int 0, .int 0, .int 0, .ref q2, .null, .null, .null, .null, .null, .null, .null, .null, .null, .int 0, .null, .int 0, .null, .int 0, .null, .int 0, .null, .int 0, .int 0, .null, .null, .null, .null, .int 0, .null, .int 0, .int 0, .int 0])), (q1, .inl (cA 0, 240, .inl (fun _ => 0))), (q2, .inl (cA 0, 26, .inl (fun _ => 0)))] H := hP
  have hD : va_D A [(h0, .inr (9, [.ref q1, .int 0, .int 0, .int 0, .ref q2, .null, .null, .null, .null, .null, .null, .null, .null, .null, .int 0, .null, .int 0, .null, .int 0, .null, .int 0, .null, .int 0, .int 0, .null, .null, .null, .null, .int 0, .null, .int 0, .int 0, .int 0])), (q1, .inl (cA 0, 240, .inl (fun _ => 0))), (q2, .inl (cA 0, 26, .inl (fun _ => 0)))] := hD
  refine lv_aload_n hx hb (show decode prog_12_method_1_code 21 = .ok (.aload_n 0, 1) by decide +kernel) rfl (lv_at hl 0 rfl) ?_
  refine lv_bipush (v := 26) hx hb (show decode prog_12_method_1_code 22 = .ok (.bipush 26, 2) by decide +kernel) (by decide +kernel) ?_
  refine am_newi (atype := .int) (ty := .int) (cells := 2) (slots := 266) (N' := 26) (a0 := (26, .inl (fun _ => 0))) hx hb (htW (.arrayClass .int) (am_in_WG (by decide +kernel) rfl)) rfl 0 rfl hK hP hD hS hA (fun _ => rfl) (by decide +kernel) (by decide +kernel) (show 26 * componentBytes .int ≤ 536870912 by decide +kernel) (show 2 + 1 ≤ 20 by decide) (show 266 + 26 ≤ 978 by decide) (show decode prog_12_method_1_code 24 = .ok (.newarray .int, 2) by decide +kernel) (fun q3 H hP hD hS => ?_)
  have hP : va_P D am_cl [(h0, .inr (9, [.ref q1, .int 0, .int 0, .int 0, .ref q2, .null, .null, .null, .null, .null, .null, .null, .null, .null, .int 0, .null, .int 0, .null, .int 0, .null, .int 0, .null, .int 0, .int 0, .null, .null, .null, .null, .int 0, .null, .int 0, .int 0, .int 0])), (q1, .inl (cA 0, 240, .inl (fun _ => 0))), (q2, .inl (cA 0, 26, .inl (fun _ => 0))), (q3, .inl (cA 0, 26, .inl (fun _ => 0)))] H := hP
  have hD : va_D A [(h0, .inr (9, [.ref q1, .int 0, .int 0, .int 0, .ref q2, .null, .null, .null, .null, .null, .null, .null, .null, .null, .int 0, .null, .int 0, .null, .int 0, .null, .int 0, .null, .int 0, .int 0, .null, .null, .null, .null, .int 0, .null, .int 0, .int 0, .int 0])), (q1, .inl (cA 0, 240, .inl (fun _ => 0))), (q2, .inl (cA 0, 26, .inl (fun _ => 0))), (q3, .inl (cA 0, 26, .inl (fun _ => 0)))] := hD
  refine va_putF (D := D) (ci := 9) (v := .ref q3) (ty := (.array .int)) (C := "RebuildDeskModel") (T := am_T9) (N := 33) hx hb htW k1 ty0 k2 k3 hown hK hP hD hS 0 rfl rfl 5 (by decide) (htW (.fieldLink "RebuildDeskModel" 16 "RebuildDeskModel" "macroTo" "[I") (am_in_WG (by decide +kernel) rfl)) (fun _ h9 => h9) rfl hin rfl (by decide +kernel) rfl rfl (Nat.le_of_ble_eq_true rfl) (show decode prog_12_method_1_code 26 = .ok (.putfield 16, 3) by decide +kernel) (fun H locs hP hD hS => ?_)
  have hP : va_P D am_cl [(h0, .inr (9, [.ref q1, .int 0, .int 0, .int 0, .ref q2, .ref q3, .null, .null, .null, .null, .null, .null, .null, .null, .int 0, .null, .int 0, .null, .int 0, .null, .int 0, .null, .int 0, .int 0, .null, .null, .null, .null, .int 0, .null, .int 0, .int 0, .int 0])), (q1, .inl (cA 0, 240, .inl (fun _ => 0))), (q2, .inl (cA 0, 26, .inl (fun _ => 0))), (q3, .inl (cA 0, 26, .inl (fun _ => 0)))] H := hP
  have hD : va_D A [(h0, .inr (9, [.ref q1, .int 0, .int 0, .int 0, .ref q2, .ref q3, .null, .null, .null, .null, .null, .null, .null, .null, .int 0, .null, .int 0, .null, .int 0, .null, .int 0, .null, .int 0, .int 0, .null, .null, .null, .null, .int 0, .null, .int 0, .int 0, .int 0])), (q1, .inl (cA 0, 240, .inl (fun _ => 0))), (q2, .inl (cA 0, 26, .inl (fun _ => 0))), (q3, .inl (cA 0, 26, .inl (fun _ => 0)))] := hD
  refine lv_aload_n hx hb (show decode prog_12_method_1_code 29 = .ok (.aload_n 0, 1) by decide +kernel) rfl (lv_at hl 0 rfl) ?_
  refine lv_bipush (v := 26) hx hb (show decode prog_12_method_1_code 30 = .ok (.bipush 26, 2) by decide +kernel) (by decide +kernel) ?_
  refine am_newi (atype := .int) (ty := .int) (cells := 3) (slots := 292) (N' := 26) (a0 := (26, .inl (fun _ => 0))) hx hb (htW (.arrayClass .int) (am_in_WG (by decide +kernel) rfl)) rfl 0 rfl hK hP hD hS hA (fun _ => rfl) (by decide +kernel) (by decide +kernel) (show 26 * componentBytes .int ≤ 536870912 by decide +kernel) (show 3 + 1 ≤ 20 by decide) (show 292 + 26 ≤ 978 by decide) (show decode prog_12_method_1_code 32 = .ok (.newarray .int, 2) by decide +kernel) (fun q4 H hP hD hS => ?_)
  have hP : va_P D am_cl [(h0, .inr (9, [.ref q1, .int 0, .int 0, .int 0, .ref q2, .ref q3, .null, .null, .null, .null, .null, .null, .null, .null, .int 0, .null, .int 0, .null, .int 0, .null, .int 0, .null, .int 0, .int 0, .null, .null, .null, .null, .int 0, .null, .int 0, .int 0, .int 0])), (q1, .inl (cA 0, 240, .inl (fun _ => 0))), (q2, .inl (cA 0, 26, .inl (fun _ => 0))), (q3, .inl (cA 0, 26, .inl (fun _ => 0))), (q4, .inl (cA 0, 26, .inl (fun _ => 0)))] H := hP
  have hD : va_D A [(h0, .inr (9, [.ref q1, .int 0, .int 0, .int 0, .ref q2, .ref q3, .null, .null, .null, .null, .null, .null, .null, .null, .int 0, .null, .int 0, .null, .int 0, .null, .int 0, .null, .int 0, .int 0, .null, .null, .null, .null, .int 0, .null, .int 0, .int 0, .int 0])), (q1, .inl (cA 0, 240, .inl (fun _ => 0))), (q2, .inl (cA 0, 26, .inl (fun _ => 0))), (q3, .inl (cA 0, 26, .inl (fun _ => 0))), (q4, .inl (cA 0, 26, .inl (fun _ => 0)))] := hD
  refine va_putF (D := D) (ci := 9) (v := .ref q4) (ty := (.array .int)) (C := "RebuildDeskModel") (T := am_T9) (N := 33) hx hb htW k1 ty0 k2 k3 hown hK hP hD hS 0 rfl rfl 6 (by decide) (htW (.fieldLink "RebuildDeskModel" 19 "RebuildDeskModel" "reach" "[I") (am_in_WG (by decide +kernel) rfl)) (fun _ h9 => h9) rfl hin rfl (by decide +kernel) rfl rfl (Nat.le_of_ble_eq_true rfl) (show decode prog_12_method_1_code 34 = .ok (.putfield 19, 3) by decide +kernel) (fun H locs hP hD hS => ?_)
  have hP : va_P D am_cl [(h0, .inr (9, [.ref q1, .int 0, .int 0, .int 0, .ref q2, .ref q3, .ref q4, .null, .null, .null, .null, .null, .null, .null, .int 0, .null, .int 0, .null, .int 0, .null, .int 0, .null, .int 0, .int 0, .null, .null, .null, .null, .int 0, .null, .int 0, .int 0, .int 0])), (q1, .inl (cA 0, 240, .inl (fun _ => 0))), (q2, .inl (cA 0, 26, .inl (fun _ => 0))), (q3, .inl (cA 0, 26, .inl (fun _ => 0))), (q4, .inl (cA 0, 26, .inl (fun _ => 0)))] H := hP
  have hD : va_D A [(h0, .inr (9, [.ref q1, .int 0, .int 0, .int 0, .ref q2, .ref q3, .ref q4, .null, .null, .null, .null, .null, .null, .null, .int 0, .null, .int 0, .null, .int 0, .null, .int 0, .null, .int 0, .int 0, .null, .null, .null, .null, .int 0, .null, .int 0, .int 0, .int 0])), (q1, .inl (cA 0, 240, .inl (fun _ => 0))), (q2, .inl (cA 0, 26, .inl (fun _ => 0))), (q3, .inl (cA 0, 26, .inl (fun _ => 0))), (q4, .inl (cA 0, 26, .inl (fun _ => 0)))] := hD
  refine lv_aload_n hx hb (show decode prog_12_method_1_code 37 = .ok (.aload_n 0, 1) by decide +kernel) rfl (lv_at hl 0 rfl) ?_
  refine lv_bipush (v := 26) hx hb (show decode prog_12_method_1_code 38 = .ok (.bipush 26, 2) by decide +kernel) (by decide +kernel) ?_
  refine am_newi (atype := .int) (ty := .int) (cells := 4) (slots := 318) (N' := 26) (a0 := (26, .inl (fun _ => 0))) hx hb (htW (.arrayClass .int) (am_in_WG (by decide +kernel) rfl)) rfl 0 rfl hK hP hD hS hA (fun _ => rfl) (by decide +kernel) (by decide +kernel) (show 26 * componentBytes .int ≤ 536870912 by decide +kernel) (show 4 + 1 ≤ 20 by decide) (show 318 + 26 ≤ 978 by decide) (show decode prog_12_method_1_code 40 = .ok (.newarray .int, 2) by decide +kernel) (fun q5 H hP hD hS => ?_)
  have hP : va_P D am_cl [(h0, .inr (9, [.ref q1, .int 0, .int 0, .int 0, .ref q2, .ref q3, .ref q4, .null, .null, .null, .null, .null, .null, .null, .int 0, .null, .int 0, .null, .int 0, .null, .int 0, .null, .int 0, .int 0, .null, .null, .null, .null, .int 0, .null, .int 0, .int 0, .int 0])), (q1, .inl (cA 0, 240, .inl (fun _ => 0))), (q2, .inl (cA 0, 26, .inl (fun _ => 0))), (q3, .inl (cA 0, 26, .inl (fun _ => 0))), (q4, .inl (cA 0, 26, .inl (fun _ => 0))), (q5, .inl (cA 0, 26, .inl (fun _ => 0)))] H := hP
  have hD : va_D A [(h0, .inr (9, [.ref q1, .int 0, .int 0, .int 0, .ref q2, .ref q3, .ref q4, .null, .null, .null, .null, .null, .null, .null, .int 0, .null, .int 0, .null, .int 0, .null, .int 0, .null, .int 0, .int 0, .null, .null, .null, .null, .int 0, .null, .int 0, .int 0, .int 0])), (q1, .inl (cA 0, 240, .inl (fun _ => 0))), (q2, .inl (cA 0, 26, .inl (fun _ => 0))), (q3, .inl (cA 0, 26, .inl (fun _ => 0))), (q4, .inl (cA 0, 26, .inl (fun _ => 0))), (q5, .inl (cA 0, 26, .inl (fun _ => 0)))] := hD
  refine va_putF (D := D) (ci := 9) (v := .ref q5) (ty := (.array .int)) (C := "RebuildDeskModel") (T := am_T9) (N := 33) hx hb htW k1 ty0 k2 k3 hown hK hP hD hS 0 rfl rfl 7 (by decide) (htW (.fieldLink "RebuildDeskModel" 22 "RebuildDeskModel" "names" "[I") (am_in_WG (by decide +kernel) rfl)) (fun _ h9 => h9) rfl hin rfl (by decide +kernel) rfl rfl (Nat.le_of_ble_eq_true rfl) (show decode prog_12_method_1_code 42 = .ok (.putfield 22, 3) by decide +kernel) (fun H locs hP hD hS => ?_)
  have hP : va_P D am_cl [(h0, .inr (9, [.ref q1, .int 0, .int 0, .int 0, .ref q2, .ref q3, .ref q4, .ref q5, .null, .null, .null, .null, .null, .null, .int 0, .null, .int 0, .null, .int 0, .null, .int 0, .null, .int 0, .int 0, .null, .null, .null, .null, .int 0, .null, .int 0, .int 0, .int 0])), (q1, .inl (cA 0, 240, .inl (fun _ => 0))), (q2, .inl (cA 0, 26, .inl (fun _ => 0))), (q3, .inl (cA 0, 26, .inl (fun _ => 0))), (q4, .inl (cA 0, 26, .inl (fun _ => 0))), (q5, .inl (cA 0, 26, .inl (fun _ => 0)))] H := hP
  have hD : va_D A [(h0, .inr (9, [.ref q1, .int 0, .int 0, .int 0, .ref q2, .ref q3, .ref q4, .ref q5, .null, .null, .null, .null, .null, .null, .int 0, .null, .int 0, .null, .int 0, .null, .int 0, .null, .int 0, .int 0, .null, .null, .null, .null, .int 0, .null, .int 0, .int 0, .int 0])), (q1, .inl (cA 0, 240, .inl (fun _ => 0))), (q2, .inl (cA 0, 26, .inl (fun _ => 0))), (q3, .inl (cA 0, 26, .inl (fun _ => 0))), (q4, .inl (cA 0, 26, .inl (fun _ => 0))), (q5, .inl (cA 0, 26, .inl (fun _ => 0)))] := hD
  refine lv_aload_n hx hb (show decode prog_12_method_1_code 45 = .ok (.aload_n 0, 1) by decide +kernel) rfl (lv_at hl 0 rfl) ?_
  refine lv_bipush (v := 26) hx hb (show decode prog_12_method_1_code 46 = .ok (.bipush 26, 2) by decide +kernel) (by decide +kernel) ?_
  refine am_newi (atype := .int) (ty := .int) (cells := 5) (slots := 344) (N' := 26) (a0 := (26, .inl (fun _ => 0))) hx hb (htW (.arrayClass .int) (am_in_WG (by decide +kernel) rfl)) rfl 0 rfl hK hP hD hS hA (fun _ => rfl) (by decide +kernel) (by decide +kernel) (show 26 * componentBytes .int ≤ 536870912 by decide +kernel) (show 5 + 1 ≤ 20 by decide) (show 344 + 26 ≤ 978 by decide) (show decode prog_12_method_1_code 48 = .ok (.newarray .int, 2) by decide +kernel) (fun q6 H hP hD hS => ?_)
  have hP : va_P D am_cl [(h0, .inr (9, [.ref q1, .int 0, .int 0, .int 0, .ref q2, .ref q3, .ref q4, .ref q5, .null, .null, .null, .null, .null, .null, .int 0, .null, .int 0, .null, .int 0, .null, .int 0, .null, .int 0, .int 0, .null, .null, .null, .null, .int 0, .null, .int 0, .int 0, .int 0])), (q1, .inl (cA 0, 240, .inl (fun _ => 0))), (q2, .inl (cA 0, 26, .inl (fun _ => 0))), (q3, .inl (cA 0, 26, .inl (fun _ => 0))), (q4, .inl (cA 0, 26, .inl (fun _ => 0))), (q5, .inl (cA 0, 26, .inl (fun _ => 0))), (q6, .inl (cA 0, 26, .inl (fun _ => 0)))] H := hP
  have hD : va_D A [(h0, .inr (9, [.ref q1, .int 0, .int 0, .int 0, .ref q2, .ref q3, .ref q4, .ref q5, .null, .null, .null, .null, .null, .null, .int 0, .null, .int 0, .null, .int 0, .null, .int 0, .null, .int 0, .int 0, .null, .null, .null, .null, .int 0, .null, .int 0, .int 0, .int 0])), (q1, .inl (cA 0, 240, .inl (fun _ => 0))), (q2, .inl (cA 0, 26, .inl (fun _ => 0))), (q3, .inl (cA 0, 26, .inl (fun _ => 0))), (q4, .inl (cA 0, 26, .inl (fun _ => 0))), (q5, .inl (cA 0, 26, .inl (fun _ => 0))), (q6, .inl (cA 0, 26, .inl (fun _ => 0)))] := hD
  refine va_putF (D := D) (ci := 9) (v := .ref q6) (ty := (.array .int)) (C := "RebuildDeskModel") (T := am_T9) (N := 33) hx hb htW k1 ty0 k2 k3 hown hK hP hD hS 0 rfl rfl 8 (by decide) (htW (.fieldLink "RebuildDeskModel" 25 "RebuildDeskModel" "files" "[I") (am_in_WG (by decide +kernel) rfl)) (fun _ h9 => h9) rfl hin rfl (by decide +kernel) rfl rfl (Nat.le_of_ble_eq_true rfl) (show decode prog_12_method_1_code 50 = .ok (.putfield 25, 3) by decide +kernel) (fun H locs hP hD hS => ?_)
  have hP : va_P D am_cl [(h0, .inr (9, [.ref q1, .int 0, .int 0, .int 0, .ref q2, .ref q3, .ref q4, .ref q5, .ref q6, .null, .null, .null, .null, .null, .int 0, .null, .int 0, .null, .int 0, .null, .int 0, .null, .int 0, .int 0, .null, .null, .null, .null, .int 0, .null, .int 0, .int 0, .int 0])), (q1, .inl (cA 0, 240, .inl (fun _ => 0))), (q2, .inl (cA 0, 26, .inl (fun _ => 0))), (q3, .inl (cA 0, 26, .inl (fun _ => 0))), (q4, .inl (cA 0, 26, .inl (fun _ => 0))), (q5, .inl (cA 0, 26, .inl (fun _ => 0))), (q6, .inl (cA 0, 26, .inl (fun _ => 0)))] H := hP
  have hD : va_D A [(h0, .inr (9, [.ref q1, .int 0, .int 0, .int 0, .ref q2, .ref q3, .ref q4, .ref q5, .ref q6, .null, .null, .null, .null, .null, .int 0, .null, .int 0, .null, .int 0, .null, .int 0, .null, .int 0, .int 0, .null, .null, .null, .null, .int 0, .null, .int 0, .int 0, .int 0])), (q1, .inl (cA 0, 240, .inl (fun _ => 0))), (q2, .inl (cA 0, 26, .inl (fun _ => 0))), (q3, .inl (cA 0, 26, .inl (fun _ => 0))), (q4, .inl (cA 0, 26, .inl (fun _ => 0))), (q5, .inl (cA 0, 26, .inl (fun _ => 0))), (q6, .inl (cA 0, 26, .inl (fun _ => 0)))] := hD
  refine lv_aload_n hx hb (show decode prog_12_method_1_code 53 = .ok (.aload_n 0, 1) by decide +kernel) rfl (lv_at hl 0 rfl) ?_
  refine lv_bipush (v := 64) hx hb (show decode prog_12_method_1_code 54 = .ok (.bipush 64, 2) by decide +kernel) (by decide +kernel) ?_
  refine am_newi (atype := .int) (ty := .int) (cells := 6) (slots := 370) (N' := 64) (a0 := (64, .inl (fun _ => 0))) hx hb (htW (.arrayClass .int) (am_in_WG (by decide +kernel) rfl)) rfl 0 rfl hK hP hD hS hA (fun _ => rfl) (by decide +kernel) (by decide +kernel) (show 64 * componentBytes .int ≤ 536870912 by decide +kernel) (show 6 + 1 ≤ 20 by decide) (show 370 + 64 ≤ 978 by decide) (show decode prog_12_method_1_code 56 = .ok (.newarray .int, 2) by decide +kernel) (fun q7 H hP hD hS => ?_)
  have hP : va_P D am_cl [(h0, .inr (9, [.ref q1, .int 0, .int 0, .int 0, .ref q2, .ref q3, .ref q4, .ref q5, .ref q6, .null, .null, .null, .null, .null, .int 0, .null, .int 0, .null, .int 0, .null, .int 0, .null, .int 0, .int 0, .null, .null, .null, .null, .int 0, .null, .int 0, .int 0, .int 0])), (q1, .inl (cA 0, 240, .inl (fun _ => 0))), (q2, .inl (cA 0, 26, .inl (fun _ => 0))), (q3, .inl (cA 0, 26, .inl (fun _ => 0))), (q4, .inl (cA 0, 26, .inl (fun _ => 0))), (q5, .inl (cA 0, 26, .inl (fun _ => 0))), (q6, .inl (cA 0, 26, .inl (fun _ => 0))), (q7, .inl (cA 0, 64, .inl (fun _ => 0)))] H := hP
  have hD : va_D A [(h0, .inr (9, [.ref q1, .int 0, .int 0, .int 0, .ref q2, .ref q3, .ref q4, .ref q5, .ref q6, .null, .null, .null, .null, .null, .int 0, .null, .int 0, .null, .int 0, .null, .int 0, .null, .int 0, .int 0, .null, .null, .null, .null, .int 0, .null, .int 0, .int 0, .int 0])), (q1, .inl (cA 0, 240, .inl (fun _ => 0))), (q2, .inl (cA 0, 26, .inl (fun _ => 0))), (q3, .inl (cA 0, 26, .inl (fun _ => 0))), (q4, .inl (cA 0, 26, .inl (fun _ => 0))), (q5, .inl (cA 0, 26, .inl (fun _ => 0))), (q6, .inl (cA 0, 26, .inl (fun _ => 0))), (q7, .inl (cA 0, 64, .inl (fun _ => 0)))] := hD
  refine va_putF (D := D) (ci := 9) (v := .ref q7) (ty := (.array .int)) (C := "RebuildDeskModel") (T := am_T9) (N := 33) hx hb htW k1 ty0 k2 k3 hown hK hP hD hS 0 rfl rfl 9 (by decide) (htW (.fieldLink "RebuildDeskModel" 28 "RebuildDeskModel" "ruleFrom" "[I") (am_in_WG (by decide +kernel) rfl)) (fun _ h9 => h9) rfl hin rfl (by decide +kernel) rfl rfl (Nat.le_of_ble_eq_true rfl) (show decode prog_12_method_1_code 58 = .ok (.putfield 28, 3) by decide +kernel) (fun H locs hP hD hS => ?_)
  have hP : va_P D am_cl [(h0, .inr (9, [.ref q1, .int 0, .int 0, .int 0, .ref q2, .ref q3, .ref q4, .ref q5, .ref q6, .ref q7, .null, .null, .null, .null, .int 0, .null, .int 0, .null, .int 0, .null, .int 0, .null, .int 0, .int 0, .null, .null, .null, .null, .int 0, .null, .int 0, .int 0, .int 0])), (q1, .inl (cA 0, 240, .inl (fun _ => 0))), (q2, .inl (cA 0, 26, .inl (fun _ => 0))), (q3, .inl (cA 0, 26, .inl (fun _ => 0))), (q4, .inl (cA 0, 26, .inl (fun _ => 0))), (q5, .inl (cA 0, 26, .inl (fun _ => 0))), (q6, .inl (cA 0, 26, .inl (fun _ => 0))), (q7, .inl (cA 0, 64, .inl (fun _ => 0)))] H := hP
  have hD : va_D A [(h0, .inr (9, [.ref q1, .int 0, .int 0, .int 0, .ref q2, .ref q3, .ref q4, .ref q5, .ref q6, .ref q7, .null, .null, .null, .null, .int 0, .null, .int 0, .null, .int 0, .null, .int 0, .null, .int 0, .int 0, .null, .null, .null, .null, .int 0, .null, .int 0, .int 0, .int 0])), (q1, .inl (cA 0, 240, .inl (fun _ => 0))), (q2, .inl (cA 0, 26, .inl (fun _ => 0))), (q3, .inl (cA 0, 26, .inl (fun _ => 0))), (q4, .inl (cA 0, 26, .inl (fun _ => 0))), (q5, .inl (cA 0, 26, .inl (fun _ => 0))), (q6, .inl (cA 0, 26, .inl (fun _ => 0))), (q7, .inl (cA 0, 64, .inl (fun _ => 0)))] := hD
  refine lv_aload_n hx hb (show decode prog_12_method_1_code 61 = .ok (.aload_n 0, 1) by decide +kernel) rfl (lv_at hl 0 rfl) ?_
  refine lv_bipush (v := 64) hx hb (show decode prog_12_method_1_code 62 = .ok (.bipush 64, 2) by decide +kernel) (by decide +kernel) ?_
  refine am_newi (atype := .int) (ty := .int) (cells := 7) (slots := 434) (N' := 64) (a0 := (64, .inl (fun _ => 0))) hx hb (htW (.arrayClass .int) (am_in_WG (by decide +kernel) rfl)) rfl 0 rfl hK hP hD hS hA (fun _ => rfl) (by decide +kernel) (by decide +kernel) (show 64 * componentBytes .int ≤ 536870912 by decide +kernel) (show 7 + 1 ≤ 20 by decide) (show 434 + 64 ≤ 978 by decide) (show decode prog_12_method_1_code 64 = .ok (.newarray .int, 2) by decide +kernel) (fun q8 H hP hD hS => ?_)
  have hP : va_P D am_cl [(h0, .inr (9, [.ref q1, .int 0, .int 0, .int 0, .ref q2, .ref q3, .ref q4, .ref q5, .ref q6, .ref q7, .null, .null, .null, .null, .int 0, .null, .int 0, .null, .int 0, .null, .int 0, .null, .int 0, .int 0, .null, .null, .null, .null, .int 0, .null, .int 0, .int 0, .int 0])), (q1, .inl (cA 0, 240, .inl (fun _ => 0))), (q2, .inl (cA 0, 26, .inl (fun _ => 0))), (q3, .inl (cA 0, 26, .inl (fun _ => 0))), (q4, .inl (cA 0, 26, .inl (fun _ => 0))), (q5, .inl (cA 0, 26, .inl (fun _ => 0))), (q6, .inl (cA 0, 26, .inl (fun _ => 0))), (q7, .inl (cA 0, 64, .inl (fun _ => 0))), (q8, .inl (cA 0, 64, .inl (fun _ => 0)))] H := hP
  have hD : va_D A [(h0, .inr (9, [.ref q1, .int 0, .int 0, .int 0, .ref q2, .ref q3, .ref q4, .ref q5, .ref q6, .ref q7, .null, .null, .null, .null, .int 0, .null, .int 0, .null, .int 0, .null, .int 0, .null, .int 0, .int 0, .null, .null, .null, .null, .int 0, .null, .int 0, .int 0, .int 0])), (q1, .inl (cA 0, 240, .inl (fun _ => 0))), (q2, .inl (cA 0, 26, .inl (fun _ => 0))), (q3, .inl (cA 0, 26, .inl (fun _ => 0))), (q4, .inl (cA 0, 26, .inl (fun _ => 0))), (q5, .inl (cA 0, 26, .inl (fun _ => 0))), (q6, .inl (cA 0, 26, .inl (fun _ => 0))), (q7, .inl (cA 0, 64, .inl (fun _ => 0))), (q8, .inl (cA 0, 64, .inl (fun _ => 0)))] := hD
  refine va_putF (D := D) (ci := 9) (v := .ref q8) (ty := (.array .int)) (C := "RebuildDeskModel") (T := am_T9) (N := 33) hx hb htW k1 ty0 k2 k3 hown hK hP hD hS 0 rfl rfl 10 (by decide) (htW (.fieldLink "RebuildDeskModel" 31 "RebuildDeskModel" "ruleColon" "[I") (am_in_WG (by decide +kernel) rfl)) (fun _ h9 => h9) rfl hin rfl (by decide +kernel) rfl rfl (Nat.le_of_ble_eq_true rfl) (show decode prog_12_method_1_code 66 = .ok (.putfield 31, 3) by decide +kernel) (fun H locs hP hD hS => ?_)
  have hP : va_P D am_cl [(h0, .inr (9, [.ref q1, .int 0, .int 0, .int 0, .ref q2, .ref q3, .ref q4, .ref q5, .ref q6, .ref q7, .ref q8, .null, .null, .null, .int 0, .null, .int 0, .null, .int 0, .null, .int 0, .null, .int 0, .int 0, .null, .null, .null, .null, .int 0, .null, .int 0, .int 0, .int 0])), (q1, .inl (cA 0, 240, .inl (fun _ => 0))), (q2, .inl (cA 0, 26, .inl (fun _ => 0))), (q3, .inl (cA 0, 26, .inl (fun _ => 0))), (q4, .inl (cA 0, 26, .inl (fun _ => 0))), (q5, .inl (cA 0, 26, .inl (fun _ => 0))), (q6, .inl (cA 0, 26, .inl (fun _ => 0))), (q7, .inl (cA 0, 64, .inl (fun _ => 0))), (q8, .inl (cA 0, 64, .inl (fun _ => 0)))] H := hP
  have hD : va_D A [(h0, .inr (9, [.ref q1, .int 0, .int 0, .int 0, .ref q2, .ref q3, .ref q4, .ref q5, .ref q6, .ref q7, .ref q8, .null, .null, .null, .int 0, .null, .int 0, .null, .int 0, .null, .int 0, .null, .int 0, .int 0, .null, .null, .null, .null, .int 0, .null, .int 0, .int 0, .int 0])), (q1, .inl (cA 0, 240, .inl (fun _ => 0))), (q2, .inl (cA 0, 26, .inl (fun _ => 0))), (q3, .inl (cA 0, 26, .inl (fun _ => 0))), (q4, .inl (cA 0, 26, .inl (fun _ => 0))), (q5, .inl (cA 0, 26, .inl (fun _ => 0))), (q6, .inl (cA 0, 26, .inl (fun _ => 0))), (q7, .inl (cA 0, 64, .inl (fun _ => 0))), (q8, .inl (cA 0, 64, .inl (fun _ => 0)))] := hD
  refine lv_aload_n hx hb (show decode prog_12_method_1_code 69 = .ok (.aload_n 0, 1) by decide +kernel) rfl (lv_at hl 0 rfl) ?_
  refine lv_bipush (v := 64) hx hb (show decode prog_12_method_1_code 70 = .ok (.bipush 64, 2) by decide +kernel) (by decide +kernel) ?_
  refine am_newi (atype := .int) (ty := .int) (cells := 8) (slots := 498) (N' := 64) (a0 := (64, .inl (fun _ => 0))) hx hb (htW (.arrayClass .int) (am_in_WG (by decide +kernel) rfl)) rfl 0 rfl hK hP hD hS hA (fun _ => rfl) (by decide +kernel) (by decide +kernel) (show 64 * componentBytes .int ≤ 536870912 by decide +kernel) (show 8 + 1 ≤ 20 by decide) (show 498 + 64 ≤ 978 by decide) (show decode prog_12_method_1_code 72 = .ok (.newarray .int, 2) by decide +kernel) (fun q9 H hP hD hS => ?_)
  have hP : va_P D am_cl [(h0, .inr (9, [.ref q1, .int 0, .int 0, .int 0, .ref q2, .ref q3, .ref q4, .ref q5, .ref q6, .ref q7, .ref q8, .null, .null, .null, .int 0, .null, .int 0, .null, .int 0, .null, .int 0, .null, .int 0, .int 0, .null, .null, .null, .null, .int 0, .null, .int 0, .int 0, .int 0])), (q1, .inl (cA 0, 240, .inl (fun _ => 0))), (q2, .inl (cA 0, 26, .inl (fun _ => 0))), (q3, .inl (cA 0, 26, .inl (fun _ => 0))), (q4, .inl (cA 0, 26, .inl (fun _ => 0))), (q5, .inl (cA 0, 26, .inl (fun _ => 0))), (q6, .inl (cA 0, 26, .inl (fun _ => 0))), (q7, .inl (cA 0, 64, .inl (fun _ => 0))), (q8, .inl (cA 0, 64, .inl (fun _ => 0))), (q9, .inl (cA 0, 64, .inl (fun _ => 0)))] H := hP
  have hD : va_D A [(h0, .inr (9, [.ref q1, .int 0, .int 0, .int 0, .ref q2, .ref q3, .ref q4, .ref q5, .ref q6, .ref q7, .ref q8, .null, .null, .null, .int 0, .null, .int 0, .null, .int 0, .null, .int 0, .null, .int 0, .int 0, .null, .null, .null, .null, .int 0, .null, .int 0, .int 0, .int 0])), (q1, .inl (cA 0, 240, .inl (fun _ => 0))), (q2, .inl (cA 0, 26, .inl (fun _ => 0))), (q3, .inl (cA 0, 26, .inl (fun _ => 0))), (q4, .inl (cA 0, 26, .inl (fun _ => 0))), (q5, .inl (cA 0, 26, .inl (fun _ => 0))), (q6, .inl (cA 0, 26, .inl (fun _ => 0))), (q7, .inl (cA 0, 64, .inl (fun _ => 0))), (q8, .inl (cA 0, 64, .inl (fun _ => 0))), (q9, .inl (cA 0, 64, .inl (fun _ => 0)))] := hD
  refine va_putF (D := D) (ci := 9) (v := .ref q9) (ty := (.array .int)) (C := "RebuildDeskModel") (T := am_T9) (N := 33) hx hb htW k1 ty0 k2 k3 hown hK hP hD hS 0 rfl rfl 11 (by decide) (htW (.fieldLink "RebuildDeskModel" 34 "RebuildDeskModel" "ruleTo" "[I") (am_in_WG (by decide +kernel) rfl)) (fun _ h9 => h9) rfl hin rfl (by decide +kernel) rfl rfl (Nat.le_of_ble_eq_true rfl) (show decode prog_12_method_1_code 74 = .ok (.putfield 34, 3) by decide +kernel) (fun H locs hP hD hS => ?_)
  have hP : va_P D am_cl [(h0, .inr (9, [.ref q1, .int 0, .int 0, .int 0, .ref q2, .ref q3, .ref q4, .ref q5, .ref q6, .ref q7, .ref q8, .ref q9, .null, .null, .int 0, .null, .int 0, .null, .int 0, .null, .int 0, .null, .int 0, .int 0, .null, .null, .null, .null, .int 0, .null, .int 0, .int 0, .int 0])), (q1, .inl (cA 0, 240, .inl (fun _ => 0))), (q2, .inl (cA 0, 26, .inl (fun _ => 0))), (q3, .inl (cA 0, 26, .inl (fun _ => 0))), (q4, .inl (cA 0, 26, .inl (fun _ => 0))), (q5, .inl (cA 0, 26, .inl (fun _ => 0))), (q6, .inl (cA 0, 26, .inl (fun _ => 0))), (q7, .inl (cA 0, 64, .inl (fun _ => 0))), (q8, .inl (cA 0, 64, .inl (fun _ => 0))), (q9, .inl (cA 0, 64, .inl (fun _ => 0)))] H := hP
  have hD : va_D A [(h0, .inr (9, [.ref q1, .int 0, .int 0, .int 0, .ref q2, .ref q3, .ref q4, .ref q5, .ref q6, .ref q7, .ref q8, .ref q9, .null, .null, .int 0, .null, .int 0, .null, .int 0, .null, .int 0, .null, .int 0, .int 0, .null, .null, .null, .null, .int 0, .null, .int 0, .int 0, .int 0])), (q1, .inl (cA 0, 240, .inl (fun _ => 0))), (q2, .inl (cA 0, 26, .inl (fun _ => 0))), (q3, .inl (cA 0, 26, .inl (fun _ => 0))), (q4, .inl (cA 0, 26, .inl (fun _ => 0))), (q5, .inl (cA 0, 26, .inl (fun _ => 0))), (q6, .inl (cA 0, 26, .inl (fun _ => 0))), (q7, .inl (cA 0, 64, .inl (fun _ => 0))), (q8, .inl (cA 0, 64, .inl (fun _ => 0))), (q9, .inl (cA 0, 64, .inl (fun _ => 0)))] := hD
  refine lv_aload_n hx hb (show decode prog_12_method_1_code 77 = .ok (.aload_n 0, 1) by decide +kernel) rfl (lv_at hl 0 rfl) ?_
  refine lv_bipush (v := 64) hx hb (show decode prog_12_method_1_code 78 = .ok (.bipush 64, 2) by decide +kernel) (by decide +kernel) ?_
  refine am_newi (atype := .int) (ty := .int) (cells := 9) (slots := 562) (N' := 64) (a0 := (64, .inl (fun _ => 0))) hx hb (htW (.arrayClass .int) (am_in_WG (by decide +kernel) rfl)) rfl 0 rfl hK hP hD hS hA (fun _ => rfl) (by decide +kernel) (by decide +kernel) (show 64 * componentBytes .int ≤ 536870912 by decide +kernel) (show 9 + 1 ≤ 20 by decide) (show 562 + 64 ≤ 978 by decide) (show decode prog_12_method_1_code 80 = .ok (.newarray .int, 2) by decide +kernel) (fun q10 H hP hD hS => ?_)
  have hP : va_P D am_cl [(h0, .inr (9, [.ref q1, .int 0, .int 0, .int 0, .ref q2, .ref q3, .ref q4, .ref q5, .ref q6, .ref q7, .ref q8, .ref q9, .null, .null, .int 0, .null, .int 0, .null, .int 0, .null, .int 0, .null, .int 0, .int 0, .null, .null, .null, .null, .int 0, .null, .int 0, .int 0, .int 0])), (q1, .inl (cA 0, 240, .inl (fun _ => 0))), (q2, .inl (cA 0, 26, .inl (fun _ => 0))), (q3, .inl (cA 0, 26, .inl (fun _ => 0))), (q4, .inl (cA 0, 26, .inl (fun _ => 0))), (q5, .inl (cA 0, 26, .inl (fun _ => 0))), (q6, .inl (cA 0, 26, .inl (fun _ => 0))), (q7, .inl (cA 0, 64, .inl (fun _ => 0))), (q8, .inl (cA 0, 64, .inl (fun _ => 0))), (q9, .inl (cA 0, 64, .inl (fun _ => 0))), (q10, .inl (cA 0, 64, .inl (fun _ => 0)))] H := hP
  have hD : va_D A [(h0, .inr (9, [.ref q1, .int 0, .int 0, .int 0, .ref q2, .ref q3, .ref q4, .ref q5, .ref q6, .ref q7, .ref q8, .ref q9, .null, .null, .int 0, .null, .int 0, .null, .int 0, .null, .int 0, .null, .int 0, .int 0, .null, .null, .null, .null, .int 0, .null, .int 0, .int 0, .int 0])), (q1, .inl (cA 0, 240, .inl (fun _ => 0))), (q2, .inl (cA 0, 26, .inl (fun _ => 0))), (q3, .inl (cA 0, 26, .inl (fun _ => 0))), (q4, .inl (cA 0, 26, .inl (fun _ => 0))), (q5, .inl (cA 0, 26, .inl (fun _ => 0))), (q6, .inl (cA 0, 26, .inl (fun _ => 0))), (q7, .inl (cA 0, 64, .inl (fun _ => 0))), (q8, .inl (cA 0, 64, .inl (fun _ => 0))), (q9, .inl (cA 0, 64, .inl (fun _ => 0))), (q10, .inl (cA 0, 64, .inl (fun _ => 0)))] := hD
  refine va_putF (D := D) (ci := 9) (v := .ref q10) (ty := (.array .int)) (C := "RebuildDeskModel") (T := am_T9) (N := 33) hx hb htW k1 ty0 k2 k3 hown hK hP hD hS 0 rfl rfl 12 (by decide) (htW (.fieldLink "RebuildDeskModel" 37 "RebuildDeskModel" "ruleLine" "[I") (am_in_WG (by decide +kernel) rfl)) (fun _ h9 => h9) rfl hin rfl (by decide +kernel) rfl rfl (Nat.le_of_ble_eq_true rfl) (show decode prog_12_method_1_code 82 = .ok (.putfield 37, 3) by decide +kernel) (fun H locs hP hD hS => ?_)
  have hP : va_P D am_cl [(h0, .inr (9, [.ref q1, .int 0, .int 0, .int 0, .ref q2, .ref q3, .ref q4, .ref q5, .ref q6, .ref q7, .ref q8, .ref q9, .ref q10, .null, .int 0, .null, .int 0, .null, .int 0, .null, .int 0, .null, .int 0, .int 0, .null, .null, .null, .null, .int 0, .null, .int 0, .int 0, .int 0])), (q1, .inl (cA 0, 240, .inl (fun _ => 0))), (q2, .inl (cA 0, 26, .inl (fun _ => 0))), (q3, .inl (cA 0, 26, .inl (fun _ => 0))), (q4, .inl (cA 0, 26, .inl (fun _ => 0))), (q5, .inl (cA 0, 26, .inl (fun _ => 0))), (q6, .inl (cA 0, 26, .inl (fun _ => 0))), (q7, .inl (cA 0, 64, .inl (fun _ => 0))), (q8, .inl (cA 0, 64, .inl (fun _ => 0))), (q9, .inl (cA 0, 64, .inl (fun _ => 0))), (q10, .inl (cA 0, 64, .inl (fun _ => 0)))] H := hP
  have hD : va_D A [(h0, .inr (9, [.ref q1, .int 0, .int 0, .int 0, .ref q2, .ref q3, .ref q4, .ref q5, .ref q6, .ref q7, .ref q8, .ref q9, .ref q10, .null, .int 0, .null, .int 0, .null, .int 0, .null, .int 0, .null, .int 0, .int 0, .null, .null, .null, .null, .int 0, .null, .int 0, .int 0, .int 0])), (q1, .inl (cA 0, 240, .inl (fun _ => 0))), (q2, .inl (cA 0, 26, .inl (fun _ => 0))), (q3, .inl (cA 0, 26, .inl (fun _ => 0))), (q4, .inl (cA 0, 26, .inl (fun _ => 0))), (q5, .inl (cA 0, 26, .inl (fun _ => 0))), (q6, .inl (cA 0, 26, .inl (fun _ => 0))), (q7, .inl (cA 0, 64, .inl (fun _ => 0))), (q8, .inl (cA 0, 64, .inl (fun _ => 0))), (q9, .inl (cA 0, 64, .inl (fun _ => 0))), (q10, .inl (cA 0, 64, .inl (fun _ => 0)))] := hD
  refine lv_aload_n hx hb (show decode prog_12_method_1_code 85 = .ok (.aload_n 0, 1) by decide +kernel) rfl (lv_at hl 0 rfl) ?_
  refine lv_bipush (v := 64) hx hb (show decode prog_12_method_1_code 86 = .ok (.bipush 64, 2) by decide +kernel) (by decide +kernel) ?_
  refine am_newi (atype := .boolean) (ty := .boolean) (cells := 10) (slots := 626) (N' := 64) (a0 := (64, .inl (fun _ => 0))) hx hb (htW (.arrayClass .boolean) (am_in_WG (by decide +kernel) rfl)) rfl 3 rfl hK hP hD hS hA (fun _ => rfl) (by decide +kernel) (by decide +kernel) (show 64 * componentBytes .boolean ≤ 536870912 by decide +kernel) (show 10 + 1 ≤ 20 by decide) (show 626 + 64 ≤ 978 by decide) (show decode prog_12_method_1_code 88 = .ok (.newarray .boolean, 2) by decide +kernel) (fun q11 H hP hD hS => ?_)
  have hP : va_P D am_cl [(h0, .inr (9, [.ref q1, .int 0, .int 0, .int 0, .ref q2, .ref q3, .ref q4, .ref q5, .ref q6, .ref q7, .ref q8, .ref q9, .ref q10, .null, .int 0, .null, .int 0, .null, .int 0, .null, .int 0, .null, .int 0, .int 0, .null, .null, .null, .null, .int 0, .null, .int 0, .int 0, .int 0])), (q1, .inl (cA 0, 240, .inl (fun _ => 0))), (q2, .inl (cA 0, 26, .inl (fun _ => 0))), (q3, .inl (cA 0, 26, .inl (fun _ => 0))), (q4, .inl (cA 0, 26, .inl (fun _ => 0))), (q5, .inl (cA 0, 26, .inl (fun _ => 0))), (q6, .inl (cA 0, 26, .inl (fun _ => 0))), (q7, .inl (cA 0, 64, .inl (fun _ => 0))), (q8, .inl (cA 0, 64, .inl (fun _ => 0))), (q9, .inl (cA 0, 64, .inl (fun _ => 0))), (q10, .inl (cA 0, 64, .inl (fun _ => 0))), (q11, .inl (cA 3, 64, .inl (fun _ => 0)))] H := hP
  have hD : va_D A [(h0, .inr (9, [.ref q1, .int 0, .int 0, .int 0, .ref q2, .ref q3, .ref q4, .ref q5, .ref q6, .ref q7, .ref q8, .ref q9, .ref q10, .null, .int 0, .null, .int 0, .null, .int 0, .null, .int 0, .null, .int 0, .int 0, .null, .null, .null, .null, .int 0, .null, .int 0, .int 0, .int 0])), (q1, .inl (cA 0, 240, .inl (fun _ => 0))), (q2, .inl (cA 0, 26, .inl (fun _ => 0))), (q3, .inl (cA 0, 26, .inl (fun _ => 0))), (q4, .inl (cA 0, 26, .inl (fun _ => 0))), (q5, .inl (cA 0, 26, .inl (fun _ => 0))), (q6, .inl (cA 0, 26, .inl (fun _ => 0))), (q7, .inl (cA 0, 64, .inl (fun _ => 0))), (q8, .inl (cA 0, 64, .inl (fun _ => 0))), (q9, .inl (cA 0, 64, .inl (fun _ => 0))), (q10, .inl (cA 0, 64, .inl (fun _ => 0))), (q11, .inl (cA 3, 64, .inl (fun _ => 0)))] := hD
  refine va_putF (D := D) (ci := 9) (v := .ref q11) (ty := (.array .boolean)) (C := "RebuildDeskModel") (T := am_T9) (N := 33) hx hb htW k1 ty0 k2 k3 hown hK hP hD hS 0 rfl rfl 13 (by decide) (htW (.fieldLink "RebuildDeskModel" 40 "RebuildDeskModel" "ruleHas" "[Z") (am_in_WG (by decide +kernel) rfl)) (fun _ h9 => h9) rfl hin rfl (by decide +kernel) rfl rfl (Nat.le_of_ble_eq_true rfl) (show decode prog_12_method_1_code 90 = .ok (.putfield 40, 3) by decide +kernel) (fun H locs hP hD hS => ?_)
  have hP : va_P D am_cl [(h0, .inr (9, [.ref q1, .int 0, .int 0, .int 0, .ref q2, .ref q3, .ref q4, .ref q5, .ref q6, .ref q7, .ref q8, .ref q9, .ref q10, .ref q11, .int 0, .null, .int 0, .null, .int 0, .null, .int 0, .null, .int 0, .int 0, .null, .null, .null, .null, .int 0, .null, .int 0, .int 0, .int 0])), (q1, .inl (cA 0, 240, .inl (fun _ => 0))), (q2, .inl (cA 0, 26, .inl (fun _ => 0))), (q3, .inl (cA 0, 26, .inl (fun _ => 0))), (q4, .inl (cA 0, 26, .inl (fun _ => 0))), (q5, .inl (cA 0, 26, .inl (fun _ => 0))), (q6, .inl (cA 0, 26, .inl (fun _ => 0))), (q7, .inl (cA 0, 64, .inl (fun _ => 0))), (q8, .inl (cA 0, 64, .inl (fun _ => 0))), (q9, .inl (cA 0, 64, .inl (fun _ => 0))), (q10, .inl (cA 0, 64, .inl (fun _ => 0))), (q11, .inl (cA 3, 64, .inl (fun _ => 0)))] H := hP
  have hD : va_D A [(h0, .inr (9, [.ref q1, .int 0, .int 0, .int 0, .ref q2, .ref q3, .ref q4, .ref q5, .ref q6, .ref q7, .ref q8, .ref q9, .ref q10, .ref q11, .int 0, .null, .int 0, .null, .int 0, .null, .int 0, .null, .int 0, .int 0, .null, .null, .null, .null, .int 0, .null, .int 0, .int 0, .int 0])), (q1, .inl (cA 0, 240, .inl (fun _ => 0))), (q2, .inl (cA 0, 26, .inl (fun _ => 0))), (q3, .inl (cA 0, 26, .inl (fun _ => 0))), (q4, .inl (cA 0, 26, .inl (fun _ => 0))), (q5, .inl (cA 0, 26, .inl (fun _ => 0))), (q6, .inl (cA 0, 26, .inl (fun _ => 0))), (q7, .inl (cA 0, 64, .inl (fun _ => 0))), (q8, .inl (cA 0, 64, .inl (fun _ => 0))), (q9, .inl (cA 0, 64, .inl (fun _ => 0))), (q10, .inl (cA 0, 64, .inl (fun _ => 0))), (q11, .inl (cA 3, 64, .inl (fun _ => 0)))] := hD
  refine lv_aload_n hx hb (show decode prog_12_method_1_code 93 = .ok (.aload_n 0, 1) by decide +kernel) rfl (lv_at hl 0 rfl) ?_
  refine lv_bipush (v := 32) hx hb (show decode prog_12_method_1_code 94 = .ok (.bipush 32, 2) by decide +kernel) (by decide +kernel) ?_
  refine am_newi (atype := .int) (ty := .int) (cells := 11) (slots := 690) (N' := 32) (a0 := (32, .inl (fun _ => 0))) hx hb (htW (.arrayClass .int) (am_in_WG (by decide +kernel) rfl)) rfl 0 rfl hK hP hD hS hA (fun _ => rfl) (by decide +kernel) (by decide +kernel) (show 32 * componentBytes .int ≤ 536870912 by decide +kernel) (show 11 + 1 ≤ 20 by decide) (show 690 + 32 ≤ 978 by decide) (show decode prog_12_method_1_code 96 = .ok (.newarray .int, 2) by decide +kernel) (fun q12 H hP hD hS => ?_)
  have hP : va_P D am_cl [(h0, .inr (9, [.ref q1, .int 0, .int 0, .int 0, .ref q2, .ref q3, .ref q4, .ref q5, .ref q6, .ref q7, .ref q8, .ref q9, .ref q10, .ref q11, .int 0, .null, .int 0, .null, .int 0, .null, .int 0, .null, .int 0, .int 0, .null, .null, .null, .null, .int 0, .null, .int 0, .int 0, .int 0])), (q1, .inl (cA 0, 240, .inl (fun _ => 0))), (q2, .inl (cA 0, 26, .inl (fun _ => 0))), (q3, .inl (cA 0, 26, .inl (fun _ => 0))), (q4, .inl (cA 0, 26, .inl (fun _ => 0))), (q5, .inl (cA 0, 26, .inl (fun _ => 0))), (q6, .inl (cA 0, 26, .inl (fun _ => 0))), (q7, .inl (cA 0, 64, .inl (fun _ => 0))), (q8, .inl (cA 0, 64, .inl (fun _ => 0))), (q9, .inl (cA 0, 64, .inl (fun _ => 0))), (q10, .inl (cA 0, 64, .inl (fun _ => 0))), (q11, .inl (cA 3, 64, .inl (fun _ => 0))), (q12, .inl (cA 0, 32, .inl (fun _ => 0)))] H := hP
  have hD : va_D A [(h0, .inr (9, [.ref q1, .int 0, .int 0, .int 0, .ref q2, .ref q3, .ref q4, .ref q5, .ref q6, .ref q7, .ref q8, .ref q9, .ref q10, .ref q11, .int 0, .null, .int 0, .null, .int 0, .null, .int 0, .null, .int 0, .int 0, .null, .null, .null, .null, .int 0, .null, .int 0, .int 0, .int 0])), (q1, .inl (cA 0, 240, .inl (fun _ => 0))), (q2, .inl (cA 0, 26, .inl (fun _ => 0))), (q3, .inl (cA 0, 26, .inl (fun _ => 0))), (q4, .inl (cA 0, 26, .inl (fun _ => 0))), (q5, .inl (cA 0, 26, .inl (fun _ => 0))), (q6, .inl (cA 0, 26, .inl (fun _ => 0))), (q7, .inl (cA 0, 64, .inl (fun _ => 0))), (q8, .inl (cA 0, 64, .inl (fun _ => 0))), (q9, .inl (cA 0, 64, .inl (fun _ => 0))), (q10, .inl (cA 0, 64, .inl (fun _ => 0))), (q11, .inl (cA 3, 64, .inl (fun _ => 0))), (q12, .inl (cA 0, 32, .inl (fun _ => 0)))] := hD
  refine va_putF (D := D) (ci := 9) (v := .ref q12) (ty := (.array .int)) (C := "RebuildDeskModel") (T := am_T9) (N := 33) hx hb htW k1 ty0 k2 k3 hown hK hP hD hS 0 rfl rfl 15 (by decide) (htW (.fieldLink "RebuildDeskModel" 44 "RebuildDeskModel" "newPattern" "[I") (am_in_WG (by decide +kernel) rfl)) (fun _ h9 => h9) rfl hin rfl (by decide +kernel) rfl rfl (Nat.le_of_ble_eq_true rfl) (show decode prog_12_method_1_code 98 = .ok (.putfield 44, 3) by decide +kernel) (fun H locs hP hD hS => ?_)
  have hP : va_P D am_cl [(h0, .inr (9, [.ref q1, .int 0, .int 0, .int 0, .ref q2, .ref q3, .ref q4, .ref q5, .ref q6, .ref q7, .ref q8, .ref q9, .ref q10, .ref q11, .int 0, .ref q12, .int 0, .null, .int 0, .null, .int 0, .null, .int 0, .int 0, .null, .null, .null, .null, .int 0, .null, .int 0, .int 0, .int 0])), (q1, .inl (cA 0, 240, .inl (fun _ => 0))), (q2, .inl (cA 0, 26, .inl (fun _ => 0))), (q3, .inl (cA 0, 26, .inl (fun _ => 0))), (q4, .inl (cA 0, 26, .inl (fun _ => 0))), (q5, .inl (cA 0, 26, .inl (fun _ => 0))), (q6, .inl (cA 0, 26, .inl (fun _ => 0))), (q7, .inl (cA 0, 64, .inl (fun _ => 0))), (q8, .inl (cA 0, 64, .inl (fun _ => 0))), (q9, .inl (cA 0, 64, .inl (fun _ => 0))), (q10, .inl (cA 0, 64, .inl (fun _ => 0))), (q11, .inl (cA 3, 64, .inl (fun _ => 0))), (q12, .inl (cA 0, 32, .inl (fun _ => 0)))] H := hP
  have hD : va_D A [(h0, .inr (9, [.ref q1, .int 0, .int 0, .int 0, .ref q2, .ref q3, .ref q4, .ref q5, .ref q6, .ref q7, .ref q8, .ref q9, .ref q10, .ref q11, .int 0, .ref q12, .int 0, .null, .int 0, .null, .int 0, .null, .int 0, .int 0, .null, .null, .null, .null, .int 0, .null, .int 0, .int 0, .int 0])), (q1, .inl (cA 0, 240, .inl (fun _ => 0))), (q2, .inl (cA 0, 26, .inl (fun _ => 0))), (q3, .inl (cA 0, 26, .inl (fun _ => 0))), (q4, .inl (cA 0, 26, .inl (fun _ => 0))), (q5, .inl (cA 0, 26, .inl (fun _ => 0))), (q6, .inl (cA 0, 26, .inl (fun _ => 0))), (q7, .inl (cA 0, 64, .inl (fun _ => 0))), (q8, .inl (cA 0, 64, .inl (fun _ => 0))), (q9, .inl (cA 0, 64, .inl (fun _ => 0))), (q10, .inl (cA 0, 64, .inl (fun _ => 0))), (q11, .inl (cA 3, 64, .inl (fun _ => 0))), (q12, .inl (cA 0, 32, .inl (fun _ => 0)))] := hD
  refine lv_aload_n hx hb (show decode prog_12_method_1_code 101 = .ok (.aload_n 0, 1) by decide +kernel) rfl (lv_at hl 0 rfl) ?_
  refine lv_bipush (v := 32) hx hb (show decode prog_12_method_1_code 102 = .ok (.bipush 32, 2) by decide +kernel) (by decide +kernel) ?_
  refine am_newi (atype := .int) (ty := .int) (cells := 12) (slots := 722) (N' := 32) (a0 := (32, .inl (fun _ => 0))) hx hb (htW (.arrayClass .int) (am_in_WG (by decide +kernel) rfl)) rfl 0 rfl hK hP hD hS hA (fun _ => rfl) (by decide +kernel) (by decide +kernel) (show 32 * componentBytes .int ≤ 536870912 by decide +kernel) (show 12 + 1 ≤ 20 by decide) (show 722 + 32 ≤ 978 by decide) (show decode prog_12_method_1_code 104 = .ok (.newarray .int, 2) by decide +kernel) (fun q13 H hP hD hS => ?_)
  have hP : va_P D am_cl [(h0, .inr (9, [.ref q1, .int 0, .int 0, .int 0, .ref q2, .ref q3, .ref q4, .ref q5, .ref q6, .ref q7, .ref q8, .ref q9, .ref q10, .ref q11, .int 0, .ref q12, .int 0, .null, .int 0, .null, .int 0, .null, .int 0, .int 0, .null, .null, .null, .null, .int 0, .null, .int 0, .int 0, .int 0])), (q1, .inl (cA 0, 240, .inl (fun _ => 0))), (q2, .inl (cA 0, 26, .inl (fun _ => 0))), (q3, .inl (cA 0, 26, .inl (fun _ => 0))), (q4, .inl (cA 0, 26, .inl (fun _ => 0))), (q5, .inl (cA 0, 26, .inl (fun _ => 0))), (q6, .inl (cA 0, 26, .inl (fun _ => 0))), (q7, .inl (cA 0, 64, .inl (fun _ => 0))), (q8, .inl (cA 0, 64, .inl (fun _ => 0))), (q9, .inl (cA 0, 64, .inl (fun _ => 0))), (q10, .inl (cA 0, 64, .inl (fun _ => 0))), (q11, .inl (cA 3, 64, .inl (fun _ => 0))), (q12, .inl (cA 0, 32, .inl (fun _ => 0))), (q13, .inl (cA 0, 32, .inl (fun _ => 0)))] H := hP
  have hD : va_D A [(h0, .inr (9, [.ref q1, .int 0, .int 0, .int 0, .ref q2, .ref q3, .ref q4, .ref q5, .ref q6, .ref q7, .ref q8, .ref q9, .ref q10, .ref q11, .int 0, .ref q12, .int 0, .null, .int 0, .null, .int 0, .null, .int 0, .int 0, .null, .null, .null, .null, .int 0, .null, .int 0, .int 0, .int 0])), (q1, .inl (cA 0, 240, .inl (fun _ => 0))), (q2, .inl (cA 0, 26, .inl (fun _ => 0))), (q3, .inl (cA 0, 26, .inl (fun _ => 0))), (q4, .inl (cA 0, 26, .inl (fun _ => 0))), (q5, .inl (cA 0, 26, .inl (fun _ => 0))), (q6, .inl (cA 0, 26, .inl (fun _ => 0))), (q7, .inl (cA 0, 64, .inl (fun _ => 0))), (q8, .inl (cA 0, 64, .inl (fun _ => 0))), (q9, .inl (cA 0, 64, .inl (fun _ => 0))), (q10, .inl (cA 0, 64, .inl (fun _ => 0))), (q11, .inl (cA 3, 64, .inl (fun _ => 0))), (q12, .inl (cA 0, 32, .inl (fun _ => 0))), (q13, .inl (cA 0, 32, .inl (fun _ => 0)))] := hD
  refine va_putF (D := D) (ci := 9) (v := .ref q13) (ty := (.array .int)) (C := "RebuildDeskModel") (T := am_T9) (N := 33) hx hb htW k1 ty0 k2 k3 hown hK hP hD hS 0 rfl rfl 17 (by decide) (htW (.fieldLink "RebuildDeskModel" 47 "RebuildDeskModel" "explicit" "[I") (am_in_WG (by decide +kernel) rfl)) (fun _ h9 => h9) rfl hin rfl (by decide +kernel) rfl rfl (Nat.le_of_ble_eq_true rfl) (show decode prog_12_method_1_code 106 = .ok (.putfield 47, 3) by decide +kernel) (fun H locs hP hD hS => ?_)
  have hP : va_P D am_cl [(h0, .inr (9, [.ref q1, .int 0, .int 0, .int 0, .ref q2, .ref q3, .ref q4, .ref q5, .ref q6, .ref q7, .ref q8, .ref q9, .ref q10, .ref q11, .int 0, .ref q12, .int 0, .ref q13, .int 0, .null, .int 0, .null, .int 0, .int 0, .null, .null, .null, .null, .int 0, .null, .int 0, .int 0, .int 0])), (q1, .inl (cA 0, 240, .inl (fun _ => 0))), (q2, .inl (cA 0, 26, .inl (fun _ => 0))), (q3, .inl (cA 0, 26, .inl (fun _ => 0))), (q4, .inl (cA 0, 26, .inl (fun _ => 0))), (q5, .inl (cA 0, 26, .inl (fun _ => 0))), (q6, .inl (cA 0, 26, .inl (fun _ => 0))), (q7, .inl (cA 0, 64, .inl (fun _ => 0))), (q8, .inl (cA 0, 64, .inl (fun _ => 0))), (q9, .inl (cA 0, 64, .inl (fun _ => 0))), (q10, .inl (cA 0, 64, .inl (fun _ => 0))), (q11, .inl (cA 3, 64, .inl (fun _ => 0))), (q12, .inl (cA 0, 32, .inl (fun _ => 0))), (q13, .inl (cA 0, 32, .inl (fun _ => 0)))] H := hP
  have hD : va_D A [(h0, .inr (9, [.ref q1, .int 0, .int 0, .int 0, .ref q2, .ref q3, .ref q4, .ref q5, .ref q6, .ref q7, .ref q8, .ref q9, .ref q10, .ref q11, .int 0, .ref q12, .int 0, .ref q13, .int 0, .null, .int 0, .null, .int 0, .int 0, .null, .null, .null, .null, .int 0, .null, .int 0, .int 0, .int 0])), (q1, .inl (cA 0, 240, .inl (fun _ => 0))), (q2, .inl (cA 0, 26, .inl (fun _ => 0))), (q3, .inl (cA 0, 26, .inl (fun _ => 0))), (q4, .inl (cA 0, 26, .inl (fun _ => 0))), (q5, .inl (cA 0, 26, .inl (fun _ => 0))), (q6, .inl (cA 0, 26, .inl (fun _ => 0))), (q7, .inl (cA 0, 64, .inl (fun _ => 0))), (q8, .inl (cA 0, 64, .inl (fun _ => 0))), (q9, .inl (cA 0, 64, .inl (fun _ => 0))), (q10, .inl (cA 0, 64, .inl (fun _ => 0))), (q11, .inl (cA 3, 64, .inl (fun _ => 0))), (q12, .inl (cA 0, 32, .inl (fun _ => 0))), (q13, .inl (cA 0, 32, .inl (fun _ => 0)))] := hD
  refine lv_aload_n hx hb (show decode prog_12_method_1_code 109 = .ok (.aload_n 0, 1) by decide +kernel) rfl (lv_at hl 0 rfl) ?_
  refine lv_bipush (v := 32) hx hb (show decode prog_12_method_1_code 110 = .ok (.bipush 32, 2) by decide +kernel) (by decide +kernel) ?_
  refine am_newi (atype := .int) (ty := .int) (cells := 13) (slots := 754) (N' := 32) (a0 := (32, .inl (fun _ => 0))) hx hb (htW (.arrayClass .int) (am_in_WG (by decide +kernel) rfl)) rfl 0 rfl hK hP hD hS hA (fun _ => rfl) (by decide +kernel) (by decide +kernel) (show 32 * componentBytes .int ≤ 536870912 by decide +kernel) (show 13 + 1 ≤ 20 by decide) (show 754 + 32 ≤ 978 by decide) (show decode prog_12_method_1_code 112 = .ok (.newarray .int, 2) by decide +kernel) (fun q14 H hP hD hS => ?_)
  have hP : va_P D am_cl [(h0, .inr (9, [.ref q1, .int 0, .int 0, .int 0, .ref q2, .ref q3, .ref q4, .ref q5, .ref q6, .ref q7, .ref q8, .ref q9, .ref q10, .ref q11, .int 0, .ref q12, .int 0, .ref q13, .int 0, .null, .int 0, .null, .int 0, .int 0, .null, .null, .null, .null, .int 0, .null, .int 0, .int 0, .int 0])), (q1, .inl (cA 0, 240, .inl (fun _ => 0))), (q2, .inl (cA 0, 26, .inl (fun _ => 0))), (q3, .inl (cA 0, 26, .inl (fun _ => 0))), (q4, .inl (cA 0, 26, .inl (fun _ => 0))), (q5, .inl (cA 0, 26, .inl (fun _ => 0))), (q6, .inl (cA 0, 26, .inl (fun _ => 0))), (q7, .inl (cA 0, 64, .inl (fun _ => 0))), (q8, .inl (cA 0, 64, .inl (fun _ => 0))), (q9, .inl (cA 0, 64, .inl (fun _ => 0))), (q10, .inl (cA 0, 64, .inl (fun _ => 0))), (q11, .inl (cA 3, 64, .inl (fun _ => 0))), (q12, .inl (cA 0, 32, .inl (fun _ => 0))), (q13, .inl (cA 0, 32, .inl (fun _ => 0))), (q14, .inl (cA 0, 32, .inl (fun _ => 0)))] H := hP
  have hD : va_D A [(h0, .inr (9, [.ref q1, .int 0, .int 0, .int 0, .ref q2, .ref q3, .ref q4, .ref q5, .ref q6, .ref q7, .ref q8, .ref q9, .ref q10, .ref q11, .int 0, .ref q12, .int 0, .ref q13, .int 0, .null, .int 0, .null, .int 0, .int 0, .null, .null, .null, .null, .int 0, .null, .int 0, .int 0, .int 0])), (q1, .inl (cA 0, 240, .inl (fun _ => 0))), (q2, .inl (cA 0, 26, .inl (fun _ => 0))), (q3, .inl (cA 0, 26, .inl (fun _ => 0))), (q4, .inl (cA 0, 26, .inl (fun _ => 0))), (q5, .inl (cA 0, 26, .inl (fun _ => 0))), (q6, .inl (cA 0, 26, .inl (fun _ => 0))), (q7, .inl (cA 0, 64, .inl (fun _ => 0))), (q8, .inl (cA 0, 64, .inl (fun _ => 0))), (q9, .inl (cA 0, 64, .inl (fun _ => 0))), (q10, .inl (cA 0, 64, .inl (fun _ => 0))), (q11, .inl (cA 3, 64, .inl (fun _ => 0))), (q12, .inl (cA 0, 32, .inl (fun _ => 0))), (q13, .inl (cA 0, 32, .inl (fun _ => 0))), (q14, .inl (cA 0, 32, .inl (fun _ => 0)))] := hD
  refine va_putF (D := D) (ci := 9) (v := .ref q14) (ty := (.array .int)) (C := "RebuildDeskModel") (T := am_T9) (N := 33) hx hb htW k1 ty0 k2 k3 hown hK hP hD hS 0 rfl rfl 19 (by decide) (htW (.fieldLink "RebuildDeskModel" 50 "RebuildDeskModel" "pattern" "[I") (am_in_WG (by decide +kernel) rfl)) (fun _ h9 => h9) rfl hin rfl (by decide +kernel) rfl rfl (Nat.le_of_ble_eq_true rfl) (show decode prog_12_method_1_code 114 = .ok (.putfield 50, 3) by decide +kernel) (fun H locs hP hD hS => ?_)
  have hP : va_P D am_cl [(h0, .inr (9, [.ref q1, .int 0, .int 0, .int 0, .ref q2, .ref q3, .ref q4, .ref q5, .ref q6, .ref q7, .ref q8, .ref q9, .ref q10, .ref q11, .int 0, .ref q12, .int 0, .ref q13, .int 0, .ref q14, .int 0, .null, .int 0, .int 0, .null, .null, .null, .null, .int 0, .null, .int 0, .int 0, .int 0])), (q1, .inl (cA 0, 240, .inl (fun _ => 0))), (q2, .inl (cA 0, 26, .inl (fun _ => 0))), (q3, .inl (cA 0, 26, .inl (fun _ => 0))), (q4, .inl (cA 0, 26, .inl (fun _ => 0))), (q5, .inl (cA 0, 26, .inl (fun _ => 0))), (q6, .inl (cA 0, 26, .inl (fun _ => 0))), (q7, .inl (cA 0, 64, .inl (fun _ => 0))), (q8, .inl (cA 0, 64, .inl (fun _ => 0))), (q9, .inl (cA 0, 64, .inl (fun _ => 0))), (q10, .inl (cA 0, 64, .inl (fun _ => 0))), (q11, .inl (cA 3, 64, .inl (fun _ => 0))), (q12, .inl (cA 0, 32, .inl (fun _ => 0))), (q13, .inl (cA 0, 32, .inl (fun _ => 0))), (q14, .inl (cA 0, 32, .inl (fun _ => 0)))] H := hP
  have hD : va_D A [(h0, .inr (9, [.ref q1, .int 0, .int 0, .int 0, .ref q2, .ref q3, .ref q4, .ref q5, .ref q6, .ref q7, .ref q8, .ref q9, .ref q10, .ref q11, .int 0, .ref q12, .int 0, .ref q13, .int 0, .ref q14, .int 0, .null, .int 0, .int 0, .null, .null, .null, .null, .int 0, .null, .int 0, .int 0, .int 0])), (q1, .inl (cA 0, 240, .inl (fun _ => 0))), (q2, .inl (cA 0, 26, .inl (fun _ => 0))), (q3, .inl (cA 0, 26, .inl (fun _ => 0))), (q4, .inl (cA 0, 26, .inl (fun _ => 0))), (q5, .inl (cA 0, 26, .inl (fun _ => 0))), (q6, .inl (cA 0, 26, .inl (fun _ => 0))), (q7, .inl (cA 0, 64, .inl (fun _ => 0))), (q8, .inl (cA 0, 64, .inl (fun _ => 0))), (q9, .inl (cA 0, 64, .inl (fun _ => 0))), (q10, .inl (cA 0, 64, .inl (fun _ => 0))), (q11, .inl (cA 3, 64, .inl (fun _ => 0))), (q12, .inl (cA 0, 32, .inl (fun _ => 0))), (q13, .inl (cA 0, 32, .inl (fun _ => 0))), (q14, .inl (cA 0, 32, .inl (fun _ => 0)))] := hD
  refine lv_aload_n hx hb (show decode prog_12_method_1_code 117 = .ok (.aload_n 0, 1) by decide +kernel) rfl (lv_at hl 0 rfl) ?_
  refine lv_bipush (v := 32) hx hb (show decode prog_12_method_1_code 118 = .ok (.bipush 32, 2) by decide +kernel) (by decide +kernel) ?_
  refine am_newi (atype := .int) (ty := .int) (cells := 14) (slots := 786) (N' := 32) (a0 := (32, .inl (fun _ => 0))) hx hb (htW (.arrayClass .int) (am_in_WG (by decide +kernel) rfl)) rfl 0 rfl hK hP hD hS hA (fun _ => rfl) (by decide +kernel) (by decide +kernel) (show 32 * componentBytes .int ≤ 536870912 by decide +kernel) (show 14 + 1 ≤ 20 by decide) (show 786 + 32 ≤ 978 by decide) (show decode prog_12_method_1_code 120 = .ok (.newarray .int, 2) by decide +kernel) (fun q15 H hP hD hS => ?_)
  have hP : va_P D am_cl [(h0, .inr (9, [.ref q1, .int 0, .int 0, .int 0, .ref q2, .ref q3, .ref q4, .ref q5, .ref q6, .ref q7, .ref q8, .ref q9, .ref q10, .ref q11, .int 0, .ref q12, .int 0, .ref q13, .int 0, .ref q14, .int 0, .null, .int 0, .int 0, .null, .null, .null, .null, .int 0, .null, .int 0, .int 0, .int 0])), (q1, .inl (cA 0, 240, .inl (fun _ => 0))), (q2, .inl (cA 0, 26, .inl (fun _ => 0))), (q3, .inl (cA 0, 26, .inl (fun _ => 0))), (q4, .inl (cA 0, 26, .inl (fun _ => 0))), (q5, .inl (cA 0, 26, .inl (fun _ => 0))), (q6, .inl (cA 0, 26, .inl (fun _ => 0))), (q7, .inl (cA 0, 64, .inl (fun _ => 0))), (q8, .inl (cA 0, 64, .inl (fun _ => 0))), (q9, .inl (cA 0, 64, .inl (fun _ => 0))), (q10, .inl (cA 0, 64, .inl (fun _ => 0))), (q11, .inl (cA 3, 64, .inl (fun _ => 0))), (q12, .inl (cA 0, 32, .inl (fun _ => 0))), (q13, .inl (cA 0, 32, .inl (fun _ => 0))), (q14, .inl (cA 0, 32, .inl (fun _ => 0))), (q15, .inl (cA 0, 32, .inl (fun _ => 0)))] H := hP
  have hD : va_D A [(h0, .inr (9, [.ref q1, .int 0, .int 0, .int 0, .ref q2, .ref q3, .ref q4, .ref q5, .ref q6, .ref q7, .ref q8, .ref q9, .ref q10, .ref q11, .int 0, .ref q12, .int 0, .ref q13, .int 0, .ref q14, .int 0, .null, .int 0, .int 0, .null, .null, .null, .null, .int 0, .null, .int 0, .int 0, .int 0])), (q1, .inl (cA 0, 240, .inl (fun _ => 0))), (q2, .inl (cA 0, 26, .inl (fun _ => 0))), (q3, .inl (cA 0, 26, .inl (fun _ => 0))), (q4, .inl (cA 0, 26, .inl (fun _ => 0))), (q5, .inl (cA 0, 26, .inl (fun _ => 0))), (q6, .inl (cA 0, 26, .inl (fun _ => 0))), (q7, .inl (cA 0, 64, .inl (fun _ => 0))), (q8, .inl (cA 0, 64, .inl (fun _ => 0))), (q9, .inl (cA 0, 64, .inl (fun _ => 0))), (q10, .inl (cA 0, 64, .inl (fun _ => 0))), (q11, .inl (cA 3, 64, .inl (fun _ => 0))), (q12, .inl (cA 0, 32, .inl (fun _ => 0))), (q13, .inl (cA 0, 32, .inl (fun _ => 0))), (q14, .inl (cA 0, 32, .inl (fun _ => 0))), (q15, .inl (cA 0, 32, .inl (fun _ => 0)))] := hD
  refine va_putF (D := D) (ci := 9) (v := .ref q15) (ty := (.array .int)) (C := "RebuildDeskModel") (T := am_T9) (N := 33) hx hb htW k1 ty0 k2 k3 hown hK hP hD hS 0 rfl rfl 21 (by decide) (htW (.fieldLink "RebuildDeskModel" 53 "RebuildDeskModel" "stamp" "[I") (am_in_WG (by decide +kernel) rfl)) (fun _ h9 => h9) rfl hin rfl (by decide +kernel) rfl rfl (Nat.le_of_ble_eq_true rfl) (show decode prog_12_method_1_code 122 = .ok (.putfield 53, 3) by decide +kernel) (fun H locs hP hD hS => ?_)
  have hP : va_P D am_cl [(h0, .inr (9, [.ref q1, .int 0, .int 0, .int 0, .ref q2, .ref q3, .ref q4, .ref q5, .ref q6, .ref q7, .ref q8, .ref q9, .ref q10, .ref q11, .int 0, .ref q12, .int 0, .ref q13, .int 0, .ref q14, .int 0, .ref q15, .int 0, .int 0, .null, .null, .null, .null, .int 0, .null, .int 0, .int 0, .int 0])), (q1, .inl (cA 0, 240, .inl (fun _ => 0))), (q2, .inl (cA 0, 26, .inl (fun _ => 0))), (q3, .inl (cA 0, 26, .inl (fun _ => 0))), (q4, .inl (cA 0, 26, .inl (fun _ => 0))), (q5, .inl (cA 0, 26, .inl (fun _ => 0))), (q6, .inl (cA 0, 26, .inl (fun _ => 0))), (q7, .inl (cA 0, 64, .inl (fun _ => 0))), (q8, .inl (cA 0, 64, .inl (fun _ => 0))), (q9, .inl (cA 0, 64, .inl (fun _ => 0))), (q10, .inl (cA 0, 64, .inl (fun _ => 0))), (q11, .inl (cA 3, 64, .inl (fun _ => 0))), (q12, .inl (cA 0, 32, .inl (fun _ => 0))), (q13, .inl (cA 0, 32, .inl (fun _ => 0))), (q14, .inl (cA 0, 32, .inl (fun _ => 0))), (q15, .inl (cA 0, 32, .inl (fun _ => 0)))] H := hP
  have hD : va_D A [(h0, .inr (9, [.ref q1, .int 0, .int 0, .int 0, .ref q2, .ref q3, .ref q4, .ref q5, .ref q6, .ref q7, .ref q8, .ref q9, .ref q10, .ref q11, .int 0, .ref q12, .int 0, .ref q13, .int 0, .ref q14, .int 0, .ref q15, .int 0, .int 0, .null, .null, .null, .null, .int 0, .null, .int 0, .int 0, .int 0])), (q1, .inl (cA 0, 240, .inl (fun _ => 0))), (q2, .inl (cA 0, 26, .inl (fun _ => 0))), (q3, .inl (cA 0, 26, .inl (fun _ => 0))), (q4, .inl (cA 0, 26, .inl (fun _ => 0))), (q5, .inl (cA 0, 26, .inl (fun _ => 0))), (q6, .inl (cA 0, 26, .inl (fun _ => 0))), (q7, .inl (cA 0, 64, .inl (fun _ => 0))), (q8, .inl (cA 0, 64, .inl (fun _ => 0))), (q9, .inl (cA 0, 64, .inl (fun _ => 0))), (q10, .inl (cA 0, 64, .inl (fun _ => 0))), (q11, .inl (cA 3, 64, .inl (fun _ => 0))), (q12, .inl (cA 0, 32, .inl (fun _ => 0))), (q13, .inl (cA 0, 32, .inl (fun _ => 0))), (q14, .inl (cA 0, 32, .inl (fun _ => 0))), (q15, .inl (cA 0, 32, .inl (fun _ => 0)))] := hD
  refine lv_aload_n hx hb (show decode prog_12_method_1_code 125 = .ok (.aload_n 0, 1) by decide +kernel) rfl (lv_at hl 0 rfl) ?_
  refine lv_bipush (v := 32) hx hb (show decode prog_12_method_1_code 126 = .ok (.bipush 32, 2) by decide +kernel) (by decide +kernel) ?_
  refine am_newi (atype := .int) (ty := .int) (cells := 15) (slots := 818) (N' := 32) (a0 := (32, .inl (fun _ => 0))) hx hb (htW (.arrayClass .int) (am_in_WG (by decide +kernel) rfl)) rfl 0 rfl hK hP hD hS hA (fun _ => rfl) (by decide +kernel) (by decide +kernel) (show 32 * componentBytes .int ≤ 536870912 by decide +kernel) (show 15 + 1 ≤ 20 by decide) (show 818 + 32 ≤ 978 by decide) (show decode prog_12_method_1_code 128 = .ok (.newarray .int, 2) by decide +kernel) (fun q16 H hP hD hS => ?_)
  have hP : va_P D am_cl [(h0, .inr (9, [.ref q1, .int 0, .int 0, .int 0, .ref q2, .ref q3, .ref q4, .ref q5, .ref q6, .ref q7, .ref q8, .ref q9, .ref q10, .ref q11, .int 0, .ref q12, .int 0, .ref q13, .int 0, .ref q14, .int 0, .ref q15, .int 0, .int 0, .null, .null, .null, .null, .int 0, .null, .int 0, .int 0, .int 0])), (q1, .inl (cA 0, 240, .inl (fun _ => 0))), (q2, .inl (cA 0, 26, .inl (fun _ => 0))), (q3, .inl (cA 0, 26, .inl (fun _ => 0))), (q4, .inl (cA 0, 26, .inl (fun _ => 0))), (q5, .inl (cA 0, 26, .inl (fun _ => 0))), (q6, .inl (cA 0, 26, .inl (fun _ => 0))), (q7, .inl (cA 0, 64, .inl (fun _ => 0))), (q8, .inl (cA 0, 64, .inl (fun _ => 0))), (q9, .inl (cA 0, 64, .inl (fun _ => 0))), (q10, .inl (cA 0, 64, .inl (fun _ => 0))), (q11, .inl (cA 3, 64, .inl (fun _ => 0))), (q12, .inl (cA 0, 32, .inl (fun _ => 0))), (q13, .inl (cA 0, 32, .inl (fun _ => 0))), (q14, .inl (cA 0, 32, .inl (fun _ => 0))), (q15, .inl (cA 0, 32, .inl (fun _ => 0))), (q16, .inl (cA 0, 32, .inl (fun _ => 0)))] H := hP
  have hD : va_D A [(h0, .inr (9, [.ref q1, .int 0, .int 0, .int 0, .ref q2, .ref q3, .ref q4, .ref q5, .ref q6, .ref q7, .ref q8, .ref q9, .ref q10, .ref q11, .int 0, .ref q12, .int 0, .ref q13, .int 0, .ref q14, .int 0, .ref q15, .int 0, .int 0, .null, .null, .null, .null, .int 0, .null, .int 0, .int 0, .int 0])), (q1, .inl (cA 0, 240, .inl (fun _ => 0))), (q2, .inl (cA 0, 26, .inl (fun _ => 0))), (q3, .inl (cA 0, 26, .inl (fun _ => 0))), (q4, .inl (cA 0, 26, .inl (fun _ => 0))), (q5, .inl (cA 0, 26, .inl (fun _ => 0))), (q6, .inl (cA 0, 26, .inl (fun _ => 0))), (q7, .inl (cA 0, 64, .inl (fun _ => 0))), (q8, .inl (cA 0, 64, .inl (fun _ => 0))), (q9, .inl (cA 0, 64, .inl (fun _ => 0))), (q10, .inl (cA 0, 64, .inl (fun _ => 0))), (q11, .inl (cA 3, 64, .inl (fun _ => 0))), (q12, .inl (cA 0, 32, .inl (fun _ => 0))), (q13, .inl (cA 0, 32, .inl (fun _ => 0))), (q14, .inl (cA 0, 32, .inl (fun _ => 0))), (q15, .inl (cA 0, 32, .inl (fun _ => 0))), (q16, .inl (cA 0, 32, .inl (fun _ => 0)))] := hD
  refine va_putF (D := D) (ci := 9) (v := .ref q16) (ty := (.array .int)) (C := "RebuildDeskModel") (T := am_T9) (N := 33) hx hb htW k1 ty0 k2 k3 hown hK hP hD hS 0 rfl rfl 24 (by decide) (htW (.fieldLink "RebuildDeskModel" 56 "RebuildDeskModel" "source" "[I") (am_in_WG (by decide +kernel) rfl)) (fun _ h9 => h9) rfl hin rfl (by decide +kernel) rfl rfl (Nat.le_of_ble_eq_true rfl) (show decode prog_12_method_1_code 130 = .ok (.putfield 56, 3) by decide +kernel) (fun H locs hP hD hS => ?_)
  have hP : va_P D am_cl [(h0, .inr (9, [.ref q1, .int 0, .int 0, .int 0, .ref q2, .ref q3, .ref q4, .ref q5, .ref q6, .ref q7, .ref q8, .ref q9, .ref q10, .ref q11, .int 0, .ref q12, .int 0, .ref q13, .int 0, .ref q14, .int 0, .ref q15, .int 0, .int 0, .ref q16, .null, .null, .null, .int 0, .null, .int 0, .int 0, .int 0])), (q1, .inl (cA 0, 240, .inl (fun _ => 0))), (q2, .inl (cA 0, 26, .inl (fun _ => 0))), (q3, .inl (cA 0, 26, .inl (fun _ => 0))), (q4, .inl (cA 0, 26, .inl (fun _ => 0))), (q5, .inl (cA 0, 26, .inl (fun _ => 0))), (q6, .inl (cA 0, 26, .inl (fun _ => 0))), (q7, .inl (cA 0, 64, .inl (fun _ => 0))), (q8, .inl (cA 0, 64, .inl (fun _ => 0))), (q9, .inl (cA 0, 64, .inl (fun _ => 0))), (q10, .inl (cA 0, 64, .inl (fun _ => 0))), (q11, .inl (cA 3, 64, .inl (fun _ => 0))), (q12, .inl (cA 0, 32, .inl (fun _ => 0))), (q13, .inl (cA 0, 32, .inl (fun _ => 0))), (q14, .inl (cA 0, 32, .inl (fun _ => 0))), (q15, .inl (cA 0, 32, .inl (fun _ => 0))), (q16, .inl (cA 0, 32, .inl (fun _ => 0)))] H := hP
  have hD : va_D A [(h0, .inr (9, [.ref q1, .int 0, .int 0, .int 0, .ref q2, .ref q3, .ref q4, .ref q5, .ref q6, .ref q7, .ref q8, .ref q9, .ref q10, .ref q11, .int 0, .ref q12, .int 0, .ref q13, .int 0, .ref q14, .int 0, .ref q15, .int 0, .int 0, .ref q16, .null, .null, .null, .int 0, .null, .int 0, .int 0, .int 0])), (q1, .inl (cA 0, 240, .inl (fun _ => 0))), (q2, .inl (cA 0, 26, .inl (fun _ => 0))), (q3, .inl (cA 0, 26, .inl (fun _ => 0))), (q4, .inl (cA 0, 26, .inl (fun _ => 0))), (q5, .inl (cA 0, 26, .inl (fun _ => 0))), (q6, .inl (cA 0, 26, .inl (fun _ => 0))), (q7, .inl (cA 0, 64, .inl (fun _ => 0))), (q8, .inl (cA 0, 64, .inl (fun _ => 0))), (q9, .inl (cA 0, 64, .inl (fun _ => 0))), (q10, .inl (cA 0, 64, .inl (fun _ => 0))), (q11, .inl (cA 3, 64, .inl (fun _ => 0))), (q12, .inl (cA 0, 32, .inl (fun _ => 0))), (q13, .inl (cA 0, 32, .inl (fun _ => 0))), (q14, .inl (cA 0, 32, .inl (fun _ => 0))), (q15, .inl (cA 0, 32, .inl (fun _ => 0))), (q16, .inl (cA 0, 32, .inl (fun _ => 0)))] := hD
  refine lv_aload_n hx hb (show decode prog_12_method_1_code 133 = .ok (.aload_n 0, 1) by decide +kernel) rfl (lv_at hl 0 rfl) ?_
  refine lv_bipush (v := 32) hx hb (show decode prog_12_method_1_code 134 = .ok (.bipush 32, 2) by decide +kernel) (by decide +kernel) ?_
  refine am_newi (atype := .int) (ty := .int) (cells := 16) (slots := 850) (N' := 32) (a0 := (32, .inl (fun _ => 0))) hx hb (htW (.arrayClass .int) (am_in_WG (by decide +kernel) rfl)) rfl 0 rfl hK hP hD hS hA (fun _ => rfl) (by decide +kernel) (by decide +kernel) (show 32 * componentBytes .int ≤ 536870912 by decide +kernel) (show 16 + 1 ≤ 20 by decide) (show 850 + 32 ≤ 978 by decide) (show decode prog_12_method_1_code 136 = .ok (.newarray .int, 2) by decide +kernel) (fun q17 H hP hD hS => ?_)
  have hP : va_P D am_cl [(h0, .inr (9, [.ref q1, .int 0, .int 0, .int 0, .ref q2, .ref q3, .ref q4, .ref q5, .ref q6, .ref q7, .ref q8, .ref q9, .ref q10, .ref q11, .int 0, .ref q12, .int 0, .ref q13, .int 0, .ref q14, .int 0, .ref q15, .int 0, .int 0, .ref q16, .null, .null, .null, .int 0, .null, .int 0, .int 0, .int 0])), (q1, .inl (cA 0, 240, .inl (fun _ => 0))), (q2, .inl (cA 0, 26, .inl (fun _ => 0))), (q3, .inl (cA 0, 26, .inl (fun _ => 0))), (q4, .inl (cA 0, 26, .inl (fun _ => 0))), (q5, .inl (cA 0, 26, .inl (fun _ => 0))), (q6, .inl (cA 0, 26, .inl (fun _ => 0))), (q7, .inl (cA 0, 64, .inl (fun _ => 0))), (q8, .inl (cA 0, 64, .inl (fun _ => 0))), (q9, .inl (cA 0, 64, .inl (fun _ => 0))), (q10, .inl (cA 0, 64, .inl (fun _ => 0))), (q11, .inl (cA 3, 64, .inl (fun _ => 0))), (q12, .inl (cA 0, 32, .inl (fun _ => 0))), (q13, .inl (cA 0, 32, .inl (fun _ => 0))), (q14, .inl (cA 0, 32, .inl (fun _ => 0))), (q15, .inl (cA 0, 32, .inl (fun _ => 0))), (q16, .inl (cA 0, 32, .inl (fun _ => 0))), (q17, .inl (cA 0, 32, .inl (fun _ => 0)))] H := hP
  have hD : va_D A [(h0, .inr (9, [.ref q1, .int 0, .int 0, .int 0, .ref q2, .ref q3, .ref q4, .ref q5, .ref q6, .ref q7, .ref q8, .ref q9, .ref q10, .ref q11, .int 0, .ref q12, .int 0, .ref q13, .int 0, .ref q14, .int 0, .ref q15, .int 0, .int 0, .ref q16, .null, .null, .null, .int 0, .null, .int 0, .int 0, .int 0])), (q1, .inl (cA 0, 240, .inl (fun _ => 0))), (q2, .inl (cA 0, 26, .inl (fun _ => 0))), (q3, .inl (cA 0, 26, .inl (fun _ => 0))), (q4, .inl (cA 0, 26, .inl (fun _ => 0))), (q5, .inl (cA 0, 26, .inl (fun _ => 0))), (q6, .inl (cA 0, 26, .inl (fun _ => 0))), (q7, .inl (cA 0, 64, .inl (fun _ => 0))), (q8, .inl (cA 0, 64, .inl (fun _ => 0))), (q9, .inl (cA 0, 64, .inl (fun _ => 0))), (q10, .inl (cA 0, 64, .inl (fun _ => 0))), (q11, .inl (cA 3, 64, .inl (fun _ => 0))), (q12, .inl (cA 0, 32, .inl (fun _ => 0))), (q13, .inl (cA 0, 32, .inl (fun _ => 0))), (q14, .inl (cA 0, 32, .inl (fun _ => 0))), (q15, .inl (cA 0, 32, .inl (fun _ => 0))), (q16, .inl (cA 0, 32, .inl (fun _ => 0))), (q17, .inl (cA 0, 32, .inl (fun _ => 0)))] := hD
  refine va_putF (D := D) (ci := 9) (v := .ref q17) (ty := (.array .int)) (C := "RebuildDeskModel") (T := am_T9) (N := 33) hx hb htW k1 ty0 k2 k3 hown hK hP hD hS 0 rfl rfl 25 (by decide) (htW (.fieldLink "RebuildDeskModel" 59 "RebuildDeskModel" "under" "[I") (am_in_WG (by decide +kernel) rfl)) (fun _ h9 => h9) rfl hin rfl (by decide +kernel) rfl rfl (Nat.le_of_ble_eq_true rfl) (show decode prog_12_method_1_code 138 = .ok (.putfield 59, 3) by decide +kernel) (fun H locs hP hD hS => ?_)
  have hP : va_P D am_cl [(h0, .inr (9, [.ref q1, .int 0, .int 0, .int 0, .ref q2, .ref q3, .ref q4, .ref q5, .ref q6, .ref q7, .ref q8, .ref q9, .ref q10, .ref q11, .int 0, .ref q12, .int 0, .ref q13, .int 0, .ref q14, .int 0, .ref q15, .int 0, .int 0, .ref q16, .ref q17, .null, .null, .int 0, .null, .int 0, .int 0, .int 0])), (q1, .inl (cA 0, 240, .inl (fun _ => 0))), (q2, .inl (cA 0, 26, .inl (fun _ => 0))), (q3, .inl (cA 0, 26, .inl (fun _ => 0))), (q4, .inl (cA 0, 26, .inl (fun _ => 0))), (q5, .inl (cA 0, 26, .inl (fun _ => 0))), (q6, .inl (cA 0, 26, .inl (fun _ => 0))), (q7, .inl (cA 0, 64, .inl (fun _ => 0))), (q8, .inl (cA 0, 64, .inl (fun _ => 0))), (q9, .inl (cA 0, 64, .inl (fun _ => 0))), (q10, .inl (cA 0, 64, .inl (fun _ => 0))), (q11, .inl (cA 3, 64, .inl (fun _ => 0))), (q12, .inl (cA 0, 32, .inl (fun _ => 0))), (q13, .inl (cA 0, 32, .inl (fun _ => 0))), (q14, .inl (cA 0, 32, .inl (fun _ => 0))), (q15, .inl (cA 0, 32, .inl (fun _ => 0))), (q16, .inl (cA 0, 32, .inl (fun _ => 0))), (q17, .inl (cA 0, 32, .inl (fun _ => 0)))] H := hP
  have hD : va_D A [(h0, .inr (9, [.ref q1, .int 0, .int 0, .int 0, .ref q2, .ref q3, .ref q4, .ref q5, .ref q6, .ref q7, .ref q8, .ref q9, .ref q10, .ref q11, .int 0, .ref q12, .int 0, .ref q13, .int 0, .ref q14, .int 0, .ref q15, .int 0, .int 0, .ref q16, .ref q17, .null, .null, .int 0, .null, .int 0, .int 0, .int 0])), (q1, .inl (cA 0, 240, .inl (fun _ => 0))), (q2, .inl (cA 0, 26, .inl (fun _ => 0))), (q3, .inl (cA 0, 26, .inl (fun _ => 0))), (q4, .inl (cA 0, 26, .inl (fun _ => 0))), (q5, .inl (cA 0, 26, .inl (fun _ => 0))), (q6, .inl (cA 0, 26, .inl (fun _ => 0))), (q7, .inl (cA 0, 64, .inl (fun _ => 0))), (q8, .inl (cA 0, 64, .inl (fun _ => 0))), (q9, .inl (cA 0, 64, .inl (fun _ => 0))), (q10, .inl (cA 0, 64, .inl (fun _ => 0))), (q11, .inl (cA 3, 64, .inl (fun _ => 0))), (q12, .inl (cA 0, 32, .inl (fun _ => 0))), (q13, .inl (cA 0, 32, .inl (fun _ => 0))), (q14, .inl (cA 0, 32, .inl (fun _ => 0))), (q15, .inl (cA 0, 32, .inl (fun _ => 0))), (q16, .inl (cA 0, 32, .inl (fun _ => 0))), (q17, .inl (cA 0, 32, .inl (fun _ => 0)))] := hD
  refine lv_aload_n hx hb (show decode prog_12_method_1_code 141 = .ok (.aload_n 0, 1) by decide +kernel) rfl (lv_at hl 0 rfl) ?_
  refine lv_bipush (v := 32) hx hb (show decode prog_12_method_1_code 142 = .ok (.bipush 32, 2) by decide +kernel) (by decide +kernel) ?_
  refine am_newi (atype := .int) (ty := .int) (cells := 17) (slots := 882) (N' := 32) (a0 := (32, .inl (fun _ => 0))) hx hb (htW (.arrayClass .int) (am_in_WG (by decide +kernel) rfl)) rfl 0 rfl hK hP hD hS hA (fun _ => rfl) (by decide +kernel) (by decide +kernel) (show 32 * componentBytes .int ≤ 536870912 by decide +kernel) (show 17 + 1 ≤ 20 by decide) (show 882 + 32 ≤ 978 by decide) (show decode prog_12_method_1_code 144 = .ok (.newarray .int, 2) by decide +kernel) (fun q18 H hP hD hS => ?_)
  have hP : va_P D am_cl [(h0, .inr (9, [.ref q1, .int 0, .int 0, .int 0, .ref q2, .ref q3, .ref q4, .ref q5, .ref q6, .ref q7, .ref q8, .ref q9, .ref q10, .ref q11, .int 0, .ref q12, .int 0, .ref q13, .int 0, .ref q14, .int 0, .ref q15, .int 0, .int 0, .ref q16, .ref q17, .null, .null, .int 0, .null, .int 0, .int 0, .int 0])), (q1, .inl (cA 0, 240, .inl (fun _ => 0))), (q2, .inl (cA 0, 26, .inl (fun _ => 0))), (q3, .inl (cA 0, 26, .inl (fun _ => 0))), (q4, .inl (cA 0, 26, .inl (fun _ => 0))), (q5, .inl (cA 0, 26, .inl (fun _ => 0))), (q6, .inl (cA 0, 26, .inl (fun _ => 0))), (q7, .inl (cA 0, 64, .inl (fun _ => 0))), (q8, .inl (cA 0, 64, .inl (fun _ => 0))), (q9, .inl (cA 0, 64, .inl (fun _ => 0))), (q10, .inl (cA 0, 64, .inl (fun _ => 0))), (q11, .inl (cA 3, 64, .inl (fun _ => 0))), (q12, .inl (cA 0, 32, .inl (fun _ => 0))), (q13, .inl (cA 0, 32, .inl (fun _ => 0))), (q14, .inl (cA 0, 32, .inl (fun _ => 0))), (q15, .inl (cA 0, 32, .inl (fun _ => 0))), (q16, .inl (cA 0, 32, .inl (fun _ => 0))), (q17, .inl (cA 0, 32, .inl (fun _ => 0))), (q18, .inl (cA 0, 32, .inl (fun _ => 0)))] H := hP
  have hD : va_D A [(h0, .inr (9, [.ref q1, .int 0, .int 0, .int 0, .ref q2, .ref q3, .ref q4, .ref q5, .ref q6, .ref q7, .ref q8, .ref q9, .ref q10, .ref q11, .int 0, .ref q12, .int 0, .ref q13, .int 0, .ref q14, .int 0, .ref q15, .int 0, .int 0, .ref q16, .ref q17, .null, .null, .int 0, .null, .int 0, .int 0, .int 0])), (q1, .inl (cA 0, 240, .inl (fun _ => 0))), (q2, .inl (cA 0, 26, .inl (fun _ => 0))), (q3, .inl (cA 0, 26, .inl (fun _ => 0))), (q4, .inl (cA 0, 26, .inl (fun _ => 0))), (q5, .inl (cA 0, 26, .inl (fun _ => 0))), (q6, .inl (cA 0, 26, .inl (fun _ => 0))), (q7, .inl (cA 0, 64, .inl (fun _ => 0))), (q8, .inl (cA 0, 64, .inl (fun _ => 0))), (q9, .inl (cA 0, 64, .inl (fun _ => 0))), (q10, .inl (cA 0, 64, .inl (fun _ => 0))), (q11, .inl (cA 3, 64, .inl (fun _ => 0))), (q12, .inl (cA 0, 32, .inl (fun _ => 0))), (q13, .inl (cA 0, 32, .inl (fun _ => 0))), (q14, .inl (cA 0, 32, .inl (fun _ => 0))), (q15, .inl (cA 0, 32, .inl (fun _ => 0))), (q16, .inl (cA 0, 32, .inl (fun _ => 0))), (q17, .inl (cA 0, 32, .inl (fun _ => 0))), (q18, .inl (cA 0, 32, .inl (fun _ => 0)))] := hD
  refine va_putF (D := D) (ci := 9) (v := .ref q18) (ty := (.array .int)) (C := "RebuildDeskModel") (T := am_T9) (N := 33) hx hb htW k1 ty0 k2 k3 hown hK hP hD hS 0 rfl rfl 26 (by decide) (htW (.fieldLink "RebuildDeskModel" 62 "RebuildDeskModel" "why" "[I") (am_in_WG (by decide +kernel) rfl)) (fun _ h9 => h9) rfl hin rfl (by decide +kernel) rfl rfl (Nat.le_of_ble_eq_true rfl) (show decode prog_12_method_1_code 146 = .ok (.putfield 62, 3) by decide +kernel) (fun H locs hP hD hS => ?_)
  have hP : va_P D am_cl [(h0, .inr (9, [.ref q1, .int 0, .int 0, .int 0, .ref q2, .ref q3, .ref q4, .ref q5, .ref q6, .ref q7, .ref q8, .ref q9, .ref q10, .ref q11, .int 0, .ref q12, .int 0, .ref q13, .int 0, .ref q14, .int 0, .ref q15, .int 0, .int 0, .ref q16, .ref q17, .ref q18, .null, .int 0, .null, .int 0, .int 0, .int 0])), (q1, .inl (cA 0, 240, .inl (fun _ => 0))), (q2, .inl (cA 0, 26, .inl (fun _ => 0))), (q3, .inl (cA 0, 26, .inl (fun _ => 0))), (q4, .inl (cA 0, 26, .inl (fun _ => 0))), (q5, .inl (cA 0, 26, .inl (fun _ => 0))), (q6, .inl (cA 0, 26, .inl (fun _ => 0))), (q7, .inl (cA 0, 64, .inl (fun _ => 0))), (q8, .inl (cA 0, 64, .inl (fun _ => 0))), (q9, .inl (cA 0, 64, .inl (fun _ => 0))), (q10, .inl (cA 0, 64, .inl (fun _ => 0))), (q11, .inl (cA 3, 64, .inl (fun _ => 0))), (q12, .inl (cA 0, 32, .inl (fun _ => 0))), (q13, .inl (cA 0, 32, .inl (fun _ => 0))), (q14, .inl (cA 0, 32, .inl (fun _ => 0))), (q15, .inl (cA 0, 32, .inl (fun _ => 0))), (q16, .inl (cA 0, 32, .inl (fun _ => 0))), (q17, .inl (cA 0, 32, .inl (fun _ => 0))), (q18, .inl (cA 0, 32, .inl (fun _ => 0)))] H := hP
  have hD : va_D A [(h0, .inr (9, [.ref q1, .int 0, .int 0, .int 0, .ref q2, .ref q3, .ref q4, .ref q5, .ref q6, .ref q7, .ref q8, .ref q9, .ref q10, .ref q11, .int 0, .ref q12, .int 0, .ref q13, .int 0, .ref q14, .int 0, .ref q15, .int 0, .int 0, .ref q16, .ref q17, .ref q18, .null, .int 0, .null, .int 0, .int 0, .int 0])), (q1, .inl (cA 0, 240, .inl (fun _ => 0))), (q2, .inl (cA 0, 26, .inl (fun _ => 0))), (q3, .inl (cA 0, 26, .inl (fun _ => 0))), (q4, .inl (cA 0, 26, .inl (fun _ => 0))), (q5, .inl (cA 0, 26, .inl (fun _ => 0))), (q6, .inl (cA 0, 26, .inl (fun _ => 0))), (q7, .inl (cA 0, 64, .inl (fun _ => 0))), (q8, .inl (cA 0, 64, .inl (fun _ => 0))), (q9, .inl (cA 0, 64, .inl (fun _ => 0))), (q10, .inl (cA 0, 64, .inl (fun _ => 0))), (q11, .inl (cA 3, 64, .inl (fun _ => 0))), (q12, .inl (cA 0, 32, .inl (fun _ => 0))), (q13, .inl (cA 0, 32, .inl (fun _ => 0))), (q14, .inl (cA 0, 32, .inl (fun _ => 0))), (q15, .inl (cA 0, 32, .inl (fun _ => 0))), (q16, .inl (cA 0, 32, .inl (fun _ => 0))), (q17, .inl (cA 0, 32, .inl (fun _ => 0))), (q18, .inl (cA 0, 32, .inl (fun _ => 0)))] := hD
  refine lv_aload_n hx hb (show decode prog_12_method_1_code 149 = .ok (.aload_n 0, 1) by decide +kernel) rfl (lv_at hl 0 rfl) ?_
  refine lv_bipush (v := 32) hx hb (show decode prog_12_method_1_code 150 = .ok (.bipush 32, 2) by decide +kernel) (by decide +kernel) ?_
  refine am_newi (atype := .int) (ty := .int) (cells := 18) (slots := 914) (N' := 32) (a0 := (32, .inl (fun _ => 0))) hx hb (htW (.arrayClass .int) (am_in_WG (by decide +kernel) rfl)) rfl 0 rfl hK hP hD hS hA (fun _ => rfl) (by decide +kernel) (by decide +kernel) (show 32 * componentBytes .int ≤ 536870912 by decide +kernel) (show 18 + 1 ≤ 20 by decide) (show 914 + 32 ≤ 978 by decide) (show decode prog_12_method_1_code 152 = .ok (.newarray .int, 2) by decide +kernel) (fun q19 H hP hD hS => ?_)
  have hP : va_P D am_cl [(h0, .inr (9, [.ref q1, .int 0, .int 0, .int 0, .ref q2, .ref q3, .ref q4, .ref q5, .ref q6, .ref q7, .ref q8, .ref q9, .ref q10, .ref q11, .int 0, .ref q12, .int 0, .ref q13, .int 0, .ref q14, .int 0, .ref q15, .int 0, .int 0, .ref q16, .ref q17, .ref q18, .null, .int 0, .null, .int 0, .int 0, .int 0])), (q1, .inl (cA 0, 240, .inl (fun _ => 0))), (q2, .inl (cA 0, 26, .inl (fun _ => 0))), (q3, .inl (cA 0, 26, .inl (fun _ => 0))), (q4, .inl (cA 0, 26, .inl (fun _ => 0))), (q5, .inl (cA 0, 26, .inl (fun _ => 0))), (q6, .inl (cA 0, 26, .inl (fun _ => 0))), (q7, .inl (cA 0, 64, .inl (fun _ => 0))), (q8, .inl (cA 0, 64, .inl (fun _ => 0))), (q9, .inl (cA 0, 64, .inl (fun _ => 0))), (q10, .inl (cA 0, 64, .inl (fun _ => 0))), (q11, .inl (cA 3, 64, .inl (fun _ => 0))), (q12, .inl (cA 0, 32, .inl (fun _ => 0))), (q13, .inl (cA 0, 32, .inl (fun _ => 0))), (q14, .inl (cA 0, 32, .inl (fun _ => 0))), (q15, .inl (cA 0, 32, .inl (fun _ => 0))), (q16, .inl (cA 0, 32, .inl (fun _ => 0))), (q17, .inl (cA 0, 32, .inl (fun _ => 0))), (q18, .inl (cA 0, 32, .inl (fun _ => 0))), (q19, .inl (cA 0, 32, .inl (fun _ => 0)))] H := hP
  have hD : va_D A [(h0, .inr (9, [.ref q1, .int 0, .int 0, .int 0, .ref q2, .ref q3, .ref q4, .ref q5, .ref q6, .ref q7, .ref q8, .ref q9, .ref q10, .ref q11, .int 0, .ref q12, .int 0, .ref q13, .int 0, .ref q14, .int 0, .ref q15, .int 0, .int 0, .ref q16, .ref q17, .ref q18, .null, .int 0, .null, .int 0, .int 0, .int 0])), (q1, .inl (cA 0, 240, .inl (fun _ => 0))), (q2, .inl (cA 0, 26, .inl (fun _ => 0))), (q3, .inl (cA 0, 26, .inl (fun _ => 0))), (q4, .inl (cA 0, 26, .inl (fun _ => 0))), (q5, .inl (cA 0, 26, .inl (fun _ => 0))), (q6, .inl (cA 0, 26, .inl (fun _ => 0))), (q7, .inl (cA 0, 64, .inl (fun _ => 0))), (q8, .inl (cA 0, 64, .inl (fun _ => 0))), (q9, .inl (cA 0, 64, .inl (fun _ => 0))), (q10, .inl (cA 0, 64, .inl (fun _ => 0))), (q11, .inl (cA 3, 64, .inl (fun _ => 0))), (q12, .inl (cA 0, 32, .inl (fun _ => 0))), (q13, .inl (cA 0, 32, .inl (fun _ => 0))), (q14, .inl (cA 0, 32, .inl (fun _ => 0))), (q15, .inl (cA 0, 32, .inl (fun _ => 0))), (q16, .inl (cA 0, 32, .inl (fun _ => 0))), (q17, .inl (cA 0, 32, .inl (fun _ => 0))), (q18, .inl (cA 0, 32, .inl (fun _ => 0))), (q19, .inl (cA 0, 32, .inl (fun _ => 0)))] := hD
  refine va_putF (D := D) (ci := 9) (v := .ref q19) (ty := (.array .int)) (C := "RebuildDeskModel") (T := am_T9) (N := 33) hx hb htW k1 ty0 k2 k3 hown hK hP hD hS 0 rfl rfl 27 (by decide) (htW (.fieldLink "RebuildDeskModel" 65 "RebuildDeskModel" "run" "[I") (am_in_WG (by decide +kernel) rfl)) (fun _ h9 => h9) rfl hin rfl (by decide +kernel) rfl rfl (Nat.le_of_ble_eq_true rfl) (show decode prog_12_method_1_code 154 = .ok (.putfield 65, 3) by decide +kernel) (fun H locs hP hD hS => ?_)
  have hP : va_P D am_cl [(h0, .inr (9, [.ref q1, .int 0, .int 0, .int 0, .ref q2, .ref q3, .ref q4, .ref q5, .ref q6, .ref q7, .ref q8, .ref q9, .ref q10, .ref q11, .int 0, .ref q12, .int 0, .ref q13, .int 0, .ref q14, .int 0, .ref q15, .int 0, .int 0, .ref q16, .ref q17, .ref q18, .ref q19, .int 0, .null, .int 0, .int 0, .int 0])), (q1, .inl (cA 0, 240, .inl (fun _ => 0))), (q2, .inl (cA 0, 26, .inl (fun _ => 0))), (q3, .inl (cA 0, 26, .inl (fun _ => 0))), (q4, .inl (cA 0, 26, .inl (fun _ => 0))), (q5, .inl (cA 0, 26, .inl (fun _ => 0))), (q6, .inl (cA 0, 26, .inl (fun _ => 0))), (q7, .inl (cA 0, 64, .inl (fun _ => 0))), (q8, .inl (cA 0, 64, .inl (fun _ => 0))), (q9, .inl (cA 0, 64, .inl (fun _ => 0))), (q10, .inl (cA 0, 64, .inl (fun _ => 0))), (q11, .inl (cA 3, 64, .inl (fun _ => 0))), (q12, .inl (cA 0, 32, .inl (fun _ => 0))), (q13, .inl (cA 0, 32, .inl (fun _ => 0))), (q14, .inl (cA 0, 32, .inl (fun _ => 0))), (q15, .inl (cA 0, 32, .inl (fun _ => 0))), (q16, .inl (cA 0, 32, .inl (fun _ => 0))), (q17, .inl (cA 0, 32, .inl (fun _ => 0))), (q18, .inl (cA 0, 32, .inl (fun _ => 0))), (q19, .inl (cA 0, 32, .inl (fun _ => 0)))] H := hP
  have hD : va_D A [(h0, .inr (9, [.ref q1, .int 0, .int 0, .int 0, .ref q2, .ref q3, .ref q4, .ref q5, .ref q6, .ref q7, .ref q8, .ref q9, .ref q10, .ref q11, .int 0, .ref q12, .int 0, .ref q13, .int 0, .ref q14, .int 0, .ref q15, .int 0, .int 0, .ref q16, .ref q17, .ref q18, .ref q19, .int 0, .null, .int 0, .int 0, .int 0])), (q1, .inl (cA 0, 240, .inl (fun _ => 0))), (q2, .inl (cA 0, 26, .inl (fun _ => 0))), (q3, .inl (cA 0, 26, .inl (fun _ => 0))), (q4, .inl (cA 0, 26, .inl (fun _ => 0))), (q5, .inl (cA 0, 26, .inl (fun _ => 0))), (q6, .inl (cA 0, 26, .inl (fun _ => 0))), (q7, .inl (cA 0, 64, .inl (fun _ => 0))), (q8, .inl (cA 0, 64, .inl (fun _ => 0))), (q9, .inl (cA 0, 64, .inl (fun _ => 0))), (q10, .inl (cA 0, 64, .inl (fun _ => 0))), (q11, .inl (cA 3, 64, .inl (fun _ => 0))), (q12, .inl (cA 0, 32, .inl (fun _ => 0))), (q13, .inl (cA 0, 32, .inl (fun _ => 0))), (q14, .inl (cA 0, 32, .inl (fun _ => 0))), (q15, .inl (cA 0, 32, .inl (fun _ => 0))), (q16, .inl (cA 0, 32, .inl (fun _ => 0))), (q17, .inl (cA 0, 32, .inl (fun _ => 0))), (q18, .inl (cA 0, 32, .inl (fun _ => 0))), (q19, .inl (cA 0, 32, .inl (fun _ => 0)))] := hD
  refine lv_aload_n hx hb (show decode prog_12_method_1_code 157 = .ok (.aload_n 0, 1) by decide +kernel) rfl (lv_at hl 0 rfl) ?_
  refine lv_bipush (v := 32) hx hb (show decode prog_12_method_1_code 158 = .ok (.bipush 32, 2) by decide +kernel) (by decide +kernel) ?_
  refine am_newi (atype := .int) (ty := .int) (cells := 19) (slots := 946) (N' := 32) (a0 := (32, .inl (fun _ => 0))) hx hb (htW (.arrayClass .int) (am_in_WG (by decide +kernel) rfl)) rfl 0 rfl hK hP hD hS hA (fun _ => rfl) (by decide +kernel) (by decide +kernel) (show 32 * componentBytes .int ≤ 536870912 by decide +kernel) (show 19 + 1 ≤ 20 by decide) (show 946 + 32 ≤ 978 by decide) (show decode prog_12_method_1_code 160 = .ok (.newarray .int, 2) by decide +kernel) (fun q20 H hP hD hS => ?_)
  have hP : va_P D am_cl [(h0, .inr (9, [.ref q1, .int 0, .int 0, .int 0, .ref q2, .ref q3, .ref q4, .ref q5, .ref q6, .ref q7, .ref q8, .ref q9, .ref q10, .ref q11, .int 0, .ref q12, .int 0, .ref q13, .int 0, .ref q14, .int 0, .ref q15, .int 0, .int 0, .ref q16, .ref q17, .ref q18, .ref q19, .int 0, .null, .int 0, .int 0, .int 0])), (q1, .inl (cA 0, 240, .inl (fun _ => 0))), (q2, .inl (cA 0, 26, .inl (fun _ => 0))), (q3, .inl (cA 0, 26, .inl (fun _ => 0))), (q4, .inl (cA 0, 26, .inl (fun _ => 0))), (q5, .inl (cA 0, 26, .inl (fun _ => 0))), (q6, .inl (cA 0, 26, .inl (fun _ => 0))), (q7, .inl (cA 0, 64, .inl (fun _ => 0))), (q8, .inl (cA 0, 64, .inl (fun _ => 0))), (q9, .inl (cA 0, 64, .inl (fun _ => 0))), (q10, .inl (cA 0, 64, .inl (fun _ => 0))), (q11, .inl (cA 3, 64, .inl (fun _ => 0))), (q12, .inl (cA 0, 32, .inl (fun _ => 0))), (q13, .inl (cA 0, 32, .inl (fun _ => 0))), (q14, .inl (cA 0, 32, .inl (fun _ => 0))), (q15, .inl (cA 0, 32, .inl (fun _ => 0))), (q16, .inl (cA 0, 32, .inl (fun _ => 0))), (q17, .inl (cA 0, 32, .inl (fun _ => 0))), (q18, .inl (cA 0, 32, .inl (fun _ => 0))), (q19, .inl (cA 0, 32, .inl (fun _ => 0))), (q20, .inl (cA 0, 32, .inl (fun _ => 0)))] H := hP
  have hD : va_D A [(h0, .inr (9, [.ref q1, .int 0, .int 0, .int 0, .ref q2, .ref q3, .ref q4, .ref q5, .ref q6, .ref q7, .ref q8, .ref q9, .ref q10, .ref q11, .int 0, .ref q12, .int 0, .ref q13, .int 0, .ref q14, .int 0, .ref q15, .int 0, .int 0, .ref q16, .ref q17, .ref q18, .ref q19, .int 0, .null, .int 0, .int 0, .int 0])), (q1, .inl (cA 0, 240, .inl (fun _ => 0))), (q2, .inl (cA 0, 26, .inl (fun _ => 0))), (q3, .inl (cA 0, 26, .inl (fun _ => 0))), (q4, .inl (cA 0, 26, .inl (fun _ => 0))), (q5, .inl (cA 0, 26, .inl (fun _ => 0))), (q6, .inl (cA 0, 26, .inl (fun _ => 0))), (q7, .inl (cA 0, 64, .inl (fun _ => 0))), (q8, .inl (cA 0, 64, .inl (fun _ => 0))), (q9, .inl (cA 0, 64, .inl (fun _ => 0))), (q10, .inl (cA 0, 64, .inl (fun _ => 0))), (q11, .inl (cA 3, 64, .inl (fun _ => 0))), (q12, .inl (cA 0, 32, .inl (fun _ => 0))), (q13, .inl (cA 0, 32, .inl (fun _ => 0))), (q14, .inl (cA 0, 32, .inl (fun _ => 0))), (q15, .inl (cA 0, 32, .inl (fun _ => 0))), (q16, .inl (cA 0, 32, .inl (fun _ => 0))), (q17, .inl (cA 0, 32, .inl (fun _ => 0))), (q18, .inl (cA 0, 32, .inl (fun _ => 0))), (q19, .inl (cA 0, 32, .inl (fun _ => 0))), (q20, .inl (cA 0, 32, .inl (fun _ => 0)))] := hD
  refine va_putF (D := D) (ci := 9) (v := .ref q20) (ty := (.array .int)) (C := "RebuildDeskModel") (T := am_T9) (N := 33) hx hb htW k1 ty0 k2 k3 hown hK hP hD hS 0 rfl rfl 29 (by decide) (htW (.fieldLink "RebuildDeskModel" 68 "RebuildDeskModel" "reasons" "[I") (am_in_WG (by decide +kernel) rfl)) (fun _ h9 => h9) rfl hin rfl (by decide +kernel) rfl rfl (Nat.le_of_ble_eq_true rfl) (show decode prog_12_method_1_code 162 = .ok (.putfield 68, 3) by decide +kernel) (fun H locs hP hD hS => ?_)
  have hP : va_P D am_cl [(h0, .inr (9, [.ref q1, .int 0, .int 0, .int 0, .ref q2, .ref q3, .ref q4, .ref q5, .ref q6, .ref q7, .ref q8, .ref q9, .ref q10, .ref q11, .int 0, .ref q12, .int 0, .ref q13, .int 0, .ref q14, .int 0, .ref q15, .int 0, .int 0, .ref q16, .ref q17, .ref q18, .ref q19, .int 0, .ref q20, .int 0, .int 0, .int 0])), (q1, .inl (cA 0, 240, .inl (fun _ => 0))), (q2, .inl (cA 0, 26, .inl (fun _ => 0))), (q3, .inl (cA 0, 26, .inl (fun _ => 0))), (q4, .inl (cA 0, 26, .inl (fun _ => 0))), (q5, .inl (cA 0, 26, .inl (fun _ => 0))), (q6, .inl (cA 0, 26, .inl (fun _ => 0))), (q7, .inl (cA 0, 64, .inl (fun _ => 0))), (q8, .inl (cA 0, 64, .inl (fun _ => 0))), (q9, .inl (cA 0, 64, .inl (fun _ => 0))), (q10, .inl (cA 0, 64, .inl (fun _ => 0))), (q11, .inl (cA 3, 64, .inl (fun _ => 0))), (q12, .inl (cA 0, 32, .inl (fun _ => 0))), (q13, .inl (cA 0, 32, .inl (fun _ => 0))), (q14, .inl (cA 0, 32, .inl (fun _ => 0))), (q15, .inl (cA 0, 32, .inl (fun _ => 0))), (q16, .inl (cA 0, 32, .inl (fun _ => 0))), (q17, .inl (cA 0, 32, .inl (fun _ => 0))), (q18, .inl (cA 0, 32, .inl (fun _ => 0))), (q19, .inl (cA 0, 32, .inl (fun _ => 0))), (q20, .inl (cA 0, 32, .inl (fun _ => 0)))] H := hP
  have hD : va_D A [(h0, .inr (9, [.ref q1, .int 0, .int 0, .int 0, .ref q2, .ref q3, .ref q4, .ref q5, .ref q6, .ref q7, .ref q8, .ref q9, .ref q10, .ref q11, .int 0, .ref q12, .int 0, .ref q13, .int 0, .ref q14, .int 0, .ref q15, .int 0, .int 0, .ref q16, .ref q17, .ref q18, .ref q19, .int 0, .ref q20, .int 0, .int 0, .int 0])), (q1, .inl (cA 0, 240, .inl (fun _ => 0))), (q2, .inl (cA 0, 26, .inl (fun _ => 0))), (q3, .inl (cA 0, 26, .inl (fun _ => 0))), (q4, .inl (cA 0, 26, .inl (fun _ => 0))), (q5, .inl (cA 0, 26, .inl (fun _ => 0))), (q6, .inl (cA 0, 26, .inl (fun _ => 0))), (q7, .inl (cA 0, 64, .inl (fun _ => 0))), (q8, .inl (cA 0, 64, .inl (fun _ => 0))), (q9, .inl (cA 0, 64, .inl (fun _ => 0))), (q10, .inl (cA 0, 64, .inl (fun _ => 0))), (q11, .inl (cA 3, 64, .inl (fun _ => 0))), (q12, .inl (cA 0, 32, .inl (fun _ => 0))), (q13, .inl (cA 0, 32, .inl (fun _ => 0))), (q14, .inl (cA 0, 32, .inl (fun _ => 0))), (q15, .inl (cA 0, 32, .inl (fun _ => 0))), (q16, .inl (cA 0, 32, .inl (fun _ => 0))), (q17, .inl (cA 0, 32, .inl (fun _ => 0))), (q18, .inl (cA 0, 32, .inl (fun _ => 0))), (q19, .inl (cA 0, 32, .inl (fun _ => 0))), (q20, .inl (cA 0, 32, .inl (fun _ => 0)))] := hD
  exact W.vret hx hb hr (fun t ht _ => ⟨⟨(), rfl, trivial, q1, q2, q3, q4, q5, q6, q7, q8, q9, q10, q11, q12, q13, q14, q15, q16, q17, q18, q19, q20, by rw [ht]; exact hP, hD⟩, hS.F ht⟩) hS.2.2 (show decode prog_12_method_1_code 165 = .ok (.return_, 1) by decide +kernel)
end
