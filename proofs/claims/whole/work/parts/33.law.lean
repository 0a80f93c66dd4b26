/-! THE CLAIM OUT OF ONE WALK OF THE LAW'S BODY. Your part is whole_start (and what it stands on); all else here is the same for every law, but numbers. -/
def R_law : String := "LanguageTagsLaw"
def lw_P (b : Addr) (xs : List Int32) (args : Array Value) (s : State) : Prop := args = #[.ref b] ∧ s.IntsAt b xs ∧ xs.length ≤ 2048 ∧ (Jvm.Cond.and given_1 narrow_1).before args s = true
def lw_Q (_ : Array Value) (s : State) (o : Outcome) (t : State) : Prop := o = .returned (some (.int 1)) ∧ Framed s o t [] 600000 7302250
def lw_Z (below : List Frame) (a : Array Value) (s : State) : State → Prop := fun t => ∃ o, t.status = .running ∧ Ended t below o ∧ lw_Q a s o t
/-- the law's own end, with 1 on the stack, nothing written that was there before, its room as the claim has it -/
theorem lw_ret {p : Program} {l : Launch} {e : Env} {s : State} {m : MethodId} {below : List Frame} {meth : Method} {c : Code} {b : Nat} (hx : p.tables.exec = Jvm.exec) (hb : c.code = code) (hr : meth.sig.returnType = ret) (hlocks : meth.locks = false) {pc : Nat} {H : Heap} {ls : Array Slot} (hdg : decode code pc = .ok (.ireturn, 1)) : W p l e room_1 s m #[Value.ref b] below meth c H [] 600000 7302250 (lw_Z below #[Value.ref b] s) (F0 m pc ls [.int 1]) := by
  intro T hT X
  obtain ⟨fs, hret, hrun, hended, hW, hframe⟩ := X.leave (v := some (.int 1)) (hlocks := hlocks) (fun h => by rw [hr] at h; cases h)
  have hmeth' : T.vm.method? m = some meth := X.method'
  refine ⟨T.setFrames fs, ?_, .returned (some (.int 1)), hrun, hended, rfl, ⟨_, rfl⟩, hW, hframe⟩
  jvm_step X.here [X.here.top, hx, hb, hdg, hmeth', hr, ret, narrow_b1]
  (try refine ⟨rfl, ?_⟩); (try refine ⟨rfl, ?_⟩)
  first | (intro acts; rw [hret _ acts rfl rfl rfl]) | rw [hret _ _ rfl rfl rfl]
  exact Steps.refl _
/-- what holds at the law's entry: the machine, the code, the tables' words (any of lw_tbl by 'hts w (by decide +kernel)'), the script of L ints xs at the cell b, what the Statement gives of the start (any of its parts by flat_of_before) -/
def lw_At (p : Program) (s : State) (m : MethodId) (meth : Method) (c : Code) (b L : Nat) (xs : Nat → Int32) : Prop :=
  p.tables.exec = Jvm.exec ∧ c.code = code ∧ meth.sig.returnType = ret ∧ c.maxLocals = 4 ∧ s.vm.findClass R_law = some m.cls ∧ (∀ w ∈ lw_tbl, w.before #[Value.ref b] s = true) ∧ va_X b L xs s s.heap ∧ b < s.heap.size ∧ meth.locks = false ∧ (Jvm.Cond.and given_1 narrow_1).before #[Value.ref b] s = true

theorem im_isN.of {x : Cond} {A : Array Value} {s : State} (h : im_isN x) (hx : x.before A s = true) : va_Nw x s := by
  rcases h with ⟨a, i, b, n, d, h, rfl⟩ | ⟨a, i, y, h, rfl⟩
  · exact va_Nw.of rfl hx
  · exact va_Nw.of rfl hx
section GEN
variable {l : Launch} {D : va_G} {tA : Nat → ClassId} {lo : Nat} {p : Program} {e : Env} {s : State} {m : MethodId} {args : Array Value} {below : List Frame} {meth : Method} {c : Code}
theorem wd_12 : (Jvm.Cond.classLink "LanguageTagsLaw" (7 : Nat) "LanguageTags") ∈ im_T := im_memT (i := 12) (by decide +kernel) (by decide +kernel)
theorem wd_13 : (Jvm.Cond.instantiable "LanguageTags" (16 : Nat)) ∈ im_T := im_memT (i := 13) (by decide +kernel) (by decide +kernel)
theorem wd_14 : (Jvm.Cond.methodLink "LanguageTagsLaw" (9 : Nat) ({ cls := "LanguageTags", name := "<init>", desc := "()V" } : Jvm.MethodName)) ∈ im_T := im_memT (i := 14) (by decide +kernel) (by decide +kernel)
theorem wd_15 : (Jvm.Cond.instanceMethod ({ cls := "LanguageTags", name := "<init>", desc := "()V" } : Jvm.MethodName)) ∈ im_T := im_memT (i := 15) (by decide +kernel) (by decide +kernel)
theorem wd_16 : (Jvm.Cond.code ({ cls := "LanguageTags", name := "<init>", desc := "()V" } : Jvm.MethodName) prog_1_method_1_code (2 : Nat) (Option.none : Option Jvm.ClassFile.FieldType)) ∈ im_T := im_memT (i := 16) (by decide +kernel) (by decide +kernel)
theorem wd_224 : (Jvm.Cond.methodLink "LanguageTagsLaw" (13 : Nat) ({ cls := "LanguageTags", name := "type", desc := "(C)Z" } : Jvm.MethodName)) ∈ im_T := im_memT (i := 224) (by decide +kernel) (by decide +kernel)
theorem wd_225 : (Jvm.Cond.instanceMethod ({ cls := "LanguageTags", name := "type", desc := "(C)Z" } : Jvm.MethodName)) ∈ im_T := im_memT (i := 225) (by decide +kernel) (by decide +kernel)
theorem wd_226 : (Jvm.Cond.selects "LanguageTags" ({ cls := "LanguageTags", name := "type", desc := "(C)Z" } : Jvm.MethodName) ({ cls := "LanguageTags", name := "type", desc := "(C)Z" } : Jvm.MethodName)) ∈ im_T := im_memT (i := 226) (by decide +kernel) (by decide +kernel)
theorem wd_227 : (Jvm.Cond.code ({ cls := "LanguageTags", name := "type", desc := "(C)Z" } : Jvm.MethodName) prog_1_method_2_code (3 : Nat) (Option.some Jvm.ClassFile.FieldType.boolean)) ∈ im_T := im_memT (i := 227) (by decide +kernel) (by decide +kernel)
theorem wd_246 : (Jvm.Cond.methodLink "LanguageTagsLaw" (18 : Nat) ({ cls := "LanguageTags", name := "wipe", desc := "()V" } : Jvm.MethodName)) ∈ im_T := im_memT (i := 246) (by decide +kernel) (by decide +kernel)
theorem wd_247 : (Jvm.Cond.instanceMethod ({ cls := "LanguageTags", name := "wipe", desc := "()V" } : Jvm.MethodName)) ∈ im_T := im_memT (i := 247) (by decide +kernel) (by decide +kernel)
theorem wd_248 : (Jvm.Cond.selects "LanguageTags" ({ cls := "LanguageTags", name := "wipe", desc := "()V" } : Jvm.MethodName) ({ cls := "LanguageTags", name := "wipe", desc := "()V" } : Jvm.MethodName)) ∈ im_T := im_memT (i := 248) (by decide +kernel) (by decide +kernel)
theorem wd_249 : (Jvm.Cond.code ({ cls := "LanguageTags", name := "wipe", desc := "()V" } : Jvm.MethodName) prog_1_method_3_code (1 : Nat) (Option.none : Option Jvm.ClassFile.FieldType)) ∈ im_T := im_memT (i := 249) (by decide +kernel) (by decide +kernel)
theorem wd_254 : (Jvm.Cond.methodLink "LanguageTagsLaw" (22 : Nat) ({ cls := "LanguageTags", name := "alias", desc := "(Z)I" } : Jvm.MethodName)) ∈ im_T := im_memT (i := 254) (by decide +kernel) (by decide +kernel)
theorem wd_255 : (Jvm.Cond.instanceMethod ({ cls := "LanguageTags", name := "alias", desc := "(Z)I" } : Jvm.MethodName)) ∈ im_T := im_memT (i := 255) (by decide +kernel) (by decide +kernel)
theorem wd_256 : (Jvm.Cond.selects "LanguageTags" ({ cls := "LanguageTags", name := "alias", desc := "(Z)I" } : Jvm.MethodName) ({ cls := "LanguageTags", name := "alias", desc := "(Z)I" } : Jvm.MethodName)) ∈ im_T := im_memT (i := 256) (by decide +kernel) (by decide +kernel)
theorem wd_257 : (Jvm.Cond.code ({ cls := "LanguageTags", name := "alias", desc := "(Z)I" } : Jvm.MethodName) prog_1_method_4_code (7 : Nat) (Option.some Jvm.ClassFile.FieldType.int)) ∈ im_T := im_memT (i := 257) (by decide +kernel) (by decide +kernel)
theorem wd_324 : (Jvm.Cond.methodLink "LanguageTagsLaw" (27 : Nat) ({ cls := "LanguageTags", name := "read", desc := "()I" } : Jvm.MethodName)) ∈ im_T := im_memT (i := 324) (by decide +kernel) (by decide +kernel)
theorem wd_325 : (Jvm.Cond.instanceMethod ({ cls := "LanguageTags", name := "read", desc := "()I" } : Jvm.MethodName)) ∈ im_T := im_memT (i := 325) (by decide +kernel) (by decide +kernel)
theorem wd_326 : (Jvm.Cond.selects "LanguageTags" ({ cls := "LanguageTags", name := "read", desc := "()I" } : Jvm.MethodName) ({ cls := "LanguageTags", name := "read", desc := "()I" } : Jvm.MethodName)) ∈ im_T := im_memT (i := 326) (by decide +kernel) (by decide +kernel)
theorem wd_327 : (Jvm.Cond.code ({ cls := "LanguageTags", name := "read", desc := "()I" } : Jvm.MethodName) prog_1_method_5_code (3 : Nat) (Option.some Jvm.ClassFile.FieldType.int)) ∈ im_T := im_memT (i := 327) (by decide +kernel) (by decide +kernel)
theorem wd_447 : (Jvm.Cond.methodLink "LanguageTagsLaw" (32 : Nat) ({ cls := "LanguageTags", name := "pair", desc := "(Z)I" } : Jvm.MethodName)) ∈ im_T := im_memT (i := 447) (by decide +kernel) (by decide +kernel)
theorem wd_448 : (Jvm.Cond.instanceMethod ({ cls := "LanguageTags", name := "pair", desc := "(Z)I" } : Jvm.MethodName)) ∈ im_T := im_memT (i := 448) (by decide +kernel) (by decide +kernel)
theorem wd_449 : (Jvm.Cond.selects "LanguageTags" ({ cls := "LanguageTags", name := "pair", desc := "(Z)I" } : Jvm.MethodName) ({ cls := "LanguageTags", name := "pair", desc := "(Z)I" } : Jvm.MethodName)) ∈ im_T := im_memT (i := 449) (by decide +kernel) (by decide +kernel)
theorem wd_450 : (Jvm.Cond.code ({ cls := "LanguageTags", name := "pair", desc := "(Z)I" } : Jvm.MethodName) prog_1_method_6_code (5 : Nat) (Option.some Jvm.ClassFile.FieldType.int)) ∈ im_T := im_memT (i := 450) (by decide +kernel) (by decide +kernel)
theorem wd_482 : (Jvm.Cond.methodLink "LanguageTagsLaw" (36 : Nat) ({ cls := "LanguageTags", name := "show", desc := "(II)I" } : Jvm.MethodName)) ∈ im_T := im_memT (i := 482) (by decide +kernel) (by decide +kernel)
theorem wd_483 : (Jvm.Cond.instanceMethod ({ cls := "LanguageTags", name := "show", desc := "(II)I" } : Jvm.MethodName)) ∈ im_T := im_memT (i := 483) (by decide +kernel) (by decide +kernel)
theorem wd_484 : (Jvm.Cond.selects "LanguageTags" ({ cls := "LanguageTags", name := "show", desc := "(II)I" } : Jvm.MethodName) ({ cls := "LanguageTags", name := "show", desc := "(II)I" } : Jvm.MethodName)) ∈ im_T := im_memT (i := 484) (by decide +kernel) (by decide +kernel)
theorem wd_485 : (Jvm.Cond.code ({ cls := "LanguageTags", name := "show", desc := "(II)I" } : Jvm.MethodName) prog_1_method_7_code (4 : Nat) (Option.some Jvm.ClassFile.FieldType.int)) ∈ im_T := im_memT (i := 485) (by decide +kernel) (by decide +kernel)
theorem wd_551 : (Jvm.Cond.methodLink "LanguageTagsLaw" (41 : Nat) ({ cls := "LanguageTags", name := "shown", desc := "(I)C" } : Jvm.MethodName)) ∈ im_T := im_memT (i := 551) (by decide +kernel) (by decide +kernel)
theorem wd_552 : (Jvm.Cond.instanceMethod ({ cls := "LanguageTags", name := "shown", desc := "(I)C" } : Jvm.MethodName)) ∈ im_T := im_memT (i := 552) (by decide +kernel) (by decide +kernel)
theorem wd_553 : (Jvm.Cond.selects "LanguageTags" ({ cls := "LanguageTags", name := "shown", desc := "(I)C" } : Jvm.MethodName) ({ cls := "LanguageTags", name := "shown", desc := "(I)C" } : Jvm.MethodName)) ∈ im_T := im_memT (i := 553) (by decide +kernel) (by decide +kernel)
theorem wd_554 : (Jvm.Cond.code ({ cls := "LanguageTags", name := "shown", desc := "(I)C" } : Jvm.MethodName) prog_1_method_8_code (2 : Nat) (Option.some Jvm.ClassFile.FieldType.char)) ∈ im_T := im_memT (i := 554) (by decide +kernel) (by decide +kernel)
theorem wd_556 : (Jvm.Cond.methodLink "LanguageTagsLaw" (46 : Nat) ({ cls := "LanguageTags", name := "tags", desc := "()I" } : Jvm.MethodName)) ∈ im_T := im_memT (i := 556) (by decide +kernel) (by decide +kernel)
theorem wd_557 : (Jvm.Cond.instanceMethod ({ cls := "LanguageTags", name := "tags", desc := "()I" } : Jvm.MethodName)) ∈ im_T := im_memT (i := 557) (by decide +kernel) (by decide +kernel)
theorem wd_558 : (Jvm.Cond.selects "LanguageTags" ({ cls := "LanguageTags", name := "tags", desc := "()I" } : Jvm.MethodName) ({ cls := "LanguageTags", name := "tags", desc := "()I" } : Jvm.MethodName)) ∈ im_T := im_memT (i := 558) (by decide +kernel) (by decide +kernel)
theorem wd_559 : (Jvm.Cond.code ({ cls := "LanguageTags", name := "tags", desc := "()I" } : Jvm.MethodName) prog_1_method_9_code (1 : Nat) (Option.some Jvm.ClassFile.FieldType.int)) ∈ im_T := im_memT (i := 559) (by decide +kernel) (by decide +kernel)
theorem wd_560 : (Jvm.Cond.methodLink "LanguageTagsLaw" (50 : Nat) ({ cls := "LanguageTags", name := "support", desc := "(I)Z" } : Jvm.MethodName)) ∈ im_T := im_memT (i := 560) (by decide +kernel) (by decide +kernel)
theorem wd_561 : (Jvm.Cond.instanceMethod ({ cls := "LanguageTags", name := "support", desc := "(I)Z" } : Jvm.MethodName)) ∈ im_T := im_memT (i := 561) (by decide +kernel) (by decide +kernel)
theorem wd_562 : (Jvm.Cond.selects "LanguageTags" ({ cls := "LanguageTags", name := "support", desc := "(I)Z" } : Jvm.MethodName) ({ cls := "LanguageTags", name := "support", desc := "(I)Z" } : Jvm.MethodName)) ∈ im_T := im_memT (i := 562) (by decide +kernel) (by decide +kernel)
theorem wd_563 : (Jvm.Cond.code ({ cls := "LanguageTags", name := "support", desc := "(I)Z" } : Jvm.MethodName) prog_1_method_10_code (2 : Nat) (Option.some Jvm.ClassFile.FieldType.boolean)) ∈ im_T := im_memT (i := 563) (by decide +kernel) (by decide +kernel)
theorem wd_564 : (Jvm.Cond.methodLink "LanguageTagsLaw" (55 : Nat) ({ cls := "LanguageTags", name := "fits", desc := "(II)Z" } : Jvm.MethodName)) ∈ im_T := im_memT (i := 564) (by decide +kernel) (by decide +kernel)
theorem wd_565 : (Jvm.Cond.instanceMethod ({ cls := "LanguageTags", name := "fits", desc := "(II)Z" } : Jvm.MethodName)) ∈ im_T := im_memT (i := 565) (by decide +kernel) (by decide +kernel)
theorem wd_566 : (Jvm.Cond.selects "LanguageTags" ({ cls := "LanguageTags", name := "fits", desc := "(II)Z" } : Jvm.MethodName) ({ cls := "LanguageTags", name := "fits", desc := "(II)Z" } : Jvm.MethodName)) ∈ im_T := im_memT (i := 566) (by decide +kernel) (by decide +kernel)
theorem wd_567 : (Jvm.Cond.code ({ cls := "LanguageTags", name := "fits", desc := "(II)Z" } : Jvm.MethodName) prog_1_method_11_code (3 : Nat) (Option.some Jvm.ClassFile.FieldType.boolean)) ∈ im_T := im_memT (i := 567) (by decide +kernel) (by decide +kernel)
theorem wd_573 : (Jvm.Cond.methodLink "LanguageTagsLaw" (60 : Nat) ({ cls := "LanguageTags", name := "lookup", desc := "(I)I" } : Jvm.MethodName)) ∈ im_T := im_memT (i := 573) (by decide +kernel) (by decide +kernel)
theorem wd_574 : (Jvm.Cond.instanceMethod ({ cls := "LanguageTags", name := "lookup", desc := "(I)I" } : Jvm.MethodName)) ∈ im_T := im_memT (i := 574) (by decide +kernel) (by decide +kernel)
theorem wd_575 : (Jvm.Cond.selects "LanguageTags" ({ cls := "LanguageTags", name := "lookup", desc := "(I)I" } : Jvm.MethodName) ({ cls := "LanguageTags", name := "lookup", desc := "(I)I" } : Jvm.MethodName)) ∈ im_T := im_memT (i := 575) (by decide +kernel) (by decide +kernel)
theorem wd_576 : (Jvm.Cond.code ({ cls := "LanguageTags", name := "lookup", desc := "(I)I" } : Jvm.MethodName) prog_1_method_12_code (6 : Nat) (Option.some Jvm.ClassFile.FieldType.int)) ∈ im_T := im_memT (i := 576) (by decide +kernel) (by decide +kernel)
theorem wd_581 : (Jvm.Cond.methodLink "LanguageTagsLaw" (65 : Nat) ({ cls := "LanguageTags", name := "distance", desc := "(II)I" } : Jvm.MethodName)) ∈ im_T := im_memT (i := 581) (by decide +kernel) (by decide +kernel)
theorem wd_582 : (Jvm.Cond.instanceMethod ({ cls := "LanguageTags", name := "distance", desc := "(II)I" } : Jvm.MethodName)) ∈ im_T := im_memT (i := 582) (by decide +kernel) (by decide +kernel)
theorem wd_583 : (Jvm.Cond.selects "LanguageTags" ({ cls := "LanguageTags", name := "distance", desc := "(II)I" } : Jvm.MethodName) ({ cls := "LanguageTags", name := "distance", desc := "(II)I" } : Jvm.MethodName)) ∈ im_T := im_memT (i := 583) (by decide +kernel) (by decide +kernel)
theorem wd_584 : (Jvm.Cond.code ({ cls := "LanguageTags", name := "distance", desc := "(II)I" } : Jvm.MethodName) prog_1_method_13_code (3 : Nat) (Option.some Jvm.ClassFile.FieldType.int)) ∈ im_T := im_memT (i := 584) (by decide +kernel) (by decide +kernel)
theorem wd_593 : (Jvm.Cond.methodLink "LanguageTagsLaw" (69 : Nat) ({ cls := "LanguageTags", name := "best", desc := "(I)I" } : Jvm.MethodName)) ∈ im_T := im_memT (i := 593) (by decide +kernel) (by decide +kernel)
theorem wd_594 : (Jvm.Cond.instanceMethod ({ cls := "LanguageTags", name := "best", desc := "(I)I" } : Jvm.MethodName)) ∈ im_T := im_memT (i := 594) (by decide +kernel) (by decide +kernel)
theorem wd_595 : (Jvm.Cond.selects "LanguageTags" ({ cls := "LanguageTags", name := "best", desc := "(I)I" } : Jvm.MethodName) ({ cls := "LanguageTags", name := "best", desc := "(I)I" } : Jvm.MethodName)) ∈ im_T := im_memT (i := 595) (by decide +kernel) (by decide +kernel)
theorem wd_596 : (Jvm.Cond.code ({ cls := "LanguageTags", name := "best", desc := "(I)I" } : Jvm.MethodName) prog_1_method_14_code (6 : Nat) (Option.some Jvm.ClassFile.FieldType.int)) ∈ im_T := im_memT (i := 596) (by decide +kernel) (by decide +kernel)
theorem wd_597 : (Jvm.Cond.methodLink "LanguageTagsLaw" (73 : Nat) ({ cls := "LanguageTags", name := "put", desc := "(III)Z" } : Jvm.MethodName)) ∈ im_T := im_memT (i := 597) (by decide +kernel) (by decide +kernel)
theorem wd_598 : (Jvm.Cond.instanceMethod ({ cls := "LanguageTags", name := "put", desc := "(III)Z" } : Jvm.MethodName)) ∈ im_T := im_memT (i := 598) (by decide +kernel) (by decide +kernel)
theorem wd_599 : (Jvm.Cond.selects "LanguageTags" ({ cls := "LanguageTags", name := "put", desc := "(III)Z" } : Jvm.MethodName) ({ cls := "LanguageTags", name := "put", desc := "(III)Z" } : Jvm.MethodName)) ∈ im_T := im_memT (i := 599) (by decide +kernel) (by decide +kernel)
theorem wd_600 : (Jvm.Cond.code ({ cls := "LanguageTags", name := "put", desc := "(III)Z" } : Jvm.MethodName) prog_1_method_15_code (4 : Nat) (Option.some Jvm.ClassFile.FieldType.boolean)) ∈ im_T := im_memT (i := 600) (by decide +kernel) (by decide +kernel)
theorem wd_609 : (Jvm.Cond.methodLink "LanguageTagsLaw" (78 : Nat) ({ cls := "LanguageTags", name := "get", desc := "(II)I" } : Jvm.MethodName)) ∈ im_T := im_memT (i := 609) (by decide +kernel) (by decide +kernel)
theorem wd_610 : (Jvm.Cond.instanceMethod ({ cls := "LanguageTags", name := "get", desc := "(II)I" } : Jvm.MethodName)) ∈ im_T := im_memT (i := 610) (by decide +kernel) (by decide +kernel)
theorem wd_611 : (Jvm.Cond.selects "LanguageTags" ({ cls := "LanguageTags", name := "get", desc := "(II)I" } : Jvm.MethodName) ({ cls := "LanguageTags", name := "get", desc := "(II)I" } : Jvm.MethodName)) ∈ im_T := im_memT (i := 611) (by decide +kernel) (by decide +kernel)
theorem wd_612 : (Jvm.Cond.code ({ cls := "LanguageTags", name := "get", desc := "(II)I" } : Jvm.MethodName) prog_1_method_16_code (8 : Nat) (Option.some Jvm.ClassFile.FieldType.int)) ∈ im_T := im_memT (i := 612) (by decide +kernel) (by decide +kernel)
theorem wd_621 : (Jvm.Cond.methodLink "LanguageTagsLaw" (82 : Nat) ({ cls := "LanguageTags", name := "found", desc := "()I" } : Jvm.MethodName)) ∈ im_T := im_memT (i := 621) (by decide +kernel) (by decide +kernel)
theorem wd_622 : (Jvm.Cond.instanceMethod ({ cls := "LanguageTags", name := "found", desc := "()I" } : Jvm.MethodName)) ∈ im_T := im_memT (i := 622) (by decide +kernel) (by decide +kernel)
theorem wd_623 : (Jvm.Cond.selects "LanguageTags" ({ cls := "LanguageTags", name := "found", desc := "()I" } : Jvm.MethodName) ({ cls := "LanguageTags", name := "found", desc := "()I" } : Jvm.MethodName)) ∈ im_T := im_memT (i := 623) (by decide +kernel) (by decide +kernel)
theorem wd_624 : (Jvm.Cond.code ({ cls := "LanguageTags", name := "found", desc := "()I" } : Jvm.MethodName) prog_1_method_17_code (1 : Nat) (Option.some Jvm.ClassFile.FieldType.int)) ∈ im_T := im_memT (i := 624) (by decide +kernel) (by decide +kernel)
theorem wd_625 : (Jvm.Cond.classLink "LanguageTagsLaw" (10 : Nat) "LanguageTagsModel") ∈ im_T := im_memT (i := 625) (by decide +kernel) (by decide +kernel)
theorem wd_626 : (Jvm.Cond.instantiable "LanguageTagsModel" (44 : Nat)) ∈ im_T := im_memT (i := 626) (by decide +kernel) (by decide +kernel)
theorem wd_627 : (Jvm.Cond.methodLink "LanguageTagsLaw" (12 : Nat) ({ cls := "LanguageTagsModel", name := "<init>", desc := "()V" } : Jvm.MethodName)) ∈ im_T := im_memT (i := 627) (by decide +kernel) (by decide +kernel)
theorem wd_628 : (Jvm.Cond.instanceMethod ({ cls := "LanguageTagsModel", name := "<init>", desc := "()V" } : Jvm.MethodName)) ∈ im_T := im_memT (i := 628) (by decide +kernel) (by decide +kernel)
theorem wd_629 : (Jvm.Cond.code ({ cls := "LanguageTagsModel", name := "<init>", desc := "()V" } : Jvm.MethodName) prog_12_method_1_code (1 : Nat) (Option.none : Option Jvm.ClassFile.FieldType)) ∈ im_T := im_memT (i := 629) (by decide +kernel) (by decide +kernel)
theorem wd_764 : (Jvm.Cond.methodLink "LanguageTagsLaw" (17 : Nat) ({ cls := "LanguageTagsModel", name := "type", desc := "(C)Z" } : Jvm.MethodName)) ∈ im_T := im_memT (i := 764) (by decide +kernel) (by decide +kernel)
theorem wd_765 : (Jvm.Cond.instanceMethod ({ cls := "LanguageTagsModel", name := "type", desc := "(C)Z" } : Jvm.MethodName)) ∈ im_T := im_memT (i := 765) (by decide +kernel) (by decide +kernel)
theorem wd_766 : (Jvm.Cond.selects "LanguageTagsModel" ({ cls := "LanguageTagsModel", name := "type", desc := "(C)Z" } : Jvm.MethodName) ({ cls := "LanguageTagsModel", name := "type", desc := "(C)Z" } : Jvm.MethodName)) ∈ im_T := im_memT (i := 766) (by decide +kernel) (by decide +kernel)
theorem wd_767 : (Jvm.Cond.code ({ cls := "LanguageTagsModel", name := "type", desc := "(C)Z" } : Jvm.MethodName) prog_12_method_9_code (2 : Nat) (Option.some Jvm.ClassFile.FieldType.boolean)) ∈ im_T := im_memT (i := 767) (by decide +kernel) (by decide +kernel)
theorem wd_780 : (Jvm.Cond.methodLink "LanguageTagsLaw" (21 : Nat) ({ cls := "LanguageTagsModel", name := "wipe", desc := "()V" } : Jvm.MethodName)) ∈ im_T := im_memT (i := 780) (by decide +kernel) (by decide +kernel)
theorem wd_781 : (Jvm.Cond.instanceMethod ({ cls := "LanguageTagsModel", name := "wipe", desc := "()V" } : Jvm.MethodName)) ∈ im_T := im_memT (i := 781) (by decide +kernel) (by decide +kernel)
theorem wd_782 : (Jvm.Cond.selects "LanguageTagsModel" ({ cls := "LanguageTagsModel", name := "wipe", desc := "()V" } : Jvm.MethodName) ({ cls := "LanguageTagsModel", name := "wipe", desc := "()V" } : Jvm.MethodName)) ∈ im_T := im_memT (i := 782) (by decide +kernel) (by decide +kernel)
theorem wd_783 : (Jvm.Cond.code ({ cls := "LanguageTagsModel", name := "wipe", desc := "()V" } : Jvm.MethodName) prog_12_method_10_code (1 : Nat) (Option.none : Option Jvm.ClassFile.FieldType)) ∈ im_T := im_memT (i := 783) (by decide +kernel) (by decide +kernel)
theorem wd_784 : (Jvm.Cond.methodLink "LanguageTagsLaw" (26 : Nat) ({ cls := "LanguageTagsModel", name := "alias", desc := "(Z)I" } : Jvm.MethodName)) ∈ im_T := im_memT (i := 784) (by decide +kernel) (by decide +kernel)
theorem wd_785 : (Jvm.Cond.instanceMethod ({ cls := "LanguageTagsModel", name := "alias", desc := "(Z)I" } : Jvm.MethodName)) ∈ im_T := im_memT (i := 785) (by decide +kernel) (by decide +kernel)
theorem wd_786 : (Jvm.Cond.selects "LanguageTagsModel" ({ cls := "LanguageTagsModel", name := "alias", desc := "(Z)I" } : Jvm.MethodName) ({ cls := "LanguageTagsModel", name := "alias", desc := "(Z)I" } : Jvm.MethodName)) ∈ im_T := im_memT (i := 786) (by decide +kernel) (by decide +kernel)
theorem wd_787 : (Jvm.Cond.code ({ cls := "LanguageTagsModel", name := "alias", desc := "(Z)I" } : Jvm.MethodName) prog_12_method_33_code (6 : Nat) (Option.some Jvm.ClassFile.FieldType.int)) ∈ im_T := im_memT (i := 787) (by decide +kernel) (by decide +kernel)
theorem wd_820 : (Jvm.Cond.methodLink "LanguageTagsLaw" (31 : Nat) ({ cls := "LanguageTagsModel", name := "read", desc := "()I" } : Jvm.MethodName)) ∈ im_T := im_memT (i := 820) (by decide +kernel) (by decide +kernel)
theorem wd_821 : (Jvm.Cond.instanceMethod ({ cls := "LanguageTagsModel", name := "read", desc := "()I" } : Jvm.MethodName)) ∈ im_T := im_memT (i := 821) (by decide +kernel) (by decide +kernel)
theorem wd_822 : (Jvm.Cond.selects "LanguageTagsModel" ({ cls := "LanguageTagsModel", name := "read", desc := "()I" } : Jvm.MethodName) ({ cls := "LanguageTagsModel", name := "read", desc := "()I" } : Jvm.MethodName)) ∈ im_T := im_memT (i := 822) (by decide +kernel) (by decide +kernel)
theorem wd_823 : (Jvm.Cond.code ({ cls := "LanguageTagsModel", name := "read", desc := "()I" } : Jvm.MethodName) prog_12_method_34_code (4 : Nat) (Option.some Jvm.ClassFile.FieldType.int)) ∈ im_T := im_memT (i := 823) (by decide +kernel) (by decide +kernel)
theorem wd_896 : (Jvm.Cond.methodLink "LanguageTagsLaw" (35 : Nat) ({ cls := "LanguageTagsModel", name := "pair", desc := "(Z)I" } : Jvm.MethodName)) ∈ im_T := im_memT (i := 896) (by decide +kernel) (by decide +kernel)
theorem wd_897 : (Jvm.Cond.instanceMethod ({ cls := "LanguageTagsModel", name := "pair", desc := "(Z)I" } : Jvm.MethodName)) ∈ im_T := im_memT (i := 897) (by decide +kernel) (by decide +kernel)
theorem wd_898 : (Jvm.Cond.selects "LanguageTagsModel" ({ cls := "LanguageTagsModel", name := "pair", desc := "(Z)I" } : Jvm.MethodName) ({ cls := "LanguageTagsModel", name := "pair", desc := "(Z)I" } : Jvm.MethodName)) ∈ im_T := im_memT (i := 898) (by decide +kernel) (by decide +kernel)
theorem wd_899 : (Jvm.Cond.code ({ cls := "LanguageTagsModel", name := "pair", desc := "(Z)I" } : Jvm.MethodName) prog_12_method_36_code (8 : Nat) (Option.some Jvm.ClassFile.FieldType.int)) ∈ im_T := im_memT (i := 899) (by decide +kernel) (by decide +kernel)
theorem wd_908 : (Jvm.Cond.methodLink "LanguageTagsLaw" (40 : Nat) ({ cls := "LanguageTagsModel", name := "show", desc := "(II)I" } : Jvm.MethodName)) ∈ im_T := im_memT (i := 908) (by decide +kernel) (by decide +kernel)
theorem wd_909 : (Jvm.Cond.instanceMethod ({ cls := "LanguageTagsModel", name := "show", desc := "(II)I" } : Jvm.MethodName)) ∈ im_T := im_memT (i := 909) (by decide +kernel) (by decide +kernel)
theorem wd_910 : (Jvm.Cond.selects "LanguageTagsModel" ({ cls := "LanguageTagsModel", name := "show", desc := "(II)I" } : Jvm.MethodName) ({ cls := "LanguageTagsModel", name := "show", desc := "(II)I" } : Jvm.MethodName)) ∈ im_T := im_memT (i := 910) (by decide +kernel) (by decide +kernel)
theorem wd_911 : (Jvm.Cond.code ({ cls := "LanguageTagsModel", name := "show", desc := "(II)I" } : Jvm.MethodName) prog_12_method_43_code (4 : Nat) (Option.some Jvm.ClassFile.FieldType.int)) ∈ im_T := im_memT (i := 911) (by decide +kernel) (by decide +kernel)
theorem wd_932 : (Jvm.Cond.methodLink "LanguageTagsLaw" (45 : Nat) ({ cls := "LanguageTagsModel", name := "shown", desc := "(I)C" } : Jvm.MethodName)) ∈ im_T := im_memT (i := 932) (by decide +kernel) (by decide +kernel)
theorem wd_933 : (Jvm.Cond.instanceMethod ({ cls := "LanguageTagsModel", name := "shown", desc := "(I)C" } : Jvm.MethodName)) ∈ im_T := im_memT (i := 933) (by decide +kernel) (by decide +kernel)
theorem wd_934 : (Jvm.Cond.selects "LanguageTagsModel" ({ cls := "LanguageTagsModel", name := "shown", desc := "(I)C" } : Jvm.MethodName) ({ cls := "LanguageTagsModel", name := "shown", desc := "(I)C" } : Jvm.MethodName)) ∈ im_T := im_memT (i := 934) (by decide +kernel) (by decide +kernel)
theorem wd_935 : (Jvm.Cond.code ({ cls := "LanguageTagsModel", name := "shown", desc := "(I)C" } : Jvm.MethodName) prog_12_method_44_code (2 : Nat) (Option.some Jvm.ClassFile.FieldType.char)) ∈ im_T := im_memT (i := 935) (by decide +kernel) (by decide +kernel)
theorem wd_936 : (Jvm.Cond.methodLink "LanguageTagsLaw" (49 : Nat) ({ cls := "LanguageTagsModel", name := "tags", desc := "()I" } : Jvm.MethodName)) ∈ im_T := im_memT (i := 936) (by decide +kernel) (by decide +kernel)
theorem wd_937 : (Jvm.Cond.instanceMethod ({ cls := "LanguageTagsModel", name := "tags", desc := "()I" } : Jvm.MethodName)) ∈ im_T := im_memT (i := 937) (by decide +kernel) (by decide +kernel)
theorem wd_938 : (Jvm.Cond.selects "LanguageTagsModel" ({ cls := "LanguageTagsModel", name := "tags", desc := "()I" } : Jvm.MethodName) ({ cls := "LanguageTagsModel", name := "tags", desc := "()I" } : Jvm.MethodName)) ∈ im_T := im_memT (i := 938) (by decide +kernel) (by decide +kernel)
theorem wd_939 : (Jvm.Cond.code ({ cls := "LanguageTagsModel", name := "tags", desc := "()I" } : Jvm.MethodName) prog_12_method_45_code (1 : Nat) (Option.some Jvm.ClassFile.FieldType.int)) ∈ im_T := im_memT (i := 939) (by decide +kernel) (by decide +kernel)
theorem wd_940 : (Jvm.Cond.methodLink "LanguageTagsLaw" (54 : Nat) ({ cls := "LanguageTagsModel", name := "support", desc := "(I)Z" } : Jvm.MethodName)) ∈ im_T := im_memT (i := 940) (by decide +kernel) (by decide +kernel)
theorem wd_941 : (Jvm.Cond.instanceMethod ({ cls := "LanguageTagsModel", name := "support", desc := "(I)Z" } : Jvm.MethodName)) ∈ im_T := im_memT (i := 941) (by decide +kernel) (by decide +kernel)
theorem wd_942 : (Jvm.Cond.selects "LanguageTagsModel" ({ cls := "LanguageTagsModel", name := "support", desc := "(I)Z" } : Jvm.MethodName) ({ cls := "LanguageTagsModel", name := "support", desc := "(I)Z" } : Jvm.MethodName)) ∈ im_T := im_memT (i := 942) (by decide +kernel) (by decide +kernel)
theorem wd_943 : (Jvm.Cond.code ({ cls := "LanguageTagsModel", name := "support", desc := "(I)Z" } : Jvm.MethodName) prog_12_method_47_code (2 : Nat) (Option.some Jvm.ClassFile.FieldType.boolean)) ∈ im_T := im_memT (i := 943) (by decide +kernel) (by decide +kernel)
theorem wd_948 : (Jvm.Cond.methodLink "LanguageTagsLaw" (59 : Nat) ({ cls := "LanguageTagsModel", name := "fits", desc := "(II)Z" } : Jvm.MethodName)) ∈ im_T := im_memT (i := 948) (by decide +kernel) (by decide +kernel)
theorem wd_949 : (Jvm.Cond.instanceMethod ({ cls := "LanguageTagsModel", name := "fits", desc := "(II)Z" } : Jvm.MethodName)) ∈ im_T := im_memT (i := 949) (by decide +kernel) (by decide +kernel)
theorem wd_950 : (Jvm.Cond.selects "LanguageTagsModel" ({ cls := "LanguageTagsModel", name := "fits", desc := "(II)Z" } : Jvm.MethodName) ({ cls := "LanguageTagsModel", name := "fits", desc := "(II)Z" } : Jvm.MethodName)) ∈ im_T := im_memT (i := 950) (by decide +kernel) (by decide +kernel)
theorem wd_951 : (Jvm.Cond.code ({ cls := "LanguageTagsModel", name := "fits", desc := "(II)Z" } : Jvm.MethodName) prog_12_method_49_code (9 : Nat) (Option.some Jvm.ClassFile.FieldType.boolean)) ∈ im_T := im_memT (i := 951) (by decide +kernel) (by decide +kernel)
theorem wd_956 : (Jvm.Cond.methodLink "LanguageTagsLaw" (64 : Nat) ({ cls := "LanguageTagsModel", name := "lookup", desc := "(I)I" } : Jvm.MethodName)) ∈ im_T := im_memT (i := 956) (by decide +kernel) (by decide +kernel)
theorem wd_957 : (Jvm.Cond.instanceMethod ({ cls := "LanguageTagsModel", name := "lookup", desc := "(I)I" } : Jvm.MethodName)) ∈ im_T := im_memT (i := 957) (by decide +kernel) (by decide +kernel)
theorem wd_958 : (Jvm.Cond.selects "LanguageTagsModel" ({ cls := "LanguageTagsModel", name := "lookup", desc := "(I)I" } : Jvm.MethodName) ({ cls := "LanguageTagsModel", name := "lookup", desc := "(I)I" } : Jvm.MethodName)) ∈ im_T := im_memT (i := 958) (by decide +kernel) (by decide +kernel)
theorem wd_959 : (Jvm.Cond.code ({ cls := "LanguageTagsModel", name := "lookup", desc := "(I)I" } : Jvm.MethodName) prog_12_method_54_code (3 : Nat) (Option.some Jvm.ClassFile.FieldType.int)) ∈ im_T := im_memT (i := 959) (by decide +kernel) (by decide +kernel)
theorem wd_976 : (Jvm.Cond.methodLink "LanguageTagsLaw" (68 : Nat) ({ cls := "LanguageTagsModel", name := "distance", desc := "(II)I" } : Jvm.MethodName)) ∈ im_T := im_memT (i := 976) (by decide +kernel) (by decide +kernel)
theorem wd_980 : (Jvm.Cond.methodLink "LanguageTagsLaw" (72 : Nat) ({ cls := "LanguageTagsModel", name := "best", desc := "(I)I" } : Jvm.MethodName)) ∈ im_T := im_memT (i := 980) (by decide +kernel) (by decide +kernel)
theorem wd_981 : (Jvm.Cond.instanceMethod ({ cls := "LanguageTagsModel", name := "best", desc := "(I)I" } : Jvm.MethodName)) ∈ im_T := im_memT (i := 981) (by decide +kernel) (by decide +kernel)
theorem wd_982 : (Jvm.Cond.selects "LanguageTagsModel" ({ cls := "LanguageTagsModel", name := "best", desc := "(I)I" } : Jvm.MethodName) ({ cls := "LanguageTagsModel", name := "best", desc := "(I)I" } : Jvm.MethodName)) ∈ im_T := im_memT (i := 982) (by decide +kernel) (by decide +kernel)
theorem wd_983 : (Jvm.Cond.code ({ cls := "LanguageTagsModel", name := "best", desc := "(I)I" } : Jvm.MethodName) prog_12_method_56_code (6 : Nat) (Option.some Jvm.ClassFile.FieldType.int)) ∈ im_T := im_memT (i := 983) (by decide +kernel) (by decide +kernel)
theorem wd_985 : (Jvm.Cond.methodLink "LanguageTagsLaw" (77 : Nat) ({ cls := "LanguageTagsModel", name := "put", desc := "(III)Z" } : Jvm.MethodName)) ∈ im_T := im_memT (i := 985) (by decide +kernel) (by decide +kernel)
theorem wd_986 : (Jvm.Cond.instanceMethod ({ cls := "LanguageTagsModel", name := "put", desc := "(III)Z" } : Jvm.MethodName)) ∈ im_T := im_memT (i := 986) (by decide +kernel) (by decide +kernel)
theorem wd_987 : (Jvm.Cond.selects "LanguageTagsModel" ({ cls := "LanguageTagsModel", name := "put", desc := "(III)Z" } : Jvm.MethodName) ({ cls := "LanguageTagsModel", name := "put", desc := "(III)Z" } : Jvm.MethodName)) ∈ im_T := im_memT (i := 987) (by decide +kernel) (by decide +kernel)
theorem wd_988 : (Jvm.Cond.code ({ cls := "LanguageTagsModel", name := "put", desc := "(III)Z" } : Jvm.MethodName) prog_12_method_57_code (4 : Nat) (Option.some Jvm.ClassFile.FieldType.boolean)) ∈ im_T := im_memT (i := 988) (by decide +kernel) (by decide +kernel)
theorem wd_989 : (Jvm.Cond.methodLink "LanguageTagsLaw" (81 : Nat) ({ cls := "LanguageTagsModel", name := "get", desc := "(II)I" } : Jvm.MethodName)) ∈ im_T := im_memT (i := 989) (by decide +kernel) (by decide +kernel)
theorem wd_990 : (Jvm.Cond.instanceMethod ({ cls := "LanguageTagsModel", name := "get", desc := "(II)I" } : Jvm.MethodName)) ∈ im_T := im_memT (i := 990) (by decide +kernel) (by decide +kernel)
theorem wd_991 : (Jvm.Cond.selects "LanguageTagsModel" ({ cls := "LanguageTagsModel", name := "get", desc := "(II)I" } : Jvm.MethodName) ({ cls := "LanguageTagsModel", name := "get", desc := "(II)I" } : Jvm.MethodName)) ∈ im_T := im_memT (i := 991) (by decide +kernel) (by decide +kernel)
theorem wd_992 : (Jvm.Cond.code ({ cls := "LanguageTagsModel", name := "get", desc := "(II)I" } : Jvm.MethodName) prog_12_method_59_code (5 : Nat) (Option.some Jvm.ClassFile.FieldType.int)) ∈ im_T := im_memT (i := 992) (by decide +kernel) (by decide +kernel)
theorem wd_997 : (Jvm.Cond.methodLink "LanguageTagsLaw" (85 : Nat) ({ cls := "LanguageTagsModel", name := "found", desc := "()I" } : Jvm.MethodName)) ∈ im_T := im_memT (i := 997) (by decide +kernel) (by decide +kernel)
theorem wd_998 : (Jvm.Cond.instanceMethod ({ cls := "LanguageTagsModel", name := "found", desc := "()I" } : Jvm.MethodName)) ∈ im_T := im_memT (i := 998) (by decide +kernel) (by decide +kernel)
theorem wd_999 : (Jvm.Cond.selects "LanguageTagsModel" ({ cls := "LanguageTagsModel", name := "found", desc := "()I" } : Jvm.MethodName) ({ cls := "LanguageTagsModel", name := "found", desc := "()I" } : Jvm.MethodName)) ∈ im_T := im_memT (i := 999) (by decide +kernel) (by decide +kernel)
theorem wd_1000 : (Jvm.Cond.code ({ cls := "LanguageTagsModel", name := "found", desc := "()I" } : Jvm.MethodName) prog_12_method_60_code (1 : Nat) (Option.some Jvm.ClassFile.FieldType.int)) ∈ im_T := im_memT (i := 1000) (by decide +kernel) (by decide +kernel)
theorem d_Law_law_0 : decode c_Law_law 0 = .ok (.new 7, 3) := by decide +kernel
theorem d_Law_law_3 : decode c_Law_law 3 = .ok (.dup, 1) := by decide +kernel
theorem d_Law_law_4 : decode c_Law_law 4 = .ok (.invokespecial 9, 3) := by decide +kernel
theorem d_Law_law_7 : decode c_Law_law 7 = .ok (.astore_n 1, 1) := by decide +kernel
theorem d_Law_law_8 : decode c_Law_law 8 = .ok (.new 10, 3) := by decide +kernel
theorem d_Law_law_11 : decode c_Law_law 11 = .ok (.dup, 1) := by decide +kernel
theorem d_Law_law_12 : decode c_Law_law 12 = .ok (.invokespecial 12, 3) := by decide +kernel
theorem d_Law_law_15 : decode c_Law_law 15 = .ok (.astore_n 2, 1) := by decide +kernel
theorem d_Law_law_16 : decode c_Law_law 16 = .ok (.iconst 0, 1) := by decide +kernel
theorem d_Law_law_17 : decode c_Law_law 17 = .ok (.istore_n 3, 1) := by decide +kernel
theorem d_Law_law_18 : decode c_Law_law 18 = .ok (.iload_n 3, 1) := by decide +kernel
theorem d_Law_law_19 : decode c_Law_law 19 = .ok (.aload_n 0, 1) := by decide +kernel
theorem d_Law_law_20 : decode c_Law_law 20 = .ok (.arraylength, 1) := by decide +kernel
theorem d_Law_law_21 : decode c_Law_law 21 = .ok (.iconst 4, 1) := by decide +kernel
theorem d_Law_law_22 : decode c_Law_law 22 = .ok (.isub, 1) := by decide +kernel
theorem d_Law_law_23 : decode c_Law_law 23 = .ok (.if_icmp .gt (515), 3) := by decide +kernel
theorem d_Law_law_26 : decode c_Law_law 26 = .ok (.aload_n 0, 1) := by decide +kernel
theorem d_Law_law_27 : decode c_Law_law 27 = .ok (.iload_n 3, 1) := by decide +kernel
theorem d_Law_law_28 : decode c_Law_law 28 = .ok (.iaload, 1) := by decide +kernel
theorem d_Law_law_29 : decode c_Law_law 29 = .ok (.bipush (15), 2) := by decide +kernel
theorem d_Law_law_31 : decode c_Law_law 31 = .ok (.iand, 1) := by decide +kernel
theorem d_Law_law_32 : decode c_Law_law 32 = .ok (.tableswitch (500) 0 15 #[80, 105, 116, 155, 168, 207, 240, 263, 276, 299, 332, 355, 388, 411, 454, 487], 80) := by decide +kernel
theorem d_Law_law_112 : decode c_Law_law 112 = .ok (.aload_n 1, 1) := by decide +kernel
theorem d_Law_law_113 : decode c_Law_law 113 = .ok (.aload_n 0, 1) := by decide +kernel
theorem d_Law_law_114 : decode c_Law_law 114 = .ok (.iload_n 3, 1) := by decide +kernel
theorem d_Law_law_115 : decode c_Law_law 115 = .ok (.iconst 1, 1) := by decide +kernel
theorem d_Law_law_116 : decode c_Law_law 116 = .ok (.iadd, 1) := by decide +kernel
theorem d_Law_law_117 : decode c_Law_law 117 = .ok (.iaload, 1) := by decide +kernel
theorem d_Law_law_118 : decode c_Law_law 118 = .ok (.i2c, 1) := by decide +kernel
theorem d_Law_law_119 : decode c_Law_law 119 = .ok (.invokevirtual 13, 3) := by decide +kernel
theorem d_Law_law_122 : decode c_Law_law 122 = .ok (.aload_n 2, 1) := by decide +kernel
theorem d_Law_law_123 : decode c_Law_law 123 = .ok (.aload_n 0, 1) := by decide +kernel
theorem d_Law_law_124 : decode c_Law_law 124 = .ok (.iload_n 3, 1) := by decide +kernel
theorem d_Law_law_125 : decode c_Law_law 125 = .ok (.iconst 1, 1) := by decide +kernel
theorem d_Law_law_126 : decode c_Law_law 126 = .ok (.iadd, 1) := by decide +kernel
theorem d_Law_law_127 : decode c_Law_law 127 = .ok (.iaload, 1) := by decide +kernel
theorem d_Law_law_128 : decode c_Law_law 128 = .ok (.i2c, 1) := by decide +kernel
theorem d_Law_law_129 : decode c_Law_law 129 = .ok (.invokevirtual 17, 3) := by decide +kernel
theorem d_Law_law_132 : decode c_Law_law 132 = .ok (.if_icmp .eq (400), 3) := by decide +kernel
theorem d_Law_law_135 : decode c_Law_law 135 = .ok (.iconst 0, 1) := by decide +kernel
theorem d_Law_law_136 : decode c_Law_law 136 = .ok (.ireturn, 1) := by decide +kernel
theorem d_Law_law_137 : decode c_Law_law 137 = .ok (.aload_n 1, 1) := by decide +kernel
theorem d_Law_law_138 : decode c_Law_law 138 = .ok (.invokevirtual 18, 3) := by decide +kernel
theorem d_Law_law_141 : decode c_Law_law 141 = .ok (.aload_n 2, 1) := by decide +kernel
theorem d_Law_law_142 : decode c_Law_law 142 = .ok (.invokevirtual 21, 3) := by decide +kernel
theorem d_Law_law_145 : decode c_Law_law 145 = .ok (.goto (387), 3) := by decide +kernel
theorem d_Law_law_148 : decode c_Law_law 148 = .ok (.aload_n 1, 1) := by decide +kernel
theorem d_Law_law_149 : decode c_Law_law 149 = .ok (.aload_n 0, 1) := by decide +kernel
theorem d_Law_law_150 : decode c_Law_law 150 = .ok (.iload_n 3, 1) := by decide +kernel
theorem d_Law_law_151 : decode c_Law_law 151 = .ok (.iconst 1, 1) := by decide +kernel
theorem d_Law_law_152 : decode c_Law_law 152 = .ok (.iadd, 1) := by decide +kernel
theorem d_Law_law_153 : decode c_Law_law 153 = .ok (.iaload, 1) := by decide +kernel
theorem d_Law_law_154 : decode c_Law_law 154 = .ok (.ifCond .eq (7), 3) := by decide +kernel
theorem d_Law_law_157 : decode c_Law_law 157 = .ok (.iconst 1, 1) := by decide +kernel
theorem d_Law_law_158 : decode c_Law_law 158 = .ok (.goto (4), 3) := by decide +kernel
theorem d_Law_law_161 : decode c_Law_law 161 = .ok (.iconst 0, 1) := by decide +kernel
theorem d_Law_law_162 : decode c_Law_law 162 = .ok (.invokevirtual 22, 3) := by decide +kernel
theorem d_Law_law_165 : decode c_Law_law 165 = .ok (.aload_n 2, 1) := by decide +kernel
theorem d_Law_law_166 : decode c_Law_law 166 = .ok (.aload_n 0, 1) := by decide +kernel
theorem d_Law_law_167 : decode c_Law_law 167 = .ok (.iload_n 3, 1) := by decide +kernel
theorem d_Law_law_168 : decode c_Law_law 168 = .ok (.iconst 1, 1) := by decide +kernel
theorem d_Law_law_169 : decode c_Law_law 169 = .ok (.iadd, 1) := by decide +kernel
theorem d_Law_law_170 : decode c_Law_law 170 = .ok (.iaload, 1) := by decide +kernel
theorem d_Law_law_171 : decode c_Law_law 171 = .ok (.ifCond .eq (7), 3) := by decide +kernel
theorem d_Law_law_174 : decode c_Law_law 174 = .ok (.iconst 1, 1) := by decide +kernel
theorem d_Law_law_175 : decode c_Law_law 175 = .ok (.goto (4), 3) := by decide +kernel
theorem d_Law_law_178 : decode c_Law_law 178 = .ok (.iconst 0, 1) := by decide +kernel
theorem d_Law_law_179 : decode c_Law_law 179 = .ok (.invokevirtual 26, 3) := by decide +kernel
theorem d_Law_law_182 : decode c_Law_law 182 = .ok (.if_icmp .eq (350), 3) := by decide +kernel
theorem d_Law_law_185 : decode c_Law_law 185 = .ok (.iconst 0, 1) := by decide +kernel
theorem d_Law_law_186 : decode c_Law_law 186 = .ok (.ireturn, 1) := by decide +kernel
theorem d_Law_law_187 : decode c_Law_law 187 = .ok (.aload_n 1, 1) := by decide +kernel
theorem d_Law_law_188 : decode c_Law_law 188 = .ok (.invokevirtual 27, 3) := by decide +kernel
theorem d_Law_law_191 : decode c_Law_law 191 = .ok (.aload_n 2, 1) := by decide +kernel
theorem d_Law_law_192 : decode c_Law_law 192 = .ok (.invokevirtual 31, 3) := by decide +kernel
theorem d_Law_law_195 : decode c_Law_law 195 = .ok (.if_icmp .eq (337), 3) := by decide +kernel
theorem d_Law_law_198 : decode c_Law_law 198 = .ok (.iconst 0, 1) := by decide +kernel
theorem d_Law_law_199 : decode c_Law_law 199 = .ok (.ireturn, 1) := by decide +kernel
theorem d_Law_law_200 : decode c_Law_law 200 = .ok (.aload_n 1, 1) := by decide +kernel
theorem d_Law_law_201 : decode c_Law_law 201 = .ok (.aload_n 0, 1) := by decide +kernel
theorem d_Law_law_202 : decode c_Law_law 202 = .ok (.iload_n 3, 1) := by decide +kernel
theorem d_Law_law_203 : decode c_Law_law 203 = .ok (.iconst 1, 1) := by decide +kernel
theorem d_Law_law_204 : decode c_Law_law 204 = .ok (.iadd, 1) := by decide +kernel
theorem d_Law_law_205 : decode c_Law_law 205 = .ok (.iaload, 1) := by decide +kernel
theorem d_Law_law_206 : decode c_Law_law 206 = .ok (.ifCond .eq (7), 3) := by decide +kernel
theorem d_Law_law_209 : decode c_Law_law 209 = .ok (.iconst 1, 1) := by decide +kernel
theorem d_Law_law_210 : decode c_Law_law 210 = .ok (.goto (4), 3) := by decide +kernel
theorem d_Law_law_213 : decode c_Law_law 213 = .ok (.iconst 0, 1) := by decide +kernel
theorem d_Law_law_214 : decode c_Law_law 214 = .ok (.invokevirtual 32, 3) := by decide +kernel
theorem d_Law_law_217 : decode c_Law_law 217 = .ok (.aload_n 2, 1) := by decide +kernel
theorem d_Law_law_218 : decode c_Law_law 218 = .ok (.aload_n 0, 1) := by decide +kernel
theorem d_Law_law_219 : decode c_Law_law 219 = .ok (.iload_n 3, 1) := by decide +kernel
theorem d_Law_law_220 : decode c_Law_law 220 = .ok (.iconst 1, 1) := by decide +kernel
theorem d_Law_law_221 : decode c_Law_law 221 = .ok (.iadd, 1) := by decide +kernel
theorem d_Law_law_222 : decode c_Law_law 222 = .ok (.iaload, 1) := by decide +kernel
theorem d_Law_law_223 : decode c_Law_law 223 = .ok (.ifCond .eq (7), 3) := by decide +kernel
theorem d_Law_law_226 : decode c_Law_law 226 = .ok (.iconst 1, 1) := by decide +kernel
theorem d_Law_law_227 : decode c_Law_law 227 = .ok (.goto (4), 3) := by decide +kernel
theorem d_Law_law_230 : decode c_Law_law 230 = .ok (.iconst 0, 1) := by decide +kernel
theorem d_Law_law_231 : decode c_Law_law 231 = .ok (.invokevirtual 35, 3) := by decide +kernel
theorem d_Law_law_234 : decode c_Law_law 234 = .ok (.if_icmp .eq (298), 3) := by decide +kernel
theorem d_Law_law_237 : decode c_Law_law 237 = .ok (.iconst 0, 1) := by decide +kernel
theorem d_Law_law_238 : decode c_Law_law 238 = .ok (.ireturn, 1) := by decide +kernel
theorem d_Law_law_239 : decode c_Law_law 239 = .ok (.aload_n 1, 1) := by decide +kernel
theorem d_Law_law_240 : decode c_Law_law 240 = .ok (.aload_n 0, 1) := by decide +kernel
theorem d_Law_law_241 : decode c_Law_law 241 = .ok (.iload_n 3, 1) := by decide +kernel
theorem d_Law_law_242 : decode c_Law_law 242 = .ok (.iconst 1, 1) := by decide +kernel
theorem d_Law_law_243 : decode c_Law_law 243 = .ok (.iadd, 1) := by decide +kernel
theorem d_Law_law_244 : decode c_Law_law 244 = .ok (.iaload, 1) := by decide +kernel
theorem d_Law_law_245 : decode c_Law_law 245 = .ok (.aload_n 0, 1) := by decide +kernel
theorem d_Law_law_246 : decode c_Law_law 246 = .ok (.iload_n 3, 1) := by decide +kernel
theorem d_Law_law_247 : decode c_Law_law 247 = .ok (.iconst 2, 1) := by decide +kernel
theorem d_Law_law_248 : decode c_Law_law 248 = .ok (.iadd, 1) := by decide +kernel
theorem d_Law_law_249 : decode c_Law_law 249 = .ok (.iaload, 1) := by decide +kernel
theorem d_Law_law_250 : decode c_Law_law 250 = .ok (.invokevirtual 36, 3) := by decide +kernel
theorem d_Law_law_253 : decode c_Law_law 253 = .ok (.aload_n 2, 1) := by decide +kernel
theorem d_Law_law_254 : decode c_Law_law 254 = .ok (.aload_n 0, 1) := by decide +kernel
theorem d_Law_law_255 : decode c_Law_law 255 = .ok (.iload_n 3, 1) := by decide +kernel
theorem d_Law_law_256 : decode c_Law_law 256 = .ok (.iconst 1, 1) := by decide +kernel
theorem d_Law_law_257 : decode c_Law_law 257 = .ok (.iadd, 1) := by decide +kernel
theorem d_Law_law_258 : decode c_Law_law 258 = .ok (.iaload, 1) := by decide +kernel
theorem d_Law_law_259 : decode c_Law_law 259 = .ok (.aload_n 0, 1) := by decide +kernel
theorem d_Law_law_260 : decode c_Law_law 260 = .ok (.iload_n 3, 1) := by decide +kernel
theorem d_Law_law_261 : decode c_Law_law 261 = .ok (.iconst 2, 1) := by decide +kernel
theorem d_Law_law_262 : decode c_Law_law 262 = .ok (.iadd, 1) := by decide +kernel
theorem d_Law_law_263 : decode c_Law_law 263 = .ok (.iaload, 1) := by decide +kernel
theorem d_Law_law_264 : decode c_Law_law 264 = .ok (.invokevirtual 40, 3) := by decide +kernel
theorem d_Law_law_267 : decode c_Law_law 267 = .ok (.if_icmp .eq (265), 3) := by decide +kernel
theorem d_Law_law_270 : decode c_Law_law 270 = .ok (.iconst 0, 1) := by decide +kernel
theorem d_Law_law_271 : decode c_Law_law 271 = .ok (.ireturn, 1) := by decide +kernel
theorem d_Law_law_272 : decode c_Law_law 272 = .ok (.aload_n 1, 1) := by decide +kernel
theorem d_Law_law_273 : decode c_Law_law 273 = .ok (.aload_n 0, 1) := by decide +kernel
theorem d_Law_law_274 : decode c_Law_law 274 = .ok (.iload_n 3, 1) := by decide +kernel
theorem d_Law_law_275 : decode c_Law_law 275 = .ok (.iconst 1, 1) := by decide +kernel
theorem d_Law_law_276 : decode c_Law_law 276 = .ok (.iadd, 1) := by decide +kernel
theorem d_Law_law_277 : decode c_Law_law 277 = .ok (.iaload, 1) := by decide +kernel
theorem d_Law_law_278 : decode c_Law_law 278 = .ok (.invokevirtual 41, 3) := by decide +kernel
theorem d_Law_law_281 : decode c_Law_law 281 = .ok (.aload_n 2, 1) := by decide +kernel
theorem d_Law_law_282 : decode c_Law_law 282 = .ok (.aload_n 0, 1) := by decide +kernel
theorem d_Law_law_283 : decode c_Law_law 283 = .ok (.iload_n 3, 1) := by decide +kernel
theorem d_Law_law_284 : decode c_Law_law 284 = .ok (.iconst 1, 1) := by decide +kernel
theorem d_Law_law_285 : decode c_Law_law 285 = .ok (.iadd, 1) := by decide +kernel
theorem d_Law_law_286 : decode c_Law_law 286 = .ok (.iaload, 1) := by decide +kernel
theorem d_Law_law_287 : decode c_Law_law 287 = .ok (.invokevirtual 45, 3) := by decide +kernel
theorem d_Law_law_290 : decode c_Law_law 290 = .ok (.if_icmp .eq (242), 3) := by decide +kernel
theorem d_Law_law_293 : decode c_Law_law 293 = .ok (.iconst 0, 1) := by decide +kernel
theorem d_Law_law_294 : decode c_Law_law 294 = .ok (.ireturn, 1) := by decide +kernel
theorem d_Law_law_295 : decode c_Law_law 295 = .ok (.aload_n 1, 1) := by decide +kernel
theorem d_Law_law_296 : decode c_Law_law 296 = .ok (.invokevirtual 46, 3) := by decide +kernel
theorem d_Law_law_299 : decode c_Law_law 299 = .ok (.aload_n 2, 1) := by decide +kernel
theorem d_Law_law_300 : decode c_Law_law 300 = .ok (.invokevirtual 49, 3) := by decide +kernel
theorem d_Law_law_303 : decode c_Law_law 303 = .ok (.if_icmp .eq (229), 3) := by decide +kernel
theorem d_Law_law_306 : decode c_Law_law 306 = .ok (.iconst 0, 1) := by decide +kernel
theorem d_Law_law_307 : decode c_Law_law 307 = .ok (.ireturn, 1) := by decide +kernel
theorem d_Law_law_308 : decode c_Law_law 308 = .ok (.aload_n 1, 1) := by decide +kernel
theorem d_Law_law_309 : decode c_Law_law 309 = .ok (.aload_n 0, 1) := by decide +kernel
theorem d_Law_law_310 : decode c_Law_law 310 = .ok (.iload_n 3, 1) := by decide +kernel
theorem d_Law_law_311 : decode c_Law_law 311 = .ok (.iconst 1, 1) := by decide +kernel
theorem d_Law_law_312 : decode c_Law_law 312 = .ok (.iadd, 1) := by decide +kernel
theorem d_Law_law_313 : decode c_Law_law 313 = .ok (.iaload, 1) := by decide +kernel
theorem d_Law_law_314 : decode c_Law_law 314 = .ok (.invokevirtual 50, 3) := by decide +kernel
theorem d_Law_law_317 : decode c_Law_law 317 = .ok (.aload_n 2, 1) := by decide +kernel
theorem d_Law_law_318 : decode c_Law_law 318 = .ok (.aload_n 0, 1) := by decide +kernel
theorem d_Law_law_319 : decode c_Law_law 319 = .ok (.iload_n 3, 1) := by decide +kernel
theorem d_Law_law_320 : decode c_Law_law 320 = .ok (.iconst 1, 1) := by decide +kernel
theorem d_Law_law_321 : decode c_Law_law 321 = .ok (.iadd, 1) := by decide +kernel
theorem d_Law_law_322 : decode c_Law_law 322 = .ok (.iaload, 1) := by decide +kernel
theorem d_Law_law_323 : decode c_Law_law 323 = .ok (.invokevirtual 54, 3) := by decide +kernel
theorem d_Law_law_326 : decode c_Law_law 326 = .ok (.if_icmp .eq (206), 3) := by decide +kernel
theorem d_Law_law_329 : decode c_Law_law 329 = .ok (.iconst 0, 1) := by decide +kernel
theorem d_Law_law_330 : decode c_Law_law 330 = .ok (.ireturn, 1) := by decide +kernel
theorem d_Law_law_331 : decode c_Law_law 331 = .ok (.aload_n 1, 1) := by decide +kernel
theorem d_Law_law_332 : decode c_Law_law 332 = .ok (.aload_n 0, 1) := by decide +kernel
theorem d_Law_law_333 : decode c_Law_law 333 = .ok (.iload_n 3, 1) := by decide +kernel
theorem d_Law_law_334 : decode c_Law_law 334 = .ok (.iconst 1, 1) := by decide +kernel
theorem d_Law_law_335 : decode c_Law_law 335 = .ok (.iadd, 1) := by decide +kernel
theorem d_Law_law_336 : decode c_Law_law 336 = .ok (.iaload, 1) := by decide +kernel
theorem d_Law_law_337 : decode c_Law_law 337 = .ok (.aload_n 0, 1) := by decide +kernel
theorem d_Law_law_338 : decode c_Law_law 338 = .ok (.iload_n 3, 1) := by decide +kernel
theorem d_Law_law_339 : decode c_Law_law 339 = .ok (.iconst 2, 1) := by decide +kernel
theorem d_Law_law_340 : decode c_Law_law 340 = .ok (.iadd, 1) := by decide +kernel
theorem d_Law_law_341 : decode c_Law_law 341 = .ok (.iaload, 1) := by decide +kernel
theorem d_Law_law_342 : decode c_Law_law 342 = .ok (.invokevirtual 55, 3) := by decide +kernel
theorem d_Law_law_345 : decode c_Law_law 345 = .ok (.aload_n 2, 1) := by decide +kernel
theorem d_Law_law_346 : decode c_Law_law 346 = .ok (.aload_n 0, 1) := by decide +kernel
theorem d_Law_law_347 : decode c_Law_law 347 = .ok (.iload_n 3, 1) := by decide +kernel
theorem d_Law_law_348 : decode c_Law_law 348 = .ok (.iconst 1, 1) := by decide +kernel
theorem d_Law_law_349 : decode c_Law_law 349 = .ok (.iadd, 1) := by decide +kernel
theorem d_Law_law_350 : decode c_Law_law 350 = .ok (.iaload, 1) := by decide +kernel
theorem d_Law_law_351 : decode c_Law_law 351 = .ok (.aload_n 0, 1) := by decide +kernel
theorem d_Law_law_352 : decode c_Law_law 352 = .ok (.iload_n 3, 1) := by decide +kernel
theorem d_Law_law_353 : decode c_Law_law 353 = .ok (.iconst 2, 1) := by decide +kernel
theorem d_Law_law_354 : decode c_Law_law 354 = .ok (.iadd, 1) := by decide +kernel
theorem d_Law_law_355 : decode c_Law_law 355 = .ok (.iaload, 1) := by decide +kernel
theorem d_Law_law_356 : decode c_Law_law 356 = .ok (.invokevirtual 59, 3) := by decide +kernel
theorem d_Law_law_359 : decode c_Law_law 359 = .ok (.if_icmp .eq (173), 3) := by decide +kernel
theorem d_Law_law_362 : decode c_Law_law 362 = .ok (.iconst 0, 1) := by decide +kernel
theorem d_Law_law_363 : decode c_Law_law 363 = .ok (.ireturn, 1) := by decide +kernel
theorem d_Law_law_364 : decode c_Law_law 364 = .ok (.aload_n 1, 1) := by decide +kernel
theorem d_Law_law_365 : decode c_Law_law 365 = .ok (.aload_n 0, 1) := by decide +kernel
theorem d_Law_law_366 : decode c_Law_law 366 = .ok (.iload_n 3, 1) := by decide +kernel
theorem d_Law_law_367 : decode c_Law_law 367 = .ok (.iconst 1, 1) := by decide +kernel
theorem d_Law_law_368 : decode c_Law_law 368 = .ok (.iadd, 1) := by decide +kernel
theorem d_Law_law_369 : decode c_Law_law 369 = .ok (.iaload, 1) := by decide +kernel
theorem d_Law_law_370 : decode c_Law_law 370 = .ok (.invokevirtual 60, 3) := by decide +kernel
theorem d_Law_law_373 : decode c_Law_law 373 = .ok (.aload_n 2, 1) := by decide +kernel
theorem d_Law_law_374 : decode c_Law_law 374 = .ok (.aload_n 0, 1) := by decide +kernel
theorem d_Law_law_375 : decode c_Law_law 375 = .ok (.iload_n 3, 1) := by decide +kernel
theorem d_Law_law_376 : decode c_Law_law 376 = .ok (.iconst 1, 1) := by decide +kernel
theorem d_Law_law_377 : decode c_Law_law 377 = .ok (.iadd, 1) := by decide +kernel
theorem d_Law_law_378 : decode c_Law_law 378 = .ok (.iaload, 1) := by decide +kernel
theorem d_Law_law_379 : decode c_Law_law 379 = .ok (.invokevirtual 64, 3) := by decide +kernel
theorem d_Law_law_382 : decode c_Law_law 382 = .ok (.if_icmp .eq (150), 3) := by decide +kernel
theorem d_Law_law_385 : decode c_Law_law 385 = .ok (.iconst 0, 1) := by decide +kernel
theorem d_Law_law_386 : decode c_Law_law 386 = .ok (.ireturn, 1) := by decide +kernel
theorem d_Law_law_387 : decode c_Law_law 387 = .ok (.aload_n 1, 1) := by decide +kernel
theorem d_Law_law_388 : decode c_Law_law 388 = .ok (.aload_n 0, 1) := by decide +kernel
theorem d_Law_law_389 : decode c_Law_law 389 = .ok (.iload_n 3, 1) := by decide +kernel
theorem d_Law_law_390 : decode c_Law_law 390 = .ok (.iconst 1, 1) := by decide +kernel
theorem d_Law_law_391 : decode c_Law_law 391 = .ok (.iadd, 1) := by decide +kernel
theorem d_Law_law_392 : decode c_Law_law 392 = .ok (.iaload, 1) := by decide +kernel
theorem d_Law_law_393 : decode c_Law_law 393 = .ok (.aload_n 0, 1) := by decide +kernel
theorem d_Law_law_394 : decode c_Law_law 394 = .ok (.iload_n 3, 1) := by decide +kernel
theorem d_Law_law_395 : decode c_Law_law 395 = .ok (.iconst 2, 1) := by decide +kernel
theorem d_Law_law_396 : decode c_Law_law 396 = .ok (.iadd, 1) := by decide +kernel
theorem d_Law_law_397 : decode c_Law_law 397 = .ok (.iaload, 1) := by decide +kernel
theorem d_Law_law_398 : decode c_Law_law 398 = .ok (.invokevirtual 65, 3) := by decide +kernel
theorem d_Law_law_401 : decode c_Law_law 401 = .ok (.aload_n 2, 1) := by decide +kernel
theorem d_Law_law_402 : decode c_Law_law 402 = .ok (.aload_n 0, 1) := by decide +kernel
theorem d_Law_law_403 : decode c_Law_law 403 = .ok (.iload_n 3, 1) := by decide +kernel
theorem d_Law_law_404 : decode c_Law_law 404 = .ok (.iconst 1, 1) := by decide +kernel
theorem d_Law_law_405 : decode c_Law_law 405 = .ok (.iadd, 1) := by decide +kernel
theorem d_Law_law_406 : decode c_Law_law 406 = .ok (.iaload, 1) := by decide +kernel
theorem d_Law_law_407 : decode c_Law_law 407 = .ok (.aload_n 0, 1) := by decide +kernel
theorem d_Law_law_408 : decode c_Law_law 408 = .ok (.iload_n 3, 1) := by decide +kernel
theorem d_Law_law_409 : decode c_Law_law 409 = .ok (.iconst 2, 1) := by decide +kernel
theorem d_Law_law_410 : decode c_Law_law 410 = .ok (.iadd, 1) := by decide +kernel
theorem d_Law_law_411 : decode c_Law_law 411 = .ok (.iaload, 1) := by decide +kernel
theorem d_Law_law_412 : decode c_Law_law 412 = .ok (.invokevirtual 68, 3) := by decide +kernel
theorem d_Law_law_415 : decode c_Law_law 415 = .ok (.if_icmp .eq (117), 3) := by decide +kernel
theorem d_Law_law_418 : decode c_Law_law 418 = .ok (.iconst 0, 1) := by decide +kernel
theorem d_Law_law_419 : decode c_Law_law 419 = .ok (.ireturn, 1) := by decide +kernel
theorem d_Law_law_420 : decode c_Law_law 420 = .ok (.aload_n 1, 1) := by decide +kernel
theorem d_Law_law_421 : decode c_Law_law 421 = .ok (.aload_n 0, 1) := by decide +kernel
theorem d_Law_law_422 : decode c_Law_law 422 = .ok (.iload_n 3, 1) := by decide +kernel
theorem d_Law_law_423 : decode c_Law_law 423 = .ok (.iconst 1, 1) := by decide +kernel
theorem d_Law_law_424 : decode c_Law_law 424 = .ok (.iadd, 1) := by decide +kernel
theorem d_Law_law_425 : decode c_Law_law 425 = .ok (.iaload, 1) := by decide +kernel
theorem d_Law_law_426 : decode c_Law_law 426 = .ok (.invokevirtual 69, 3) := by decide +kernel
theorem d_Law_law_429 : decode c_Law_law 429 = .ok (.aload_n 2, 1) := by decide +kernel
theorem d_Law_law_430 : decode c_Law_law 430 = .ok (.aload_n 0, 1) := by decide +kernel
theorem d_Law_law_431 : decode c_Law_law 431 = .ok (.iload_n 3, 1) := by decide +kernel
theorem d_Law_law_432 : decode c_Law_law 432 = .ok (.iconst 1, 1) := by decide +kernel
theorem d_Law_law_433 : decode c_Law_law 433 = .ok (.iadd, 1) := by decide +kernel
theorem d_Law_law_434 : decode c_Law_law 434 = .ok (.iaload, 1) := by decide +kernel
theorem d_Law_law_435 : decode c_Law_law 435 = .ok (.invokevirtual 72, 3) := by decide +kernel
theorem d_Law_law_438 : decode c_Law_law 438 = .ok (.if_icmp .eq (94), 3) := by decide +kernel
theorem d_Law_law_441 : decode c_Law_law 441 = .ok (.iconst 0, 1) := by decide +kernel
theorem d_Law_law_442 : decode c_Law_law 442 = .ok (.ireturn, 1) := by decide +kernel
theorem d_Law_law_443 : decode c_Law_law 443 = .ok (.aload_n 1, 1) := by decide +kernel
theorem d_Law_law_444 : decode c_Law_law 444 = .ok (.aload_n 0, 1) := by decide +kernel
theorem d_Law_law_445 : decode c_Law_law 445 = .ok (.iload_n 3, 1) := by decide +kernel
theorem d_Law_law_446 : decode c_Law_law 446 = .ok (.iconst 1, 1) := by decide +kernel
theorem d_Law_law_447 : decode c_Law_law 447 = .ok (.iadd, 1) := by decide +kernel
theorem d_Law_law_448 : decode c_Law_law 448 = .ok (.iaload, 1) := by decide +kernel
theorem d_Law_law_449 : decode c_Law_law 449 = .ok (.aload_n 0, 1) := by decide +kernel
theorem d_Law_law_450 : decode c_Law_law 450 = .ok (.iload_n 3, 1) := by decide +kernel
theorem d_Law_law_451 : decode c_Law_law 451 = .ok (.iconst 2, 1) := by decide +kernel
theorem d_Law_law_452 : decode c_Law_law 452 = .ok (.iadd, 1) := by decide +kernel
theorem d_Law_law_453 : decode c_Law_law 453 = .ok (.iaload, 1) := by decide +kernel
theorem d_Law_law_454 : decode c_Law_law 454 = .ok (.aload_n 0, 1) := by decide +kernel
theorem d_Law_law_455 : decode c_Law_law 455 = .ok (.iload_n 3, 1) := by decide +kernel
theorem d_Law_law_456 : decode c_Law_law 456 = .ok (.iconst 3, 1) := by decide +kernel
theorem d_Law_law_457 : decode c_Law_law 457 = .ok (.iadd, 1) := by decide +kernel
theorem d_Law_law_458 : decode c_Law_law 458 = .ok (.iaload, 1) := by decide +kernel
theorem d_Law_law_459 : decode c_Law_law 459 = .ok (.invokevirtual 73, 3) := by decide +kernel
theorem d_Law_law_462 : decode c_Law_law 462 = .ok (.aload_n 2, 1) := by decide +kernel
theorem d_Law_law_463 : decode c_Law_law 463 = .ok (.aload_n 0, 1) := by decide +kernel
theorem d_Law_law_464 : decode c_Law_law 464 = .ok (.iload_n 3, 1) := by decide +kernel
theorem d_Law_law_465 : decode c_Law_law 465 = .ok (.iconst 1, 1) := by decide +kernel
theorem d_Law_law_466 : decode c_Law_law 466 = .ok (.iadd, 1) := by decide +kernel
theorem d_Law_law_467 : decode c_Law_law 467 = .ok (.iaload, 1) := by decide +kernel
theorem d_Law_law_468 : decode c_Law_law 468 = .ok (.aload_n 0, 1) := by decide +kernel
theorem d_Law_law_469 : decode c_Law_law 469 = .ok (.iload_n 3, 1) := by decide +kernel
theorem d_Law_law_470 : decode c_Law_law 470 = .ok (.iconst 2, 1) := by decide +kernel
theorem d_Law_law_471 : decode c_Law_law 471 = .ok (.iadd, 1) := by decide +kernel
theorem d_Law_law_472 : decode c_Law_law 472 = .ok (.iaload, 1) := by decide +kernel
theorem d_Law_law_473 : decode c_Law_law 473 = .ok (.aload_n 0, 1) := by decide +kernel
theorem d_Law_law_474 : decode c_Law_law 474 = .ok (.iload_n 3, 1) := by decide +kernel
theorem d_Law_law_475 : decode c_Law_law 475 = .ok (.iconst 3, 1) := by decide +kernel
theorem d_Law_law_476 : decode c_Law_law 476 = .ok (.iadd, 1) := by decide +kernel
theorem d_Law_law_477 : decode c_Law_law 477 = .ok (.iaload, 1) := by decide +kernel
theorem d_Law_law_478 : decode c_Law_law 478 = .ok (.invokevirtual 77, 3) := by decide +kernel
theorem d_Law_law_481 : decode c_Law_law 481 = .ok (.if_icmp .eq (51), 3) := by decide +kernel
theorem d_Law_law_484 : decode c_Law_law 484 = .ok (.iconst 0, 1) := by decide +kernel
theorem d_Law_law_485 : decode c_Law_law 485 = .ok (.ireturn, 1) := by decide +kernel
theorem d_Law_law_486 : decode c_Law_law 486 = .ok (.aload_n 1, 1) := by decide +kernel
theorem d_Law_law_487 : decode c_Law_law 487 = .ok (.aload_n 0, 1) := by decide +kernel
theorem d_Law_law_488 : decode c_Law_law 488 = .ok (.iload_n 3, 1) := by decide +kernel
theorem d_Law_law_489 : decode c_Law_law 489 = .ok (.iconst 1, 1) := by decide +kernel
theorem d_Law_law_490 : decode c_Law_law 490 = .ok (.iadd, 1) := by decide +kernel
theorem d_Law_law_491 : decode c_Law_law 491 = .ok (.iaload, 1) := by decide +kernel
theorem d_Law_law_492 : decode c_Law_law 492 = .ok (.aload_n 0, 1) := by decide +kernel
theorem d_Law_law_493 : decode c_Law_law 493 = .ok (.iload_n 3, 1) := by decide +kernel
theorem d_Law_law_494 : decode c_Law_law 494 = .ok (.iconst 2, 1) := by decide +kernel
theorem d_Law_law_495 : decode c_Law_law 495 = .ok (.iadd, 1) := by decide +kernel
theorem d_Law_law_496 : decode c_Law_law 496 = .ok (.iaload, 1) := by decide +kernel
theorem d_Law_law_497 : decode c_Law_law 497 = .ok (.invokevirtual 78, 3) := by decide +kernel
theorem d_Law_law_500 : decode c_Law_law 500 = .ok (.aload_n 2, 1) := by decide +kernel
theorem d_Law_law_501 : decode c_Law_law 501 = .ok (.aload_n 0, 1) := by decide +kernel
theorem d_Law_law_502 : decode c_Law_law 502 = .ok (.iload_n 3, 1) := by decide +kernel
theorem d_Law_law_503 : decode c_Law_law 503 = .ok (.iconst 1, 1) := by decide +kernel
theorem d_Law_law_504 : decode c_Law_law 504 = .ok (.iadd, 1) := by decide +kernel
theorem d_Law_law_505 : decode c_Law_law 505 = .ok (.iaload, 1) := by decide +kernel
theorem d_Law_law_506 : decode c_Law_law 506 = .ok (.aload_n 0, 1) := by decide +kernel
theorem d_Law_law_507 : decode c_Law_law 507 = .ok (.iload_n 3, 1) := by decide +kernel
theorem d_Law_law_508 : decode c_Law_law 508 = .ok (.iconst 2, 1) := by decide +kernel
theorem d_Law_law_509 : decode c_Law_law 509 = .ok (.iadd, 1) := by decide +kernel
theorem d_Law_law_510 : decode c_Law_law 510 = .ok (.iaload, 1) := by decide +kernel
theorem d_Law_law_511 : decode c_Law_law 511 = .ok (.invokevirtual 81, 3) := by decide +kernel
theorem d_Law_law_514 : decode c_Law_law 514 = .ok (.if_icmp .eq (18), 3) := by decide +kernel
theorem d_Law_law_517 : decode c_Law_law 517 = .ok (.iconst 0, 1) := by decide +kernel
theorem d_Law_law_518 : decode c_Law_law 518 = .ok (.ireturn, 1) := by decide +kernel
theorem d_Law_law_519 : decode c_Law_law 519 = .ok (.aload_n 1, 1) := by decide +kernel
theorem d_Law_law_520 : decode c_Law_law 520 = .ok (.invokevirtual 82, 3) := by decide +kernel
theorem d_Law_law_523 : decode c_Law_law 523 = .ok (.aload_n 2, 1) := by decide +kernel
theorem d_Law_law_524 : decode c_Law_law 524 = .ok (.invokevirtual 85, 3) := by decide +kernel
theorem d_Law_law_527 : decode c_Law_law 527 = .ok (.if_icmp .eq (5), 3) := by decide +kernel
theorem d_Law_law_530 : decode c_Law_law 530 = .ok (.iconst 0, 1) := by decide +kernel
theorem d_Law_law_531 : decode c_Law_law 531 = .ok (.ireturn, 1) := by decide +kernel
theorem d_Law_law_532 : decode c_Law_law 532 = .ok (.iinc 3 (4), 3) := by decide +kernel
theorem d_Law_law_535 : decode c_Law_law 535 = .ok (.goto (-517), 3) := by decide +kernel
theorem d_Law_law_538 : decode c_Law_law 538 = .ok (.iconst 1, 1) := by decide +kernel
theorem d_Law_law_539 : decode c_Law_law 539 = .ok (.ireturn, 1) := by decide +kernel
def sh_Law_law_532 (F : Nat) (n0 : Nat) (xs : Nat → Int32) (k18 : Nat → Nat → Int32 → im_W → Option (Unit)) (x1 : Nat) (x2 : Nat) (x3 : Int32) (w : im_W) : Option (Unit) :=
  k18 x1 x2 (x3 + (4 : Int32)) w
set_option maxHeartbeats 4000000 in
set_option maxRecDepth 100000 in
theorem bk_Law_law_532 {F : Nat} {b n0 : Nat} {xs : Nat → Int32} (hX : va_X b n0 xs s s.heap) (hbl : b < s.heap.size) (hlo : lo = s.heap.size) {r : Unit} (X : im_X D vwCl tA lo im_NW c_Law_law 4 ret RC_Law im_T p s m #[Value.ref b] meth c) {k18 : Nat → Nat → Int32 → im_W → Option (Unit)} (hk18 : ∀ (x1 : Nat) (x2 : Nat) (x3 : Int32) (w : im_W), k18 x1 x2 x3 w = some r → im_WW D vwCl tA lo 4 p l e room_1 s m #[Value.ref b] below meth c 275 3892 (lw_Z below #[Value.ref b] s) 18 [(0, .ref b), (1, .ref (lo + x1)), (2, .ref (lo + x2)), (3, .int x3)] [] w) (x1 : Nat) (x2 : Nat) (x3 : Int32) (w : im_W) (hsh : sh_Law_law_532 F n0 xs k18 x1 x2 x3 w = some r) : im_WW D vwCl tA lo 4 p l e room_1 s m #[Value.ref b] below meth c 275 3892 (lw_Z below #[Value.ref b] s) 532 [(0, .ref b), (1, .ref (lo + x1)), (2, .ref (lo + x2)), (3, .int x3)] [] w := by
  obtain ⟨hx, hb, hr, hts, hown, hlk, hml, hK, hN⟩ := id X
  have hbA : ¬ lo ≤ b := by rw [hlo]; exact Nat.not_le.mpr hbl
  intro H locs ls hH hl
  unfold sh_Law_law_532 at hsh
  refine lv_iinc (v := (x3 + (4 : Int32))) (lv' := [(3, .int (x3 + (4 : Int32))), (0, .ref b), (1, .ref (lo + x1)), (2, .ref (lo + x2))]) hx hb d_Law_law_532 hl (k := 3) rfl rfl (by decide) rfl (fun ls hl => ?_)
  refine lv_goto (tgt := 18) hx hb d_Law_law_535 (by decide) ?_
  exact hk18 x1 x2 (x3 + (4 : Int32)) w hsh H locs ls hH (lv_sub hl [1, 2, 3, 0] rfl)
def sh_Law_law_179 (F : Nat) (n0 : Nat) (xs : Nat → Int32) (k18 : Nat → Nat → Int32 → im_W → Option (Unit)) (x1 : Nat) (x2 : Nat) (x3 : Int32) (y0 : Int32) (y1 : Nat) (y2 : Int32) (w : im_W) : Option (Unit) :=
  (im_is w 9 y1).bind fun u1 => im_b2 (sh_Model_alias F y1 y0 w) fun v7 w5 => (if y2 = v7 then sh_Law_law_532 F n0 xs k18 x1 x2 x3 w5 else (none : Option Unit))
set_option maxHeartbeats 4000000 in
set_option maxRecDepth 100000 in
theorem bk_Law_law_179 {F : Nat} {b n0 : Nat} {xs : Nat → Int32} (hX : va_X b n0 xs s s.heap) (hbl : b < s.heap.size) (hlo : lo = s.heap.size) {r : Unit} (X : im_X D vwCl tA lo im_NW c_Law_law 4 ret RC_Law im_T p s m #[Value.ref b] meth c) {k18 : Nat → Nat → Int32 → im_W → Option (Unit)} (hk18 : ∀ (x1 : Nat) (x2 : Nat) (x3 : Int32) (w : im_W), k18 x1 x2 x3 w = some r → im_WW D vwCl tA lo 4 p l e room_1 s m #[Value.ref b] below meth c 275 3892 (lw_Z below #[Value.ref b] s) 18 [(0, .ref b), (1, .ref (lo + x1)), (2, .ref (lo + x2)), (3, .int x3)] [] w) (x1 : Nat) (x2 : Nat) (x3 : Int32) (y0 : Int32) (y1 : Nat) (y2 : Int32) (w : im_W) (hsh : sh_Law_law_179 F n0 xs k18 x1 x2 x3 y0 y1 y2 w = some r) : im_WW D vwCl tA lo 4 p l e room_1 s m #[Value.ref b] below meth c 275 3892 (lw_Z below #[Value.ref b] s) 179 [(0, .ref b), (1, .ref (lo + x1)), (2, .ref (lo + x2)), (3, .int x3)] [.int y0, .ref (lo + y1), .int y2] w := by
  obtain ⟨hx, hb, hr, hts, hown, hlk, hml, hK, hN⟩ := id X
  have hbA : ¬ lo ≤ b := by rw [hlo]; exact Nat.not_le.mpr hbl
  intro H locs ls hH hl
  unfold sh_Law_law_179 at hsh
  obtain ⟨u1, h2, hsh⟩ := im_bd hsh
  obtain ⟨g3, h4⟩ := im_is_s h2
  obtain ⟨v7, w5, h6, hsh⟩ := im_bd2 hsh
  refine im_afterI (va_runV (As := [.int y0]) (rest := [.int y2]) (C := RC_Model) ⟨hx, hb, hml, hown, hts⟩ (met_Model_alias h6) ⟨(callB_of 1 hts (im_good wd_787) rfl rfl rfl (hts _ wd_10) (hts _ wd_784) (by decide +kernel) ⟨Nat.le_of_ble_eq_true rfl, Nat.le_of_ble_eq_true rfl⟩), hts _ wd_785, hts _ wd_786⟩ (im_preV im_NW_ok hK hN hH (ci := 9) rfl rfl h4 _) rfl rfl hl.1 rfl (lv_room (Nat.le_of_ble_eq_true rfl)) d_Law_law_179 ⟨Nat.le_of_ble_eq_true rfl, Nat.le_of_ble_eq_true rfl⟩) hH (fun H locs hH => ?_)
  refine lv_icmp_eq (tgt := 532) hx hb d_Law_law_182 (by decide) (fun cc => ?_) (fun cc => ?_)
  · have hsh := im_it hsh cc
    exact bk_Law_law_532 hX hbl hlo X hk18 x1 x2 x3 w5 hsh H locs ls hH (lv_sub hl [0, 1, 2, 3] rfl)
  · have hsh := im_if hsh cc
    refine lv_iconst (v := 0) hx hb d_Law_law_185 (by decide) ?_
    cases hsh
def sh_Law_law_162 (F : Nat) (n0 : Nat) (xs : Nat → Int32) (k18 : Nat → Nat → Int32 → im_W → Option (Unit)) (x1 : Nat) (x2 : Nat) (x3 : Int32) (y0 : Int32) (y1 : Nat) (w : im_W) : Option (Unit) :=
  (im_is w 8 y1).bind fun u1 => im_b2 (sh_LT_alias F y1 y0 w) fun v7 w5 => (im_scr n0 xs (x3 + (1 : Int32))).bind fun e8 => (if e8 = 0 then sh_Law_law_179 F n0 xs k18 x1 x2 x3 (0 : Int32) x2 v7 w5 else sh_Law_law_179 F n0 xs k18 x1 x2 x3 (1 : Int32) x2 v7 w5)
set_option maxHeartbeats 4000000 in
set_option maxRecDepth 100000 in
theorem bk_Law_law_162 {F : Nat} {b n0 : Nat} {xs : Nat → Int32} (hX : va_X b n0 xs s s.heap) (hbl : b < s.heap.size) (hlo : lo = s.heap.size) {r : Unit} (X : im_X D vwCl tA lo im_NW c_Law_law 4 ret RC_Law im_T p s m #[Value.ref b] meth c) {k18 : Nat → Nat → Int32 → im_W → Option (Unit)} (hk18 : ∀ (x1 : Nat) (x2 : Nat) (x3 : Int32) (w : im_W), k18 x1 x2 x3 w = some r → im_WW D vwCl tA lo 4 p l e room_1 s m #[Value.ref b] below meth c 275 3892 (lw_Z below #[Value.ref b] s) 18 [(0, .ref b), (1, .ref (lo + x1)), (2, .ref (lo + x2)), (3, .int x3)] [] w) (x1 : Nat) (x2 : Nat) (x3 : Int32) (y0 : Int32) (y1 : Nat) (w : im_W) (hsh : sh_Law_law_162 F n0 xs k18 x1 x2 x3 y0 y1 w = some r) : im_WW D vwCl tA lo 4 p l e room_1 s m #[Value.ref b] below meth c 275 3892 (lw_Z below #[Value.ref b] s) 162 [(0, .ref b), (1, .ref (lo + x1)), (2, .ref (lo + x2)), (3, .int x3)] [.int y0, .ref (lo + y1)] w := by
  obtain ⟨hx, hb, hr, hts, hown, hlk, hml, hK, hN⟩ := id X
  have hbA : ¬ lo ≤ b := by rw [hlo]; exact Nat.not_le.mpr hbl
  intro H locs ls hH hl
  unfold sh_Law_law_162 at hsh
  obtain ⟨u1, h2, hsh⟩ := im_bd hsh
  obtain ⟨g3, h4⟩ := im_is_s h2
  obtain ⟨v7, w5, h6, hsh⟩ := im_bd2 hsh
  refine im_afterI (va_runV (As := [.int y0]) (rest := []) (C := RC_LT) ⟨hx, hb, hml, hown, hts⟩ (met_LT_alias h6) ⟨(callB_of 1 hts (im_good wd_257) rfl rfl rfl (hts _ wd_1) (hts _ wd_254) (by decide +kernel) ⟨Nat.le_of_ble_eq_true rfl, Nat.le_of_ble_eq_true rfl⟩), hts _ wd_255, hts _ wd_256⟩ (im_preV im_NW_ok hK hN hH (ci := 8) rfl rfl h4 _) rfl rfl hl.1 rfl (lv_room (Nat.le_of_ble_eq_true rfl)) d_Law_law_162 ⟨Nat.le_of_ble_eq_true rfl, Nat.le_of_ble_eq_true rfl⟩) hH (fun H locs hH => ?_)
  refine lv_aload_n hx hb d_Law_law_165 rfl (lv_at hl 2 rfl) ?_
  refine lv_aload_n hx hb d_Law_law_166 rfl (lv_at hl 0 rfl) ?_
  refine lv_iload_n hx hb d_Law_law_167 rfl (lv_at hl 3 rfl) ?_
  refine lv_iconst (v := 1) hx hb d_Law_law_168 (by decide) ?_
  refine lv_iadd hx hb d_Law_law_169 ?_
  obtain ⟨e8, h9, hsh⟩ := im_bd hsh
  refine im_sld hx hb hX hbl hbA hH h9 d_Law_law_170 ?_
  refine lv_if_eq (tgt := 178) hx hb d_Law_law_171 (by decide) (fun cc => ?_) (fun cc => ?_)
  · have hsh := im_it hsh cc
    refine lv_iconst (v := 0) hx hb d_Law_law_178 (by decide) ?_
    exact bk_Law_law_179 hX hbl hlo X hk18 x1 x2 x3 (0 : Int32) x2 v7 w5 hsh H locs ls hH (lv_sub hl [0, 1, 2, 3] rfl)
  · have hsh := im_if hsh cc
    refine lv_iconst (v := 1) hx hb d_Law_law_174 (by decide) ?_
    refine lv_goto (tgt := 179) hx hb d_Law_law_175 (by decide) ?_
    exact bk_Law_law_179 hX hbl hlo X hk18 x1 x2 x3 (1 : Int32) x2 v7 w5 hsh H locs ls hH (lv_sub hl [0, 1, 2, 3] rfl)
def sh_Law_law_231 (F : Nat) (n0 : Nat) (xs : Nat → Int32) (k18 : Nat → Nat → Int32 → im_W → Option (Unit)) (x1 : Nat) (x2 : Nat) (x3 : Int32) (y0 : Int32) (y1 : Nat) (y2 : Int32) (w : im_W) : Option (Unit) :=
  (im_is w 9 y1).bind fun u1 => im_b2 (sh_Model_pair F y1 y0 w) fun v7 w5 => (if y2 = v7 then sh_Law_law_532 F n0 xs k18 x1 x2 x3 w5 else (none : Option Unit))
set_option maxHeartbeats 4000000 in
set_option maxRecDepth 100000 in
theorem bk_Law_law_231 {F : Nat} {b n0 : Nat} {xs : Nat → Int32} (hX : va_X b n0 xs s s.heap) (hbl : b < s.heap.size) (hlo : lo = s.heap.size) {r : Unit} (X : im_X D vwCl tA lo im_NW c_Law_law 4 ret RC_Law im_T p s m #[Value.ref b] meth c) {k18 : Nat → Nat → Int32 → im_W → Option (Unit)} (hk18 : ∀ (x1 : Nat) (x2 : Nat) (x3 : Int32) (w : im_W), k18 x1 x2 x3 w = some r → im_WW D vwCl tA lo 4 p l e room_1 s m #[Value.ref b] below meth c 275 3892 (lw_Z below #[Value.ref b] s) 18 [(0, .ref b), (1, .ref (lo + x1)), (2, .ref (lo + x2)), (3, .int x3)] [] w) (x1 : Nat) (x2 : Nat) (x3 : Int32) (y0 : Int32) (y1 : Nat) (y2 : Int32) (w : im_W) (hsh : sh_Law_law_231 F n0 xs k18 x1 x2 x3 y0 y1 y2 w = some r) : im_WW D vwCl tA lo 4 p l e room_1 s m #[Value.ref b] below meth c 275 3892 (lw_Z below #[Value.ref b] s) 231 [(0, .ref b), (1, .ref (lo + x1)), (2, .ref (lo + x2)), (3, .int x3)] [.int y0, .ref (lo + y1), .int y2] w := by
  obtain ⟨hx, hb, hr, hts, hown, hlk, hml, hK, hN⟩ := id X
  have hbA : ¬ lo ≤ b := by rw [hlo]; exact Nat.not_le.mpr hbl
  intro H locs ls hH hl
  unfold sh_Law_law_231 at hsh
  obtain ⟨u1, h2, hsh⟩ := im_bd hsh
  obtain ⟨g3, h4⟩ := im_is_s h2
  obtain ⟨v7, w5, h6, hsh⟩ := im_bd2 hsh
  refine im_afterI (va_runV (As := [.int y0]) (rest := [.int y2]) (C := RC_Model) ⟨hx, hb, hml, hown, hts⟩ (met_Model_pair h6) ⟨(callB_of 1 hts (im_good wd_899) rfl rfl rfl (hts _ wd_10) (hts _ wd_896) (by decide +kernel) ⟨Nat.le_of_ble_eq_true rfl, Nat.le_of_ble_eq_true rfl⟩), hts _ wd_897, hts _ wd_898⟩ (im_preV im_NW_ok hK hN hH (ci := 9) rfl rfl h4 _) rfl rfl hl.1 rfl (lv_room (Nat.le_of_ble_eq_true rfl)) d_Law_law_231 ⟨Nat.le_of_ble_eq_true rfl, Nat.le_of_ble_eq_true rfl⟩) hH (fun H locs hH => ?_)
  refine lv_icmp_eq (tgt := 532) hx hb d_Law_law_234 (by decide) (fun cc => ?_) (fun cc => ?_)
  · have hsh := im_it hsh cc
    exact bk_Law_law_532 hX hbl hlo X hk18 x1 x2 x3 w5 hsh H locs ls hH (lv_sub hl [0, 1, 2, 3] rfl)
  · have hsh := im_if hsh cc
    refine lv_iconst (v := 0) hx hb d_Law_law_237 (by decide) ?_
    cases hsh
def sh_Law_law_214 (F : Nat) (n0 : Nat) (xs : Nat → Int32) (k18 : Nat → Nat → Int32 → im_W → Option (Unit)) (x1 : Nat) (x2 : Nat) (x3 : Int32) (y0 : Int32) (y1 : Nat) (w : im_W) : Option (Unit) :=
  (im_is w 8 y1).bind fun u1 => im_b2 (sh_LT_pair F y1 y0 w) fun v7 w5 => (im_scr n0 xs (x3 + (1 : Int32))).bind fun e8 => (if e8 = 0 then sh_Law_law_231 F n0 xs k18 x1 x2 x3 (0 : Int32) x2 v7 w5 else sh_Law_law_231 F n0 xs k18 x1 x2 x3 (1 : Int32) x2 v7 w5)
set_option maxHeartbeats 4000000 in
set_option maxRecDepth 100000 in
theorem bk_Law_law_214 {F : Nat} {b n0 : Nat} {xs : Nat → Int32} (hX : va_X b n0 xs s s.heap) (hbl : b < s.heap.size) (hlo : lo = s.heap.size) {r : Unit} (X : im_X D vwCl tA lo im_NW c_Law_law 4 ret RC_Law im_T p s m #[Value.ref b] meth c) {k18 : Nat → Nat → Int32 → im_W → Option (Unit)} (hk18 : ∀ (x1 : Nat) (x2 : Nat) (x3 : Int32) (w : im_W), k18 x1 x2 x3 w = some r → im_WW D vwCl tA lo 4 p l e room_1 s m #[Value.ref b] below meth c 275 3892 (lw_Z below #[Value.ref b] s) 18 [(0, .ref b), (1, .ref (lo + x1)), (2, .ref (lo + x2)), (3, .int x3)] [] w) (x1 : Nat) (x2 : Nat) (x3 : Int32) (y0 : Int32) (y1 : Nat) (w : im_W) (hsh : sh_Law_law_214 F n0 xs k18 x1 x2 x3 y0 y1 w = some r) : im_WW D vwCl tA lo 4 p l e room_1 s m #[Value.ref b] below meth c 275 3892 (lw_Z below #[Value.ref b] s) 214 [(0, .ref b), (1, .ref (lo + x1)), (2, .ref (lo + x2)), (3, .int x3)] [.int y0, .ref (lo + y1)] w := by
  obtain ⟨hx, hb, hr, hts, hown, hlk, hml, hK, hN⟩ := id X
  have hbA : ¬ lo ≤ b := by rw [hlo]; exact Nat.not_le.mpr hbl
  intro H locs ls hH hl
  unfold sh_Law_law_214 at hsh
  obtain ⟨u1, h2, hsh⟩ := im_bd hsh
  obtain ⟨g3, h4⟩ := im_is_s h2
  obtain ⟨v7, w5, h6, hsh⟩ := im_bd2 hsh
  refine im_afterI (va_runV (As := [.int y0]) (rest := []) (C := RC_LT) ⟨hx, hb, hml, hown, hts⟩ (met_LT_pair h6) ⟨(callB_of 1 hts (im_good wd_450) rfl rfl rfl (hts _ wd_1) (hts _ wd_447) (by decide +kernel) ⟨Nat.le_of_ble_eq_true rfl, Nat.le_of_ble_eq_true rfl⟩), hts _ wd_448, hts _ wd_449⟩ (im_preV im_NW_ok hK hN hH (ci := 8) rfl rfl h4 _) rfl rfl hl.1 rfl (lv_room (Nat.le_of_ble_eq_true rfl)) d_Law_law_214 ⟨Nat.le_of_ble_eq_true rfl, Nat.le_of_ble_eq_true rfl⟩) hH (fun H locs hH => ?_)
  refine lv_aload_n hx hb d_Law_law_217 rfl (lv_at hl 2 rfl) ?_
  refine lv_aload_n hx hb d_Law_law_218 rfl (lv_at hl 0 rfl) ?_
  refine lv_iload_n hx hb d_Law_law_219 rfl (lv_at hl 3 rfl) ?_
  refine lv_iconst (v := 1) hx hb d_Law_law_220 (by decide) ?_
  refine lv_iadd hx hb d_Law_law_221 ?_
  obtain ⟨e8, h9, hsh⟩ := im_bd hsh
  refine im_sld hx hb hX hbl hbA hH h9 d_Law_law_222 ?_
  refine lv_if_eq (tgt := 230) hx hb d_Law_law_223 (by decide) (fun cc => ?_) (fun cc => ?_)
  · have hsh := im_it hsh cc
    refine lv_iconst (v := 0) hx hb d_Law_law_230 (by decide) ?_
    exact bk_Law_law_231 hX hbl hlo X hk18 x1 x2 x3 (0 : Int32) x2 v7 w5 hsh H locs ls hH (lv_sub hl [0, 1, 2, 3] rfl)
  · have hsh := im_if hsh cc
    refine lv_iconst (v := 1) hx hb d_Law_law_226 (by decide) ?_
    refine lv_goto (tgt := 231) hx hb d_Law_law_227 (by decide) ?_
    exact bk_Law_law_231 hX hbl hlo X hk18 x1 x2 x3 (1 : Int32) x2 v7 w5 hsh H locs ls hH (lv_sub hl [0, 1, 2, 3] rfl)
def sh_Law_law_18 (F : Nat) (n0 : Nat) (xs : Nat → Int32) : Nat → Nat → Nat → Int32 → im_W → Option (Unit)
  | 0, _, _, _, _ => none
  | f + 1, x1, x2, x3, w => (if ((Int32.ofNat n0) - (4 : Int32)) < x3 then some () else (im_scr n0 xs x3).bind fun e1 => (if (e1 &&& (15 : Int32)) = 0 then (im_scr n0 xs (x3 + (1 : Int32))).bind fun e3 => (im_is w 8 x1).bind fun u5 => im_b2 (sh_LT_type F x1 (im_i2c e3) w) fun v11 w9 => (im_scr n0 xs (x3 + (1 : Int32))).bind fun e12 => (im_is w9 9 x2).bind fun u14 => im_b2 (sh_Model_type F x2 (im_i2c e12) w9) fun v20 w18 => (if v11 = v20 then sh_Law_law_532 F n0 xs (sh_Law_law_18 F n0 xs f) x1 x2 x3 w18 else (none : Option Unit)) else if (e1 &&& (15 : Int32)) = 1 then (im_is w 8 x1).bind fun u21 => (sh_LT_wipe F x1 w).bind fun w25 => (im_is w25 9 x2).bind fun u27 => (sh_Model_wipe F x2 w25).bind fun w31 => sh_Law_law_532 F n0 xs (sh_Law_law_18 F n0 xs f) x1 x2 x3 w31 else if (e1 &&& (15 : Int32)) = 2 then (im_scr n0 xs (x3 + (1 : Int32))).bind fun e33 => (if e33 = 0 then sh_Law_law_162 F n0 xs (sh_Law_law_18 F n0 xs f) x1 x2 x3 (0 : Int32) x1 w else sh_Law_law_162 F n0 xs (sh_Law_law_18 F n0 xs f) x1 x2 x3 (1 : Int32) x1 w) else if (e1 &&& (15 : Int32)) = 3 then (im_is w 8 x1).bind fun u35 => im_b2 (sh_LT_read F x1 w) fun v41 w39 => (im_is w39 9 x2).bind fun u42 => im_b2 (sh_Model_read F x2 w39) fun v48 w46 => (if v41 = v48 then sh_Law_law_532 F n0 xs (sh_Law_law_18 F n0 xs f) x1 x2 x3 w46 else (none : Option Unit)) else if (e1 &&& (15 : Int32)) = 4 then (im_scr n0 xs (x3 + (1 : Int32))).bind fun e49 => (if e49 = 0 then sh_Law_law_214 F n0 xs (sh_Law_law_18 F n0 xs f) x1 x2 x3 (0 : Int32) x1 w else sh_Law_law_214 F n0 xs (sh_Law_law_18 F n0 xs f) x1 x2 x3 (1 : Int32) x1 w) else if (e1 &&& (15 : Int32)) = 5 then (im_scr n0 xs (x3 + (1 : Int32))).bind fun e51 => (im_scr n0 xs (x3 + (2 : Int32))).bind fun e53 => (im_is w 8 x1).bind fun u55 => im_b2 (sh_LT_show F x1 e51 e53 w) fun v61 w59 => (im_scr n0 xs (x3 + (1 : Int32))).bind fun e62 => (im_scr n0 xs (x3 + (2 : Int32))).bind fun e64 => (im_is w59 9 x2).bind fun u66 => im_b2 (sh_Model_show F x2 e62 e64 w59) fun v72 w70 => (if v61 = v72 then sh_Law_law_532 F n0 xs (sh_Law_law_18 F n0 xs f) x1 x2 x3 w70 else (none : Option Unit)) else if (e1 &&& (15 : Int32)) = 6 then (im_scr n0 xs (x3 + (1 : Int32))).bind fun e73 => (im_is w 8 x1).bind fun u75 => im_b2 (sh_LT_shown F x1 e73 w) fun v81 w79 => (im_scr n0 xs (x3 + (1 : Int32))).bind fun e82 => (im_is w79 9 x2).bind fun u84 => im_b2 (sh_Model_shown F x2 e82 w79) fun v90 w88 => (if v81 = v90 then sh_Law_law_532 F n0 xs (sh_Law_law_18 F n0 xs f) x1 x2 x3 w88 else (none : Option Unit)) else if (e1 &&& (15 : Int32)) = 7 then (im_is w 8 x1).bind fun u91 => im_b2 (sh_LT_tags F x1 w) fun v97 w95 => (im_is w95 9 x2).bind fun u98 => im_b2 (sh_Model_tags F x2 w95) fun v104 w102 => (if v97 = v104 then sh_Law_law_532 F n0 xs (sh_Law_law_18 F n0 xs f) x1 x2 x3 w102 else (none : Option Unit)) else if (e1 &&& (15 : Int32)) = 8 then (im_scr n0 xs (x3 + (1 : Int32))).bind fun e105 => (im_is w 8 x1).bind fun u107 => im_b2 (sh_LT_support F x1 e105 w) fun v113 w111 => (im_scr n0 xs (x3 + (1 : Int32))).bind fun e114 => (im_is w111 9 x2).bind fun u116 => im_b2 (sh_Model_support F x2 e114 w111) fun v122 w120 => (if v113 = v122 then sh_Law_law_532 F n0 xs (sh_Law_law_18 F n0 xs f) x1 x2 x3 w120 else (none : Option Unit)) else if (e1 &&& (15 : Int32)) = 9 then (im_scr n0 xs (x3 + (1 : Int32))).bind fun e123 => (im_scr n0 xs (x3 + (2 : Int32))).bind fun e125 => (im_is w 8 x1).bind fun u127 => im_b2 (sh_LT_fits F x1 e123 e125 w) fun v133 w131 => (im_scr n0 xs (x3 + (1 : Int32))).bind fun e134 => (im_scr n0 xs (x3 + (2 : Int32))).bind fun e136 => (im_is w131 9 x2).bind fun u138 => im_b2 (sh_Model_fits F x2 e134 e136 w131) fun v144 w142 => (if v133 = v144 then sh_Law_law_532 F n0 xs (sh_Law_law_18 F n0 xs f) x1 x2 x3 w142 else (none : Option Unit)) else if (e1 &&& (15 : Int32)) = 10 then (im_scr n0 xs (x3 + (1 : Int32))).bind fun e145 => (im_is w 8 x1).bind fun u147 => im_b2 (sh_LT_lookup F x1 e145 w) fun v153 w151 => (im_scr n0 xs (x3 + (1 : Int32))).bind fun e154 => (im_is w151 9 x2).bind fun u156 => im_b2 (sh_Model_lookup F x2 e154 w151) fun v162 w160 => (if v153 = v162 then sh_Law_law_532 F n0 xs (sh_Law_law_18 F n0 xs f) x1 x2 x3 w160 else (none : Option Unit)) else if (e1 &&& (15 : Int32)) = 11 then (im_scr n0 xs (x3 + (1 : Int32))).bind fun e163 => (im_scr n0 xs (x3 + (2 : Int32))).bind fun e165 => (im_is w 8 x1).bind fun u167 => im_b2 (sh_LT_distance F x1 e163 e165 w) fun v173 w171 => (im_scr n0 xs (x3 + (1 : Int32))).bind fun e174 => (im_scr n0 xs (x3 + (2 : Int32))).bind fun e176 => (im_is w171 9 x2).bind fun u178 => im_b2 (sh_Model_distance F x2 e174 e176 w171) fun v184 w182 => (if v173 = v184 then sh_Law_law_532 F n0 xs (sh_Law_law_18 F n0 xs f) x1 x2 x3 w182 else (none : Option Unit)) else if (e1 &&& (15 : Int32)) = 12 then (im_scr n0 xs (x3 + (1 : Int32))).bind fun e185 => (im_is w 8 x1).bind fun u187 => im_b2 (sh_LT_best F x1 e185 w) fun v193 w191 => (im_scr n0 xs (x3 + (1 : Int32))).bind fun e194 => (im_is w191 9 x2).bind fun u196 => im_b2 (sh_Model_best F x2 e194 w191) fun v202 w200 => (if v193 = v202 then sh_Law_law_532 F n0 xs (sh_Law_law_18 F n0 xs f) x1 x2 x3 w200 else (none : Option Unit)) else if (e1 &&& (15 : Int32)) = 13 then (im_scr n0 xs (x3 + (1 : Int32))).bind fun e203 => (im_scr n0 xs (x3 + (2 : Int32))).bind fun e205 => (im_scr n0 xs (x3 + (3 : Int32))).bind fun e207 => (im_is w 8 x1).bind fun u209 => im_b2 (sh_LT_put F x1 e203 e205 e207 w) fun v215 w213 => (im_scr n0 xs (x3 + (1 : Int32))).bind fun e216 => (im_scr n0 xs (x3 + (2 : Int32))).bind fun e218 => (im_scr n0 xs (x3 + (3 : Int32))).bind fun e220 => (im_is w213 9 x2).bind fun u222 => im_b2 (sh_Model_put F x2 e216 e218 e220 w213) fun v228 w226 => (if v215 = v228 then sh_Law_law_532 F n0 xs (sh_Law_law_18 F n0 xs f) x1 x2 x3 w226 else (none : Option Unit)) else if (e1 &&& (15 : Int32)) = 14 then (im_scr n0 xs (x3 + (1 : Int32))).bind fun e229 => (im_scr n0 xs (x3 + (2 : Int32))).bind fun e231 => (im_is w 8 x1).bind fun u233 => im_b2 (sh_LT_get F x1 e229 e231 w) fun v239 w237 => (im_scr n0 xs (x3 + (1 : Int32))).bind fun e240 => (im_scr n0 xs (x3 + (2 : Int32))).bind fun e242 => (im_is w237 9 x2).bind fun u244 => im_b2 (sh_Model_get F x2 e240 e242 w237) fun v250 w248 => (if v239 = v250 then sh_Law_law_532 F n0 xs (sh_Law_law_18 F n0 xs f) x1 x2 x3 w248 else (none : Option Unit)) else if (e1 &&& (15 : Int32)) = 15 then (im_is w 8 x1).bind fun u251 => im_b2 (sh_LT_found F x1 w) fun v257 w255 => (im_is w255 9 x2).bind fun u258 => im_b2 (sh_Model_found F x2 w255) fun v264 w262 => (if v257 = v264 then sh_Law_law_532 F n0 xs (sh_Law_law_18 F n0 xs f) x1 x2 x3 w262 else (none : Option Unit)) else (none : Option Unit)))
set_option maxHeartbeats 4000000 in
set_option maxRecDepth 100000 in
theorem bk_Law_law_18 {F : Nat} {b n0 : Nat} {xs : Nat → Int32} (hX : va_X b n0 xs s s.heap) (hbl : b < s.heap.size) (hlo : lo = s.heap.size) {r : Unit} (X : im_X D vwCl tA lo im_NW c_Law_law 4 ret RC_Law im_T p s m #[Value.ref b] meth c) : ∀ (f : Nat) (x1 : Nat) (x2 : Nat) (x3 : Int32) (w : im_W), sh_Law_law_18 F n0 xs f x1 x2 x3 w = some r → im_WW D vwCl tA lo 4 p l e room_1 s m #[Value.ref b] below meth c 275 3892 (lw_Z below #[Value.ref b] s) 18 [(0, .ref b), (1, .ref (lo + x1)), (2, .ref (lo + x2)), (3, .int x3)] [] w := by
  obtain ⟨hx, hb, hr, hts, hown, hlk, hml, hK, hN⟩ := id X
  have hbA : ¬ lo ≤ b := by rw [hlo]; exact Nat.not_le.mpr hbl
  intro f
  induction f with
  | zero =>
    intro x1 x2 x3 w hsh
    cases hsh
  | succ f ih =>
    intro x1 x2 x3 w hsh H locs ls hH hl
    unfold sh_Law_law_18 at hsh
    refine lv_iload_n hx hb d_Law_law_18 rfl (lv_at hl 3 rfl) ?_
    refine lv_aload_n hx hb d_Law_law_19 rfl (lv_at hl 0 rfl) ?_
    refine im_slen hx hb hX hbl hbA hH d_Law_law_20 ?_
    refine lv_iconst (v := 4) hx hb d_Law_law_21 (by decide) ?_
    refine lv_isub hx hb d_Law_law_22 ?_
    refine lv_icmp_gt (tgt := 538) hx hb d_Law_law_23 (by decide) (fun cc => ?_) (fun cc => ?_)
    · have hsh := im_it hsh cc
      refine lv_iconst (v := 1) hx hb d_Law_law_538 (by decide) ?_
      refine va_forget (fun q hq => by rw [← hlo]; exact hH.2.2.2 q hq) ?_
      refine W.widen (k := 600000) (n := 7302250) (Nat.le_of_ble_eq_true rfl) (Nat.le_of_ble_eq_true rfl) ?_
      exact lw_ret hx hb hr hlk d_Law_law_539
    · have hsh := im_if hsh cc
      refine lv_aload_n hx hb d_Law_law_26 rfl (lv_at hl 0 rfl) ?_
      refine lv_iload_n hx hb d_Law_law_27 rfl (lv_at hl 3 rfl) ?_
      obtain ⟨e1, h2, hsh⟩ := im_bd hsh
      refine im_sld hx hb hX hbl hbA hH h2 d_Law_law_28 ?_
      refine lv_bipush (v := 15) hx hb d_Law_law_29 (by decide) ?_
      refine lv_iand hx hb d_Law_law_31 ?_
      by_cases c0 : (e1 &&& (15 : Int32)) = 0
      · have hsh := im_it hsh c0
        refine lv_tableIn (off := 80) (tgt := 112) hx hb d_Law_law_32 (by rw [c0]; decide) (by rw [c0]; decide) (by rw [c0]; decide) (by decide) ?_
        refine lv_aload_n hx hb d_Law_law_112 rfl (lv_at hl 1 rfl) ?_
        refine lv_aload_n hx hb d_Law_law_113 rfl (lv_at hl 0 rfl) ?_
        refine lv_iload_n hx hb d_Law_law_114 rfl (lv_at hl 3 rfl) ?_
        refine lv_iconst (v := 1) hx hb d_Law_law_115 (by decide) ?_
        refine lv_iadd hx hb d_Law_law_116 ?_
        obtain ⟨e3, h4, hsh⟩ := im_bd hsh
        refine im_sld hx hb hX hbl hbA hH h4 d_Law_law_117 ?_
        refine lv_i2c (v := (im_i2c e3)) hx hb d_Law_law_118 rfl ?_
        obtain ⟨u5, h6, hsh⟩ := im_bd hsh
        obtain ⟨g7, h8⟩ := im_is_s h6
        obtain ⟨v11, w9, h10, hsh⟩ := im_bd2 hsh
        refine im_afterI (va_runV (As := [.int (im_i2c e3)]) (rest := []) (C := RC_LT) ⟨hx, hb, hml, hown, hts⟩ (met_LT_type h10) ⟨(callB_of 1 hts (im_good wd_227) rfl rfl rfl (hts _ wd_1) (hts _ wd_224) (by decide +kernel) ⟨Nat.le_of_ble_eq_true rfl, Nat.le_of_ble_eq_true rfl⟩), hts _ wd_225, hts _ wd_226⟩ (im_preV im_NW_ok hK hN hH (ci := 8) rfl rfl h8 _) rfl rfl hl.1 rfl (lv_room (Nat.le_of_ble_eq_true rfl)) d_Law_law_119 ⟨Nat.le_of_ble_eq_true rfl, Nat.le_of_ble_eq_true rfl⟩) hH (fun H locs hH => ?_)
        refine lv_aload_n hx hb d_Law_law_122 rfl (lv_at hl 2 rfl) ?_
        refine lv_aload_n hx hb d_Law_law_123 rfl (lv_at hl 0 rfl) ?_
        refine lv_iload_n hx hb d_Law_law_124 rfl (lv_at hl 3 rfl) ?_
        refine lv_iconst (v := 1) hx hb d_Law_law_125 (by decide) ?_
        refine lv_iadd hx hb d_Law_law_126 ?_
        obtain ⟨e12, h13, hsh⟩ := im_bd hsh
        refine im_sld hx hb hX hbl hbA hH h13 d_Law_law_127 ?_
        refine lv_i2c (v := (im_i2c e12)) hx hb d_Law_law_128 rfl ?_
        obtain ⟨u14, h15, hsh⟩ := im_bd hsh
        obtain ⟨g16, h17⟩ := im_is_s h15
        obtain ⟨v20, w18, h19, hsh⟩ := im_bd2 hsh
        refine im_afterI (va_runV (As := [.int (im_i2c e12)]) (rest := [.int v11]) (C := RC_Model) ⟨hx, hb, hml, hown, hts⟩ (met_Model_type h19) ⟨(callB_of 1 hts (im_good wd_767) rfl rfl rfl (hts _ wd_10) (hts _ wd_764) (by decide +kernel) ⟨Nat.le_of_ble_eq_true rfl, Nat.le_of_ble_eq_true rfl⟩), hts _ wd_765, hts _ wd_766⟩ (im_preV im_NW_ok hK hN hH (ci := 9) rfl rfl h17 _) rfl rfl hl.1 rfl (lv_room (Nat.le_of_ble_eq_true rfl)) d_Law_law_129 ⟨Nat.le_of_ble_eq_true rfl, Nat.le_of_ble_eq_true rfl⟩) hH (fun H locs hH => ?_)
        refine lv_icmp_eq (tgt := 532) hx hb d_Law_law_132 (by decide) (fun cc => ?_) (fun cc => ?_)
        · have hsh := im_it hsh cc
          exact bk_Law_law_532 hX hbl hlo X ih x1 x2 x3 w18 hsh H locs ls hH (lv_sub hl [0, 1, 2, 3] rfl)
        · have hsh := im_if hsh cc
          refine lv_iconst (v := 0) hx hb d_Law_law_135 (by decide) ?_
          cases hsh
      · have hsh := im_if hsh c0
        by_cases c1 : (e1 &&& (15 : Int32)) = 1
        · have hsh := im_it hsh c1
          refine lv_tableIn (off := 105) (tgt := 137) hx hb d_Law_law_32 (by rw [c1]; decide) (by rw [c1]; decide) (by rw [c1]; decide) (by decide) ?_
          refine lv_aload_n hx hb d_Law_law_137 rfl (lv_at hl 1 rfl) ?_
          obtain ⟨u21, h22, hsh⟩ := im_bd hsh
          obtain ⟨g23, h24⟩ := im_is_s h22
          obtain ⟨w25, h26, hsh⟩ := im_bd hsh
          refine im_afterV (va_runV (As := []) (rest := []) (C := RC_LT) ⟨hx, hb, hml, hown, hts⟩ (met_LT_wipe h26) ⟨(callB_of 0 hts (im_good wd_249) rfl rfl rfl (hts _ wd_1) (hts _ wd_246) (by decide +kernel) ⟨Nat.le_of_ble_eq_true rfl, Nat.le_of_ble_eq_true rfl⟩), hts _ wd_247, hts _ wd_248⟩ (im_preV im_NW_ok hK hN hH (ci := 8) rfl rfl h24 _) rfl rfl hl.1 rfl (lv_room (Nat.le_of_ble_eq_true rfl)) d_Law_law_138 ⟨Nat.le_of_ble_eq_true rfl, Nat.le_of_ble_eq_true rfl⟩) hH (fun H locs hH => ?_)
          refine lv_aload_n hx hb d_Law_law_141 rfl (lv_at hl 2 rfl) ?_
          obtain ⟨u27, h28, hsh⟩ := im_bd hsh
          obtain ⟨g29, h30⟩ := im_is_s h28
          obtain ⟨w31, h32, hsh⟩ := im_bd hsh
          refine im_afterV (va_runV (As := []) (rest := []) (C := RC_Model) ⟨hx, hb, hml, hown, hts⟩ (met_Model_wipe h32) ⟨(callB_of 0 hts (im_good wd_783) rfl rfl rfl (hts _ wd_10) (hts _ wd_780) (by decide +kernel) ⟨Nat.le_of_ble_eq_true rfl, Nat.le_of_ble_eq_true rfl⟩), hts _ wd_781, hts _ wd_782⟩ (im_preV im_NW_ok hK hN hH (ci := 9) rfl rfl h30 _) rfl rfl hl.1 rfl (lv_room (Nat.le_of_ble_eq_true rfl)) d_Law_law_142 ⟨Nat.le_of_ble_eq_true rfl, Nat.le_of_ble_eq_true rfl⟩) hH (fun H locs hH => ?_)
          refine lv_goto (tgt := 532) hx hb d_Law_law_145 (by decide) ?_
          exact bk_Law_law_532 hX hbl hlo X ih x1 x2 x3 w31 hsh H locs ls hH (lv_sub hl [0, 1, 2, 3] rfl)
        · have hsh := im_if hsh c1
          by_cases c2 : (e1 &&& (15 : Int32)) = 2
          · have hsh := im_it hsh c2
            refine lv_tableIn (off := 116) (tgt := 148) hx hb d_Law_law_32 (by rw [c2]; decide) (by rw [c2]; decide) (by rw [c2]; decide) (by decide) ?_
            refine lv_aload_n hx hb d_Law_law_148 rfl (lv_at hl 1 rfl) ?_
            refine lv_aload_n hx hb d_Law_law_149 rfl (lv_at hl 0 rfl) ?_
            refine lv_iload_n hx hb d_Law_law_150 rfl (lv_at hl 3 rfl) ?_
            refine lv_iconst (v := 1) hx hb d_Law_law_151 (by decide) ?_
            refine lv_iadd hx hb d_Law_law_152 ?_
            obtain ⟨e33, h34, hsh⟩ := im_bd hsh
            refine im_sld hx hb hX hbl hbA hH h34 d_Law_law_153 ?_
            refine lv_if_eq (tgt := 161) hx hb d_Law_law_154 (by decide) (fun cc => ?_) (fun cc => ?_)
            · have hsh := im_it hsh cc
              refine lv_iconst (v := 0) hx hb d_Law_law_161 (by decide) ?_
              exact bk_Law_law_162 hX hbl hlo X ih x1 x2 x3 (0 : Int32) x1 w hsh H locs ls hH (lv_sub hl [0, 1, 2, 3] rfl)
            · have hsh := im_if hsh cc
              refine lv_iconst (v := 1) hx hb d_Law_law_157 (by decide) ?_
              refine lv_goto (tgt := 162) hx hb d_Law_law_158 (by decide) ?_
              exact bk_Law_law_162 hX hbl hlo X ih x1 x2 x3 (1 : Int32) x1 w hsh H locs ls hH (lv_sub hl [0, 1, 2, 3] rfl)
          · have hsh := im_if hsh c2
            by_cases c3 : (e1 &&& (15 : Int32)) = 3
            · have hsh := im_it hsh c3
              refine lv_tableIn (off := 155) (tgt := 187) hx hb d_Law_law_32 (by rw [c3]; decide) (by rw [c3]; decide) (by rw [c3]; decide) (by decide) ?_
              refine lv_aload_n hx hb d_Law_law_187 rfl (lv_at hl 1 rfl) ?_
              obtain ⟨u35, h36, hsh⟩ := im_bd hsh
              obtain ⟨g37, h38⟩ := im_is_s h36
              obtain ⟨v41, w39, h40, hsh⟩ := im_bd2 hsh
              refine im_afterI (va_runV (As := []) (rest := []) (C := RC_LT) ⟨hx, hb, hml, hown, hts⟩ (met_LT_read h40) ⟨(callB_of 0 hts (im_good wd_327) rfl rfl rfl (hts _ wd_1) (hts _ wd_324) (by decide +kernel) ⟨Nat.le_of_ble_eq_true rfl, Nat.le_of_ble_eq_true rfl⟩), hts _ wd_325, hts _ wd_326⟩ (im_preV im_NW_ok hK hN hH (ci := 8) rfl rfl h38 _) rfl rfl hl.1 rfl (lv_room (Nat.le_of_ble_eq_true rfl)) d_Law_law_188 ⟨Nat.le_of_ble_eq_true rfl, Nat.le_of_ble_eq_true rfl⟩) hH (fun H locs hH => ?_)
              refine lv_aload_n hx hb d_Law_law_191 rfl (lv_at hl 2 rfl) ?_
              obtain ⟨u42, h43, hsh⟩ := im_bd hsh
              obtain ⟨g44, h45⟩ := im_is_s h43
              obtain ⟨v48, w46, h47, hsh⟩ := im_bd2 hsh
              refine im_afterI (va_runV (As := []) (rest := [.int v41]) (C := RC_Model) ⟨hx, hb, hml, hown, hts⟩ (met_Model_read h47) ⟨(callB_of 0 hts (im_good wd_823) rfl rfl rfl (hts _ wd_10) (hts _ wd_820) (by decide +kernel) ⟨Nat.le_of_ble_eq_true rfl, Nat.le_of_ble_eq_true rfl⟩), hts _ wd_821, hts _ wd_822⟩ (im_preV im_NW_ok hK hN hH (ci := 9) rfl rfl h45 _) rfl rfl hl.1 rfl (lv_room (Nat.le_of_ble_eq_true rfl)) d_Law_law_192 ⟨Nat.le_of_ble_eq_true rfl, Nat.le_of_ble_eq_true rfl⟩) hH (fun H locs hH => ?_)
              refine lv_icmp_eq (tgt := 532) hx hb d_Law_law_195 (by decide) (fun cc => ?_) (fun cc => ?_)
              · have hsh := im_it hsh cc
                exact bk_Law_law_532 hX hbl hlo X ih x1 x2 x3 w46 hsh H locs ls hH (lv_sub hl [0, 1, 2, 3] rfl)
              · have hsh := im_if hsh cc
                refine lv_iconst (v := 0) hx hb d_Law_law_198 (by decide) ?_
                cases hsh
            · have hsh := im_if hsh c3
              by_cases c4 : (e1 &&& (15 : Int32)) = 4
              · have hsh := im_it hsh c4
                refine lv_tableIn (off := 168) (tgt := 200) hx hb d_Law_law_32 (by rw [c4]; decide) (by rw [c4]; decide) (by rw [c4]; decide) (by decide) ?_
                refine lv_aload_n hx hb d_Law_law_200 rfl (lv_at hl 1 rfl) ?_
                refine lv_aload_n hx hb d_Law_law_201 rfl (lv_at hl 0 rfl) ?_
                refine lv_iload_n hx hb d_Law_law_202 rfl (lv_at hl 3 rfl) ?_
                refine lv_iconst (v := 1) hx hb d_Law_law_203 (by decide) ?_
                refine lv_iadd hx hb d_Law_law_204 ?_
                obtain ⟨e49, h50, hsh⟩ := im_bd hsh
                refine im_sld hx hb hX hbl hbA hH h50 d_Law_law_205 ?_
                refine lv_if_eq (tgt := 213) hx hb d_Law_law_206 (by decide) (fun cc => ?_) (fun cc => ?_)
                · have hsh := im_it hsh cc
                  refine lv_iconst (v := 0) hx hb d_Law_law_213 (by decide) ?_
                  exact bk_Law_law_214 hX hbl hlo X ih x1 x2 x3 (0 : Int32) x1 w hsh H locs ls hH (lv_sub hl [0, 1, 2, 3] rfl)
                · have hsh := im_if hsh cc
                  refine lv_iconst (v := 1) hx hb d_Law_law_209 (by decide) ?_
                  refine lv_goto (tgt := 214) hx hb d_Law_law_210 (by decide) ?_
                  exact bk_Law_law_214 hX hbl hlo X ih x1 x2 x3 (1 : Int32) x1 w hsh H locs ls hH (lv_sub hl [0, 1, 2, 3] rfl)
              · have hsh := im_if hsh c4
                by_cases c5 : (e1 &&& (15 : Int32)) = 5
                · have hsh := im_it hsh c5
                  refine lv_tableIn (off := 207) (tgt := 239) hx hb d_Law_law_32 (by rw [c5]; decide) (by rw [c5]; decide) (by rw [c5]; decide) (by decide) ?_
                  refine lv_aload_n hx hb d_Law_law_239 rfl (lv_at hl 1 rfl) ?_
                  refine lv_aload_n hx hb d_Law_law_240 rfl (lv_at hl 0 rfl) ?_
                  refine lv_iload_n hx hb d_Law_law_241 rfl (lv_at hl 3 rfl) ?_
                  refine lv_iconst (v := 1) hx hb d_Law_law_242 (by decide) ?_
                  refine lv_iadd hx hb d_Law_law_243 ?_
                  obtain ⟨e51, h52, hsh⟩ := im_bd hsh
                  refine im_sld hx hb hX hbl hbA hH h52 d_Law_law_244 ?_
                  refine lv_aload_n hx hb d_Law_law_245 rfl (lv_at hl 0 rfl) ?_
                  refine lv_iload_n hx hb d_Law_law_246 rfl (lv_at hl 3 rfl) ?_
                  refine lv_iconst (v := 2) hx hb d_Law_law_247 (by decide) ?_
                  refine lv_iadd hx hb d_Law_law_248 ?_
                  obtain ⟨e53, h54, hsh⟩ := im_bd hsh
                  refine im_sld hx hb hX hbl hbA hH h54 d_Law_law_249 ?_
                  obtain ⟨u55, h56, hsh⟩ := im_bd hsh
                  obtain ⟨g57, h58⟩ := im_is_s h56
                  obtain ⟨v61, w59, h60, hsh⟩ := im_bd2 hsh
                  refine im_afterI (va_runV (As := [.int e51, .int e53]) (rest := []) (C := RC_LT) ⟨hx, hb, hml, hown, hts⟩ (met_LT_show h60) ⟨(callB_of 2 hts (im_good wd_485) rfl rfl rfl (hts _ wd_1) (hts _ wd_482) (by decide +kernel) ⟨Nat.le_of_ble_eq_true rfl, Nat.le_of_ble_eq_true rfl⟩), hts _ wd_483, hts _ wd_484⟩ (im_preV im_NW_ok hK hN hH (ci := 8) rfl rfl h58 _) rfl rfl hl.1 rfl (lv_room (Nat.le_of_ble_eq_true rfl)) d_Law_law_250 ⟨Nat.le_of_ble_eq_true rfl, Nat.le_of_ble_eq_true rfl⟩) hH (fun H locs hH => ?_)
                  refine lv_aload_n hx hb d_Law_law_253 rfl (lv_at hl 2 rfl) ?_
                  refine lv_aload_n hx hb d_Law_law_254 rfl (lv_at hl 0 rfl) ?_
                  refine lv_iload_n hx hb d_Law_law_255 rfl (lv_at hl 3 rfl) ?_
                  refine lv_iconst (v := 1) hx hb d_Law_law_256 (by decide) ?_
                  refine lv_iadd hx hb d_Law_law_257 ?_
                  obtain ⟨e62, h63, hsh⟩ := im_bd hsh
                  refine im_sld hx hb hX hbl hbA hH h63 d_Law_law_258 ?_
                  refine lv_aload_n hx hb d_Law_law_259 rfl (lv_at hl 0 rfl) ?_
                  refine lv_iload_n hx hb d_Law_law_260 rfl (lv_at hl 3 rfl) ?_
                  refine lv_iconst (v := 2) hx hb d_Law_law_261 (by decide) ?_
                  refine lv_iadd hx hb d_Law_law_262 ?_
                  obtain ⟨e64, h65, hsh⟩ := im_bd hsh
                  refine im_sld hx hb hX hbl hbA hH h65 d_Law_law_263 ?_
                  obtain ⟨u66, h67, hsh⟩ := im_bd hsh
                  obtain ⟨g68, h69⟩ := im_is_s h67
                  obtain ⟨v72, w70, h71, hsh⟩ := im_bd2 hsh
                  refine im_afterI (va_runV (As := [.int e62, .int e64]) (rest := [.int v61]) (C := RC_Model) ⟨hx, hb, hml, hown, hts⟩ (met_Model_show h71) ⟨(callB_of 2 hts (im_good wd_911) rfl rfl rfl (hts _ wd_10) (hts _ wd_908) (by decide +kernel) ⟨Nat.le_of_ble_eq_true rfl, Nat.le_of_ble_eq_true rfl⟩), hts _ wd_909, hts _ wd_910⟩ (im_preV im_NW_ok hK hN hH (ci := 9) rfl rfl h69 _) rfl rfl hl.1 rfl (lv_room (Nat.le_of_ble_eq_true rfl)) d_Law_law_264 ⟨Nat.le_of_ble_eq_true rfl, Nat.le_of_ble_eq_true rfl⟩) hH (fun H locs hH => ?_)
                  refine lv_icmp_eq (tgt := 532) hx hb d_Law_law_267 (by decide) (fun cc => ?_) (fun cc => ?_)
                  · have hsh := im_it hsh cc
                    exact bk_Law_law_532 hX hbl hlo X ih x1 x2 x3 w70 hsh H locs ls hH (lv_sub hl [0, 1, 2, 3] rfl)
                  · have hsh := im_if hsh cc
                    refine lv_iconst (v := 0) hx hb d_Law_law_270 (by decide) ?_
                    cases hsh
                · have hsh := im_if hsh c5
                  by_cases c6 : (e1 &&& (15 : Int32)) = 6
                  · have hsh := im_it hsh c6
                    refine lv_tableIn (off := 240) (tgt := 272) hx hb d_Law_law_32 (by rw [c6]; decide) (by rw [c6]; decide) (by rw [c6]; decide) (by decide) ?_
                    refine lv_aload_n hx hb d_Law_law_272 rfl (lv_at hl 1 rfl) ?_
                    refine lv_aload_n hx hb d_Law_law_273 rfl (lv_at hl 0 rfl) ?_
                    refine lv_iload_n hx hb d_Law_law_274 rfl (lv_at hl 3 rfl) ?_
                    refine lv_iconst (v := 1) hx hb d_Law_law_275 (by decide) ?_
                    refine lv_iadd hx hb d_Law_law_276 ?_
                    obtain ⟨e73, h74, hsh⟩ := im_bd hsh
                    refine im_sld hx hb hX hbl hbA hH h74 d_Law_law_277 ?_
                    obtain ⟨u75, h76, hsh⟩ := im_bd hsh
                    obtain ⟨g77, h78⟩ := im_is_s h76
                    obtain ⟨v81, w79, h80, hsh⟩ := im_bd2 hsh
                    refine im_afterI (va_runV (As := [.int e73]) (rest := []) (C := RC_LT) ⟨hx, hb, hml, hown, hts⟩ (met_LT_shown h80) ⟨(callB_of 1 hts (im_good wd_554) rfl rfl rfl (hts _ wd_1) (hts _ wd_551) (by decide +kernel) ⟨Nat.le_of_ble_eq_true rfl, Nat.le_of_ble_eq_true rfl⟩), hts _ wd_552, hts _ wd_553⟩ (im_preV im_NW_ok hK hN hH (ci := 8) rfl rfl h78 _) rfl rfl hl.1 rfl (lv_room (Nat.le_of_ble_eq_true rfl)) d_Law_law_278 ⟨Nat.le_of_ble_eq_true rfl, Nat.le_of_ble_eq_true rfl⟩) hH (fun H locs hH => ?_)
                    refine lv_aload_n hx hb d_Law_law_281 rfl (lv_at hl 2 rfl) ?_
                    refine lv_aload_n hx hb d_Law_law_282 rfl (lv_at hl 0 rfl) ?_
                    refine lv_iload_n hx hb d_Law_law_283 rfl (lv_at hl 3 rfl) ?_
                    refine lv_iconst (v := 1) hx hb d_Law_law_284 (by decide) ?_
                    refine lv_iadd hx hb d_Law_law_285 ?_
                    obtain ⟨e82, h83, hsh⟩ := im_bd hsh
                    refine im_sld hx hb hX hbl hbA hH h83 d_Law_law_286 ?_
                    obtain ⟨u84, h85, hsh⟩ := im_bd hsh
                    obtain ⟨g86, h87⟩ := im_is_s h85
                    obtain ⟨v90, w88, h89, hsh⟩ := im_bd2 hsh
                    refine im_afterI (va_runV (As := [.int e82]) (rest := [.int v81]) (C := RC_Model) ⟨hx, hb, hml, hown, hts⟩ (met_Model_shown h89) ⟨(callB_of 1 hts (im_good wd_935) rfl rfl rfl (hts _ wd_10) (hts _ wd_932) (by decide +kernel) ⟨Nat.le_of_ble_eq_true rfl, Nat.le_of_ble_eq_true rfl⟩), hts _ wd_933, hts _ wd_934⟩ (im_preV im_NW_ok hK hN hH (ci := 9) rfl rfl h87 _) rfl rfl hl.1 rfl (lv_room (Nat.le_of_ble_eq_true rfl)) d_Law_law_287 ⟨Nat.le_of_ble_eq_true rfl, Nat.le_of_ble_eq_true rfl⟩) hH (fun H locs hH => ?_)
                    refine lv_icmp_eq (tgt := 532) hx hb d_Law_law_290 (by decide) (fun cc => ?_) (fun cc => ?_)
                    · have hsh := im_it hsh cc
                      exact bk_Law_law_532 hX hbl hlo X ih x1 x2 x3 w88 hsh H locs ls hH (lv_sub hl [0, 1, 2, 3] rfl)
                    · have hsh := im_if hsh cc
                      refine lv_iconst (v := 0) hx hb d_Law_law_293 (by decide) ?_
                      cases hsh
                  · have hsh := im_if hsh c6
                    by_cases c7 : (e1 &&& (15 : Int32)) = 7
                    · have hsh := im_it hsh c7
                      refine lv_tableIn (off := 263) (tgt := 295) hx hb d_Law_law_32 (by rw [c7]; decide) (by rw [c7]; decide) (by rw [c7]; decide) (by decide) ?_
                      refine lv_aload_n hx hb d_Law_law_295 rfl (lv_at hl 1 rfl) ?_
                      obtain ⟨u91, h92, hsh⟩ := im_bd hsh
                      obtain ⟨g93, h94⟩ := im_is_s h92
                      obtain ⟨v97, w95, h96, hsh⟩ := im_bd2 hsh
                      refine im_afterI (va_runV (As := []) (rest := []) (C := RC_LT) ⟨hx, hb, hml, hown, hts⟩ (met_LT_tags h96) ⟨(callB_of 0 hts (im_good wd_559) rfl rfl rfl (hts _ wd_1) (hts _ wd_556) (by decide +kernel) ⟨Nat.le_of_ble_eq_true rfl, Nat.le_of_ble_eq_true rfl⟩), hts _ wd_557, hts _ wd_558⟩ (im_preV im_NW_ok hK hN hH (ci := 8) rfl rfl h94 _) rfl rfl hl.1 rfl (lv_room (Nat.le_of_ble_eq_true rfl)) d_Law_law_296 ⟨Nat.le_of_ble_eq_true rfl, Nat.le_of_ble_eq_true rfl⟩) hH (fun H locs hH => ?_)
                      refine lv_aload_n hx hb d_Law_law_299 rfl (lv_at hl 2 rfl) ?_
                      obtain ⟨u98, h99, hsh⟩ := im_bd hsh
                      obtain ⟨g100, h101⟩ := im_is_s h99
                      obtain ⟨v104, w102, h103, hsh⟩ := im_bd2 hsh
                      refine im_afterI (va_runV (As := []) (rest := [.int v97]) (C := RC_Model) ⟨hx, hb, hml, hown, hts⟩ (met_Model_tags h103) ⟨(callB_of 0 hts (im_good wd_939) rfl rfl rfl (hts _ wd_10) (hts _ wd_936) (by decide +kernel) ⟨Nat.le_of_ble_eq_true rfl, Nat.le_of_ble_eq_true rfl⟩), hts _ wd_937, hts _ wd_938⟩ (im_preV im_NW_ok hK hN hH (ci := 9) rfl rfl h101 _) rfl rfl hl.1 rfl (lv_room (Nat.le_of_ble_eq_true rfl)) d_Law_law_300 ⟨Nat.le_of_ble_eq_true rfl, Nat.le_of_ble_eq_true rfl⟩) hH (fun H locs hH => ?_)
                      refine lv_icmp_eq (tgt := 532) hx hb d_Law_law_303 (by decide) (fun cc => ?_) (fun cc => ?_)
                      · have hsh := im_it hsh cc
                        exact bk_Law_law_532 hX hbl hlo X ih x1 x2 x3 w102 hsh H locs ls hH (lv_sub hl [0, 1, 2, 3] rfl)
                      · have hsh := im_if hsh cc
                        refine lv_iconst (v := 0) hx hb d_Law_law_306 (by decide) ?_
                        cases hsh
                    · have hsh := im_if hsh c7
                      by_cases c8 : (e1 &&& (15 : Int32)) = 8
                      · have hsh := im_it hsh c8
                        refine lv_tableIn (off := 276) (tgt := 308) hx hb d_Law_law_32 (by rw [c8]; decide) (by rw [c8]; decide) (by rw [c8]; decide) (by decide) ?_
                        refine lv_aload_n hx hb d_Law_law_308 rfl (lv_at hl 1 rfl) ?_
                        refine lv_aload_n hx hb d_Law_law_309 rfl (lv_at hl 0 rfl) ?_
                        refine lv_iload_n hx hb d_Law_law_310 rfl (lv_at hl 3 rfl) ?_
                        refine lv_iconst (v := 1) hx hb d_Law_law_311 (by decide) ?_
                        refine lv_iadd hx hb d_Law_law_312 ?_
                        obtain ⟨e105, h106, hsh⟩ := im_bd hsh
                        refine im_sld hx hb hX hbl hbA hH h106 d_Law_law_313 ?_
                        obtain ⟨u107, h108, hsh⟩ := im_bd hsh
                        obtain ⟨g109, h110⟩ := im_is_s h108
                        obtain ⟨v113, w111, h112, hsh⟩ := im_bd2 hsh
                        refine im_afterI (va_runV (As := [.int e105]) (rest := []) (C := RC_LT) ⟨hx, hb, hml, hown, hts⟩ (met_LT_support h112) ⟨(callB_of 1 hts (im_good wd_563) rfl rfl rfl (hts _ wd_1) (hts _ wd_560) (by decide +kernel) ⟨Nat.le_of_ble_eq_true rfl, Nat.le_of_ble_eq_true rfl⟩), hts _ wd_561, hts _ wd_562⟩ (im_preV im_NW_ok hK hN hH (ci := 8) rfl rfl h110 _) rfl rfl hl.1 rfl (lv_room (Nat.le_of_ble_eq_true rfl)) d_Law_law_314 ⟨Nat.le_of_ble_eq_true rfl, Nat.le_of_ble_eq_true rfl⟩) hH (fun H locs hH => ?_)
                        refine lv_aload_n hx hb d_Law_law_317 rfl (lv_at hl 2 rfl) ?_
                        refine lv_aload_n hx hb d_Law_law_318 rfl (lv_at hl 0 rfl) ?_
                        refine lv_iload_n hx hb d_Law_law_319 rfl (lv_at hl 3 rfl) ?_
                        refine lv_iconst (v := 1) hx hb d_Law_law_320 (by decide) ?_
                        refine lv_iadd hx hb d_Law_law_321 ?_
                        obtain ⟨e114, h115, hsh⟩ := im_bd hsh
                        refine im_sld hx hb hX hbl hbA hH h115 d_Law_law_322 ?_
                        obtain ⟨u116, h117, hsh⟩ := im_bd hsh
                        obtain ⟨g118, h119⟩ := im_is_s h117
                        obtain ⟨v122, w120, h121, hsh⟩ := im_bd2 hsh
                        refine im_afterI (va_runV (As := [.int e114]) (rest := [.int v113]) (C := RC_Model) ⟨hx, hb, hml, hown, hts⟩ (met_Model_support h121) ⟨(callB_of 1 hts (im_good wd_943) rfl rfl rfl (hts _ wd_10) (hts _ wd_940) (by decide +kernel) ⟨Nat.le_of_ble_eq_true rfl, Nat.le_of_ble_eq_true rfl⟩), hts _ wd_941, hts _ wd_942⟩ (im_preV im_NW_ok hK hN hH (ci := 9) rfl rfl h119 _) rfl rfl hl.1 rfl (lv_room (Nat.le_of_ble_eq_true rfl)) d_Law_law_323 ⟨Nat.le_of_ble_eq_true rfl, Nat.le_of_ble_eq_true rfl⟩) hH (fun H locs hH => ?_)
                        refine lv_icmp_eq (tgt := 532) hx hb d_Law_law_326 (by decide) (fun cc => ?_) (fun cc => ?_)
                        · have hsh := im_it hsh cc
                          exact bk_Law_law_532 hX hbl hlo X ih x1 x2 x3 w120 hsh H locs ls hH (lv_sub hl [0, 1, 2, 3] rfl)
                        · have hsh := im_if hsh cc
                          refine lv_iconst (v := 0) hx hb d_Law_law_329 (by decide) ?_
                          cases hsh
                      · have hsh := im_if hsh c8
                        by_cases c9 : (e1 &&& (15 : Int32)) = 9
                        · have hsh := im_it hsh c9
                          refine lv_tableIn (off := 299) (tgt := 331) hx hb d_Law_law_32 (by rw [c9]; decide) (by rw [c9]; decide) (by rw [c9]; decide) (by decide) ?_
                          refine lv_aload_n hx hb d_Law_law_331 rfl (lv_at hl 1 rfl) ?_
                          refine lv_aload_n hx hb d_Law_law_332 rfl (lv_at hl 0 rfl) ?_
                          refine lv_iload_n hx hb d_Law_law_333 rfl (lv_at hl 3 rfl) ?_
                          refine lv_iconst (v := 1) hx hb d_Law_law_334 (by decide) ?_
                          refine lv_iadd hx hb d_Law_law_335 ?_
                          obtain ⟨e123, h124, hsh⟩ := im_bd hsh
                          refine im_sld hx hb hX hbl hbA hH h124 d_Law_law_336 ?_
                          refine lv_aload_n hx hb d_Law_law_337 rfl (lv_at hl 0 rfl) ?_
                          refine lv_iload_n hx hb d_Law_law_338 rfl (lv_at hl 3 rfl) ?_
                          refine lv_iconst (v := 2) hx hb d_Law_law_339 (by decide) ?_
                          refine lv_iadd hx hb d_Law_law_340 ?_
                          obtain ⟨e125, h126, hsh⟩ := im_bd hsh
                          refine im_sld hx hb hX hbl hbA hH h126 d_Law_law_341 ?_
                          obtain ⟨u127, h128, hsh⟩ := im_bd hsh
                          obtain ⟨g129, h130⟩ := im_is_s h128
                          obtain ⟨v133, w131, h132, hsh⟩ := im_bd2 hsh
                          refine im_afterI (va_runV (As := [.int e123, .int e125]) (rest := []) (C := RC_LT) ⟨hx, hb, hml, hown, hts⟩ (met_LT_fits h132) ⟨(callB_of 2 hts (im_good wd_567) rfl rfl rfl (hts _ wd_1) (hts _ wd_564) (by decide +kernel) ⟨Nat.le_of_ble_eq_true rfl, Nat.le_of_ble_eq_true rfl⟩), hts _ wd_565, hts _ wd_566⟩ (im_preV im_NW_ok hK hN hH (ci := 8) rfl rfl h130 _) rfl rfl hl.1 rfl (lv_room (Nat.le_of_ble_eq_true rfl)) d_Law_law_342 ⟨Nat.le_of_ble_eq_true rfl, Nat.le_of_ble_eq_true rfl⟩) hH (fun H locs hH => ?_)
                          refine lv_aload_n hx hb d_Law_law_345 rfl (lv_at hl 2 rfl) ?_
                          refine lv_aload_n hx hb d_Law_law_346 rfl (lv_at hl 0 rfl) ?_
                          refine lv_iload_n hx hb d_Law_law_347 rfl (lv_at hl 3 rfl) ?_
                          refine lv_iconst (v := 1) hx hb d_Law_law_348 (by decide) ?_
                          refine lv_iadd hx hb d_Law_law_349 ?_
                          obtain ⟨e134, h135, hsh⟩ := im_bd hsh
                          refine im_sld hx hb hX hbl hbA hH h135 d_Law_law_350 ?_
                          refine lv_aload_n hx hb d_Law_law_351 rfl (lv_at hl 0 rfl) ?_
                          refine lv_iload_n hx hb d_Law_law_352 rfl (lv_at hl 3 rfl) ?_
                          refine lv_iconst (v := 2) hx hb d_Law_law_353 (by decide) ?_
                          refine lv_iadd hx hb d_Law_law_354 ?_
                          obtain ⟨e136, h137, hsh⟩ := im_bd hsh
                          refine im_sld hx hb hX hbl hbA hH h137 d_Law_law_355 ?_
                          obtain ⟨u138, h139, hsh⟩ := im_bd hsh
                          obtain ⟨g140, h141⟩ := im_is_s h139
                          obtain ⟨v144, w142, h143, hsh⟩ := im_bd2 hsh
                          refine im_afterI (va_runV (As := [.int e134, .int e136]) (rest := [.int v133]) (C := RC_Model) ⟨hx, hb, hml, hown, hts⟩ (met_Model_fits h143) ⟨(callB_of 2 hts (im_good wd_951) rfl rfl rfl (hts _ wd_10) (hts _ wd_948) (by decide +kernel) ⟨Nat.le_of_ble_eq_true rfl, Nat.le_of_ble_eq_true rfl⟩), hts _ wd_949, hts _ wd_950⟩ (im_preV im_NW_ok hK hN hH (ci := 9) rfl rfl h141 _) rfl rfl hl.1 rfl (lv_room (Nat.le_of_ble_eq_true rfl)) d_Law_law_356 ⟨Nat.le_of_ble_eq_true rfl, Nat.le_of_ble_eq_true rfl⟩) hH (fun H locs hH => ?_)
                          refine lv_icmp_eq (tgt := 532) hx hb d_Law_law_359 (by decide) (fun cc => ?_) (fun cc => ?_)
                          · have hsh := im_it hsh cc
                            exact bk_Law_law_532 hX hbl hlo X ih x1 x2 x3 w142 hsh H locs ls hH (lv_sub hl [0, 1, 2, 3] rfl)
                          · have hsh := im_if hsh cc
                            refine lv_iconst (v := 0) hx hb d_Law_law_362 (by decide) ?_
                            cases hsh
                        · have hsh := im_if hsh c9
                          by_cases c10 : (e1 &&& (15 : Int32)) = 10
                          · have hsh := im_it hsh c10
                            refine lv_tableIn (off := 332) (tgt := 364) hx hb d_Law_law_32 (by rw [c10]; decide) (by rw [c10]; decide) (by rw [c10]; decide) (by decide) ?_
                            refine lv_aload_n hx hb d_Law_law_364 rfl (lv_at hl 1 rfl) ?_
                            refine lv_aload_n hx hb d_Law_law_365 rfl (lv_at hl 0 rfl) ?_
                            refine lv_iload_n hx hb d_Law_law_366 rfl (lv_at hl 3 rfl) ?_
                            refine lv_iconst (v := 1) hx hb d_Law_law_367 (by decide) ?_
                            refine lv_iadd hx hb d_Law_law_368 ?_
                            obtain ⟨e145, h146, hsh⟩ := im_bd hsh
                            refine im_sld hx hb hX hbl hbA hH h146 d_Law_law_369 ?_
                            obtain ⟨u147, h148, hsh⟩ := im_bd hsh
                            obtain ⟨g149, h150⟩ := im_is_s h148
                            obtain ⟨v153, w151, h152, hsh⟩ := im_bd2 hsh
                            refine im_afterI (va_runV (As := [.int e145]) (rest := []) (C := RC_LT) ⟨hx, hb, hml, hown, hts⟩ (met_LT_lookup h152) ⟨(callB_of 1 hts (im_good wd_576) rfl rfl rfl (hts _ wd_1) (hts _ wd_573) (by decide +kernel) ⟨Nat.le_of_ble_eq_true rfl, Nat.le_of_ble_eq_true rfl⟩), hts _ wd_574, hts _ wd_575⟩ (im_preV im_NW_ok hK hN hH (ci := 8) rfl rfl h150 _) rfl rfl hl.1 rfl (lv_room (Nat.le_of_ble_eq_true rfl)) d_Law_law_370 ⟨Nat.le_of_ble_eq_true rfl, Nat.le_of_ble_eq_true rfl⟩) hH (fun H locs hH => ?_)
                            refine lv_aload_n hx hb d_Law_law_373 rfl (lv_at hl 2 rfl) ?_
                            refine lv_aload_n hx hb d_Law_law_374 rfl (lv_at hl 0 rfl) ?_
                            refine lv_iload_n hx hb d_Law_law_375 rfl (lv_at hl 3 rfl) ?_
                            refine lv_iconst (v := 1) hx hb d_Law_law_376 (by decide) ?_
                            refine lv_iadd hx hb d_Law_law_377 ?_
                            obtain ⟨e154, h155, hsh⟩ := im_bd hsh
                            refine im_sld hx hb hX hbl hbA hH h155 d_Law_law_378 ?_
                            obtain ⟨u156, h157, hsh⟩ := im_bd hsh
                            obtain ⟨g158, h159⟩ := im_is_s h157
                            obtain ⟨v162, w160, h161, hsh⟩ := im_bd2 hsh
                            refine im_afterI (va_runV (As := [.int e154]) (rest := [.int v153]) (C := RC_Model) ⟨hx, hb, hml, hown, hts⟩ (met_Model_lookup h161) ⟨(callB_of 1 hts (im_good wd_959) rfl rfl rfl (hts _ wd_10) (hts _ wd_956) (by decide +kernel) ⟨Nat.le_of_ble_eq_true rfl, Nat.le_of_ble_eq_true rfl⟩), hts _ wd_957, hts _ wd_958⟩ (im_preV im_NW_ok hK hN hH (ci := 9) rfl rfl h159 _) rfl rfl hl.1 rfl (lv_room (Nat.le_of_ble_eq_true rfl)) d_Law_law_379 ⟨Nat.le_of_ble_eq_true rfl, Nat.le_of_ble_eq_true rfl⟩) hH (fun H locs hH => ?_)
                            refine lv_icmp_eq (tgt := 532) hx hb d_Law_law_382 (by decide) (fun cc => ?_) (fun cc => ?_)
                            · have hsh := im_it hsh cc
                              exact bk_Law_law_532 hX hbl hlo X ih x1 x2 x3 w160 hsh H locs ls hH (lv_sub hl [0, 1, 2, 3] rfl)
                            · have hsh := im_if hsh cc
                              refine lv_iconst (v := 0) hx hb d_Law_law_385 (by decide) ?_
                              cases hsh
                          · have hsh := im_if hsh c10
                            by_cases c11 : (e1 &&& (15 : Int32)) = 11
                            · have hsh := im_it hsh c11
                              refine lv_tableIn (off := 355) (tgt := 387) hx hb d_Law_law_32 (by rw [c11]; decide) (by rw [c11]; decide) (by rw [c11]; decide) (by decide) ?_
                              refine lv_aload_n hx hb d_Law_law_387 rfl (lv_at hl 1 rfl) ?_
                              refine lv_aload_n hx hb d_Law_law_388 rfl (lv_at hl 0 rfl) ?_
                              refine lv_iload_n hx hb d_Law_law_389 rfl (lv_at hl 3 rfl) ?_
                              refine lv_iconst (v := 1) hx hb d_Law_law_390 (by decide) ?_
                              refine lv_iadd hx hb d_Law_law_391 ?_
                              obtain ⟨e163, h164, hsh⟩ := im_bd hsh
                              refine im_sld hx hb hX hbl hbA hH h164 d_Law_law_392 ?_
                              refine lv_aload_n hx hb d_Law_law_393 rfl (lv_at hl 0 rfl) ?_
                              refine lv_iload_n hx hb d_Law_law_394 rfl (lv_at hl 3 rfl) ?_
                              refine lv_iconst (v := 2) hx hb d_Law_law_395 (by decide) ?_
                              refine lv_iadd hx hb d_Law_law_396 ?_
                              obtain ⟨e165, h166, hsh⟩ := im_bd hsh
                              refine im_sld hx hb hX hbl hbA hH h166 d_Law_law_397 ?_
                              obtain ⟨u167, h168, hsh⟩ := im_bd hsh
                              obtain ⟨g169, h170⟩ := im_is_s h168
                              obtain ⟨v173, w171, h172, hsh⟩ := im_bd2 hsh
                              refine im_afterI (va_runV (As := [.int e163, .int e165]) (rest := []) (C := RC_LT) ⟨hx, hb, hml, hown, hts⟩ (met_LT_distance h172) ⟨(callB_of 2 hts (im_good wd_584) rfl rfl rfl (hts _ wd_1) (hts _ wd_581) (by decide +kernel) ⟨Nat.le_of_ble_eq_true rfl, Nat.le_of_ble_eq_true rfl⟩), hts _ wd_582, hts _ wd_583⟩ (im_preV im_NW_ok hK hN hH (ci := 8) rfl rfl h170 _) rfl rfl hl.1 rfl (lv_room (Nat.le_of_ble_eq_true rfl)) d_Law_law_398 ⟨Nat.le_of_ble_eq_true rfl, Nat.le_of_ble_eq_true rfl⟩) hH (fun H locs hH => ?_)
                              refine lv_aload_n hx hb d_Law_law_401 rfl (lv_at hl 2 rfl) ?_
                              refine lv_aload_n hx hb d_Law_law_402 rfl (lv_at hl 0 rfl) ?_
                              refine lv_iload_n hx hb d_Law_law_403 rfl (lv_at hl 3 rfl) ?_
                              refine lv_iconst (v := 1) hx hb d_Law_law_404 (by decide) ?_
                              refine lv_iadd hx hb d_Law_law_405 ?_
                              obtain ⟨e174, h175, hsh⟩ := im_bd hsh
                              refine im_sld hx hb hX hbl hbA hH h175 d_Law_law_406 ?_
                              refine lv_aload_n hx hb d_Law_law_407 rfl (lv_at hl 0 rfl) ?_
                              refine lv_iload_n hx hb d_Law_law_408 rfl (lv_at hl 3 rfl) ?_
                              refine lv_iconst (v := 2) hx hb d_Law_law_409 (by decide) ?_
                              refine lv_iadd hx hb d_Law_law_410 ?_
                              obtain ⟨e176, h177, hsh⟩ := im_bd hsh
                              refine im_sld hx hb hX hbl hbA hH h177 d_Law_law_411 ?_
                              obtain ⟨u178, h179, hsh⟩ := im_bd hsh
                              obtain ⟨g180, h181⟩ := im_is_s h179
                              obtain ⟨v184, w182, h183, hsh⟩ := im_bd2 hsh
                              refine im_afterI (va_runV (As := [.int e174, .int e176]) (rest := [.int v173]) (C := RC_Model) ⟨hx, hb, hml, hown, hts⟩ (met_Model_distance h183) ⟨(callB_of 2 hts (im_good wd_979) rfl rfl rfl (hts _ wd_10) (hts _ wd_976) (by decide +kernel) ⟨Nat.le_of_ble_eq_true rfl, Nat.le_of_ble_eq_true rfl⟩), hts _ wd_977, hts _ wd_978⟩ (im_preV im_NW_ok hK hN hH (ci := 9) rfl rfl h181 _) rfl rfl hl.1 rfl (lv_room (Nat.le_of_ble_eq_true rfl)) d_Law_law_412 ⟨Nat.le_of_ble_eq_true rfl, Nat.le_of_ble_eq_true rfl⟩) hH (fun H locs hH => ?_)
                              refine lv_icmp_eq (tgt := 532) hx hb d_Law_law_415 (by decide) (fun cc => ?_) (fun cc => ?_)
                              · have hsh := im_it hsh cc
                                exact bk_Law_law_532 hX hbl hlo X ih x1 x2 x3 w182 hsh H locs ls hH (lv_sub hl [0, 1, 2, 3] rfl)
                              · have hsh := im_if hsh cc
                                refine lv_iconst (v := 0) hx hb d_Law_law_418 (by decide) ?_
                                cases hsh
                            · have hsh := im_if hsh c11
                              by_cases c12 : (e1 &&& (15 : Int32)) = 12
                              · have hsh := im_it hsh c12
                                refine lv_tableIn (off := 388) (tgt := 420) hx hb d_Law_law_32 (by rw [c12]; decide) (by rw [c12]; decide) (by rw [c12]; decide) (by decide) ?_
                                refine lv_aload_n hx hb d_Law_law_420 rfl (lv_at hl 1 rfl) ?_
                                refine lv_aload_n hx hb d_Law_law_421 rfl (lv_at hl 0 rfl) ?_
                                refine lv_iload_n hx hb d_Law_law_422 rfl (lv_at hl 3 rfl) ?_
                                refine lv_iconst (v := 1) hx hb d_Law_law_423 (by decide) ?_
                                refine lv_iadd hx hb d_Law_law_424 ?_
                                obtain ⟨e185, h186, hsh⟩ := im_bd hsh
                                refine im_sld hx hb hX hbl hbA hH h186 d_Law_law_425 ?_
                                obtain ⟨u187, h188, hsh⟩ := im_bd hsh
                                obtain ⟨g189, h190⟩ := im_is_s h188
                                obtain ⟨v193, w191, h192, hsh⟩ := im_bd2 hsh
                                refine im_afterI (va_runV (As := [.int e185]) (rest := []) (C := RC_LT) ⟨hx, hb, hml, hown, hts⟩ (met_LT_best h192) ⟨(callB_of 1 hts (im_good wd_596) rfl rfl rfl (hts _ wd_1) (hts _ wd_593) (by decide +kernel) ⟨Nat.le_of_ble_eq_true rfl, Nat.le_of_ble_eq_true rfl⟩), hts _ wd_594, hts _ wd_595⟩ (im_preV im_NW_ok hK hN hH (ci := 8) rfl rfl h190 _) rfl rfl hl.1 rfl (lv_room (Nat.le_of_ble_eq_true rfl)) d_Law_law_426 ⟨Nat.le_of_ble_eq_true rfl, Nat.le_of_ble_eq_true rfl⟩) hH (fun H locs hH => ?_)
                                refine lv_aload_n hx hb d_Law_law_429 rfl (lv_at hl 2 rfl) ?_
                                refine lv_aload_n hx hb d_Law_law_430 rfl (lv_at hl 0 rfl) ?_
                                refine lv_iload_n hx hb d_Law_law_431 rfl (lv_at hl 3 rfl) ?_
                                refine lv_iconst (v := 1) hx hb d_Law_law_432 (by decide) ?_
                                refine lv_iadd hx hb d_Law_law_433 ?_
                                obtain ⟨e194, h195, hsh⟩ := im_bd hsh
                                refine im_sld hx hb hX hbl hbA hH h195 d_Law_law_434 ?_
                                obtain ⟨u196, h197, hsh⟩ := im_bd hsh
                                obtain ⟨g198, h199⟩ := im_is_s h197
                                obtain ⟨v202, w200, h201, hsh⟩ := im_bd2 hsh
                                refine im_afterI (va_runV (As := [.int e194]) (rest := [.int v193]) (C := RC_Model) ⟨hx, hb, hml, hown, hts⟩ (met_Model_best h201) ⟨(callB_of 1 hts (im_good wd_983) rfl rfl rfl (hts _ wd_10) (hts _ wd_980) (by decide +kernel) ⟨Nat.le_of_ble_eq_true rfl, Nat.le_of_ble_eq_true rfl⟩), hts _ wd_981, hts _ wd_982⟩ (im_preV im_NW_ok hK hN hH (ci := 9) rfl rfl h199 _) rfl rfl hl.1 rfl (lv_room (Nat.le_of_ble_eq_true rfl)) d_Law_law_435 ⟨Nat.le_of_ble_eq_true rfl, Nat.le_of_ble_eq_true rfl⟩) hH (fun H locs hH => ?_)
                                refine lv_icmp_eq (tgt := 532) hx hb d_Law_law_438 (by decide) (fun cc => ?_) (fun cc => ?_)
                                · have hsh := im_it hsh cc
                                  exact bk_Law_law_532 hX hbl hlo X ih x1 x2 x3 w200 hsh H locs ls hH (lv_sub hl [0, 1, 2, 3] rfl)
                                · have hsh := im_if hsh cc
                                  refine lv_iconst (v := 0) hx hb d_Law_law_441 (by decide) ?_
                                  cases hsh
                              · have hsh := im_if hsh c12
                                by_cases c13 : (e1 &&& (15 : Int32)) = 13
                                · have hsh := im_it hsh c13
                                  refine lv_tableIn (off := 411) (tgt := 443) hx hb d_Law_law_32 (by rw [c13]; decide) (by rw [c13]; decide) (by rw [c13]; decide) (by decide) ?_
                                  refine lv_aload_n hx hb d_Law_law_443 rfl (lv_at hl 1 rfl) ?_
                                  refine lv_aload_n hx hb d_Law_law_444 rfl (lv_at hl 0 rfl) ?_
                                  refine lv_iload_n hx hb d_Law_law_445 rfl (lv_at hl 3 rfl) ?_
                                  refine lv_iconst (v := 1) hx hb d_Law_law_446 (by decide) ?_
                                  refine lv_iadd hx hb d_Law_law_447 ?_
                                  obtain ⟨e203, h204, hsh⟩ := im_bd hsh
                                  refine im_sld hx hb hX hbl hbA hH h204 d_Law_law_448 ?_
                                  refine lv_aload_n hx hb d_Law_law_449 rfl (lv_at hl 0 rfl) ?_
                                  refine lv_iload_n hx hb d_Law_law_450 rfl (lv_at hl 3 rfl) ?_
                                  refine lv_iconst (v := 2) hx hb d_Law_law_451 (by decide) ?_
                                  refine lv_iadd hx hb d_Law_law_452 ?_
                                  obtain ⟨e205, h206, hsh⟩ := im_bd hsh
                                  refine im_sld hx hb hX hbl hbA hH h206 d_Law_law_453 ?_
                                  refine lv_aload_n hx hb d_Law_law_454 rfl (lv_at hl 0 rfl) ?_
                                  refine lv_iload_n hx hb d_Law_law_455 rfl (lv_at hl 3 rfl) ?_
                                  refine lv_iconst (v := 3) hx hb d_Law_law_456 (by decide) ?_
                                  refine lv_iadd hx hb d_Law_law_457 ?_
                                  obtain ⟨e207, h208, hsh⟩ := im_bd hsh
                                  refine im_sld hx hb hX hbl hbA hH h208 d_Law_law_458 ?_
                                  obtain ⟨u209, h210, hsh⟩ := im_bd hsh
                                  obtain ⟨g211, h212⟩ := im_is_s h210
                                  obtain ⟨v215, w213, h214, hsh⟩ := im_bd2 hsh
                                  refine im_afterI (va_runV (As := [.int e203, .int e205, .int e207]) (rest := []) (C := RC_LT) ⟨hx, hb, hml, hown, hts⟩ (met_LT_put h214) ⟨(callB_of 3 hts (im_good wd_600) rfl rfl rfl (hts _ wd_1) (hts _ wd_597) (by decide +kernel) ⟨Nat.le_of_ble_eq_true rfl, Nat.le_of_ble_eq_true rfl⟩), hts _ wd_598, hts _ wd_599⟩ (im_preV im_NW_ok hK hN hH (ci := 8) rfl rfl h212 _) rfl rfl hl.1 rfl (lv_room (Nat.le_of_ble_eq_true rfl)) d_Law_law_459 ⟨Nat.le_of_ble_eq_true rfl, Nat.le_of_ble_eq_true rfl⟩) hH (fun H locs hH => ?_)
                                  refine lv_aload_n hx hb d_Law_law_462 rfl (lv_at hl 2 rfl) ?_
                                  refine lv_aload_n hx hb d_Law_law_463 rfl (lv_at hl 0 rfl) ?_
                                  refine lv_iload_n hx hb d_Law_law_464 rfl (lv_at hl 3 rfl) ?_
                                  refine lv_iconst (v := 1) hx hb d_Law_law_465 (by decide) ?_
                                  refine lv_iadd hx hb d_Law_law_466 ?_
                                  obtain ⟨e216, h217, hsh⟩ := im_bd hsh
                                  refine im_sld hx hb hX hbl hbA hH h217 d_Law_law_467 ?_
                                  refine lv_aload_n hx hb d_Law_law_468 rfl (lv_at hl 0 rfl) ?_
                                  refine lv_iload_n hx hb d_Law_law_469 rfl (lv_at hl 3 rfl) ?_
                                  refine lv_iconst (v := 2) hx hb d_Law_law_470 (by decide) ?_
                                  refine lv_iadd hx hb d_Law_law_471 ?_
                                  obtain ⟨e218, h219, hsh⟩ := im_bd hsh
                                  refine im_sld hx hb hX hbl hbA hH h219 d_Law_law_472 ?_
                                  refine lv_aload_n hx hb d_Law_law_473 rfl (lv_at hl 0 rfl) ?_
                                  refine lv_iload_n hx hb d_Law_law_474 rfl (lv_at hl 3 rfl) ?_
                                  refine lv_iconst (v := 3) hx hb d_Law_law_475 (by decide) ?_
                                  refine lv_iadd hx hb d_Law_law_476 ?_
                                  obtain ⟨e220, h221, hsh⟩ := im_bd hsh
                                  refine im_sld hx hb hX hbl hbA hH h221 d_Law_law_477 ?_
                                  obtain ⟨u222, h223, hsh⟩ := im_bd hsh
                                  obtain ⟨g224, h225⟩ := im_is_s h223
                                  obtain ⟨v228, w226, h227, hsh⟩ := im_bd2 hsh
                                  refine im_afterI (va_runV (As := [.int e216, .int e218, .int e220]) (rest := [.int v215]) (C := RC_Model) ⟨hx, hb, hml, hown, hts⟩ (met_Model_put h227) ⟨(callB_of 3 hts (im_good wd_988) rfl rfl rfl (hts _ wd_10) (hts _ wd_985) (by decide +kernel) ⟨Nat.le_of_ble_eq_true rfl, Nat.le_of_ble_eq_true rfl⟩), hts _ wd_986, hts _ wd_987⟩ (im_preV im_NW_ok hK hN hH (ci := 9) rfl rfl h225 _) rfl rfl hl.1 rfl (lv_room (Nat.le_of_ble_eq_true rfl)) d_Law_law_478 ⟨Nat.le_of_ble_eq_true rfl, Nat.le_of_ble_eq_true rfl⟩) hH (fun H locs hH => ?_)
                                  refine lv_icmp_eq (tgt := 532) hx hb d_Law_law_481 (by decide) (fun cc => ?_) (fun cc => ?_)
                                  · have hsh := im_it hsh cc
                                    exact bk_Law_law_532 hX hbl hlo X ih x1 x2 x3 w226 hsh H locs ls hH (lv_sub hl [0, 1, 2, 3] rfl)
                                  · have hsh := im_if hsh cc
                                    refine lv_iconst (v := 0) hx hb d_Law_law_484 (by decide) ?_
                                    cases hsh
                                · have hsh := im_if hsh c13
                                  by_cases c14 : (e1 &&& (15 : Int32)) = 14
                                  · have hsh := im_it hsh c14
                                    refine lv_tableIn (off := 454) (tgt := 486) hx hb d_Law_law_32 (by rw [c14]; decide) (by rw [c14]; decide) (by rw [c14]; decide) (by decide) ?_
                                    refine lv_aload_n hx hb d_Law_law_486 rfl (lv_at hl 1 rfl) ?_
                                    refine lv_aload_n hx hb d_Law_law_487 rfl (lv_at hl 0 rfl) ?_
                                    refine lv_iload_n hx hb d_Law_law_488 rfl (lv_at hl 3 rfl) ?_
                                    refine lv_iconst (v := 1) hx hb d_Law_law_489 (by decide) ?_
                                    refine lv_iadd hx hb d_Law_law_490 ?_
                                    obtain ⟨e229, h230, hsh⟩ := im_bd hsh
                                    refine im_sld hx hb hX hbl hbA hH h230 d_Law_law_491 ?_
                                    refine lv_aload_n hx hb d_Law_law_492 rfl (lv_at hl 0 rfl) ?_
                                    refine lv_iload_n hx hb d_Law_law_493 rfl (lv_at hl 3 rfl) ?_
                                    refine lv_iconst (v := 2) hx hb d_Law_law_494 (by decide) ?_
                                    refine lv_iadd hx hb d_Law_law_495 ?_
                                    obtain ⟨e231, h232, hsh⟩ := im_bd hsh
                                    refine im_sld hx hb hX hbl hbA hH h232 d_Law_law_496 ?_
                                    obtain ⟨u233, h234, hsh⟩ := im_bd hsh
                                    obtain ⟨g235, h236⟩ := im_is_s h234
                                    obtain ⟨v239, w237, h238, hsh⟩ := im_bd2 hsh
                                    refine im_afterI (va_runV (As := [.int e229, .int e231]) (rest := []) (C := RC_LT) ⟨hx, hb, hml, hown, hts⟩ (met_LT_get h238) ⟨(callB_of 2 hts (im_good wd_612) rfl rfl rfl (hts _ wd_1) (hts _ wd_609) (by decide +kernel) ⟨Nat.le_of_ble_eq_true rfl, Nat.le_of_ble_eq_true rfl⟩), hts _ wd_610, hts _ wd_611⟩ (im_preV im_NW_ok hK hN hH (ci := 8) rfl rfl h236 _) rfl rfl hl.1 rfl (lv_room (Nat.le_of_ble_eq_true rfl)) d_Law_law_497 ⟨Nat.le_of_ble_eq_true rfl, Nat.le_of_ble_eq_true rfl⟩) hH (fun H locs hH => ?_)
                                    refine lv_aload_n hx hb d_Law_law_500 rfl (lv_at hl 2 rfl) ?_
                                    refine lv_aload_n hx hb d_Law_law_501 rfl (lv_at hl 0 rfl) ?_
                                    refine lv_iload_n hx hb d_Law_law_502 rfl (lv_at hl 3 rfl) ?_
                                    refine lv_iconst (v := 1) hx hb d_Law_law_503 (by decide) ?_
                                    refine lv_iadd hx hb d_Law_law_504 ?_
                                    obtain ⟨e240, h241, hsh⟩ := im_bd hsh
                                    refine im_sld hx hb hX hbl hbA hH h241 d_Law_law_505 ?_
                                    refine lv_aload_n hx hb d_Law_law_506 rfl (lv_at hl 0 rfl) ?_
                                    refine lv_iload_n hx hb d_Law_law_507 rfl (lv_at hl 3 rfl) ?_
                                    refine lv_iconst (v := 2) hx hb d_Law_law_508 (by decide) ?_
                                    refine lv_iadd hx hb d_Law_law_509 ?_
                                    obtain ⟨e242, h243, hsh⟩ := im_bd hsh
                                    refine im_sld hx hb hX hbl hbA hH h243 d_Law_law_510 ?_
                                    obtain ⟨u244, h245, hsh⟩ := im_bd hsh
                                    obtain ⟨g246, h247⟩ := im_is_s h245
                                    obtain ⟨v250, w248, h249, hsh⟩ := im_bd2 hsh
                                    refine im_afterI (va_runV (As := [.int e240, .int e242]) (rest := [.int v239]) (C := RC_Model) ⟨hx, hb, hml, hown, hts⟩ (met_Model_get h249) ⟨(callB_of 2 hts (im_good wd_992) rfl rfl rfl (hts _ wd_10) (hts _ wd_989) (by decide +kernel) ⟨Nat.le_of_ble_eq_true rfl, Nat.le_of_ble_eq_true rfl⟩), hts _ wd_990, hts _ wd_991⟩ (im_preV im_NW_ok hK hN hH (ci := 9) rfl rfl h247 _) rfl rfl hl.1 rfl (lv_room (Nat.le_of_ble_eq_true rfl)) d_Law_law_511 ⟨Nat.le_of_ble_eq_true rfl, Nat.le_of_ble_eq_true rfl⟩) hH (fun H locs hH => ?_)
                                    refine lv_icmp_eq (tgt := 532) hx hb d_Law_law_514 (by decide) (fun cc => ?_) (fun cc => ?_)
                                    · have hsh := im_it hsh cc
                                      exact bk_Law_law_532 hX hbl hlo X ih x1 x2 x3 w248 hsh H locs ls hH (lv_sub hl [0, 1, 2, 3] rfl)
                                    · have hsh := im_if hsh cc
                                      refine lv_iconst (v := 0) hx hb d_Law_law_517 (by decide) ?_
                                      cases hsh
                                  · have hsh := im_if hsh c14
                                    by_cases c15 : (e1 &&& (15 : Int32)) = 15
                                    · have hsh := im_it hsh c15
                                      refine lv_tableIn (off := 487) (tgt := 519) hx hb d_Law_law_32 (by rw [c15]; decide) (by rw [c15]; decide) (by rw [c15]; decide) (by decide) ?_
                                      refine lv_aload_n hx hb d_Law_law_519 rfl (lv_at hl 1 rfl) ?_
                                      obtain ⟨u251, h252, hsh⟩ := im_bd hsh
                                      obtain ⟨g253, h254⟩ := im_is_s h252
                                      obtain ⟨v257, w255, h256, hsh⟩ := im_bd2 hsh
                                      refine im_afterI (va_runV (As := []) (rest := []) (C := RC_LT) ⟨hx, hb, hml, hown, hts⟩ (met_LT_found h256) ⟨(callB_of 0 hts (im_good wd_624) rfl rfl rfl (hts _ wd_1) (hts _ wd_621) (by decide +kernel) ⟨Nat.le_of_ble_eq_true rfl, Nat.le_of_ble_eq_true rfl⟩), hts _ wd_622, hts _ wd_623⟩ (im_preV im_NW_ok hK hN hH (ci := 8) rfl rfl h254 _) rfl rfl hl.1 rfl (lv_room (Nat.le_of_ble_eq_true rfl)) d_Law_law_520 ⟨Nat.le_of_ble_eq_true rfl, Nat.le_of_ble_eq_true rfl⟩) hH (fun H locs hH => ?_)
                                      refine lv_aload_n hx hb d_Law_law_523 rfl (lv_at hl 2 rfl) ?_
                                      obtain ⟨u258, h259, hsh⟩ := im_bd hsh
                                      obtain ⟨g260, h261⟩ := im_is_s h259
                                      obtain ⟨v264, w262, h263, hsh⟩ := im_bd2 hsh
                                      refine im_afterI (va_runV (As := []) (rest := [.int v257]) (C := RC_Model) ⟨hx, hb, hml, hown, hts⟩ (met_Model_found h263) ⟨(callB_of 0 hts (im_good wd_1000) rfl rfl rfl (hts _ wd_10) (hts _ wd_997) (by decide +kernel) ⟨Nat.le_of_ble_eq_true rfl, Nat.le_of_ble_eq_true rfl⟩), hts _ wd_998, hts _ wd_999⟩ (im_preV im_NW_ok hK hN hH (ci := 9) rfl rfl h261 _) rfl rfl hl.1 rfl (lv_room (Nat.le_of_ble_eq_true rfl)) d_Law_law_524 ⟨Nat.le_of_ble_eq_true rfl, Nat.le_of_ble_eq_true rfl⟩) hH (fun H locs hH => ?_)
                                      refine lv_icmp_eq (tgt := 532) hx hb d_Law_law_527 (by decide) (fun cc => ?_) (fun cc => ?_)
                                      · have hsh := im_it hsh cc
                                        exact bk_Law_law_532 hX hbl hlo X ih x1 x2 x3 w262 hsh H locs ls hH (lv_sub hl [0, 1, 2, 3] rfl)
                                      · have hsh := im_if hsh cc
                                        refine lv_iconst (v := 0) hx hb d_Law_law_530 (by decide) ?_
                                        cases hsh
                                    · have hsh := im_if hsh c15
                                      cases hsh
end GEN
