/-! words that the throwing of rank wants -/
theorem q_162 : (Jvm.Cond.initialized "LeafSweepLaw") ∈ mm_tbl := mm_tt0 0 rfl rfl
theorem q_183 : (Jvm.Cond.initialized "java/lang/Throwable") ∈ mm_tbl := mm_tt0 21 rfl rfl
theorem q_186 : (Jvm.Cond.initialized "java/util/NoSuchElementException") ∈ mm_tbl := mm_tt0 24 rfl rfl
theorem q_1602 : (Jvm.Cond.static ({ cls := "LeafSweepLaw", name := "rank", desc := "(LLeafSweep;II[J)I" } : Jvm.MethodName)) ∈ mm_tbl := mm_tt6 0 rfl rfl
theorem q_1603 : (Jvm.Cond.codeWith ({ cls := "LeafSweepLaw", name := "rank", desc := "(LLeafSweep;II[J)I" } : Jvm.MethodName) method_3_code (5 : Nat) (Option.some Jvm.ClassFile.FieldType.int) [((0 : Nat), (10 : Nat), (13 : Nat), (13 : Nat))]) ∈ mm_tbl := mm_tt6 1 rfl rfl
theorem q_1604 : (Jvm.Cond.classLink "LeafSweepLaw" (13 : Nat) "java/util/NoSuchElementException") ∈ mm_tbl := mm_tt6 2 rfl rfl
theorem q_1609 : (Jvm.Cond.classLink "LeafSweep" (257 : Nat) "java/util/NoSuchElementException") ∈ mm_tbl := mm_tt6 7 rfl rfl
theorem q_1610 : (Jvm.Cond.instantiable "java/util/NoSuchElementException" (6 : Nat)) ∈ mm_tbl := mm_tt6 8 rfl rfl
theorem q_1618 : (Jvm.Cond.selects "java/util/NoSuchElementException" ({ cls := "java/lang/Throwable", name := "fillInStackTrace", desc := "(I)Ljava/lang/Throwable;" } : Jvm.MethodName) ({ cls := "java/lang/Throwable", name := "fillInStackTrace", desc := "(I)Ljava/lang/Throwable;" } : Jvm.MethodName)) ∈ mm_tbl := mm_tt6 16 rfl rfl
theorem q_1619 : (Jvm.Cond.selects "java/util/NoSuchElementException" ({ cls := "java/lang/Throwable", name := "fillInStackTrace", desc := "()Ljava/lang/Throwable;" } : Jvm.MethodName) ({ cls := "java/lang/Throwable", name := "fillInStackTrace", desc := "()Ljava/lang/Throwable;" } : Jvm.MethodName)) ∈ mm_tbl := mm_tt6 17 rfl rfl
theorem q_1620 : (Jvm.Cond.lays "java/util/NoSuchElementException" "java/lang/Throwable" "cause" "Ljava/lang/Throwable;") ∈ mm_tbl := mm_tt6 18 rfl rfl
theorem q_1621 : (Jvm.Cond.lays "java/lang/Throwable" "java/lang/Throwable" "cause" "Ljava/lang/Throwable;") ∈ mm_tbl := mm_tt6 19 rfl rfl
theorem q_1622 : (Jvm.Cond.lays "java/util/NoSuchElementException" "java/lang/Throwable" "stackTrace" "[Ljava/lang/StackTraceElement;") ∈ mm_tbl := mm_tt6 20 rfl rfl
theorem q_1623 : (Jvm.Cond.lays "java/lang/Throwable" "java/lang/Throwable" "stackTrace" "[Ljava/lang/StackTraceElement;") ∈ mm_tbl := mm_tt6 21 rfl rfl
theorem q_1624 : (Jvm.Cond.lays "java/util/NoSuchElementException" "java/lang/Throwable" "suppressedExceptions" "Ljava/util/List;") ∈ mm_tbl := mm_tt6 22 rfl rfl
theorem q_1625 : (Jvm.Cond.lays "java/lang/Throwable" "java/lang/Throwable" "suppressedExceptions" "Ljava/util/List;") ∈ mm_tbl := mm_tt6 23 rfl rfl
theorem q_1626 : (Jvm.Cond.lays "java/util/NoSuchElementException" "java/lang/Throwable" "detailMessage" "Ljava/lang/String;") ∈ mm_tbl := mm_tt6 24 rfl rfl
theorem q_1627 : (Jvm.Cond.lays "java/lang/Throwable" "java/lang/Throwable" "detailMessage" "Ljava/lang/String;") ∈ mm_tbl := mm_tt6 25 rfl rfl
theorem q_1628 : (Jvm.Cond.lays "java/util/NoSuchElementException" "java/lang/Throwable" "backtrace" "Ljava/lang/Object;") ∈ mm_tbl := mm_tt6 26 rfl rfl
theorem q_1629 : (Jvm.Cond.lays "java/lang/Throwable" "java/lang/Throwable" "backtrace" "Ljava/lang/Object;") ∈ mm_tbl := mm_tt6 27 rfl rfl
theorem q_1630 : (Jvm.Cond.fieldLink "java/lang/Throwable" (198 : Nat) "java/lang/Throwable" "backtrace" "Ljava/lang/Object;") ∈ mm_tbl := mm_tt6 28 rfl rfl
theorem q_1631 : (Jvm.Cond.superclass "java/lang/Throwable" "java/lang/Object") ∈ mm_tbl := mm_tt6 29 rfl rfl
theorem q_1632 : (Jvm.Cond.instanceMethod ({ cls := "java/lang/Throwable", name := "<init>", desc := "()V" } : Jvm.MethodName)) ∈ mm_tbl := mm_tt6 30 rfl rfl
theorem q_1633 : (Jvm.Cond.code ({ cls := "java/lang/Throwable", name := "<init>", desc := "()V" } : Jvm.MethodName) prog_26_method_1_code (1 : Nat) (Option.none : Option Jvm.ClassFile.FieldType)) ∈ mm_tbl := mm_tt6 31 rfl rfl
theorem q_1634 : (Jvm.Cond.methodLink "java/lang/Throwable" (1 : Nat) ({ cls := "java/lang/Object", name := "<init>", desc := "()V" } : Jvm.MethodName)) ∈ mm_tbl := mm_tt6 32 rfl rfl
theorem q_1635 : (Jvm.Cond.fieldLink "java/lang/Throwable" (13 : Nat) "java/lang/Throwable" "UNASSIGNED_STACK" "[Ljava/lang/StackTraceElement;") ∈ mm_tbl := mm_tt6 33 rfl rfl
theorem q_1637 : (Jvm.Cond.fieldLink "java/lang/Throwable" (20 : Nat) "java/lang/Throwable" "SUPPRESSED_SENTINEL" "Ljava/util/List;") ∈ mm_tbl := mm_tt6 35 rfl rfl
theorem q_1639 : (Jvm.Cond.methodLink "java/lang/Throwable" (27 : Nat) ({ cls := "java/lang/Throwable", name := "fillInStackTrace", desc := "()Ljava/lang/Throwable;" } : Jvm.MethodName)) ∈ mm_tbl := mm_tt6 37 rfl rfl
theorem q_1640 : (Jvm.Cond.instanceMethod ({ cls := "java/lang/Throwable", name := "fillInStackTrace", desc := "()Ljava/lang/Throwable;" } : Jvm.MethodName)) ∈ mm_tbl := mm_tt6 38 rfl rfl
theorem q_1642 : (Jvm.Cond.codeSync ({ cls := "java/lang/Throwable", name := "fillInStackTrace", desc := "()Ljava/lang/Throwable;" } : Jvm.MethodName) prog_26_method_18_code (1 : Nat) (Option.some (Jvm.ClassFile.FieldType.object "java/lang/Throwable"))) ∈ mm_tbl := mm_tt6 40 rfl rfl
theorem q_1643 : (Jvm.Cond.methodLink "java/lang/Throwable" (202 : Nat) ({ cls := "java/lang/Throwable", name := "fillInStackTrace", desc := "(I)Ljava/lang/Throwable;" } : Jvm.MethodName)) ∈ mm_tbl := mm_tt6 41 rfl rfl
theorem q_1645 : (Jvm.Cond.instanceMethod ({ cls := "java/lang/Throwable", name := "fillInStackTrace", desc := "(I)Ljava/lang/Throwable;" } : Jvm.MethodName)) ∈ mm_tbl := mm_tt6 43 rfl rfl
theorem q_1647 : (Jvm.Cond.native ({ cls := "java/lang/Throwable", name := "fillInStackTrace", desc := "(I)Ljava/lang/Throwable;" } : Jvm.MethodName)) ∈ mm_tbl := mm_tt6 45 rfl rfl
theorem q_1649 : (Jvm.Cond.methodLink "LeafSweep" (261 : Nat) ({ cls := "java/util/NoSuchElementException", name := "<init>", desc := "(Ljava/lang/String;)V" } : Jvm.MethodName)) ∈ mm_tbl := mm_tt6 47 rfl rfl
theorem q_1650 : (Jvm.Cond.instanceMethod ({ cls := "java/util/NoSuchElementException", name := "<init>", desc := "(Ljava/lang/String;)V" } : Jvm.MethodName)) ∈ mm_tbl := mm_tt6 48 rfl rfl
theorem q_1651 : (Jvm.Cond.code ({ cls := "java/util/NoSuchElementException", name := "<init>", desc := "(Ljava/lang/String;)V" } : Jvm.MethodName) prog_29_method_4_code (2 : Nat) (Option.none : Option Jvm.ClassFile.FieldType)) ∈ mm_tbl := mm_tt6 49 rfl rfl
theorem q_1652 : (Jvm.Cond.methodLink "java/util/NoSuchElementException" (13 : Nat) ({ cls := "java/lang/RuntimeException", name := "<init>", desc := "(Ljava/lang/String;)V" } : Jvm.MethodName)) ∈ mm_tbl := mm_tt6 50 rfl rfl
theorem q_1653 : (Jvm.Cond.instanceMethod ({ cls := "java/lang/RuntimeException", name := "<init>", desc := "(Ljava/lang/String;)V" } : Jvm.MethodName)) ∈ mm_tbl := mm_tt6 51 rfl rfl
theorem q_1654 : (Jvm.Cond.code ({ cls := "java/lang/RuntimeException", name := "<init>", desc := "(Ljava/lang/String;)V" } : Jvm.MethodName) prog_21_method_2_code (2 : Nat) (Option.none : Option Jvm.ClassFile.FieldType)) ∈ mm_tbl := mm_tt6 52 rfl rfl
theorem q_1655 : (Jvm.Cond.methodLink "java/lang/RuntimeException" (7 : Nat) ({ cls := "java/lang/Exception", name := "<init>", desc := "(Ljava/lang/String;)V" } : Jvm.MethodName)) ∈ mm_tbl := mm_tt6 53 rfl rfl
theorem q_1656 : (Jvm.Cond.instanceMethod ({ cls := "java/lang/Exception", name := "<init>", desc := "(Ljava/lang/String;)V" } : Jvm.MethodName)) ∈ mm_tbl := mm_tt6 54 rfl rfl
theorem q_1657 : (Jvm.Cond.code ({ cls := "java/lang/Exception", name := "<init>", desc := "(Ljava/lang/String;)V" } : Jvm.MethodName) prog_18_method_2_code (2 : Nat) (Option.none : Option Jvm.ClassFile.FieldType)) ∈ mm_tbl := mm_tt6 55 rfl rfl
theorem q_1658 : (Jvm.Cond.methodLink "java/lang/Exception" (7 : Nat) ({ cls := "java/lang/Throwable", name := "<init>", desc := "(Ljava/lang/String;)V" } : Jvm.MethodName)) ∈ mm_tbl := mm_tt6 56 rfl rfl
theorem q_1659 : (Jvm.Cond.instanceMethod ({ cls := "java/lang/Throwable", name := "<init>", desc := "(Ljava/lang/String;)V" } : Jvm.MethodName)) ∈ mm_tbl := mm_tt6 57 rfl rfl
theorem q_1660 : (Jvm.Cond.code ({ cls := "java/lang/Throwable", name := "<init>", desc := "(Ljava/lang/String;)V" } : Jvm.MethodName) prog_26_method_2_code (2 : Nat) (Option.none : Option Jvm.ClassFile.FieldType)) ∈ mm_tbl := mm_tt6 58 rfl rfl
theorem q_1662 : (Jvm.Cond.fieldLink "java/lang/Throwable" (31 : Nat) "java/lang/Throwable" "detailMessage" "Ljava/lang/String;") ∈ mm_tbl := mm_tt6 60 rfl rfl
theorem q_1663 : (Jvm.Cond.fieldLink "java/lang/Throwable" (7 : Nat) "java/lang/Throwable" "cause" "Ljava/lang/Throwable;") ∈ mm_tbl := mm_tt6 61 rfl rfl
theorem q_1664 : (Jvm.Cond.fieldLink "java/lang/Throwable" (17 : Nat) "java/lang/Throwable" "stackTrace" "[Ljava/lang/StackTraceElement;") ∈ mm_tbl := mm_tt6 62 rfl rfl
theorem q_1665 : (Jvm.Cond.fieldLink "java/lang/Throwable" (24 : Nat) "java/lang/Throwable" "suppressedExceptions" "Ljava/util/List;") ∈ mm_tbl := mm_tt6 63 rfl rfl
abbrev xN : String := "java/util/NoSuchElementException"
abbrev xT : String := "no visible row of that index"
abbrev xNs : List String := ["java/lang/RuntimeException", "java/lang/Exception"]
def xrx : ByteArray := ⟨#[0x2a, 0x2b, 0xb7, 0x00, 0x0d, 0xb1]⟩
/-- what the throwing wants of the tables -/
def xOwn : List Cond := Bundle.ownAtomsX RX11 261 xN 13 xrx xNs
def xB : List Cond := [Cond.declares ⟨"java/lang/RuntimeException", "<init>", "(Ljava/lang/String;)V"⟩, Cond.declares ⟨"java/lang/Exception", "<init>", "(Ljava/lang/String;)V"⟩, Cond.declares ⟨"java/lang/Throwable", "<init>", "(Ljava/lang/String;)V"⟩, Cond.castable "java/util/NoSuchElementException" "java/util/NoSuchElementException"]
theorem xg_throwableAtoms : ∀ w ∈ Bundle.throwableAtoms, vx_no w = true → goodWord w = true → w ∈ mm_tbl := by
  unfold Bundle.throwableAtoms
  exact (List.forall_mem_cons.mpr ⟨(fun _ _ => q_183), (List.forall_mem_cons.mpr ⟨(fun _ _ => q_1631), (List.forall_mem_cons.mpr ⟨(fun _ _ => q_1640), (List.forall_mem_cons.mpr ⟨(fun _ _ => q_1642), (List.forall_mem_cons.mpr ⟨(fun _ _ => q_1645), (List.forall_mem_cons.mpr ⟨(fun _ _ => q_1647), (List.forall_mem_cons.mpr ⟨(fun _ _ => q_1632), (List.forall_mem_cons.mpr ⟨(fun _ _ => q_1633), (List.forall_mem_cons.mpr ⟨(fun _ _ => q_193), (List.forall_mem_cons.mpr ⟨(fun _ _ => q_194), (List.forall_mem_cons.mpr ⟨(fun _ _ => q_1634), (List.forall_mem_cons.mpr ⟨(fun _ _ => q_1639), (List.forall_mem_cons.mpr ⟨(fun _ _ => q_1643), (List.forall_mem_cons.mpr ⟨(fun _ _ => q_1663), (List.forall_mem_cons.mpr ⟨(fun _ _ => q_1621), (List.forall_mem_cons.mpr ⟨(fun _ _ => q_1664), (List.forall_mem_cons.mpr ⟨(fun _ _ => q_1623), (List.forall_mem_cons.mpr ⟨(fun _ _ => q_1665), (List.forall_mem_cons.mpr ⟨(fun _ _ => q_1625), (List.forall_mem_cons.mpr ⟨(fun _ _ => q_1635), (List.forall_mem_cons.mpr ⟨(fun h _ => absurd h (by decide +kernel)), (List.forall_mem_cons.mpr ⟨(fun _ _ => q_1637), (List.forall_mem_cons.mpr ⟨(fun h _ => absurd h (by decide +kernel)), (List.forall_mem_cons.mpr ⟨(fun _ _ => q_1627), (fun _ h => absurd h List.not_mem_nil)⟩)⟩)⟩)⟩)⟩)⟩)⟩)⟩)⟩)⟩)⟩)⟩)⟩)⟩)⟩)⟩)⟩)⟩)⟩)⟩)⟩)⟩)⟩)⟩)
theorem xg_throwableSAtoms : ∀ w ∈ Bundle.throwableSAtoms, vx_no w = true → goodWord w = true → w ∈ mm_tbl := by
  unfold Bundle.throwableSAtoms
  exact (List.forall_mem_cons.mpr ⟨(fun _ _ => q_1659), (List.forall_mem_cons.mpr ⟨(fun _ _ => q_1660), (List.forall_mem_cons.mpr ⟨(fun _ _ => q_1662), (List.forall_mem_cons.mpr ⟨(fun _ _ => q_1627), (fun _ h => absurd h List.not_mem_nil)⟩)⟩)⟩)⟩)
theorem xg_c1 : ∀ w ∈ Bundle.passSAtoms "java/util/NoSuchElementException" "java/lang/RuntimeException" 13 xrx, vx_no w = true → goodWord w = true → w ∈ mm_tbl := by
  unfold Bundle.passSAtoms
  exact (List.forall_mem_cons.mpr ⟨(fun _ _ => q_1650), (List.forall_mem_cons.mpr ⟨(fun _ _ => q_1651), (List.forall_mem_cons.mpr ⟨(fun _ _ => q_1652), (List.forall_mem_cons.mpr ⟨(fun _ _ => q_1653), (List.forall_mem_cons.mpr ⟨(fun _ h => absurd h (by decide +kernel)), (fun _ h => absurd h List.not_mem_nil)⟩)⟩)⟩)⟩)⟩)
theorem xg_c2 : ∀ w ∈ Bundle.passSAtoms "java/lang/RuntimeException" "java/lang/Exception" 7 Bundle.six, vx_no w = true → goodWord w = true → w ∈ mm_tbl := by
  unfold Bundle.passSAtoms
  exact (List.forall_mem_cons.mpr ⟨(fun _ _ => q_1653), (List.forall_mem_cons.mpr ⟨(fun _ _ => q_1654), (List.forall_mem_cons.mpr ⟨(fun _ _ => q_1655), (List.forall_mem_cons.mpr ⟨(fun _ _ => q_1656), (List.forall_mem_cons.mpr ⟨(fun _ h => absurd h (by decide +kernel)), (fun _ h => absurd h List.not_mem_nil)⟩)⟩)⟩)⟩)⟩)
theorem xg_c3 : ∀ w ∈ Bundle.passSAtoms "java/lang/Exception" "java/lang/Throwable" 7 Bundle.six, vx_no w = true → goodWord w = true → w ∈ mm_tbl := by
  unfold Bundle.passSAtoms
  exact (List.forall_mem_cons.mpr ⟨(fun _ _ => q_1656), (List.forall_mem_cons.mpr ⟨(fun _ _ => q_1657), (List.forall_mem_cons.mpr ⟨(fun _ _ => q_1658), (List.forall_mem_cons.mpr ⟨(fun _ _ => q_1659), (List.forall_mem_cons.mpr ⟨(fun _ h => absurd h (by decide +kernel)), (fun _ h => absurd h List.not_mem_nil)⟩)⟩)⟩)⟩)⟩)
theorem xg_all : ∀ w ∈ xOwn, vx_no w = true → goodWord w = true → w ∈ mm_tbl := by
  unfold xOwn Bundle.ownAtomsX
  refine List.forall_mem_append.mpr ⟨List.forall_mem_append.mpr ⟨List.forall_mem_append.mpr ⟨xg_throwableAtoms, xg_throwableSAtoms⟩, ?_⟩, (List.forall_mem_cons.mpr ⟨(fun _ _ => q_1649), (List.forall_mem_cons.mpr ⟨(fun _ _ => q_1610), (List.forall_mem_cons.mpr ⟨(fun _ h => absurd h (by decide +kernel)), (List.forall_mem_cons.mpr ⟨(fun _ _ => q_1618), (List.forall_mem_cons.mpr ⟨(fun _ _ => q_1619), (List.forall_mem_cons.mpr ⟨(fun _ _ => q_1620), (List.forall_mem_cons.mpr ⟨(fun _ _ => q_1622), (List.forall_mem_cons.mpr ⟨(fun _ _ => q_1624), (List.forall_mem_cons.mpr ⟨(fun _ _ => q_1626), (List.forall_mem_cons.mpr ⟨(fun h _ => absurd h (by decide +kernel)), (List.forall_mem_cons.mpr ⟨(fun h _ => absurd h (by decide +kernel)), (List.forall_mem_cons.mpr ⟨(fun _ _ => q_1630), (List.forall_mem_cons.mpr ⟨(fun _ _ => q_1629), (List.forall_mem_cons.mpr ⟨(fun _ _ => q_1628), (fun _ h => absurd h List.not_mem_nil)⟩)⟩)⟩)⟩)⟩)⟩)⟩)⟩)⟩)⟩)⟩)⟩)⟩)⟩)⟩
  show ∀ w ∈ Bundle.passSAtoms xN "java/lang/RuntimeException" 13 xrx ++ (Bundle.passSAtoms "java/lang/RuntimeException" "java/lang/Exception" 7 Bundle.six ++ Bundle.passSAtoms "java/lang/Exception" Bundle.tN 7 Bundle.six), _
  exact List.forall_mem_append.mpr ⟨xg_c1, List.forall_mem_append.mpr ⟨xg_c2, xg_c3⟩⟩
theorem xb_throwableAtoms : ∀ w ∈ Bundle.throwableAtoms, vx_no w = true → goodWord w = false → w ∈ xB := by
  unfold Bundle.throwableAtoms
  exact (List.forall_mem_cons.mpr ⟨(fun _ h => absurd h (by decide +kernel)), (List.forall_mem_cons.mpr ⟨(fun _ h => absurd h (by decide +kernel)), (List.forall_mem_cons.mpr ⟨(fun _ h => absurd h (by decide +kernel)), (List.forall_mem_cons.mpr ⟨(fun _ h => absurd h (by decide +kernel)), (List.forall_mem_cons.mpr ⟨(fun _ h => absurd h (by decide +kernel)), (List.forall_mem_cons.mpr ⟨(fun _ h => absurd h (by decide +kernel)), (List.forall_mem_cons.mpr ⟨(fun _ h => absurd h (by decide +kernel)), (List.forall_mem_cons.mpr ⟨(fun _ h => absurd h (by decide +kernel)), (List.forall_mem_cons.mpr ⟨(fun _ h => absurd h (by decide +kernel)), (List.forall_mem_cons.mpr ⟨(fun _ h => absurd h (by decide +kernel)), (List.forall_mem_cons.mpr ⟨(fun _ h => absurd h (by decide +kernel)), (List.forall_mem_cons.mpr ⟨(fun _ h => absurd h (by decide +kernel)), (List.forall_mem_cons.mpr ⟨(fun _ h => absurd h (by decide +kernel)), (List.forall_mem_cons.mpr ⟨(fun _ h => absurd h (by decide +kernel)), (List.forall_mem_cons.mpr ⟨(fun _ h => absurd h (by decide +kernel)), (List.forall_mem_cons.mpr ⟨(fun _ h => absurd h (by decide +kernel)), (List.forall_mem_cons.mpr ⟨(fun _ h => absurd h (by decide +kernel)), (List.forall_mem_cons.mpr ⟨(fun _ h => absurd h (by decide +kernel)), (List.forall_mem_cons.mpr ⟨(fun _ h => absurd h (by decide +kernel)), (List.forall_mem_cons.mpr ⟨(fun _ h => absurd h (by decide +kernel)), (List.forall_mem_cons.mpr ⟨(fun h _ => absurd h (by decide +kernel)), (List.forall_mem_cons.mpr ⟨(fun _ h => absurd h (by decide +kernel)), (List.forall_mem_cons.mpr ⟨(fun h _ => absurd h (by decide +kernel)), (List.forall_mem_cons.mpr ⟨(fun _ h => absurd h (by decide +kernel)), (fun _ h => absurd h List.not_mem_nil)⟩)⟩)⟩)⟩)⟩)⟩)⟩)⟩)⟩)⟩)⟩)⟩)⟩)⟩)⟩)⟩)⟩)⟩)⟩)⟩)⟩)⟩)⟩)⟩)
theorem xb_throwableSAtoms : ∀ w ∈ Bundle.throwableSAtoms, vx_no w = true → goodWord w = false → w ∈ xB := by
  unfold Bundle.throwableSAtoms
  exact (List.forall_mem_cons.mpr ⟨(fun _ h => absurd h (by decide +kernel)), (List.forall_mem_cons.mpr ⟨(fun _ h => absurd h (by decide +kernel)), (List.forall_mem_cons.mpr ⟨(fun _ h => absurd h (by decide +kernel)), (List.forall_mem_cons.mpr ⟨(fun _ h => absurd h (by decide +kernel)), (fun _ h => absurd h List.not_mem_nil)⟩)⟩)⟩)⟩)
theorem xb_c1 : ∀ w ∈ Bundle.passSAtoms "java/util/NoSuchElementException" "java/lang/RuntimeException" 13 xrx, vx_no w = true → goodWord w = false → w ∈ xB := by
  unfold Bundle.passSAtoms
  exact (List.forall_mem_cons.mpr ⟨(fun _ h => absurd h (by decide +kernel)), (List.forall_mem_cons.mpr ⟨(fun _ h => absurd h (by decide +kernel)), (List.forall_mem_cons.mpr ⟨(fun _ h => absurd h (by decide +kernel)), (List.forall_mem_cons.mpr ⟨(fun _ h => absurd h (by decide +kernel)), (List.forall_mem_cons.mpr ⟨(fun _ _ => List.mem_cons_self), (fun _ h => absurd h List.not_mem_nil)⟩)⟩)⟩)⟩)⟩)
theorem xb_c2 : ∀ w ∈ Bundle.passSAtoms "java/lang/RuntimeException" "java/lang/Exception" 7 Bundle.six, vx_no w = true → goodWord w = false → w ∈ xB := by
  unfold Bundle.passSAtoms
  exact (List.forall_mem_cons.mpr ⟨(fun _ h => absurd h (by decide +kernel)), (List.forall_mem_cons.mpr ⟨(fun _ h => absurd h (by decide +kernel)), (List.forall_mem_cons.mpr ⟨(fun _ h => absurd h (by decide +kernel)), (List.forall_mem_cons.mpr ⟨(fun _ h => absurd h (by decide +kernel)), (List.forall_mem_cons.mpr ⟨(fun _ _ => List.mem_cons_of_mem _ (List.mem_cons_self)), (fun _ h => absurd h List.not_mem_nil)⟩)⟩)⟩)⟩)⟩)
theorem xb_c3 : ∀ w ∈ Bundle.passSAtoms "java/lang/Exception" "java/lang/Throwable" 7 Bundle.six, vx_no w = true → goodWord w = false → w ∈ xB := by
  unfold Bundle.passSAtoms
  exact (List.forall_mem_cons.mpr ⟨(fun _ h => absurd h (by decide +kernel)), (List.forall_mem_cons.mpr ⟨(fun _ h => absurd h (by decide +kernel)), (List.forall_mem_cons.mpr ⟨(fun _ h => absurd h (by decide +kernel)), (List.forall_mem_cons.mpr ⟨(fun _ h => absurd h (by decide +kernel)), (List.forall_mem_cons.mpr ⟨(fun _ _ => List.mem_cons_of_mem _ (List.mem_cons_of_mem _ (List.mem_cons_self))), (fun _ h => absurd h List.not_mem_nil)⟩)⟩)⟩)⟩)⟩)
theorem xb_all : ∀ w ∈ xOwn, vx_no w = true → goodWord w = false → w ∈ xB := by
  unfold xOwn Bundle.ownAtomsX
  refine List.forall_mem_append.mpr ⟨List.forall_mem_append.mpr ⟨List.forall_mem_append.mpr ⟨xb_throwableAtoms, xb_throwableSAtoms⟩, ?_⟩, (List.forall_mem_cons.mpr ⟨(fun _ h => absurd h (by decide +kernel)), (List.forall_mem_cons.mpr ⟨(fun _ h => absurd h (by decide +kernel)), (List.forall_mem_cons.mpr ⟨(fun _ _ => List.mem_cons_of_mem _ (List.mem_cons_of_mem _ (List.mem_cons_of_mem _ (List.mem_cons_self)))), (List.forall_mem_cons.mpr ⟨(fun _ h => absurd h (by decide +kernel)), (List.forall_mem_cons.mpr ⟨(fun _ h => absurd h (by decide +kernel)), (List.forall_mem_cons.mpr ⟨(fun _ h => absurd h (by decide +kernel)), (List.forall_mem_cons.mpr ⟨(fun _ h => absurd h (by decide +kernel)), (List.forall_mem_cons.mpr ⟨(fun _ h => absurd h (by decide +kernel)), (List.forall_mem_cons.mpr ⟨(fun _ h => absurd h (by decide +kernel)), (List.forall_mem_cons.mpr ⟨(fun h _ => absurd h (by decide +kernel)), (List.forall_mem_cons.mpr ⟨(fun h _ => absurd h (by decide +kernel)), (List.forall_mem_cons.mpr ⟨(fun _ h => absurd h (by decide +kernel)), (List.forall_mem_cons.mpr ⟨(fun _ h => absurd h (by decide +kernel)), (List.forall_mem_cons.mpr ⟨(fun _ h => absurd h (by decide +kernel)), (fun _ h => absurd h List.not_mem_nil)⟩)⟩)⟩)⟩)⟩)⟩)⟩)⟩)⟩)⟩)⟩)⟩)⟩)⟩)⟩
  show ∀ w ∈ Bundle.passSAtoms xN "java/lang/RuntimeException" 13 xrx ++ (Bundle.passSAtoms "java/lang/RuntimeException" "java/lang/Exception" 7 Bundle.six ++ Bundle.passSAtoms "java/lang/Exception" Bundle.tN 7 Bundle.six), _
  exact List.forall_mem_append.mpr ⟨xb_c1, List.forall_mem_append.mpr ⟨xb_c2, xb_c3⟩⟩
theorem x_ot : (Cond.classLink RX11 257 xN :: Cond.initialized xN :: xOwn.filter vx_no).all vx_ot = true := by decide +kernel
theorem xB_ok : xB.all (fun w => w.faceAtom && w.onTables) = true := by decide +kernel
theorem x_cl : Cond.classLink RX11 257 xN ∈ mm_tbl := q_1609
theorem x_in : Cond.initialized xN ∈ mm_tbl := q_186
theorem x_cw : Cond.codeWith yL_rank cL_rank 5 (some .int) [(0, 10, 13, 13)] ∈ mm_tbl := q_1603
theorem x_st : Cond.static yL_rank ∈ mm_tbl := q_1602
theorem x_il : Cond.initialized RL ∈ mm_tbl := q_162
theorem x_k13 : Cond.classLink RL 13 xN ∈ mm_tbl := q_1604
theorem lw_tt0 {w : Cond} (j : Nat) (h0 : tables_1_1[j]? = some w) : w ∈ lw_tbl := by
  have h : w ∈ tables_1_1 := List.mem_of_getElem? h0
  have h2 : w ∈ tables_1 := by
    unfold tables_1
    exact List.mem_append_left _ h
  exact List.mem_append_right _ h2
theorem lw_tt1 {w : Cond} (j : Nat) (h0 : tables_1_2[j]? = some w) : w ∈ lw_tbl := by
  have h : w ∈ tables_1_2 := List.mem_of_getElem? h0
  have h2 : w ∈ tables_1 := by
    unfold tables_1
    exact List.mem_append_right _ (List.mem_append_left _ h)
  exact List.mem_append_right _ h2
theorem lw_tt3 {w : Cond} (j : Nat) (h0 : tables_1_4[j]? = some w) : w ∈ lw_tbl := by
  have h : w ∈ tables_1_4 := List.mem_of_getElem? h0
  have h2 : w ∈ tables_1 := by
    unfold tables_1
    exact List.mem_append_right _ (List.mem_append_right _ (List.mem_append_right _ (List.mem_append_left _ h)))
  exact List.mem_append_right _ h2
theorem lw_tt4 {w : Cond} (j : Nat) (h0 : tables_1_5[j]? = some w) : w ∈ lw_tbl := by
  have h : w ∈ tables_1_5 := List.mem_of_getElem? h0
  have h2 : w ∈ tables_1 := by
    unfold tables_1
    exact List.mem_append_right _ (List.mem_append_right _ (List.mem_append_right _ (List.mem_append_right _ (List.mem_append_left _ h))))
  exact List.mem_append_right _ h2
theorem lw_tt6 {w : Cond} (j : Nat) (h0 : tables_1_7[j]? = some w) : w ∈ lw_tbl := by
  have h : w ∈ tables_1_7 := List.mem_of_getElem? h0
  have h2 : w ∈ tables_1 := by
    unfold tables_1
    exact List.mem_append_right _ (List.mem_append_right _ (List.mem_append_right _ (List.mem_append_right _ (List.mem_append_right _ (List.mem_append_right _ (List.mem_append_left _ h))))))
  exact List.mem_append_right _ h2
theorem r_1613 : (Jvm.Cond.declares ({ cls := "java/lang/RuntimeException", name := "<init>", desc := "(Ljava/lang/String;)V" } : Jvm.MethodName)) ∈ lw_tbl := lw_tt6 11 rfl
theorem r_1615 : (Jvm.Cond.declares ({ cls := "java/lang/Exception", name := "<init>", desc := "(Ljava/lang/String;)V" } : Jvm.MethodName)) ∈ lw_tbl := lw_tt6 13 rfl
theorem r_1617 : (Jvm.Cond.declares ({ cls := "java/lang/Throwable", name := "<init>", desc := "(Ljava/lang/String;)V" } : Jvm.MethodName)) ∈ lw_tbl := lw_tt6 15 rfl
theorem r_1611 : (Jvm.Cond.castable "java/util/NoSuchElementException" "java/util/NoSuchElementException") ∈ lw_tbl := lw_tt6 9 rfl
theorem r_201 : (Jvm.Cond.stringRef "LeafSweep$Tape" (42 : Nat) "page batch index on row point at choose part insert remove change begin step stop crash resume pack plain down once partial firm loose bound a b c from to is over every twin pointed not and or ") ∈ lw_tbl := lw_tt0 39 rfl
theorem r_1648 : (Jvm.Cond.stringRef "LeafSweep" (259 : Nat) "no visible row of that index") ∈ lw_tbl := lw_tt6 46 rfl
theorem r_471 : (Jvm.Cond.arrayOver (Jvm.ClassFile.FieldType.object "LeafSweep$State")) ∈ lw_tbl := lw_tt1 69 rfl
theorem r_535 : (Jvm.Cond.arrayOver (Jvm.ClassFile.FieldType.object "LeafSweep$Leaves")) ∈ lw_tbl := lw_tt1 133 rfl
theorem r_1636 : (Jvm.Cond.laysStatic "java/lang/Throwable" "UNASSIGNED_STACK" "[Ljava/lang/StackTraceElement;") ∈ lw_tbl := lw_tt6 34 rfl
theorem r_1638 : (Jvm.Cond.laysStatic "java/lang/Throwable" "SUPPRESSED_SENTINEL" "Ljava/util/List;") ∈ lw_tbl := lw_tt6 36 rfl
theorem r_211 : (Jvm.Cond.laysStatic "java/lang/String" "COMPACT_STRINGS" "Z") ∈ lw_tbl := lw_tt0 49 rfl
theorem r_227 : (Jvm.Cond.laysStatic "jdk/internal/util/Preconditions" "SIOOBE_FORMATTER" "Ljava/util/function/BiFunction;") ∈ lw_tbl := lw_tt0 65 rfl
theorem r_165 : (Jvm.Cond.initialized "java/lang/String") ∈ lw_tbl := lw_tt0 3 rfl
theorem r_167 : (Jvm.Cond.initialized "jdk/internal/util/Preconditions") ∈ lw_tbl := lw_tt0 5 rfl
theorem r_183 : (Jvm.Cond.initialized "java/lang/Throwable") ∈ lw_tbl := lw_tt0 21 rfl
theorem r_294 : (Jvm.Cond.methodLinkNest "LeafSweep$Reader" (11 : Nat) ({ cls := "LeafSweep$Plan", name := "<init>", desc := "()V" } : Jvm.MethodName) "LeafSweep") ∈ lw_tbl := lw_tt0 132 rfl
theorem r_300 : (Jvm.Cond.methodLinkNest "LeafSweep$Plan" (33 : Nat) ({ cls := "LeafSweep$Where", name := "<init>", desc := "()V" } : Jvm.MethodName) "LeafSweep") ∈ lw_tbl := lw_tt0 138 rfl
theorem r_407 : (Jvm.Cond.methodLinkNest "LeafSweep$Reader" (20 : Nat) ({ cls := "LeafSweep$Lines", name := "<init>", desc := "()V" } : Jvm.MethodName) "LeafSweep") ∈ lw_tbl := lw_tt1 5 rfl
theorem r_445 : (Jvm.Cond.methodLinkNest "LeafSweep" (27 : Nat) ({ cls := "LeafSweep$Bench", name := "<init>", desc := "()V" } : Jvm.MethodName) "LeafSweep") ∈ lw_tbl := lw_tt1 43 rfl
theorem r_473 : (Jvm.Cond.methodLinkNest "LeafSweep" (56 : Nat) ({ cls := "LeafSweep$Plan", name := "<init>", desc := "()V" } : Jvm.MethodName) "LeafSweep") ∈ lw_tbl := lw_tt1 71 rfl
theorem r_475 : (Jvm.Cond.methodLinkNest "LeafSweep" (66 : Nat) ({ cls := "LeafSweep$Lines", name := "<init>", desc := "()V" } : Jvm.MethodName) "LeafSweep") ∈ lw_tbl := lw_tt1 73 rfl
theorem r_483 : (Jvm.Cond.methodLinkNest "LeafSweep$State" (11 : Nat) ({ cls := "LeafSweep$Rows", name := "<init>", desc := "()V" } : Jvm.MethodName) "LeafSweep") ∈ lw_tbl := lw_tt1 81 rfl
theorem r_509 : (Jvm.Cond.methodLinkNest "LeafSweep$State" (20 : Nat) ({ cls := "LeafSweep$Points", name := "<init>", desc := "()V" } : Jvm.MethodName) "LeafSweep") ∈ lw_tbl := lw_tt1 107 rfl
theorem r_538 : (Jvm.Cond.methodLinkNest "LeafSweep$State" (33 : Nat) ({ cls := "LeafSweep$Job", name := "<init>", desc := "()V" } : Jvm.MethodName) "LeafSweep") ∈ lw_tbl := lw_tt1 136 rfl
theorem r_544 : (Jvm.Cond.methodLinkNest "LeafSweep$Job" (20 : Nat) ({ cls := "LeafSweep$Leaves", name := "<init>", desc := "()V" } : Jvm.MethodName) "LeafSweep") ∈ lw_tbl := lw_tt1 142 rfl
theorem r_625 : (Jvm.Cond.methodLinkNest "LeafSweep$State" (59 : Nat) ({ cls := "LeafSweep$Leaves", name := "<init>", desc := "()V" } : Jvm.MethodName) "LeafSweep") ∈ lw_tbl := lw_tt1 223 rfl
theorem r_1040 : (Jvm.Cond.methodLinkNest "LeafSweep$State" (231 : Nat) ({ cls := "LeafSweep", name := "areValues", desc := "(III)Z" } : Jvm.MethodName) "LeafSweep") ∈ lw_tbl := lw_tt3 158 rfl
theorem r_1146 : (Jvm.Cond.methodLinkNest "LeafSweep$State" (263 : Nat) ({ cls := "LeafSweep", name := "isValue", desc := "(I)Z" } : Jvm.MethodName) "LeafSweep") ∈ lw_tbl := lw_tt4 24 rfl
theorem xB_in : ∀ w ∈ xB, w ∈ lw_tbl := (List.forall_mem_cons.mpr ⟨r_1613, (List.forall_mem_cons.mpr ⟨r_1615, (List.forall_mem_cons.mpr ⟨r_1617, (List.forall_mem_cons.mpr ⟨r_1611, (fun _ h => absurd h List.not_mem_nil)⟩)⟩)⟩)⟩)
theorem nest_in : ∀ w ∈ mm_nest, w ∈ lw_tbl := (List.forall_mem_cons.mpr ⟨r_294, (List.forall_mem_cons.mpr ⟨r_300, (List.forall_mem_cons.mpr ⟨r_407, (List.forall_mem_cons.mpr ⟨r_445, (List.forall_mem_cons.mpr ⟨r_473, (List.forall_mem_cons.mpr ⟨r_475, (List.forall_mem_cons.mpr ⟨r_483, (List.forall_mem_cons.mpr ⟨r_509, (List.forall_mem_cons.mpr ⟨r_538, (List.forall_mem_cons.mpr ⟨r_544, (List.forall_mem_cons.mpr ⟨r_625, (List.forall_mem_cons.mpr ⟨r_1040, (List.forall_mem_cons.mpr ⟨r_1146, (fun _ h => absurd h List.not_mem_nil)⟩)⟩)⟩)⟩)⟩)⟩)⟩)⟩)⟩)⟩)⟩)⟩)⟩)
