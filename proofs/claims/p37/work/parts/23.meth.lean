theorem gw8 : (Jvm.Cond.selects "NotationPress$Printer" ({ cls := "NotationPress$Printer", name := "writeNumber", desc := "(III)Z" } : Jvm.MethodName) ({ cls := "NotationPress$Printer", name := "writeNumber", desc := "(III)Z" } : Jvm.MethodName)) ∈ np_gw := np_gwi 8 (by decide +kernel) rfl
theorem gw9 : (Jvm.Cond.selects "NotationPress$Printer" ({ cls := "NotationPress$Printer", name := "write", desc := "(I)Z" } : Jvm.MethodName) ({ cls := "NotationPress$Printer", name := "write", desc := "(I)Z" } : Jvm.MethodName)) ∈ np_gw := np_gwi 9 (by decide +kernel) rfl
theorem gw10 : (Jvm.Cond.selects "NotationPress$Printer" ({ cls := "NotationPress$Printer", name := "writeWord", desc := "(II)Z" } : Jvm.MethodName) ({ cls := "NotationPress$Printer", name := "writeWord", desc := "(II)Z" } : Jvm.MethodName)) ∈ np_gw := np_gwi 10 (by decide +kernel) rfl
theorem gw11 : (Jvm.Cond.selects "NotationPress$Printer" ({ cls := "NotationPress$Printer", name := "writeFills", desc := "(II)Z" } : Jvm.MethodName) ({ cls := "NotationPress$Printer", name := "writeFills", desc := "(II)Z" } : Jvm.MethodName)) ∈ np_gw := np_gwi 11 (by decide +kernel) rfl
theorem gw12 : (Jvm.Cond.selects "NotationPress$Printer" ({ cls := "NotationPress$Printer", name := "writeBits", desc := "(II)Z" } : Jvm.MethodName) ({ cls := "NotationPress$Printer", name := "writeBits", desc := "(II)Z" } : Jvm.MethodName)) ∈ np_gw := np_gwi 12 (by decide +kernel) rfl
theorem gw65 : (Jvm.Cond.initialized "NotationPress$Printer") ∈ np_gw := np_gwi 65 (by decide +kernel) rfl
theorem gw151 : (Jvm.Cond.fieldLinkNest "NotationPress$Printer" (40 : Nat) "NotationPress$Trace" "item" "I" "NotationPress") ∈ np_nw := np_nwi 151 (by decide +kernel) rfl
theorem gw156 : (Jvm.Cond.fieldLinkNest "NotationPress$Printer" (86 : Nat) "NotationPress$Trace" "round" "I" "NotationPress") ∈ np_nw := np_nwi 156 (by decide +kernel) rfl
theorem gw183 : (Jvm.Cond.fieldLink "NotationPress$Printer" (15 : Nat) "NotationPress$Printer" "number" "[I") ∈ np_gw := np_gwi 183 (by decide +kernel) rfl
theorem gw782 : (Jvm.Cond.static ({ cls := "NotationPress", name := "unitsOfLetter", desc := "(I)I" } : Jvm.MethodName)) ∈ np_gw := np_gwi 782 (by decide +kernel) rfl
theorem gw783 : (Jvm.Cond.code ({ cls := "NotationPress", name := "unitsOfLetter", desc := "(I)I" } : Jvm.MethodName) prog_1_method_54_code (1 : Nat) (Option.some Jvm.ClassFile.FieldType.int)) ∈ np_gw := np_gwi 783 (by decide +kernel) rfl
theorem gw802 : (Jvm.Cond.methodLink "NotationPress$Printer" (66 : Nat) ({ cls := "NotationPress$Items", name := "a", desc := "(I)I" } : Jvm.MethodName)) ∈ np_gw := np_gwi 802 (by decide +kernel) rfl
theorem gw803 : (Jvm.Cond.methodLinkNest "NotationPress$Printer" (89 : Nat) ({ cls := "NotationPress", name := "cellPlace", desc := "(II)I" } : Jvm.MethodName) "NotationPress") ∈ np_nw := np_nwi 803 (by decide +kernel) rfl
theorem gw804 : (Jvm.Cond.constant "NotationPress$Printer" (93 : Nat) (-2147483648 : Int32)) ∈ np_gw := np_gwi 804 (by decide +kernel) rfl
theorem gw806 : (Jvm.Cond.methodLink "NotationPress$Printer" (94 : Nat) ({ cls := "NotationPress$Trace", name := "begin", desc := "(I)V" } : Jvm.MethodName)) ∈ np_gw := np_gwi 806 (by decide +kernel) rfl
theorem gw807 : (Jvm.Cond.instanceMethod ({ cls := "NotationPress$Trace", name := "begin", desc := "(I)V" } : Jvm.MethodName)) ∈ np_gw := np_gwi 807 (by decide +kernel) rfl
theorem gw808 : (Jvm.Cond.selects "NotationPress$Trace" ({ cls := "NotationPress$Trace", name := "begin", desc := "(I)V" } : Jvm.MethodName) ({ cls := "NotationPress$Trace", name := "begin", desc := "(I)V" } : Jvm.MethodName)) ∈ np_gw := np_gwi 808 (by decide +kernel) rfl
theorem gw809 : (Jvm.Cond.code ({ cls := "NotationPress$Trace", name := "begin", desc := "(I)V" } : Jvm.MethodName) prog_10_method_6_code (2 : Nat) (Option.none : Option Jvm.ClassFile.FieldType)) ∈ np_gw := np_gwi 809 (by decide +kernel) rfl
theorem gw815 : (Jvm.Cond.methodLink "NotationPress$Printer" (98 : Nat) ({ cls := "NotationPress$Trace", name := "keep", desc := "(II)V" } : Jvm.MethodName)) ∈ np_gw := np_gwi 815 (by decide +kernel) rfl
theorem gw816 : (Jvm.Cond.instanceMethod ({ cls := "NotationPress$Trace", name := "keep", desc := "(II)V" } : Jvm.MethodName)) ∈ np_gw := np_gwi 816 (by decide +kernel) rfl
theorem gw817 : (Jvm.Cond.selects "NotationPress$Trace" ({ cls := "NotationPress$Trace", name := "keep", desc := "(II)V" } : Jvm.MethodName) ({ cls := "NotationPress$Trace", name := "keep", desc := "(II)V" } : Jvm.MethodName)) ∈ np_gw := np_gwi 817 (by decide +kernel) rfl
theorem gw818 : (Jvm.Cond.code ({ cls := "NotationPress$Trace", name := "keep", desc := "(II)V" } : Jvm.MethodName) prog_10_method_5_code (3 : Nat) (Option.none : Option Jvm.ClassFile.FieldType)) ∈ np_gw := np_gwi 818 (by decide +kernel) rfl
theorem gw820 : (Jvm.Cond.methodLink "NotationPress$Printer" (102 : Nat) ({ cls := "NotationPress$Items", name := "b", desc := "(I)I" } : Jvm.MethodName)) ∈ np_gw := np_gwi 820 (by decide +kernel) rfl
theorem gw821 : (Jvm.Cond.methodLink "NotationPress$Printer" (105 : Nat) ({ cls := "NotationPress$Items", name := "c", desc := "(I)I" } : Jvm.MethodName)) ∈ np_gw := np_gwi 821 (by decide +kernel) rfl
theorem gw822 : (Jvm.Cond.methodLink "NotationPress$Printer" (70 : Nat) ({ cls := "NotationPress$Items", name := "kind", desc := "(I)I" } : Jvm.MethodName)) ∈ np_gw := np_gwi 822 (by decide +kernel) rfl
theorem gw823 : (Jvm.Cond.methodLink "NotationPress$Printer" (108 : Nat) ({ cls := "NotationPress$Printer", name := "writeNumber", desc := "(III)Z" } : Jvm.MethodName)) ∈ np_gw := np_gwi 823 (by decide +kernel) rfl
theorem gw825 : (Jvm.Cond.instanceMethod ({ cls := "NotationPress$Printer", name := "writeNumber", desc := "(III)Z" } : Jvm.MethodName)) ∈ np_gw := np_gwi 825 (by decide +kernel) rfl
theorem gw826 : (Jvm.Cond.code ({ cls := "NotationPress$Printer", name := "writeNumber", desc := "(III)Z" } : Jvm.MethodName) prog_5_method_8_code (5 : Nat) (Option.some Jvm.ClassFile.FieldType.boolean)) ∈ np_gw := np_gwi 826 (by decide +kernel) rfl
theorem gw827 : (Jvm.Cond.methodLinkNest "NotationPress$Printer" (134 : Nat) ({ cls := "NotationPress", name := "layOutNumber", desc := "(III[I)Z" } : Jvm.MethodName) "NotationPress") ∈ np_nw := np_nwi 827 (by decide +kernel) rfl
theorem gw828 : (Jvm.Cond.static ({ cls := "NotationPress", name := "layOutNumber", desc := "(III[I)Z" } : Jvm.MethodName)) ∈ np_gw := np_gwi 828 (by decide +kernel) rfl
theorem gw829 : (Jvm.Cond.code ({ cls := "NotationPress", name := "layOutNumber", desc := "(III[I)Z" } : Jvm.MethodName) prog_1_method_58_code (8 : Nat) (Option.some Jvm.ClassFile.FieldType.boolean)) ∈ np_gw := np_gwi 829 (by decide +kernel) rfl
theorem gw830 : (Jvm.Cond.methodLink "NotationPress" (446 : Nat) ({ cls := "NotationPress", name := "fillOfNumber", desc := "(I)I" } : Jvm.MethodName)) ∈ np_gw := np_gwi 830 (by decide +kernel) rfl
theorem gw831 : (Jvm.Cond.static ({ cls := "NotationPress", name := "fillOfNumber", desc := "(I)I" } : Jvm.MethodName)) ∈ np_gw := np_gwi 831 (by decide +kernel) rfl
theorem gw832 : (Jvm.Cond.code ({ cls := "NotationPress", name := "fillOfNumber", desc := "(I)I" } : Jvm.MethodName) prog_1_method_56_code (1 : Nat) (Option.some Jvm.ClassFile.FieldType.int)) ∈ np_gw := np_gwi 832 (by decide +kernel) rfl
theorem gw833 : (Jvm.Cond.methodLink "NotationPress$Printer" (77 : Nat) ({ cls := "NotationPress$Printer", name := "write", desc := "(I)Z" } : Jvm.MethodName)) ∈ np_gw := np_gwi 833 (by decide +kernel) rfl
theorem gw835 : (Jvm.Cond.instanceMethod ({ cls := "NotationPress$Printer", name := "write", desc := "(I)Z" } : Jvm.MethodName)) ∈ np_gw := np_gwi 835 (by decide +kernel) rfl
theorem gw836 : (Jvm.Cond.code ({ cls := "NotationPress$Printer", name := "write", desc := "(I)Z" } : Jvm.MethodName) prog_5_method_7_code (2 : Nat) (Option.some Jvm.ClassFile.FieldType.boolean)) ∈ np_gw := np_gwi 836 (by decide +kernel) rfl
theorem gw837 : (Jvm.Cond.methodLink "NotationPress$Printer" (131 : Nat) ({ cls := "NotationPress$Trace", name := "append", desc := "(I)V" } : Jvm.MethodName)) ∈ np_gw := np_gwi 837 (by decide +kernel) rfl
theorem gw838 : (Jvm.Cond.instanceMethod ({ cls := "NotationPress$Trace", name := "append", desc := "(I)V" } : Jvm.MethodName)) ∈ np_gw := np_gwi 838 (by decide +kernel) rfl
theorem gw839 : (Jvm.Cond.selects "NotationPress$Trace" ({ cls := "NotationPress$Trace", name := "append", desc := "(I)V" } : Jvm.MethodName) ({ cls := "NotationPress$Trace", name := "append", desc := "(I)V" } : Jvm.MethodName)) ∈ np_gw := np_gwi 839 (by decide +kernel) rfl
theorem gw840 : (Jvm.Cond.code ({ cls := "NotationPress$Trace", name := "append", desc := "(I)V" } : Jvm.MethodName) prog_10_method_8_code (2 : Nat) (Option.none : Option Jvm.ClassFile.FieldType)) ∈ np_gw := np_gwi 840 (by decide +kernel) rfl
theorem gw841 : (Jvm.Cond.methodLinkNest "NotationPress$Trace" (81 : Nat) ({ cls := "NotationPress", name := "isDigit", desc := "(I)Z" } : Jvm.MethodName) "NotationPress") ∈ np_nw := np_nwi 841 (by decide +kernel) rfl
theorem gw842 : (Jvm.Cond.static ({ cls := "NotationPress", name := "isDigit", desc := "(I)Z" } : Jvm.MethodName)) ∈ np_gw := np_gwi 842 (by decide +kernel) rfl
theorem gw843 : (Jvm.Cond.code ({ cls := "NotationPress", name := "isDigit", desc := "(I)Z" } : Jvm.MethodName) prog_1_method_51_code (1 : Nat) (Option.some Jvm.ClassFile.FieldType.boolean)) ∈ np_gw := np_gwi 843 (by decide +kernel) rfl
theorem gw844 : (Jvm.Cond.methodLink "NotationPress$Printer" (112 : Nat) ({ cls := "NotationPress$Printer", name := "writeWord", desc := "(II)Z" } : Jvm.MethodName)) ∈ np_gw := np_gwi 844 (by decide +kernel) rfl
theorem gw846 : (Jvm.Cond.instanceMethod ({ cls := "NotationPress$Printer", name := "writeWord", desc := "(II)Z" } : Jvm.MethodName)) ∈ np_gw := np_gwi 846 (by decide +kernel) rfl
theorem gw847 : (Jvm.Cond.code ({ cls := "NotationPress$Printer", name := "writeWord", desc := "(II)Z" } : Jvm.MethodName) prog_5_method_9_code (7 : Nat) (Option.some Jvm.ClassFile.FieldType.boolean)) ∈ np_gw := np_gwi 847 (by decide +kernel) rfl
theorem gw848 : (Jvm.Cond.methodLinkNest "NotationPress$Printer" (138 : Nat) ({ cls := "NotationPress", name := "isWord", desc := "(I)Z" } : Jvm.MethodName) "NotationPress") ∈ np_nw := np_nwi 848 (by decide +kernel) rfl
theorem gw849 : (Jvm.Cond.static ({ cls := "NotationPress", name := "isWord", desc := "(I)Z" } : Jvm.MethodName)) ∈ np_gw := np_gwi 849 (by decide +kernel) rfl
theorem gw850 : (Jvm.Cond.code ({ cls := "NotationPress", name := "isWord", desc := "(I)Z" } : Jvm.MethodName) prog_1_method_53_code (3 : Nat) (Option.some Jvm.ClassFile.FieldType.boolean)) ∈ np_gw := np_gwi 850 (by decide +kernel) rfl
theorem gw851 : (Jvm.Cond.methodLink "NotationPress" (440 : Nat) ({ cls := "NotationPress", name := "isBetween", desc := "(III)Z" } : Jvm.MethodName)) ∈ np_gw := np_gwi 851 (by decide +kernel) rfl
theorem gw852 : (Jvm.Cond.methodLinkNest "NotationPress$Printer" (119 : Nat) ({ cls := "NotationPress", name := "unitsOfWord", desc := "(I)I" } : Jvm.MethodName) "NotationPress") ∈ np_nw := np_nwi 852 (by decide +kernel) rfl
theorem gw853 : (Jvm.Cond.static ({ cls := "NotationPress", name := "unitsOfWord", desc := "(I)I" } : Jvm.MethodName)) ∈ np_gw := np_gwi 853 (by decide +kernel) rfl
theorem gw854 : (Jvm.Cond.code ({ cls := "NotationPress", name := "unitsOfWord", desc := "(I)I" } : Jvm.MethodName) prog_1_method_55_code (4 : Nat) (Option.some Jvm.ClassFile.FieldType.int)) ∈ np_gw := np_gwi 854 (by decide +kernel) rfl
theorem gw855 : (Jvm.Cond.methodLink "NotationPress" (443 : Nat) ({ cls := "NotationPress", name := "unitsOfLetter", desc := "(I)I" } : Jvm.MethodName)) ∈ np_gw := np_gwi 855 (by decide +kernel) rfl
theorem gw856 : (Jvm.Cond.constant "NotationPress$Printer" (141 : Nat) (55357 : Int32)) ∈ np_gw := np_gwi 856 (by decide +kernel) rfl
theorem gw857 : (Jvm.Cond.constant "NotationPress$Printer" (142 : Nat) (56832 : Int32)) ∈ np_gw := np_gwi 857 (by decide +kernel) rfl
theorem gw858 : (Jvm.Cond.methodLinkNest "NotationPress$Printer" (116 : Nat) ({ cls := "NotationPress", name := "fillOfWord", desc := "(I)I" } : Jvm.MethodName) "NotationPress") ∈ np_nw := np_nwi 858 (by decide +kernel) rfl
theorem gw859 : (Jvm.Cond.methodLink "NotationPress$Printer" (122 : Nat) ({ cls := "NotationPress$Printer", name := "writeFills", desc := "(II)Z" } : Jvm.MethodName)) ∈ np_gw := np_gwi 859 (by decide +kernel) rfl
theorem gw861 : (Jvm.Cond.instanceMethod ({ cls := "NotationPress$Printer", name := "writeFills", desc := "(II)Z" } : Jvm.MethodName)) ∈ np_gw := np_gwi 861 (by decide +kernel) rfl
theorem gw862 : (Jvm.Cond.code ({ cls := "NotationPress$Printer", name := "writeFills", desc := "(II)Z" } : Jvm.MethodName) prog_5_method_10_code (4 : Nat) (Option.some Jvm.ClassFile.FieldType.boolean)) ∈ np_gw := np_gwi 862 (by decide +kernel) rfl
theorem gw863 : (Jvm.Cond.methodLink "NotationPress$Printer" (125 : Nat) ({ cls := "NotationPress$Printer", name := "writeBits", desc := "(II)Z" } : Jvm.MethodName)) ∈ np_gw := np_gwi 863 (by decide +kernel) rfl
theorem gw865 : (Jvm.Cond.instanceMethod ({ cls := "NotationPress$Printer", name := "writeBits", desc := "(II)Z" } : Jvm.MethodName)) ∈ np_gw := np_gwi 865 (by decide +kernel) rfl
theorem gw866 : (Jvm.Cond.code ({ cls := "NotationPress$Printer", name := "writeBits", desc := "(II)Z" } : Jvm.MethodName) prog_5_method_11_code (4 : Nat) (Option.some Jvm.ClassFile.FieldType.boolean)) ∈ np_gw := np_gwi 866 (by decide +kernel) rfl
theorem gw867 : (Jvm.Cond.methodLinkNest "NotationPress$Printer" (128 : Nat) ({ cls := "NotationPress", name := "isBetween", desc := "(III)Z" } : Jvm.MethodName) "NotationPress") ∈ np_nw := np_nwi 867 (by decide +kernel) rfl
theorem dX11_layOutNumber_0 : decode cX11_layOutNumber 0 = .ok (.iload_n 0, 1) := by decide +kernel
theorem dX11_layOutNumber_1 : decode cX11_layOutNumber 1 = .ok (.ifCond .lt 14, 3) := by decide +kernel
theorem dX11_layOutNumber_4 : decode cX11_layOutNumber 4 = .ok (.iload_n 1, 1) := by decide +kernel
theorem dX11_layOutNumber_5 : decode cX11_layOutNumber 5 = .ok (.iconst 1, 1) := by decide +kernel
theorem dX11_layOutNumber_6 : decode cX11_layOutNumber 6 = .ok (.if_icmp .lt 9, 3) := by decide +kernel
theorem dX11_layOutNumber_9 : decode cX11_layOutNumber 9 = .ok (.iload_n 1, 1) := by decide +kernel
theorem dX11_layOutNumber_10 : decode cX11_layOutNumber 10 = .ok (.aload_n 3, 1) := by decide +kernel
theorem dX11_layOutNumber_11 : decode cX11_layOutNumber 11 = .ok (.arraylength, 1) := by decide +kernel
theorem dX11_layOutNumber_12 : decode cX11_layOutNumber 12 = .ok (.if_icmp .le 5, 3) := by decide +kernel
theorem dX11_layOutNumber_15 : decode cX11_layOutNumber 15 = .ok (.iconst 0, 1) := by decide +kernel
theorem dX11_layOutNumber_16 : decode cX11_layOutNumber 16 = .ok (.ireturn, 1) := by decide +kernel
theorem dX11_layOutNumber_17 : decode cX11_layOutNumber 17 = .ok (.iload_n 2, 1) := by decide +kernel
theorem dX11_layOutNumber_18 : decode cX11_layOutNumber 18 = .ok (.iconst 3, 1) := by decide +kernel
theorem dX11_layOutNumber_19 : decode cX11_layOutNumber 19 = .ok (.idiv, 1) := by decide +kernel
theorem dX11_layOutNumber_20 : decode cX11_layOutNumber 20 = .ok (.iconst 1, 1) := by decide +kernel
theorem dX11_layOutNumber_21 : decode cX11_layOutNumber 21 = .ok (.if_icmp .ne 8, 3) := by decide +kernel
theorem dX11_layOutNumber_24 : decode cX11_layOutNumber 24 = .ok (.bipush 44, 2) := by decide +kernel
theorem dX11_layOutNumber_26 : decode cX11_layOutNumber 26 = .ok (.goto 5, 3) := by decide +kernel
theorem dX11_layOutNumber_29 : decode cX11_layOutNumber 29 = .ok (.bipush 46, 2) := by decide +kernel
theorem dX11_layOutNumber_31 : decode cX11_layOutNumber 31 = .ok (.istore 4, 2) := by decide +kernel
theorem dX11_layOutNumber_33 : decode cX11_layOutNumber 33 = .ok (.iload_n 0, 1) := by decide +kernel
theorem dX11_layOutNumber_34 : decode cX11_layOutNumber 34 = .ok (.istore 5, 2) := by decide +kernel
theorem dX11_layOutNumber_36 : decode cX11_layOutNumber 36 = .ok (.iconst 0, 1) := by decide +kernel
theorem dX11_layOutNumber_37 : decode cX11_layOutNumber 37 = .ok (.istore 6, 2) := by decide +kernel
theorem dX11_layOutNumber_39 : decode cX11_layOutNumber 39 = .ok (.iload_n 1, 1) := by decide +kernel
theorem dX11_layOutNumber_40 : decode cX11_layOutNumber 40 = .ok (.iconst 1, 1) := by decide +kernel
theorem dX11_layOutNumber_41 : decode cX11_layOutNumber 41 = .ok (.isub, 1) := by decide +kernel
theorem dX11_layOutNumber_42 : decode cX11_layOutNumber 42 = .ok (.istore 7, 2) := by decide +kernel
theorem dX11_layOutNumber_44 : decode cX11_layOutNumber 44 = .ok (.iload 7, 2) := by decide +kernel
theorem dX11_layOutNumber_46 : decode cX11_layOutNumber 46 = .ok (.ifCond .lt 74, 3) := by decide +kernel
theorem dX11_layOutNumber_49 : decode cX11_layOutNumber 49 = .ok (.iload 6, 2) := by decide +kernel
theorem dX11_layOutNumber_51 : decode cX11_layOutNumber 51 = .ok (.ifCond .eq 8, 3) := by decide +kernel
theorem dX11_layOutNumber_54 : decode cX11_layOutNumber 54 = .ok (.iload 5, 2) := by decide +kernel
theorem dX11_layOutNumber_56 : decode cX11_layOutNumber 56 = .ok (.ifCond .le 64, 3) := by decide +kernel
theorem dX11_layOutNumber_59 : decode cX11_layOutNumber 59 = .ok (.iload_n 2, 1) := by decide +kernel
theorem dX11_layOutNumber_60 : decode cX11_layOutNumber 60 = .ok (.iconst 3, 1) := by decide +kernel
theorem dX11_layOutNumber_61 : decode cX11_layOutNumber 61 = .ok (.if_icmp .lt 24, 3) := by decide +kernel
theorem dX11_layOutNumber_64 : decode cX11_layOutNumber 64 = .ok (.iload 6, 2) := by decide +kernel
theorem dX11_layOutNumber_66 : decode cX11_layOutNumber 66 = .ok (.ifCond .le 19, 3) := by decide +kernel
theorem dX11_layOutNumber_69 : decode cX11_layOutNumber 69 = .ok (.iload 6, 2) := by decide +kernel
theorem dX11_layOutNumber_71 : decode cX11_layOutNumber 71 = .ok (.iconst 3, 1) := by decide +kernel
theorem dX11_layOutNumber_72 : decode cX11_layOutNumber 72 = .ok (.irem, 1) := by decide +kernel
theorem dX11_layOutNumber_73 : decode cX11_layOutNumber 73 = .ok (.ifCond .ne 12, 3) := by decide +kernel
theorem dX11_layOutNumber_76 : decode cX11_layOutNumber 76 = .ok (.aload_n 3, 1) := by decide +kernel
theorem dX11_layOutNumber_77 : decode cX11_layOutNumber 77 = .ok (.iload 7, 2) := by decide +kernel
theorem dX11_layOutNumber_79 : decode cX11_layOutNumber 79 = .ok (.iload 4, 2) := by decide +kernel
theorem dX11_layOutNumber_81 : decode cX11_layOutNumber 81 = .ok (.iastore, 1) := by decide +kernel
theorem dX11_layOutNumber_82 : decode cX11_layOutNumber 82 = .ok (.iinc 7 (-1), 3) := by decide +kernel
theorem dX11_layOutNumber_85 : decode cX11_layOutNumber 85 = .ok (.iload 7, 2) := by decide +kernel
theorem dX11_layOutNumber_87 : decode cX11_layOutNumber 87 = .ok (.ifCond .ge 5, 3) := by decide +kernel
theorem dX11_layOutNumber_90 : decode cX11_layOutNumber 90 = .ok (.iconst 0, 1) := by decide +kernel
theorem dX11_layOutNumber_91 : decode cX11_layOutNumber 91 = .ok (.ireturn, 1) := by decide +kernel
theorem dX11_layOutNumber_92 : decode cX11_layOutNumber 92 = .ok (.aload_n 3, 1) := by decide +kernel
theorem dX11_layOutNumber_93 : decode cX11_layOutNumber 93 = .ok (.iload 7, 2) := by decide +kernel
theorem dX11_layOutNumber_95 : decode cX11_layOutNumber 95 = .ok (.bipush 48, 2) := by decide +kernel
theorem dX11_layOutNumber_97 : decode cX11_layOutNumber 97 = .ok (.iload 5, 2) := by decide +kernel
theorem dX11_layOutNumber_99 : decode cX11_layOutNumber 99 = .ok (.bipush 10, 2) := by decide +kernel
theorem dX11_layOutNumber_101 : decode cX11_layOutNumber 101 = .ok (.irem, 1) := by decide +kernel
theorem dX11_layOutNumber_102 : decode cX11_layOutNumber 102 = .ok (.iadd, 1) := by decide +kernel
theorem dX11_layOutNumber_103 : decode cX11_layOutNumber 103 = .ok (.iastore, 1) := by decide +kernel
theorem dX11_layOutNumber_104 : decode cX11_layOutNumber 104 = .ok (.iload 5, 2) := by decide +kernel
theorem dX11_layOutNumber_106 : decode cX11_layOutNumber 106 = .ok (.bipush 10, 2) := by decide +kernel
theorem dX11_layOutNumber_108 : decode cX11_layOutNumber 108 = .ok (.idiv, 1) := by decide +kernel
theorem dX11_layOutNumber_109 : decode cX11_layOutNumber 109 = .ok (.istore 5, 2) := by decide +kernel
theorem dX11_layOutNumber_111 : decode cX11_layOutNumber 111 = .ok (.iinc 6 1, 3) := by decide +kernel
theorem dX11_layOutNumber_114 : decode cX11_layOutNumber 114 = .ok (.iinc 7 (-1), 3) := by decide +kernel
theorem dX11_layOutNumber_117 : decode cX11_layOutNumber 117 = .ok (.goto (-73), 3) := by decide +kernel
theorem dX11_layOutNumber_120 : decode cX11_layOutNumber 120 = .ok (.iload 7, 2) := by decide +kernel
theorem dX11_layOutNumber_122 : decode cX11_layOutNumber 122 = .ok (.ifCond .lt 17, 3) := by decide +kernel
theorem dX11_layOutNumber_125 : decode cX11_layOutNumber 125 = .ok (.aload_n 3, 1) := by decide +kernel
theorem dX11_layOutNumber_126 : decode cX11_layOutNumber 126 = .ok (.iload 7, 2) := by decide +kernel
theorem dX11_layOutNumber_128 : decode cX11_layOutNumber 128 = .ok (.iload_n 2, 1) := by decide +kernel
theorem dX11_layOutNumber_129 : decode cX11_layOutNumber 129 = .ok (.invokestatic 446, 3) := by decide +kernel
theorem dX11_layOutNumber_132 : decode cX11_layOutNumber 132 = .ok (.iastore, 1) := by decide +kernel
theorem dX11_layOutNumber_133 : decode cX11_layOutNumber 133 = .ok (.iinc 7 (-1), 3) := by decide +kernel
theorem dX11_layOutNumber_136 : decode cX11_layOutNumber 136 = .ok (.goto (-16), 3) := by decide +kernel
theorem dX11_layOutNumber_139 : decode cX11_layOutNumber 139 = .ok (.iload 5, 2) := by decide +kernel
theorem dX11_layOutNumber_141 : decode cX11_layOutNumber 141 = .ok (.ifCond .ne 7, 3) := by decide +kernel
theorem dX11_layOutNumber_144 : decode cX11_layOutNumber 144 = .ok (.iconst 1, 1) := by decide +kernel
theorem dX11_layOutNumber_145 : decode cX11_layOutNumber 145 = .ok (.goto 4, 3) := by decide +kernel
theorem dX11_layOutNumber_148 : decode cX11_layOutNumber 148 = .ok (.iconst 0, 1) := by decide +kernel
theorem dX11_layOutNumber_149 : decode cX11_layOutNumber 149 = .ok (.ireturn, 1) := by decide +kernel
def is_X11_layOutNumber (Rt : np_Rt) : List (Nat × np_Op) := [(0, np_ild 1 0), (1, nq_if (fun x => x < 0) 15), (4, np_ild 1 1), (5, np_push 1 (.int 1)), (6, nq_ic (fun x y => x < y) 15), (9, np_ild 1 1), (10, np_ald 1 3), (11, nw_alen), (12, nq_ic (fun x y => x ≤ y) 17), (15, np_push 1 (.int 0)), (16, np_ret Rt), (17, np_ild 1 2), (18, np_push 1 (.int 3)), (19, nq_ibn (fun x y => x / y)), (20, np_push 1 (.int 1)), (21, nq_icne 29), (24, np_push 2 (.int 44)), (26, np_goto 31), (29, np_push 2 (.int 46)), (31, nw_ist 2 4), (33, np_ild 1 0), (34, nw_ist 2 5), (36, np_push 1 (.int 0)), (37, nw_ist 2 6), (39, np_ild 1 1), (40, np_push 1 (.int 1)), (41, np_ib (fun x y => x - y)), (42, nw_ist 2 7), (44, np_ild 2 7), (46, nq_if (fun x => x < 0) 120), (49, np_ild 2 6), (51, nq_if (fun x => x = 0) 59), (54, np_ild 2 5), (56, nq_if (fun x => x ≤ 0) 120), (59, np_ild 1 2), (60, np_push 1 (.int 3)), (61, nq_ic (fun x y => x < y) 85), (64, np_ild 2 6), (66, nq_if (fun x => x ≤ 0) 85), (69, np_ild 2 6), (71, np_push 1 (.int 3)), (72, nq_ibn (fun x y => x - x / y * y)), (73, nq_ifne 85), (76, np_ald 1 3), (77, np_ild 2 7), (79, np_ild 2 4), (81, nw_iastT .int), (82, nw_iinc 7 (-1)), (85, np_ild 2 7), (87, nq_if (fun x => 0 ≤ x) 92), (90, np_push 1 (.int 0)), (91, np_ret Rt), (92, np_ald 1 3), (93, np_ild 2 7), (95, np_push 2 (.int 48)), (97, np_ild 2 5), (99, np_push 2 (.int 10)), (101, nq_ibn (fun x y => x - x / y * y)), (102, np_ib (fun x y => x + y)), (103, nw_iastT .int), (104, np_ild 2 5), (106, np_push 2 (.int 10)), (108, nq_ibn (fun x y => x / y)), (109, nw_ist 2 5), (111, nw_iinc 6 1), (114, nw_iinc 7 (-1)), (117, np_goto 44), (120, np_ild 2 7), (122, nq_if (fun x => x < 0) 139), (125, np_ald 1 3), (126, np_ild 2 7), (128, np_ild 1 2), (129, nq_call 1 sp_X11_fillOfNumber 1 0 0 0 0), (132, nw_iastT .int), (133, nw_iinc 7 (-1)), (136, np_goto 120), (139, np_ild 2 5), (141, nq_ifne 148), (144, np_push 1 (.int 1)), (145, np_goto 149), (148, np_push 1 (.int 0)), (149, np_ret Rt)]
set_option maxRecDepth 20000 in
theorem so_X11_layOutNumber {X : np_Ctx} {Rt : np_Rt} (hX : np_ok RX11 cX11_layOutNumber 8 1 20 0 0 .ireturn X) (hR : ∀ st w ce sl, Rt st w ce sl → X.2.2.1 st w ce sl) : ∀ q ∈ is_X11_layOutNumber Rt, np_S X q.1 q.2 :=
  List.forall_mem_cons.mpr ⟨np_s_iload_n hX dX11_layOutNumber_0 rfl, List.forall_mem_cons.mpr ⟨np_S.mono (op := np_if (fun x => x < 0) 15) (np_s_if_lt hX dX11_layOutNumber_1 (by decide)) nq_if_le, List.forall_mem_cons.mpr ⟨np_s_iload_n hX dX11_layOutNumber_4 rfl, List.forall_mem_cons.mpr ⟨np_s_iconst hX dX11_layOutNumber_5 (by decide), List.forall_mem_cons.mpr ⟨np_S.mono (op := np_ic (fun x y => x < y) 15) (np_s_icmp_lt hX dX11_layOutNumber_6 (by decide)) nq_ic_le, List.forall_mem_cons.mpr ⟨np_s_iload_n hX dX11_layOutNumber_9 rfl, List.forall_mem_cons.mpr ⟨np_s_aload_n hX dX11_layOutNumber_10 rfl, List.forall_mem_cons.mpr ⟨np_S.mono (op := np_alen) (np_s_alen hX dX11_layOutNumber_11) nw_alen_le, List.forall_mem_cons.mpr ⟨np_S.mono (op := np_ic (fun x y => x ≤ y) 17) (np_s_icmp_le hX dX11_layOutNumber_12 (by decide)) nq_ic_le, List.forall_mem_cons.mpr ⟨np_s_iconst hX dX11_layOutNumber_15 (by decide), List.forall_mem_cons.mpr ⟨np_S.mono (op := np_ret X.2.2.1) (np_s_ret hX dX11_layOutNumber_16) (nq_ret_le hR), List.forall_mem_cons.mpr ⟨np_s_iload_n hX dX11_layOutNumber_17 rfl, List.forall_mem_cons.mpr ⟨np_s_iconst hX dX11_layOutNumber_18 (by decide), List.forall_mem_cons.mpr ⟨np_S.mono (op := np_ibn (fun x y => x / y)) (np_s_idiv hX dX11_layOutNumber_19) nq_ibn_le, List.forall_mem_cons.mpr ⟨np_s_iconst hX dX11_layOutNumber_20 (by decide), List.forall_mem_cons.mpr ⟨np_S.mono (op := np_icne 29) (np_s_icmp_ne hX dX11_layOutNumber_21 (by decide)) nq_icne_le, List.forall_mem_cons.mpr ⟨np_s_bipush hX dX11_layOutNumber_24 (by decide), List.forall_mem_cons.mpr ⟨np_s_goto hX dX11_layOutNumber_26 (by decide), List.forall_mem_cons.mpr ⟨np_s_bipush hX dX11_layOutNumber_29 (by decide), List.forall_mem_cons.mpr ⟨np_S.mono (op := np_ist 2 4) (np_s_istore hX dX11_layOutNumber_31 (by decide)) nw_ist_le, List.forall_mem_cons.mpr ⟨np_s_iload_n hX dX11_layOutNumber_33 rfl, List.forall_mem_cons.mpr ⟨np_S.mono (op := np_ist 2 5) (np_s_istore hX dX11_layOutNumber_34 (by decide)) nw_ist_le, List.forall_mem_cons.mpr ⟨np_s_iconst hX dX11_layOutNumber_36 (by decide), List.forall_mem_cons.mpr ⟨np_S.mono (op := np_ist 2 6) (np_s_istore hX dX11_layOutNumber_37 (by decide)) nw_ist_le, List.forall_mem_cons.mpr ⟨np_s_iload_n hX dX11_layOutNumber_39 rfl, List.forall_mem_cons.mpr ⟨np_s_iconst hX dX11_layOutNumber_40 (by decide), List.forall_mem_cons.mpr ⟨np_s_isub hX dX11_layOutNumber_41, List.forall_mem_cons.mpr ⟨np_S.mono (op := np_ist 2 7) (np_s_istore hX dX11_layOutNumber_42 (by decide)) nw_ist_le, List.forall_mem_cons.mpr ⟨np_s_iload hX dX11_layOutNumber_44, List.forall_mem_cons.mpr ⟨np_S.mono (op := np_if (fun x => x < 0) 120) (np_s_if_lt hX dX11_layOutNumber_46 (by decide)) nq_if_le, List.forall_mem_cons.mpr ⟨np_s_iload hX dX11_layOutNumber_49, List.forall_mem_cons.mpr ⟨np_S.mono (op := np_if (fun x => x = 0) 59) (np_s_if_eq hX dX11_layOutNumber_51 (by decide)) nq_if_le, List.forall_mem_cons.mpr ⟨np_s_iload hX dX11_layOutNumber_54, List.forall_mem_cons.mpr ⟨np_S.mono (op := np_if (fun x => x ≤ 0) 120) (np_s_if_le hX dX11_layOutNumber_56 (by decide)) nq_if_le, List.forall_mem_cons.mpr ⟨np_s_iload_n hX dX11_layOutNumber_59 rfl, List.forall_mem_cons.mpr ⟨np_s_iconst hX dX11_layOutNumber_60 (by decide), List.forall_mem_cons.mpr ⟨np_S.mono (op := np_ic (fun x y => x < y) 85) (np_s_icmp_lt hX dX11_layOutNumber_61 (by decide)) nq_ic_le, List.forall_mem_cons.mpr ⟨np_s_iload hX dX11_layOutNumber_64, List.forall_mem_cons.mpr ⟨np_S.mono (op := np_if (fun x => x ≤ 0) 85) (np_s_if_le hX dX11_layOutNumber_66 (by decide)) nq_if_le, List.forall_mem_cons.mpr ⟨np_s_iload hX dX11_layOutNumber_69, List.forall_mem_cons.mpr ⟨np_s_iconst hX dX11_layOutNumber_71 (by decide), List.forall_mem_cons.mpr ⟨np_S.mono (op := np_ibn (fun x y => x - x / y * y)) (np_s_irem hX dX11_layOutNumber_72) nq_ibn_le, List.forall_mem_cons.mpr ⟨np_S.mono (op := np_ifne 85) (np_s_if_ne hX dX11_layOutNumber_73 (by decide)) nq_ifne_le, List.forall_mem_cons.mpr ⟨np_s_aload_n hX dX11_layOutNumber_76 rfl, List.forall_mem_cons.mpr ⟨np_s_iload hX dX11_layOutNumber_77, List.forall_mem_cons.mpr ⟨np_s_iload hX dX11_layOutNumber_79, List.forall_mem_cons.mpr ⟨np_S.mono (op := np_iastT .int) (np_s_iast hX dX11_layOutNumber_81) nw_iastT_le, List.forall_mem_cons.mpr ⟨np_S.mono (op := np_iinc 7 (-1)) (np_s_iinc hX dX11_layOutNumber_82 (by decide)) nw_iinc_le, List.forall_mem_cons.mpr ⟨np_s_iload hX dX11_layOutNumber_85, List.forall_mem_cons.mpr ⟨np_S.mono (op := np_if (fun x => 0 ≤ x) 92) (np_s_if_ge hX dX11_layOutNumber_87 (by decide)) nq_if_le, List.forall_mem_cons.mpr ⟨np_s_iconst hX dX11_layOutNumber_90 (by decide), List.forall_mem_cons.mpr ⟨np_S.mono (op := np_ret X.2.2.1) (np_s_ret hX dX11_layOutNumber_91) (nq_ret_le hR), List.forall_mem_cons.mpr ⟨np_s_aload_n hX dX11_layOutNumber_92 rfl, List.forall_mem_cons.mpr ⟨np_s_iload hX dX11_layOutNumber_93, List.forall_mem_cons.mpr ⟨np_s_bipush hX dX11_layOutNumber_95 (by decide), List.forall_mem_cons.mpr ⟨np_s_iload hX dX11_layOutNumber_97, List.forall_mem_cons.mpr ⟨np_s_bipush hX dX11_layOutNumber_99 (by decide), List.forall_mem_cons.mpr ⟨np_S.mono (op := np_ibn (fun x y => x - x / y * y)) (np_s_irem hX dX11_layOutNumber_101) nq_ibn_le, List.forall_mem_cons.mpr ⟨np_s_iadd hX dX11_layOutNumber_102, List.forall_mem_cons.mpr ⟨np_S.mono (op := np_iastT .int) (np_s_iast hX dX11_layOutNumber_103) nw_iastT_le, List.forall_mem_cons.mpr ⟨np_s_iload hX dX11_layOutNumber_104, List.forall_mem_cons.mpr ⟨np_s_bipush hX dX11_layOutNumber_106 (by decide), List.forall_mem_cons.mpr ⟨np_S.mono (op := np_ibn (fun x y => x / y)) (np_s_idiv hX dX11_layOutNumber_108) nq_ibn_le, List.forall_mem_cons.mpr ⟨np_S.mono (op := np_ist 2 5) (np_s_istore hX dX11_layOutNumber_109 (by decide)) nw_ist_le, List.forall_mem_cons.mpr ⟨np_S.mono (op := np_iinc 6 1) (np_s_iinc hX dX11_layOutNumber_111 (by decide)) nw_iinc_le, List.forall_mem_cons.mpr ⟨np_S.mono (op := np_iinc 7 (-1)) (np_s_iinc hX dX11_layOutNumber_114 (by decide)) nw_iinc_le, List.forall_mem_cons.mpr ⟨np_s_goto hX dX11_layOutNumber_117 (by decide), List.forall_mem_cons.mpr ⟨np_s_iload hX dX11_layOutNumber_120, List.forall_mem_cons.mpr ⟨np_S.mono (op := np_if (fun x => x < 0) 139) (np_s_if_lt hX dX11_layOutNumber_122 (by decide)) nq_if_le, List.forall_mem_cons.mpr ⟨np_s_aload_n hX dX11_layOutNumber_125 rfl, List.forall_mem_cons.mpr ⟨np_s_iload hX dX11_layOutNumber_126, List.forall_mem_cons.mpr ⟨np_s_iload_n hX dX11_layOutNumber_128 rfl, List.forall_mem_cons.mpr ⟨np_S.mono (op := np_call 1 sp_X11_fillOfNumber 1 0 0 0 0) (np_s_callS hX C_X11_fillOfNumber dX11_layOutNumber_129 gw832 gw63 gw830 gw831 ⟨by decide, by decide, by decide⟩ (by decide) (by decide)) nq_call_le, List.forall_mem_cons.mpr ⟨np_S.mono (op := np_iastT .int) (np_s_iast hX dX11_layOutNumber_132) nw_iastT_le, List.forall_mem_cons.mpr ⟨np_S.mono (op := np_iinc 7 (-1)) (np_s_iinc hX dX11_layOutNumber_133 (by decide)) nw_iinc_le, List.forall_mem_cons.mpr ⟨np_s_goto hX dX11_layOutNumber_136 (by decide), List.forall_mem_cons.mpr ⟨np_s_iload hX dX11_layOutNumber_139, List.forall_mem_cons.mpr ⟨np_S.mono (op := np_ifne 148) (np_s_if_ne hX dX11_layOutNumber_141 (by decide)) nq_ifne_le, List.forall_mem_cons.mpr ⟨np_s_iconst hX dX11_layOutNumber_144 (by decide), List.forall_mem_cons.mpr ⟨np_s_goto hX dX11_layOutNumber_145 (by decide), List.forall_mem_cons.mpr ⟨np_s_iconst hX dX11_layOutNumber_148 (by decide), List.forall_mem_cons.mpr ⟨np_S.mono (op := np_ret X.2.2.1) (np_s_ret hX dX11_layOutNumber_149) (nq_ret_le hR), fun _ h => nomatch h⟩⟩⟩⟩⟩⟩⟩⟩⟩⟩⟩⟩⟩⟩⟩⟩⟩⟩⟩⟩⟩⟩⟩⟩⟩⟩⟩⟩⟩⟩⟩⟩⟩⟩⟩⟩⟩⟩⟩⟩⟩⟩⟩⟩⟩⟩⟩⟩⟩⟩⟩⟩⟩⟩⟩⟩⟩⟩⟩⟩⟩⟩⟩⟩⟩⟩⟩⟩⟩⟩⟩⟩⟩⟩⟩⟩⟩⟩⟩⟩⟩⟩
noncomputable def m_X11_layOutNumber_120 : Nat → pw_S → Int32 → Nat → Nat → Int32 → Int32 → pw_R Int32
| 0, _, _, _, _, _, _ => none
| N + 1, S, v2, va3, vi3, v5, v7 =>
 if v7 < 0 then
 (if v5 = 0 then
 (some (S, 1))
 else
 (some (S, 0)))
 else
 (pw_b (m_X11_fillOfNumber S v2) fun S1 r4 =>
 pw_c (np_inb v7 (pw_len va3)) <|
 pw_l (pw_up S1 va3 vi3 (upd (S1 va3 vi3) (v7 : Int32).toNatClampNeg r4)) fun S6 =>
 pw_l (v7 + (-1) : Int32) fun z9 =>
 m_X11_layOutNumber_120 N S6 v2 va3 vi3 v5 z9)
set_option maxRecDepth 100000 in
set_option maxHeartbeats 8000000 in
theorem L_X11_layOutNumber_120 {X : np_Ctx} (hX : np_ok RX11 cX11_layOutNumber 8 1 20 0 0 .ireturn X) {Q : Option Value → np_W → Prop} {q n : Nat} (hR : ∀ st w ce sl, np_rt (some .boolean) 0 0 Q st w ce sl → X.2.2.1 st w ce sl) : ∀ (N : Nat) (S : pw_S) (v2 : Int32) (va3 : Nat) (vi3 : Nat) (v5 : Int32) (v7 : Int32) (f : Nat → Option np_E) (ha3 : pw_arr va3 = true) (hi3 : pw_ok q va3 vi3 = true), pw_W q (n, f) S → pw_p (m_X11_layOutNumber_120 N S v2 va3 vi3 v5 v7) (fun S' r => ∀ f', pw_W q (n, f') S' → Q (some (.int r)) (n, f')) → np_G X 120 [(2, .int v2), (3, .ref (pw_pl va3 vi3)), (5, .int v5), (7, .int v7)] [] (n, f) 0 0 := by
  intro N
  induction N with
  | zero =>
    intro S v2 va3 vi3 v5 v7 f ha3 hi3 hW h
    exact (pw_pn h).elim
  | succ N ih =>
    intro S v2 va3 vi3 v5 v7 f ha3 hi3 hW h
    unfold m_X11_layOutNumber_120 at h
    refine np_soundW (so_X11_layOutNumber hX hR) [44, 120] 400 120 _ _ _ _ _ ?_
    conv => whnf
    refine pw_br h (fun _ h => ?_) (fun _ h => ?_)
    · conv => whnf
      refine pw_br h (fun _ h => ?_) (fun _ h => ?_)
      · conv => whnf
        exact ⟨Nat.le_of_ble_eq_true rfl, Nat.le_of_ble_eq_true rfl, ⟨_, rfl, by decide⟩, _, fun _ _ h9 => h9, pw_ps h _ hW⟩
      · conv => whnf
        exact ⟨Nat.le_of_ble_eq_true rfl, Nat.le_of_ble_eq_true rfl, ⟨_, rfl, by decide⟩, _, fun _ _ h9 => h9, pw_ps h _ hW⟩
    · conv => whnf
      refine ⟨q, S, v2, rfl, hW, pw_bd h (fun S1 r4 h f2 hW3 => ?_)⟩
      conv => whnf
      refine np_rd_i (hW3.ga ha3 hi3) ?_
      conv => whnf
      refine pw_ck h (fun _ h => ?_)
      conv => whnf
      refine pw_wr (a := va3) (i := vi3) (d := upd (S1 va3 vi3) (v7 : Int32).toNatClampNeg r4) hW3 hi3 (pw_ent_arr ha3).symm h (fun S6 f7 hW8 h => ?_)
      conv => whnf
      refine pw_st h (fun z9 h => ?_)
      conv => whnf
      exact np_gl (ih S6 v2 va3 vi3 v5 z9 f7 ha3 hi3 hW8 h) ⟨rfl, rfl, rfl, rfl, trivial⟩
noncomputable def m_X11_layOutNumber_44 (k120 : pw_S → Int32 → Nat → Nat → Int32 → Int32 → pw_R Int32) : Nat → pw_S → Int32 → Nat → Nat → Int32 → Int32 → Int32 → Int32 → pw_R Int32
| 0, _, _, _, _, _, _, _, _ => none
| N + 1, S, v2, va3, vi3, v4, v5, v6, v7 =>
 if v7 < 0 then
 (k120 S v2 va3 vi3 v5 v7)
 else
 (if v6 = 0 then
 (if v2 < 3 then
 (if 0 ≤ v7 then
 (pw_c (np_inb v7 (pw_len va3)) <|
 pw_l (pw_up S va3 vi3 (upd (S va3 vi3) (v7 : Int32).toNatClampNeg (48 + (v5 - v5 / 10 * 10)))) fun S10 =>
 pw_l ((v5 / 10) : Int32) fun z13 =>
 pw_l (v6 + 1 : Int32) fun z14 =>
 pw_l (v7 + (-1) : Int32) fun z15 =>
 m_X11_layOutNumber_44 k120 N S10 v2 va3 vi3 v4 z13 z14 z15)
 else
 (some (S, 0)))
 else
 (if v6 ≤ 0 then
 (if 0 ≤ v7 then
 (pw_c (np_inb v7 (pw_len va3)) <|
 pw_l (pw_up S va3 vi3 (upd (S va3 vi3) (v7 : Int32).toNatClampNeg (48 + (v5 - v5 / 10 * 10)))) fun S16 =>
 pw_l ((v5 / 10) : Int32) fun z19 =>
 pw_l (v6 + 1 : Int32) fun z20 =>
 pw_l (v7 + (-1) : Int32) fun z21 =>
 m_X11_layOutNumber_44 k120 N S16 v2 va3 vi3 v4 z19 z20 z21)
 else
 (some (S, 0)))
 else
 (if (v6 - v6 / 3 * 3) = 0 then
 (pw_c (np_inb v7 (pw_len va3)) <|
 pw_l (pw_up S va3 vi3 (upd (S va3 vi3) (v7 : Int32).toNatClampNeg v4)) fun S22 =>
 pw_l (v7 + (-1) : Int32) fun z25 =>
 if 0 ≤ z25 then
 (pw_c (np_inb z25 (pw_len va3)) <|
 pw_l (pw_up S22 va3 vi3 (upd (S22 va3 vi3) (z25 : Int32).toNatClampNeg (48 + (v5 - v5 / 10 * 10)))) fun S26 =>
 pw_l ((v5 / 10) : Int32) fun z29 =>
 pw_l (v6 + 1 : Int32) fun z30 =>
 pw_l (z25 + (-1) : Int32) fun z31 =>
 m_X11_layOutNumber_44 k120 N S26 v2 va3 vi3 v4 z29 z30 z31)
 else
 (some (S22, 0)))
 else
 (if 0 ≤ v7 then
 (pw_c (np_inb v7 (pw_len va3)) <|
 pw_l (pw_up S va3 vi3 (upd (S va3 vi3) (v7 : Int32).toNatClampNeg (48 + (v5 - v5 / 10 * 10)))) fun S32 =>
 pw_l ((v5 / 10) : Int32) fun z35 =>
 pw_l (v6 + 1 : Int32) fun z36 =>
 pw_l (v7 + (-1) : Int32) fun z37 =>
 m_X11_layOutNumber_44 k120 N S32 v2 va3 vi3 v4 z35 z36 z37)
 else
 (some (S, 0))))))
 else
 (if v5 ≤ 0 then
 (k120 S v2 va3 vi3 v5 v7)
 else
 (if v2 < 3 then
 (if 0 ≤ v7 then
 (pw_c (np_inb v7 (pw_len va3)) <|
 pw_l (pw_up S va3 vi3 (upd (S va3 vi3) (v7 : Int32).toNatClampNeg (48 + (v5 - v5 / 10 * 10)))) fun S38 =>
 pw_l ((v5 / 10) : Int32) fun z41 =>
 pw_l (v6 + 1 : Int32) fun z42 =>
 pw_l (v7 + (-1) : Int32) fun z43 =>
 m_X11_layOutNumber_44 k120 N S38 v2 va3 vi3 v4 z41 z42 z43)
 else
 (some (S, 0)))
 else
 (if v6 ≤ 0 then
 (if 0 ≤ v7 then
 (pw_c (np_inb v7 (pw_len va3)) <|
 pw_l (pw_up S va3 vi3 (upd (S va3 vi3) (v7 : Int32).toNatClampNeg (48 + (v5 - v5 / 10 * 10)))) fun S44 =>
 pw_l ((v5 / 10) : Int32) fun z47 =>
 pw_l (v6 + 1 : Int32) fun z48 =>
 pw_l (v7 + (-1) : Int32) fun z49 =>
 m_X11_layOutNumber_44 k120 N S44 v2 va3 vi3 v4 z47 z48 z49)
 else
 (some (S, 0)))
 else
 (if (v6 - v6 / 3 * 3) = 0 then
 (pw_c (np_inb v7 (pw_len va3)) <|
 pw_l (pw_up S va3 vi3 (upd (S va3 vi3) (v7 : Int32).toNatClampNeg v4)) fun S50 =>
 pw_l (v7 + (-1) : Int32) fun z53 =>
 if 0 ≤ z53 then
 (pw_c (np_inb z53 (pw_len va3)) <|
 pw_l (pw_up S50 va3 vi3 (upd (S50 va3 vi3) (z53 : Int32).toNatClampNeg (48 + (v5 - v5 / 10 * 10)))) fun S54 =>
 pw_l ((v5 / 10) : Int32) fun z57 =>
 pw_l (v6 + 1 : Int32) fun z58 =>
 pw_l (z53 + (-1) : Int32) fun z59 =>
 m_X11_layOutNumber_44 k120 N S54 v2 va3 vi3 v4 z57 z58 z59)
 else
 (some (S50, 0)))
 else
 (if 0 ≤ v7 then
 (pw_c (np_inb v7 (pw_len va3)) <|
 pw_l (pw_up S va3 vi3 (upd (S va3 vi3) (v7 : Int32).toNatClampNeg (48 + (v5 - v5 / 10 * 10)))) fun S60 =>
 pw_l ((v5 / 10) : Int32) fun z63 =>
 pw_l (v6 + 1 : Int32) fun z64 =>
 pw_l (v7 + (-1) : Int32) fun z65 =>
 m_X11_layOutNumber_44 k120 N S60 v2 va3 vi3 v4 z63 z64 z65)
 else
 (some (S, 0))))))))
set_option maxRecDepth 100000 in
set_option maxHeartbeats 8000000 in
theorem L_X11_layOutNumber_44 {X : np_Ctx} (hX : np_ok RX11 cX11_layOutNumber 8 1 20 0 0 .ireturn X) {Q : Option Value → np_W → Prop} {q n : Nat} (hR : ∀ st w ce sl, np_rt (some .boolean) 0 0 Q st w ce sl → X.2.2.1 st w ce sl) {k120 : pw_S → Int32 → Nat → Nat → Int32 → Int32 → pw_R Int32} (hk120 : ∀ (S : pw_S) (v2 : Int32) (va3 : Nat) (vi3 : Nat) (v5 : Int32) (v7 : Int32) (f : Nat → Option np_E) (ha3 : pw_arr va3 = true) (hi3 : pw_ok q va3 vi3 = true), pw_W q (n, f) S → pw_p (k120 S v2 va3 vi3 v5 v7) (fun S' r => ∀ f', pw_W q (n, f') S' → Q (some (.int r)) (n, f')) → np_G X 120 [(2, .int v2), (3, .ref (pw_pl va3 vi3)), (5, .int v5), (7, .int v7)] [] (n, f) 0 0) : ∀ (N : Nat) (S : pw_S) (v2 : Int32) (va3 : Nat) (vi3 : Nat) (v4 : Int32) (v5 : Int32) (v6 : Int32) (v7 : Int32) (f : Nat → Option np_E) (ha3 : pw_arr va3 = true) (hi3 : pw_ok q va3 vi3 = true), pw_W q (n, f) S → pw_p (m_X11_layOutNumber_44 k120 N S v2 va3 vi3 v4 v5 v6 v7) (fun S' r => ∀ f', pw_W q (n, f') S' → Q (some (.int r)) (n, f')) → np_G X 44 [(2, .int v2), (3, .ref (pw_pl va3 vi3)), (4, .int v4), (5, .int v5), (6, .int v6), (7, .int v7)] [] (n, f) 0 0 := by
  intro N
  induction N with
  | zero =>
    intro S v2 va3 vi3 v4 v5 v6 v7 f ha3 hi3 hW h
    exact (pw_pn h).elim
  | succ N ih =>
    intro S v2 va3 vi3 v4 v5 v6 v7 f ha3 hi3 hW h
    unfold m_X11_layOutNumber_44 at h
    refine np_soundW (so_X11_layOutNumber hX hR) [44, 120] 400 44 _ _ _ _ _ ?_
    conv => whnf
    refine pw_br h (fun _ h => ?_) (fun _ h => ?_)
    · conv => whnf
      exact np_gl (hk120 S v2 va3 vi3 v5 v7 f ha3 hi3 hW h) ⟨rfl, rfl, rfl, rfl, trivial⟩
    · conv => whnf
      refine pw_br h (fun _ h => ?_) (fun _ h => ?_)
      · conv => whnf
        refine pw_br h (fun _ h => ?_) (fun _ h => ?_)
        · conv => whnf
          refine pw_br h (fun _ h => ?_) (fun _ h => ?_)
          · conv => whnf
            refine np_rd_i (hW.ga ha3 hi3) ?_
            conv => whnf
            refine pw_ck h (fun _ h => ?_)
            conv => whnf
            refine pw_wr (a := va3) (i := vi3) (d := upd (S va3 vi3) (v7 : Int32).toNatClampNeg (48 + (v5 - v5 / 10 * 10))) hW hi3 (pw_ent_arr ha3).symm h (fun S10 f11 hW12 h => ?_)
            conv => whnf
            refine pw_st h (fun z13 h => ?_)
            conv => whnf
            refine pw_st h (fun z14 h => ?_)
            conv => whnf
            refine pw_st h (fun z15 h => ?_)
            conv => whnf
            exact np_gl (ih S10 v2 va3 vi3 v4 z13 z14 z15 f11 ha3 hi3 hW12 h) ⟨rfl, rfl, rfl, rfl, rfl, rfl, trivial⟩
          · conv => whnf
            exact ⟨Nat.le_of_ble_eq_true rfl, Nat.le_of_ble_eq_true rfl, ⟨_, rfl, by decide⟩, _, fun _ _ h9 => h9, pw_ps h _ hW⟩
        · conv => whnf
          refine pw_br h (fun _ h => ?_) (fun _ h => ?_)
          · conv => whnf
            refine pw_br h (fun _ h => ?_) (fun _ h => ?_)
            · conv => whnf
              refine np_rd_i (hW.ga ha3 hi3) ?_
              conv => whnf
              refine pw_ck h (fun _ h => ?_)
              conv => whnf
              refine pw_wr (a := va3) (i := vi3) (d := upd (S va3 vi3) (v7 : Int32).toNatClampNeg (48 + (v5 - v5 / 10 * 10))) hW hi3 (pw_ent_arr ha3).symm h (fun S16 f17 hW18 h => ?_)
              conv => whnf
              refine pw_st h (fun z19 h => ?_)
              conv => whnf
              refine pw_st h (fun z20 h => ?_)
              conv => whnf
              refine pw_st h (fun z21 h => ?_)
              conv => whnf
              exact np_gl (ih S16 v2 va3 vi3 v4 z19 z20 z21 f17 ha3 hi3 hW18 h) ⟨rfl, rfl, rfl, rfl, rfl, rfl, trivial⟩
            · conv => whnf
              exact ⟨Nat.le_of_ble_eq_true rfl, Nat.le_of_ble_eq_true rfl, ⟨_, rfl, by decide⟩, _, fun _ _ h9 => h9, pw_ps h _ hW⟩
          · conv => whnf
            refine pw_br h (fun _ h => ?_) (fun _ h => ?_)
            · conv => whnf
              refine np_rd_i (hW.ga ha3 hi3) ?_
              conv => whnf
              refine pw_ck h (fun _ h => ?_)
              conv => whnf
              refine pw_wr (a := va3) (i := vi3) (d := upd (S va3 vi3) (v7 : Int32).toNatClampNeg v4) hW hi3 (pw_ent_arr ha3).symm h (fun S22 f23 hW24 h => ?_)
              conv => whnf
              refine pw_st h (fun z25 h => ?_)
              conv => whnf
              refine pw_br h (fun _ h => ?_) (fun _ h => ?_)
              · conv => whnf
                refine np_rd_i (hW24.ga ha3 hi3) ?_
                conv => whnf
                refine pw_ck h (fun _ h => ?_)
                conv => whnf
                refine pw_wr (a := va3) (i := vi3) (d := upd (S22 va3 vi3) (z25 : Int32).toNatClampNeg (48 + (v5 - v5 / 10 * 10))) hW24 hi3 (pw_ent_arr ha3).symm h (fun S26 f27 hW28 h => ?_)
                conv => whnf
                refine pw_st h (fun z29 h => ?_)
                conv => whnf
                refine pw_st h (fun z30 h => ?_)
                conv => whnf
                refine pw_st h (fun z31 h => ?_)
                conv => whnf
                exact np_gl (ih S26 v2 va3 vi3 v4 z29 z30 z31 f27 ha3 hi3 hW28 h) ⟨rfl, rfl, rfl, rfl, rfl, rfl, trivial⟩
              · conv => whnf
                exact ⟨Nat.le_of_ble_eq_true rfl, Nat.le_of_ble_eq_true rfl, ⟨_, rfl, by decide⟩, _, fun _ _ h9 => h9, pw_ps h _ hW24⟩
            · conv => whnf
              refine pw_br h (fun _ h => ?_) (fun _ h => ?_)
              · conv => whnf
                refine np_rd_i (hW.ga ha3 hi3) ?_
                conv => whnf
                refine pw_ck h (fun _ h => ?_)
                conv => whnf
                refine pw_wr (a := va3) (i := vi3) (d := upd (S va3 vi3) (v7 : Int32).toNatClampNeg (48 + (v5 - v5 / 10 * 10))) hW hi3 (pw_ent_arr ha3).symm h (fun S32 f33 hW34 h => ?_)
                conv => whnf
                refine pw_st h (fun z35 h => ?_)
                conv => whnf
                refine pw_st h (fun z36 h => ?_)
                conv => whnf
                refine pw_st h (fun z37 h => ?_)
                conv => whnf
                exact np_gl (ih S32 v2 va3 vi3 v4 z35 z36 z37 f33 ha3 hi3 hW34 h) ⟨rfl, rfl, rfl, rfl, rfl, rfl, trivial⟩
              · conv => whnf
                exact ⟨Nat.le_of_ble_eq_true rfl, Nat.le_of_ble_eq_true rfl, ⟨_, rfl, by decide⟩, _, fun _ _ h9 => h9, pw_ps h _ hW⟩
      · conv => whnf
        refine pw_br h (fun _ h => ?_) (fun _ h => ?_)
        · conv => whnf
          exact np_gl (hk120 S v2 va3 vi3 v5 v7 f ha3 hi3 hW h) ⟨rfl, rfl, rfl, rfl, trivial⟩
        · conv => whnf
          refine pw_br h (fun _ h => ?_) (fun _ h => ?_)
          · conv => whnf
            refine pw_br h (fun _ h => ?_) (fun _ h => ?_)
            · conv => whnf
              refine np_rd_i (hW.ga ha3 hi3) ?_
              conv => whnf
              refine pw_ck h (fun _ h => ?_)
              conv => whnf
              refine pw_wr (a := va3) (i := vi3) (d := upd (S va3 vi3) (v7 : Int32).toNatClampNeg (48 + (v5 - v5 / 10 * 10))) hW hi3 (pw_ent_arr ha3).symm h (fun S38 f39 hW40 h => ?_)
              conv => whnf
              refine pw_st h (fun z41 h => ?_)
              conv => whnf
              refine pw_st h (fun z42 h => ?_)
              conv => whnf
              refine pw_st h (fun z43 h => ?_)
              conv => whnf
              exact np_gl (ih S38 v2 va3 vi3 v4 z41 z42 z43 f39 ha3 hi3 hW40 h) ⟨rfl, rfl, rfl, rfl, rfl, rfl, trivial⟩
            · conv => whnf
              exact ⟨Nat.le_of_ble_eq_true rfl, Nat.le_of_ble_eq_true rfl, ⟨_, rfl, by decide⟩, _, fun _ _ h9 => h9, pw_ps h _ hW⟩
          · conv => whnf
            refine pw_br h (fun _ h => ?_) (fun _ h => ?_)
            · conv => whnf
              refine pw_br h (fun _ h => ?_) (fun _ h => ?_)
              · conv => whnf
                refine np_rd_i (hW.ga ha3 hi3) ?_
                conv => whnf
                refine pw_ck h (fun _ h => ?_)
                conv => whnf
                refine pw_wr (a := va3) (i := vi3) (d := upd (S va3 vi3) (v7 : Int32).toNatClampNeg (48 + (v5 - v5 / 10 * 10))) hW hi3 (pw_ent_arr ha3).symm h (fun S44 f45 hW46 h => ?_)
                conv => whnf
                refine pw_st h (fun z47 h => ?_)
                conv => whnf
                refine pw_st h (fun z48 h => ?_)
                conv => whnf
                refine pw_st h (fun z49 h => ?_)
                conv => whnf
                exact np_gl (ih S44 v2 va3 vi3 v4 z47 z48 z49 f45 ha3 hi3 hW46 h) ⟨rfl, rfl, rfl, rfl, rfl, rfl, trivial⟩
              · conv => whnf
                exact ⟨Nat.le_of_ble_eq_true rfl, Nat.le_of_ble_eq_true rfl, ⟨_, rfl, by decide⟩, _, fun _ _ h9 => h9, pw_ps h _ hW⟩
            · conv => whnf
              refine pw_br h (fun _ h => ?_) (fun _ h => ?_)
              · conv => whnf
                refine np_rd_i (hW.ga ha3 hi3) ?_
                conv => whnf
                refine pw_ck h (fun _ h => ?_)
                conv => whnf
                refine pw_wr (a := va3) (i := vi3) (d := upd (S va3 vi3) (v7 : Int32).toNatClampNeg v4) hW hi3 (pw_ent_arr ha3).symm h (fun S50 f51 hW52 h => ?_)
                conv => whnf
                refine pw_st h (fun z53 h => ?_)
                conv => whnf
                refine pw_br h (fun _ h => ?_) (fun _ h => ?_)
                · conv => whnf
                  refine np_rd_i (hW52.ga ha3 hi3) ?_
                  conv => whnf
                  refine pw_ck h (fun _ h => ?_)
                  conv => whnf
                  refine pw_wr (a := va3) (i := vi3) (d := upd (S50 va3 vi3) (z53 : Int32).toNatClampNeg (48 + (v5 - v5 / 10 * 10))) hW52 hi3 (pw_ent_arr ha3).symm h (fun S54 f55 hW56 h => ?_)
                  conv => whnf
                  refine pw_st h (fun z57 h => ?_)
                  conv => whnf
                  refine pw_st h (fun z58 h => ?_)
                  conv => whnf
                  refine pw_st h (fun z59 h => ?_)
                  conv => whnf
                  exact np_gl (ih S54 v2 va3 vi3 v4 z57 z58 z59 f55 ha3 hi3 hW56 h) ⟨rfl, rfl, rfl, rfl, rfl, rfl, trivial⟩
                · conv => whnf
                  exact ⟨Nat.le_of_ble_eq_true rfl, Nat.le_of_ble_eq_true rfl, ⟨_, rfl, by decide⟩, _, fun _ _ h9 => h9, pw_ps h _ hW52⟩
              · conv => whnf
                refine pw_br h (fun _ h => ?_) (fun _ h => ?_)
                · conv => whnf
                  refine np_rd_i (hW.ga ha3 hi3) ?_
                  conv => whnf
                  refine pw_ck h (fun _ h => ?_)
                  conv => whnf
                  refine pw_wr (a := va3) (i := vi3) (d := upd (S va3 vi3) (v7 : Int32).toNatClampNeg (48 + (v5 - v5 / 10 * 10))) hW hi3 (pw_ent_arr ha3).symm h (fun S60 f61 hW62 h => ?_)
                  conv => whnf
                  refine pw_st h (fun z63 h => ?_)
                  conv => whnf
                  refine pw_st h (fun z64 h => ?_)
                  conv => whnf
                  refine pw_st h (fun z65 h => ?_)
                  conv => whnf
                  exact np_gl (ih S60 v2 va3 vi3 v4 z63 z64 z65 f61 ha3 hi3 hW62 h) ⟨rfl, rfl, rfl, rfl, rfl, rfl, trivial⟩
                · conv => whnf
                  exact ⟨Nat.le_of_ble_eq_true rfl, Nat.le_of_ble_eq_true rfl, ⟨_, rfl, by decide⟩, _, fun _ _ h9 => h9, pw_ps h _ hW⟩
noncomputable def m_X11_layOutNumber (S : pw_S) (x0 : Int32) (x1 : Int32) (x2 : Int32) (a3 : Nat) (i3 : Nat) : pw_R Int32 :=
 if x0 < 0 then
 (some (S, 0))
 else
 (if x1 < 1 then
 (some (S, 0))
 else
 (if x1 ≤ (Int32.ofNat (pw_len a3)) then
 (if (x2 / 3) = 1 then
 (pw_l (44 : Int32) fun z66 =>
 pw_l (x0 : Int32) fun z67 =>
 pw_l (0 : Int32) fun z68 =>
 pw_l ((x1 - 1) : Int32) fun z69 =>
 m_X11_layOutNumber_44
 (fun S77 u70 u71 u72 u75 u76 =>
 (if u76 < 0 then
 (if u75 = 0 then
 (some (S77, 1))
 else
 (some (S77, 0)))
 else
 (pw_b (m_X11_fillOfNumber S77 u70) fun S80 r83 =>
 pw_c (np_inb u76 (pw_len u71)) <|
 pw_l (pw_up S80 u71 u72 (upd (S80 u71 u72) (u76 : Int32).toNatClampNeg r83)) fun S85 =>
 pw_l (u76 + (-1) : Int32) fun z88 =>
 m_X11_layOutNumber_120 (pw_F 20000) S85 u70 u71 u72 u75 z88))) (pw_F 20000) S x2 a3 i3 z66 z67 z68 z69)
 else
 (pw_l (46 : Int32) fun z89 =>
 pw_l (x0 : Int32) fun z90 =>
 pw_l (0 : Int32) fun z91 =>
 pw_l ((x1 - 1) : Int32) fun z92 =>
 m_X11_layOutNumber_44
 (fun S100 u93 u94 u95 u98 u99 =>
 (if u99 < 0 then
 (if u98 = 0 then
 (some (S100, 1))
 else
 (some (S100, 0)))
 else
 (pw_b (m_X11_fillOfNumber S100 u93) fun S103 r106 =>
 pw_c (np_inb u99 (pw_len u94)) <|
 pw_l (pw_up S103 u94 u95 (upd (S103 u94 u95) (u99 : Int32).toNatClampNeg r106)) fun S108 =>
 pw_l (u99 + (-1) : Int32) fun z111 =>
 m_X11_layOutNumber_120 (pw_F 20000) S108 u93 u94 u95 u98 z111))) (pw_F 20000) S x2 a3 i3 z89 z90 z91 z92))
 else
 (some (S, 0))))
def sp_X11_layOutNumber : np_Sp := fun vs w Q => ∃ (q : Nat) (S : pw_S) (x0 : Int32) (x1 : Int32) (x2 : Int32) (a3 : Nat) (i3 : Nat), vs = [.int x0, .int x1, .int x2, .ref (pw_pl a3 i3)] ∧ pw_arr a3 = true ∧ pw_ok q a3 i3 = true ∧ pw_W q w S ∧ pw_p (m_X11_layOutNumber S x0 x1 x2 a3 i3) (fun S' r => ∀ f', pw_W q (w.1, f') S' → Q (some (.int r)) (w.1, f'))
set_option maxRecDepth 100000 in
set_option maxHeartbeats 8000000 in
theorem C_X11_layOutNumber : np_C yX11_layOutNumber cX11_layOutNumber 8 (some .boolean) 1 20 0 0 sp_X11_layOutNumber := by
  refine np_of (by decide) ?_
  intro X vs w Q hsp hX hmn hRt hlt
  obtain ⟨q, S, x0, x1, x2, a3, i3, rfl, ha3, hi3, hW, h⟩ := hsp
  obtain ⟨n, f⟩ := w
  unfold m_X11_layOutNumber at h
  have hR : ∀ st w ce sl, np_rt (some .boolean) 0 0 Q st w ce sl → X.2.2.1 st w ce sl := fun _ _ _ _ h => by rw [hRt]; exact h
  refine np_soundW (so_X11_layOutNumber hX hR) [44, 120] 400 0 _ _ _ _ _ ?_
  conv => whnf
  refine pw_br h (fun _ h => ?_) (fun _ h => ?_)
  · conv => whnf
    exact ⟨Nat.le_of_ble_eq_true rfl, Nat.le_of_ble_eq_true rfl, ⟨_, rfl, by decide⟩, _, fun _ _ h9 => h9, pw_ps h _ hW⟩
  · conv => whnf
    refine pw_br h (fun _ h => ?_) (fun _ h => ?_)
    · conv => whnf
      exact ⟨Nat.le_of_ble_eq_true rfl, Nat.le_of_ble_eq_true rfl, ⟨_, rfl, by decide⟩, _, fun _ _ h9 => h9, pw_ps h _ hW⟩
    · conv => whnf
      refine np_rd_i (hW.ga ha3 hi3) ?_
      conv => whnf
      refine pw_br h (fun _ h => ?_) (fun _ h => ?_)
      · conv => whnf
        refine pw_br h (fun _ h => ?_) (fun _ h => ?_)
        · conv => whnf
          refine pw_st h (fun z66 h => ?_)
          conv => whnf
          refine pw_st h (fun z67 h => ?_)
          conv => whnf
          refine pw_st h (fun z68 h => ?_)
          conv => whnf
          refine pw_st h (fun z69 h => ?_)
          conv => whnf
          refine np_gl (L_X11_layOutNumber_44 hX hR (fun S77 u70 u71 u72 u75 u76 f78 ho73 ho74 hW79 h => ?_) (pw_F 20000) S x2 a3 i3 z66 z67 z68 z69 f ha3 hi3 hW h) ⟨rfl, rfl, rfl, rfl, rfl, rfl, trivial⟩
          · refine np_soundW (so_X11_layOutNumber hX hR) [44, 120] 400 120 _ _ _ _ _ ?_
            conv => whnf
            refine pw_br h (fun _ h => ?_) (fun _ h => ?_)
            · conv => whnf
              refine pw_br h (fun _ h => ?_) (fun _ h => ?_)
              · conv => whnf
                exact ⟨Nat.le_of_ble_eq_true rfl, Nat.le_of_ble_eq_true rfl, ⟨_, rfl, by decide⟩, _, fun _ _ h9 => h9, pw_ps h _ hW79⟩
              · conv => whnf
                exact ⟨Nat.le_of_ble_eq_true rfl, Nat.le_of_ble_eq_true rfl, ⟨_, rfl, by decide⟩, _, fun _ _ h9 => h9, pw_ps h _ hW79⟩
            · conv => whnf
              refine ⟨q, S77, u70, rfl, hW79, pw_bd h (fun S80 r83 h f81 hW82 => ?_)⟩
              conv => whnf
              refine np_rd_i (hW82.ga ho73 ho74) ?_
              conv => whnf
              refine pw_ck h (fun _ h => ?_)
              conv => whnf
              refine pw_wr (a := u71) (i := u72) (d := upd (S80 u71 u72) (u76 : Int32).toNatClampNeg r83) hW82 ho74 (pw_ent_arr ho73).symm h (fun S85 f86 hW87 h => ?_)
              conv => whnf
              refine pw_st h (fun z88 h => ?_)
              conv => whnf
              exact np_gl (L_X11_layOutNumber_120 hX hR (pw_F 20000) S85 u70 u71 u72 u75 z88 f86 ho73 ho74 hW87 h) ⟨rfl, rfl, rfl, rfl, trivial⟩
        · conv => whnf
          refine pw_st h (fun z89 h => ?_)
          conv => whnf
          refine pw_st h (fun z90 h => ?_)
          conv => whnf
          refine pw_st h (fun z91 h => ?_)
          conv => whnf
          refine pw_st h (fun z92 h => ?_)
          conv => whnf
          refine np_gl (L_X11_layOutNumber_44 hX hR (fun S100 u93 u94 u95 u98 u99 f101 ho96 ho97 hW102 h => ?_) (pw_F 20000) S x2 a3 i3 z89 z90 z91 z92 f ha3 hi3 hW h) ⟨rfl, rfl, rfl, rfl, rfl, rfl, trivial⟩
          · refine np_soundW (so_X11_layOutNumber hX hR) [44, 120] 400 120 _ _ _ _ _ ?_
            conv => whnf
            refine pw_br h (fun _ h => ?_) (fun _ h => ?_)
            · conv => whnf
              refine pw_br h (fun _ h => ?_) (fun _ h => ?_)
              · conv => whnf
                exact ⟨Nat.le_of_ble_eq_true rfl, Nat.le_of_ble_eq_true rfl, ⟨_, rfl, by decide⟩, _, fun _ _ h9 => h9, pw_ps h _ hW102⟩
              · conv => whnf
                exact ⟨Nat.le_of_ble_eq_true rfl, Nat.le_of_ble_eq_true rfl, ⟨_, rfl, by decide⟩, _, fun _ _ h9 => h9, pw_ps h _ hW102⟩
            · conv => whnf
              refine ⟨q, S100, u93, rfl, hW102, pw_bd h (fun S103 r106 h f104 hW105 => ?_)⟩
              conv => whnf
              refine np_rd_i (hW105.ga ho96 ho97) ?_
              conv => whnf
              refine pw_ck h (fun _ h => ?_)
              conv => whnf
              refine pw_wr (a := u94) (i := u95) (d := upd (S103 u94 u95) (u99 : Int32).toNatClampNeg r106) hW105 ho97 (pw_ent_arr ho96).symm h (fun S108 f109 hW110 h => ?_)
              conv => whnf
              refine pw_st h (fun z111 h => ?_)
              conv => whnf
              exact np_gl (L_X11_layOutNumber_120 hX hR (pw_F 20000) S108 u93 u94 u95 u98 z111 f109 ho96 ho97 hW110 h) ⟨rfl, rfl, rfl, rfl, trivial⟩
      · conv => whnf
        exact ⟨Nat.le_of_ble_eq_true rfl, Nat.le_of_ble_eq_true rfl, ⟨_, rfl, by decide⟩, _, fun _ _ h9 => h9, pw_ps h _ hW⟩
theorem dX11_isDigit_0 : decode cX11_isDigit 0 = .ok (.iload_n 0, 1) := by decide +kernel
theorem dX11_isDigit_1 : decode cX11_isDigit 1 = .ok (.bipush 48, 2) := by decide +kernel
theorem dX11_isDigit_3 : decode cX11_isDigit 3 = .ok (.if_icmp .lt 13, 3) := by decide +kernel
theorem dX11_isDigit_6 : decode cX11_isDigit 6 = .ok (.iload_n 0, 1) := by decide +kernel
theorem dX11_isDigit_7 : decode cX11_isDigit 7 = .ok (.bipush 57, 2) := by decide +kernel
theorem dX11_isDigit_9 : decode cX11_isDigit 9 = .ok (.if_icmp .gt 7, 3) := by decide +kernel
theorem dX11_isDigit_12 : decode cX11_isDigit 12 = .ok (.iconst 1, 1) := by decide +kernel
theorem dX11_isDigit_13 : decode cX11_isDigit 13 = .ok (.goto 4, 3) := by decide +kernel
theorem dX11_isDigit_16 : decode cX11_isDigit 16 = .ok (.iconst 0, 1) := by decide +kernel
theorem dX11_isDigit_17 : decode cX11_isDigit 17 = .ok (.ireturn, 1) := by decide +kernel
def is_X11_isDigit (Rt : np_Rt) : List (Nat × np_Op) := [(0, np_ild 1 0), (1, np_push 2 (.int 48)), (3, nq_ic (fun x y => x < y) 16), (6, np_ild 1 0), (7, np_push 2 (.int 57)), (9, nq_ic (fun x y => y < x) 16), (12, np_push 1 (.int 1)), (13, np_goto 17), (16, np_push 1 (.int 0)), (17, np_ret Rt)]
set_option maxRecDepth 20000 in
theorem so_X11_isDigit {X : np_Ctx} {Rt : np_Rt} (hX : np_ok RX11 cX11_isDigit 1 0 0 0 0 .ireturn X) (hR : ∀ st w ce sl, Rt st w ce sl → X.2.2.1 st w ce sl) : ∀ q ∈ is_X11_isDigit Rt, np_S X q.1 q.2 :=
  List.forall_mem_cons.mpr ⟨np_s_iload_n hX dX11_isDigit_0 rfl, List.forall_mem_cons.mpr ⟨np_s_bipush hX dX11_isDigit_1 (by decide), List.forall_mem_cons.mpr ⟨np_S.mono (op := np_ic (fun x y => x < y) 16) (np_s_icmp_lt hX dX11_isDigit_3 (by decide)) nq_ic_le, List.forall_mem_cons.mpr ⟨np_s_iload_n hX dX11_isDigit_6 rfl, List.forall_mem_cons.mpr ⟨np_s_bipush hX dX11_isDigit_7 (by decide), List.forall_mem_cons.mpr ⟨np_S.mono (op := np_ic (fun x y => y < x) 16) (np_s_icmp_gt hX dX11_isDigit_9 (by decide)) nq_ic_le, List.forall_mem_cons.mpr ⟨np_s_iconst hX dX11_isDigit_12 (by decide), List.forall_mem_cons.mpr ⟨np_s_goto hX dX11_isDigit_13 (by decide), List.forall_mem_cons.mpr ⟨np_s_iconst hX dX11_isDigit_16 (by decide), List.forall_mem_cons.mpr ⟨np_S.mono (op := np_ret X.2.2.1) (np_s_ret hX dX11_isDigit_17) (nq_ret_le hR), fun _ h => nomatch h⟩⟩⟩⟩⟩⟩⟩⟩⟩⟩
noncomputable def m_X11_isDigit (S : pw_S) (x0 : Int32) : pw_R Int32 :=
 if x0 < 48 then
 (some (S, 0))
 else
 (if 57 < x0 then
 (some (S, 0))
 else
 (some (S, 1)))
def sp_X11_isDigit : np_Sp := fun vs w Q => ∃ (q : Nat) (S : pw_S) (x0 : Int32), vs = [.int x0] ∧ pw_W q w S ∧ pw_p (m_X11_isDigit S x0) (fun S' r => ∀ f', pw_W q (w.1, f') S' → Q (some (.int r)) (w.1, f'))
set_option maxRecDepth 100000 in
set_option maxHeartbeats 8000000 in
theorem C_X11_isDigit : np_C yX11_isDigit cX11_isDigit 1 (some .boolean) 0 0 0 0 sp_X11_isDigit := by
  refine np_of (by decide) ?_
  intro X vs w Q hsp hX hmn hRt hlt
  obtain ⟨q, S, x0, rfl, hW, h⟩ := hsp
  obtain ⟨n, f⟩ := w
  unfold m_X11_isDigit at h
  have hR : ∀ st w ce sl, np_rt (some .boolean) 0 0 Q st w ce sl → X.2.2.1 st w ce sl := fun _ _ _ _ h => by rw [hRt]; exact h
  refine np_soundW (so_X11_isDigit hX hR) [] 400 0 _ _ _ _ _ ?_
  conv => whnf
  refine pw_br h (fun _ h => ?_) (fun _ h => ?_)
  · conv => whnf
    exact ⟨Nat.le_of_ble_eq_true rfl, Nat.le_of_ble_eq_true rfl, ⟨_, rfl, by decide⟩, _, fun _ _ h9 => h9, pw_ps h _ hW⟩
  · conv => whnf
    refine pw_br h (fun _ h => ?_) (fun _ h => ?_)
    · conv => whnf
      exact ⟨Nat.le_of_ble_eq_true rfl, Nat.le_of_ble_eq_true rfl, ⟨_, rfl, by decide⟩, _, fun _ _ h9 => h9, pw_ps h _ hW⟩
    · conv => whnf
      exact ⟨Nat.le_of_ble_eq_true rfl, Nat.le_of_ble_eq_true rfl, ⟨_, rfl, by decide⟩, _, fun _ _ h9 => h9, pw_ps h _ hW⟩
theorem dX8_append_0 : decode cX8_append 0 = .ok (.aload_n 0, 1) := by decide +kernel
theorem dX8_append_1 : decode cX8_append 1 = .ok (.dup, 1) := by decide +kernel
theorem dX8_append_2 : decode cX8_append 2 = .ok (.getfield 34, 3) := by decide +kernel
theorem dX8_append_5 : decode cX8_append 5 = .ok (.iconst 1, 1) := by decide +kernel
theorem dX8_append_6 : decode cX8_append 6 = .ok (.iadd, 1) := by decide +kernel
theorem dX8_append_7 : decode cX8_append 7 = .ok (.putfield 34, 3) := by decide +kernel
theorem dX8_append_10 : decode cX8_append 10 = .ok (.iload_n 1, 1) := by decide +kernel
theorem dX8_append_11 : decode cX8_append 11 = .ok (.invokestatic 81, 3) := by decide +kernel
theorem dX8_append_14 : decode cX8_append 14 = .ok (.ifCond .ne 4, 3) := by decide +kernel
theorem dX8_append_17 : decode cX8_append 17 = .ok (.return_, 1) := by decide +kernel
theorem dX8_append_18 : decode cX8_append 18 = .ok (.aload_n 0, 1) := by decide +kernel
theorem dX8_append_19 : decode cX8_append 19 = .ok (.dup, 1) := by decide +kernel
theorem dX8_append_20 : decode cX8_append 20 = .ok (.getfield 37, 3) := by decide +kernel
theorem dX8_append_23 : decode cX8_append 23 = .ok (.iconst 1, 1) := by decide +kernel
theorem dX8_append_24 : decode cX8_append 24 = .ok (.iadd, 1) := by decide +kernel
theorem dX8_append_25 : decode cX8_append 25 = .ok (.putfield 37, 3) := by decide +kernel
theorem dX8_append_28 : decode cX8_append 28 = .ok (.aload_n 0, 1) := by decide +kernel
theorem dX8_append_29 : decode cX8_append 29 = .ok (.dup, 1) := by decide +kernel
theorem dX8_append_30 : decode cX8_append 30 = .ok (.getfield 40, 3) := by decide +kernel
theorem dX8_append_33 : decode cX8_append 33 = .ok (.aload_n 0, 1) := by decide +kernel
theorem dX8_append_34 : decode cX8_append 34 = .ok (.getfield 37, 3) := by decide +kernel
theorem dX8_append_37 : decode cX8_append 37 = .ok (.iconst 2, 1) := by decide +kernel
theorem dX8_append_38 : decode cX8_append 38 = .ok (.irem, 1) := by decide +kernel
theorem dX8_append_39 : decode cX8_append 39 = .ok (.iconst 1, 1) := by decide +kernel
theorem dX8_append_40 : decode cX8_append 40 = .ok (.if_icmp .ne 7, 3) := by decide +kernel
theorem dX8_append_43 : decode cX8_append 43 = .ok (.iconst 1, 1) := by decide +kernel
theorem dX8_append_44 : decode cX8_append 44 = .ok (.goto 4, 3) := by decide +kernel
theorem dX8_append_47 : decode cX8_append 47 = .ok (.iconst 3, 1) := by decide +kernel
theorem dX8_append_48 : decode cX8_append 48 = .ok (.iload_n 1, 1) := by decide +kernel
theorem dX8_append_49 : decode cX8_append 49 = .ok (.bipush 48, 2) := by decide +kernel
theorem dX8_append_51 : decode cX8_append 51 = .ok (.isub, 1) := by decide +kernel
theorem dX8_append_52 : decode cX8_append 52 = .ok (.imul, 1) := by decide +kernel
theorem dX8_append_53 : decode cX8_append 53 = .ok (.iadd, 1) := by decide +kernel
theorem dX8_append_54 : decode cX8_append 54 = .ok (.putfield 40, 3) := by decide +kernel
theorem dX8_append_57 : decode cX8_append 57 = .ok (.return_, 1) := by decide +kernel
def is_X8_append (Rt : np_Rt) : List (Nat × np_Op) := [(0, np_ald 1 0), (1, nq_dup), (2, nw_getf 8 6), (5, np_push 1 (.int 1)), (6, np_ib (fun x y => x + y)), (7, nw_putf 8 6 (.int)), (10, np_ild 1 1), (11, nq_call 1 sp_X11_isDigit 1 0 0 0 0), (14, nq_ifne 18), (17, np_ret Rt), (18, np_ald 1 0), (19, nq_dup), (20, nw_getf 8 7), (23, np_push 1 (.int 1)), (24, np_ib (fun x y => x + y)), (25, nw_putf 8 7 (.int)), (28, np_ald 1 0), (29, nq_dup), (30, nw_getf 8 8), (33, np_ald 1 0), (34, nw_getf 8 7), (37, np_push 1 (.int 2)), (38, nq_ibn (fun x y => x - x / y * y)), (39, np_push 1 (.int 1)), (40, nq_icne 47), (43, np_push 1 (.int 1)), (44, np_goto 48), (47, np_push 1 (.int 3)), (48, np_ild 1 1), (49, np_push 2 (.int 48)), (51, np_ib (fun x y => x - y)), (52, np_ib (fun x y => x * y)), (53, np_ib (fun x y => x + y)), (54, nw_putf 8 8 (.int)), (57, np_ret Rt)]
set_option maxRecDepth 20000 in
theorem so_X8_append {X : np_Ctx} {Rt : np_Rt} (hX : np_ok RX8 cX8_append 2 1 20 0 0 .return_ X) (hR : ∀ st w ce sl, Rt st w ce sl → X.2.2.1 st w ce sl) : ∀ q ∈ is_X8_append Rt, np_S X q.1 q.2 :=
  List.forall_mem_cons.mpr ⟨np_s_aload_n hX dX8_append_0 rfl, List.forall_mem_cons.mpr ⟨np_S.mono (op := np_dup) (np_s_dup hX dX8_append_1) nq_dup_le, List.forall_mem_cons.mpr ⟨np_S.mono (op := np_getf 8 6) (np_s_getf hX dX8_append_2 (C := RX8) (T := TX8) (N := 9) rfl guX8 (by decide) gw158) nw_getf_le, List.forall_mem_cons.mpr ⟨np_s_iconst hX dX8_append_5 (by decide), List.forall_mem_cons.mpr ⟨np_s_iadd hX dX8_append_6, List.forall_mem_cons.mpr ⟨np_S.mono (op := np_putf 8 6 (.int)) (np_s_putf hX dX8_append_7 (C := RX8) (T := TX8) (N := 9) (ty0 := tyX8) rfl guX8 tyX8_ok nmX8 (by decide) gw158 rfl rfl) nw_putf_le, List.forall_mem_cons.mpr ⟨np_s_iload_n hX dX8_append_10 rfl, List.forall_mem_cons.mpr ⟨np_S.mono (op := np_call 1 sp_X11_isDigit 1 0 0 0 0) (np_s_callSN hX C_X11_isDigit dX8_append_11 gw843 gw63 gw841 gw842 ⟨by decide, by decide, by decide⟩ (by decide) (by decide)) nq_call_le, List.forall_mem_cons.mpr ⟨np_S.mono (op := np_ifne 18) (np_s_if_ne hX dX8_append_14 (by decide)) nq_ifne_le, List.forall_mem_cons.mpr ⟨np_S.mono (op := np_ret X.2.2.1) (np_s_ret hX dX8_append_17) (nq_ret_le hR), List.forall_mem_cons.mpr ⟨np_s_aload_n hX dX8_append_18 rfl, List.forall_mem_cons.mpr ⟨np_S.mono (op := np_dup) (np_s_dup hX dX8_append_19) nq_dup_le, List.forall_mem_cons.mpr ⟨np_S.mono (op := np_getf 8 7) (np_s_getf hX dX8_append_20 (C := RX8) (T := TX8) (N := 9) rfl guX8 (by decide) gw161) nw_getf_le, List.forall_mem_cons.mpr ⟨np_s_iconst hX dX8_append_23 (by decide), List.forall_mem_cons.mpr ⟨np_s_iadd hX dX8_append_24, List.forall_mem_cons.mpr ⟨np_S.mono (op := np_putf 8 7 (.int)) (np_s_putf hX dX8_append_25 (C := RX8) (T := TX8) (N := 9) (ty0 := tyX8) rfl guX8 tyX8_ok nmX8 (by decide) gw161 rfl rfl) nw_putf_le, List.forall_mem_cons.mpr ⟨np_s_aload_n hX dX8_append_28 rfl, List.forall_mem_cons.mpr ⟨np_S.mono (op := np_dup) (np_s_dup hX dX8_append_29) nq_dup_le, List.forall_mem_cons.mpr ⟨np_S.mono (op := np_getf 8 8) (np_s_getf hX dX8_append_30 (C := RX8) (T := TX8) (N := 9) rfl guX8 (by decide) gw162) nw_getf_le, List.forall_mem_cons.mpr ⟨np_s_aload_n hX dX8_append_33 rfl, List.forall_mem_cons.mpr ⟨np_S.mono (op := np_getf 8 7) (np_s_getf hX dX8_append_34 (C := RX8) (T := TX8) (N := 9) rfl guX8 (by decide) gw161) nw_getf_le, List.forall_mem_cons.mpr ⟨np_s_iconst hX dX8_append_37 (by decide), List.forall_mem_cons.mpr ⟨np_S.mono (op := np_ibn (fun x y => x - x / y * y)) (np_s_irem hX dX8_append_38) nq_ibn_le, List.forall_mem_cons.mpr ⟨np_s_iconst hX dX8_append_39 (by decide), List.forall_mem_cons.mpr ⟨np_S.mono (op := np_icne 47) (np_s_icmp_ne hX dX8_append_40 (by decide)) nq_icne_le, List.forall_mem_cons.mpr ⟨np_s_iconst hX dX8_append_43 (by decide), List.forall_mem_cons.mpr ⟨np_s_goto hX dX8_append_44 (by decide), List.forall_mem_cons.mpr ⟨np_s_iconst hX dX8_append_47 (by decide), List.forall_mem_cons.mpr ⟨np_s_iload_n hX dX8_append_48 rfl, List.forall_mem_cons.mpr ⟨np_s_bipush hX dX8_append_49 (by decide), List.forall_mem_cons.mpr ⟨np_s_isub hX dX8_append_51, List.forall_mem_cons.mpr ⟨np_s_imul hX dX8_append_52, List.forall_mem_cons.mpr ⟨np_s_iadd hX dX8_append_53, List.forall_mem_cons.mpr ⟨np_S.mono (op := np_putf 8 8 (.int)) (np_s_putf hX dX8_append_54 (C := RX8) (T := TX8) (N := 9) (ty0 := tyX8) rfl guX8 tyX8_ok nmX8 (by decide) gw162 rfl rfl) nw_putf_le, List.forall_mem_cons.mpr ⟨np_S.mono (op := np_ret X.2.2.1) (np_s_ret hX dX8_append_57) (nq_ret_le hR), fun _ h => nomatch h⟩⟩⟩⟩⟩⟩⟩⟩⟩⟩⟩⟩⟩⟩⟩⟩⟩⟩⟩⟩⟩⟩⟩⟩⟩⟩⟩⟩⟩⟩⟩⟩⟩⟩⟩
noncomputable def m_X8_append (S : pw_S) (i0 : Nat) (x1 : Int32) : pw_R Unit :=
 pw_l (pw_up S 50 i0 (upd (S 50 i0) 6 ((S 50 i0 6) + 1))) fun S1 =>
 pw_b (m_X11_isDigit S1 x1) fun S4 r7 =>
 if r7 = 0 then
 (some (S4, ()))
 else
 (pw_l (pw_up S4 50 i0 (upd (S4 50 i0) 7 ((S4 50 i0 7) + 1))) fun S9 =>
 if ((S9 50 i0 7) - (S9 50 i0 7) / 2 * 2) = 1 then
 (pw_l (pw_up S9 50 i0 (upd (S9 50 i0) 8 ((S9 50 i0 8) + (1 * (x1 - 48))))) fun S12 =>
 some (S12, ()))
 else
 (pw_l (pw_up S9 50 i0 (upd (S9 50 i0) 8 ((S9 50 i0 8) + (3 * (x1 - 48))))) fun S15 =>
 some (S15, ())))
def sp_X8_append : np_Sp := fun vs w Q => ∃ (q : Nat) (S : pw_S) (i0 : Nat) (x1 : Int32), vs = [.ref (pw_pl 50 i0), .int x1] ∧ pw_ok q 50 i0 = true ∧ pw_W q w S ∧ pw_p (m_X8_append S i0 x1) (fun S' r => ∀ f', pw_W q (w.1, f') S' → Q none (w.1, f'))
set_option maxRecDepth 100000 in
set_option maxHeartbeats 8000000 in
theorem C_X8_append : np_C yX8_append cX8_append 2 none 1 20 0 0 sp_X8_append := by
  refine np_of (by decide) ?_
  intro X vs w Q hsp hX hmn hRt hlt
  obtain ⟨q, S, i0, x1, rfl, hi0, hW, h⟩ := hsp
  obtain ⟨n, f⟩ := w
  unfold m_X8_append at h
  have hR : ∀ st w ce sl, np_rt none 0 0 Q st w ce sl → X.2.2.1 st w ce sl := fun _ _ _ _ h => by rw [hRt]; exact h
  refine np_soundW (so_X8_append hX hR) [] 400 0 _ _ _ _ _ ?_
  conv => whnf
  refine np_rd_i (hW.g hi0) ?_
  conv => whnf
  refine np_rd_i (hW.g hi0) ?_
  conv => whnf
  refine pw_wr (a := 50) (i := i0) (d := upd (S 50 i0) 6 ((S 50 i0 6) + 1)) hW hi0 rfl h (fun S1 f2 hW3 h => ?_)
  conv => whnf
  refine ⟨q, S1, x1, rfl, hW3, pw_bd h (fun S4 r7 h f5 hW6 => ?_)⟩
  conv => whnf
  refine pw_br h (fun _ h => ?_) (fun _ h => ?_)
  · conv => whnf
    exact ⟨Nat.le_of_ble_eq_true rfl, Nat.le_of_ble_eq_true rfl, rfl, _, fun _ _ h9 => h9, pw_ps h _ hW6⟩
  · conv => whnf
    refine np_rd_i (hW6.g hi0) ?_
    conv => whnf
    refine np_rd_i (hW6.g hi0) ?_
    conv => whnf
    refine pw_wr (a := 50) (i := i0) (d := upd (S4 50 i0) 7 ((S4 50 i0 7) + 1)) hW6 hi0 rfl h (fun S9 f10 hW11 h => ?_)
    conv => whnf
    refine np_rd_i (hW11.g hi0) ?_
    conv => whnf
    refine np_rd_i (hW11.g hi0) ?_
    conv => whnf
    refine pw_br h (fun _ h => ?_) (fun _ h => ?_)
    · conv => whnf
      refine np_rd_i (hW11.g hi0) ?_
      conv => whnf
      refine pw_wr (a := 50) (i := i0) (d := upd (S9 50 i0) 8 ((S9 50 i0 8) + (1 * (x1 - 48)))) hW11 hi0 rfl h (fun S12 f13 hW14 h => ?_)
      conv => whnf
      exact ⟨Nat.le_of_ble_eq_true rfl, Nat.le_of_ble_eq_true rfl, rfl, _, fun _ _ h9 => h9, pw_ps h _ hW14⟩
    · conv => whnf
      refine np_rd_i (hW11.g hi0) ?_
      conv => whnf
      refine pw_wr (a := 50) (i := i0) (d := upd (S9 50 i0) 8 ((S9 50 i0 8) + (3 * (x1 - 48)))) hW11 hi0 rfl h (fun S15 f16 hW17 h => ?_)
      conv => whnf
      exact ⟨Nat.le_of_ble_eq_true rfl, Nat.le_of_ble_eq_true rfl, rfl, _, fun _ _ h9 => h9, pw_ps h _ hW17⟩
theorem dX3_write_0 : decode cX3_write 0 = .ok (.aload_n 0, 1) := by decide +kernel
theorem dX3_write_1 : decode cX3_write 1 = .ok (.getfield 21, 3) := by decide +kernel
theorem dX3_write_4 : decode cX3_write 4 = .ok (.getfield 25, 3) := by decide +kernel
theorem dX3_write_7 : decode cX3_write 7 = .ok (.ifCond .lt 18, 3) := by decide +kernel
theorem dX3_write_10 : decode cX3_write 10 = .ok (.aload_n 0, 1) := by decide +kernel
theorem dX3_write_11 : decode cX3_write 11 = .ok (.getfield 21, 3) := by decide +kernel
theorem dX3_write_14 : decode cX3_write 14 = .ok (.getfield 25, 3) := by decide +kernel
theorem dX3_write_17 : decode cX3_write 17 = .ok (.aload_n 0, 1) := by decide +kernel
theorem dX3_write_18 : decode cX3_write 18 = .ok (.getfield 9, 3) := by decide +kernel
theorem dX3_write_21 : decode cX3_write 21 = .ok (.arraylength, 1) := by decide +kernel
theorem dX3_write_22 : decode cX3_write 22 = .ok (.if_icmp .lt 5, 3) := by decide +kernel
theorem dX3_write_25 : decode cX3_write 25 = .ok (.iconst 0, 1) := by decide +kernel
theorem dX3_write_26 : decode cX3_write 26 = .ok (.ireturn, 1) := by decide +kernel
theorem dX3_write_27 : decode cX3_write 27 = .ok (.aload_n 0, 1) := by decide +kernel
theorem dX3_write_28 : decode cX3_write 28 = .ok (.getfield 9, 3) := by decide +kernel
theorem dX3_write_31 : decode cX3_write 31 = .ok (.aload_n 0, 1) := by decide +kernel
theorem dX3_write_32 : decode cX3_write 32 = .ok (.getfield 21, 3) := by decide +kernel
theorem dX3_write_35 : decode cX3_write 35 = .ok (.getfield 25, 3) := by decide +kernel
theorem dX3_write_38 : decode cX3_write 38 = .ok (.iload_n 1, 1) := by decide +kernel
theorem dX3_write_39 : decode cX3_write 39 = .ok (.iastore, 1) := by decide +kernel
theorem dX3_write_40 : decode cX3_write 40 = .ok (.aload_n 0, 1) := by decide +kernel
theorem dX3_write_41 : decode cX3_write 41 = .ok (.getfield 21, 3) := by decide +kernel
theorem dX3_write_44 : decode cX3_write 44 = .ok (.iload_n 1, 1) := by decide +kernel
theorem dX3_write_45 : decode cX3_write 45 = .ok (.invokevirtual 131, 3) := by decide +kernel
theorem dX3_write_48 : decode cX3_write 48 = .ok (.iconst 1, 1) := by decide +kernel
theorem dX3_write_49 : decode cX3_write 49 = .ok (.ireturn, 1) := by decide +kernel
def is_X3_write (Rt : np_Rt) : List (Nat × np_Op) := [(0, np_ald 1 0), (1, nw_getf 3 2), (4, nw_getf 8 6), (7, nq_if (fun x => x < 0) 25), (10, np_ald 1 0), (11, nw_getf 3 2), (14, nw_getf 8 6), (17, np_ald 1 0), (18, nw_getf 3 0), (21, nw_alen), (22, nq_ic (fun x y => x < y) 27), (25, np_push 1 (.int 0)), (26, np_ret Rt), (27, np_ald 1 0), (28, nw_getf 3 0), (31, np_ald 1 0), (32, nw_getf 3 2), (35, nw_getf 8 6), (38, np_ild 1 1), (39, nw_iastT .int), (40, np_ald 1 0), (41, nw_getf 3 2), (44, np_ild 1 1), (45, nw_callV 8 2 sp_X8_append 2 0 0 0 0), (48, np_push 1 (.int 1)), (49, np_ret Rt)]
set_option maxRecDepth 20000 in
theorem so_X3_write {X : np_Ctx} {Rt : np_Rt} (hX : np_ok RX3 cX3_write 2 2 41 0 0 .ireturn X) (hR : ∀ st w ce sl, Rt st w ce sl → X.2.2.1 st w ce sl) : ∀ q ∈ is_X3_write Rt, np_S X q.1 q.2 :=
  List.forall_mem_cons.mpr ⟨np_s_aload_n hX dX3_write_0 rfl, List.forall_mem_cons.mpr ⟨np_S.mono (op := np_getf 3 2) (np_s_getf hX dX3_write_1 (C := RX3) (T := TX3) (N := 3) rfl guX3 (by decide) gw184) nw_getf_le, List.forall_mem_cons.mpr ⟨np_S.mono (op := np_getf 8 6) (np_s_getN hX dX3_write_4 (C := RX8) (T := TX8) (N := 9) rfl guX8 (by decide) gw157) nw_getf_le, List.forall_mem_cons.mpr ⟨np_S.mono (op := np_if (fun x => x < 0) 25) (np_s_if_lt hX dX3_write_7 (by decide)) nq_if_le, List.forall_mem_cons.mpr ⟨np_s_aload_n hX dX3_write_10 rfl, List.forall_mem_cons.mpr ⟨np_S.mono (op := np_getf 3 2) (np_s_getf hX dX3_write_11 (C := RX3) (T := TX3) (N := 3) rfl guX3 (by decide) gw184) nw_getf_le, List.forall_mem_cons.mpr ⟨np_S.mono (op := np_getf 8 6) (np_s_getN hX dX3_write_14 (C := RX8) (T := TX8) (N := 9) rfl guX8 (by decide) gw157) nw_getf_le, List.forall_mem_cons.mpr ⟨np_s_aload_n hX dX3_write_17 rfl, List.forall_mem_cons.mpr ⟨np_S.mono (op := np_getf 3 0) (np_s_getf hX dX3_write_18 (C := RX3) (T := TX3) (N := 3) rfl guX3 (by decide) gw182) nw_getf_le, List.forall_mem_cons.mpr ⟨np_S.mono (op := np_alen) (np_s_alen hX dX3_write_21) nw_alen_le, List.forall_mem_cons.mpr ⟨np_S.mono (op := np_ic (fun x y => x < y) 27) (np_s_icmp_lt hX dX3_write_22 (by decide)) nq_ic_le, List.forall_mem_cons.mpr ⟨np_s_iconst hX dX3_write_25 (by decide), List.forall_mem_cons.mpr ⟨np_S.mono (op := np_ret X.2.2.1) (np_s_ret hX dX3_write_26) (nq_ret_le hR), List.forall_mem_cons.mpr ⟨np_s_aload_n hX dX3_write_27 rfl, List.forall_mem_cons.mpr ⟨np_S.mono (op := np_getf 3 0) (np_s_getf hX dX3_write_28 (C := RX3) (T := TX3) (N := 3) rfl guX3 (by decide) gw182) nw_getf_le, List.forall_mem_cons.mpr ⟨np_s_aload_n hX dX3_write_31 rfl, List.forall_mem_cons.mpr ⟨np_S.mono (op := np_getf 3 2) (np_s_getf hX dX3_write_32 (C := RX3) (T := TX3) (N := 3) rfl guX3 (by decide) gw184) nw_getf_le, List.forall_mem_cons.mpr ⟨np_S.mono (op := np_getf 8 6) (np_s_getN hX dX3_write_35 (C := RX8) (T := TX8) (N := 9) rfl guX8 (by decide) gw157) nw_getf_le, List.forall_mem_cons.mpr ⟨np_s_iload_n hX dX3_write_38 rfl, List.forall_mem_cons.mpr ⟨np_S.mono (op := np_iastT .int) (np_s_iast hX dX3_write_39) nw_iastT_le, List.forall_mem_cons.mpr ⟨np_s_aload_n hX dX3_write_40 rfl, List.forall_mem_cons.mpr ⟨np_S.mono (op := np_getf 3 2) (np_s_getf hX dX3_write_41 (C := RX3) (T := TX3) (N := 3) rfl guX3 (by decide) gw184) nw_getf_le, List.forall_mem_cons.mpr ⟨np_s_iload_n hX dX3_write_44 rfl, List.forall_mem_cons.mpr ⟨np_S.mono (op := np_callV 8 2 sp_X8_append 2 0 0 0 0) (np_s_callV hX C_X8_append dX3_write_45 (q := (RX8, TX8, 9)) rfl rfl gw840 gw66 gw837 gw838 gw839 ⟨by decide, by decide, by decide⟩ (by decide) (by decide)) nw_callV_le, List.forall_mem_cons.mpr ⟨np_s_iconst hX dX3_write_48 (by decide), List.forall_mem_cons.mpr ⟨np_S.mono (op := np_ret X.2.2.1) (np_s_ret hX dX3_write_49) (nq_ret_le hR), fun _ h => nomatch h⟩⟩⟩⟩⟩⟩⟩⟩⟩⟩⟩⟩⟩⟩⟩⟩⟩⟩⟩⟩⟩⟩⟩⟩⟩⟩
noncomputable def m_X3_write (S : pw_S) (i0 : Nat) (x1 : Int32) : pw_R Int32 :=
 if (S 50 408 6) < 0 then
 (some (S, 0))
 else
 (if (S 50 408 6) < 60 then
 (pw_c (np_inb (S 50 408 6) 60) <|
 pw_l (pw_up S 28 0 (upd (S 28 0) ((S 50 408 6) : Int32).toNatClampNeg x1)) fun S1 =>
 pw_b (m_X8_append S1 408 x1) fun S4 r7 =>
 some (S4, 1))
 else
 (some (S, 0)))
def sp_X3_write : np_Sp := fun vs w Q => ∃ (q : Nat) (S : pw_S) (i0 : Nat) (x1 : Int32), vs = [.ref (pw_pl 58 i0), .int x1] ∧ pw_ok q 58 i0 = true ∧ pw_W q w S ∧ pw_p (m_X3_write S i0 x1) (fun S' r => ∀ f', pw_W q (w.1, f') S' → Q (some (.int r)) (w.1, f'))
set_option maxRecDepth 100000 in
set_option maxHeartbeats 8000000 in
theorem C_X3_write : np_C yX3_write cX3_write 2 (some .boolean) 2 41 0 0 sp_X3_write := by
  refine np_of (by decide) ?_
  intro X vs w Q hsp hX hmn hRt hlt
  obtain ⟨q, S, i0, x1, rfl, hi0, hW, h⟩ := hsp
  obtain ⟨n, f⟩ := w
  unfold m_X3_write at h
  have hR : ∀ st w ce sl, np_rt (some .boolean) 0 0 Q st w ce sl → X.2.2.1 st w ce sl := fun _ _ _ _ h => by rw [hRt]; exact h
  refine np_soundW (so_X3_write hX hR) [] 400 0 _ _ _ _ _ ?_
  conv => whnf
  refine np_rd_i (hW.g hi0) ?_
  conv => whnf
  refine np_rd_i (hW.g rfl) ?_
  conv => whnf
  refine pw_br h (fun _ h => ?_) (fun _ h => ?_)
  · conv => whnf
    exact ⟨Nat.le_of_ble_eq_true rfl, Nat.le_of_ble_eq_true rfl, ⟨_, rfl, by decide⟩, _, fun _ _ h9 => h9, pw_ps h _ hW⟩
  · conv => whnf
    refine np_rd_i (hW.g hi0) ?_
    conv => whnf
    refine np_rd_i (hW.g rfl) ?_
    conv => whnf
    refine np_rd_i (hW.g hi0) ?_
    conv => whnf
    refine np_rd_i (hW.g rfl) ?_
    conv => whnf
    refine pw_br h (fun _ h => ?_) (fun _ h => ?_)
    · conv => whnf
      refine np_rd_i (hW.g hi0) ?_
      conv => whnf
      refine np_rd_i (hW.g hi0) ?_
      conv => whnf
      refine np_rd_i (hW.g rfl) ?_
      conv => whnf
      refine np_rd_i (hW.g rfl) ?_
      conv => whnf
      refine pw_ck h (fun _ h => ?_)
      conv => whnf
      refine pw_wr (a := 28) (i := 0) (d := upd (S 28 0) ((S 50 408 6) : Int32).toNatClampNeg x1) hW rfl rfl h (fun S1 f2 hW3 h => ?_)
      conv => whnf
      refine np_rd_i (hW3.g hi0) ?_
      conv => whnf
      refine np_rd_i (hW3.g rfl) ?_
      conv => whnf
      refine ⟨q, S1, 408, x1, rfl, rfl, hW3, pw_bd h (fun S4 r7 h f5 hW6 => ?_)⟩
      conv => whnf
      exact ⟨Nat.le_of_ble_eq_true rfl, Nat.le_of_ble_eq_true rfl, ⟨_, rfl, by decide⟩, _, fun _ _ h9 => h9, pw_ps h _ hW6⟩
    · conv => whnf
      exact ⟨Nat.le_of_ble_eq_true rfl, Nat.le_of_ble_eq_true rfl, ⟨_, rfl, by decide⟩, _, fun _ _ h9 => h9, pw_ps h _ hW⟩
theorem dX3_writeNumber_0 : decode cX3_writeNumber 0 = .ok (.iload_n 1, 1) := by decide +kernel
theorem dX3_writeNumber_1 : decode cX3_writeNumber 1 = .ok (.iload_n 2, 1) := by decide +kernel
theorem dX3_writeNumber_2 : decode cX3_writeNumber 2 = .ok (.iload_n 3, 1) := by decide +kernel
theorem dX3_writeNumber_3 : decode cX3_writeNumber 3 = .ok (.aload_n 0, 1) := by decide +kernel
theorem dX3_writeNumber_4 : decode cX3_writeNumber 4 = .ok (.getfield 15, 3) := by decide +kernel
theorem dX3_writeNumber_7 : decode cX3_writeNumber 7 = .ok (.invokestatic 134, 3) := by decide +kernel
theorem dX3_writeNumber_10 : decode cX3_writeNumber 10 = .ok (.ifCond .ne 5, 3) := by decide +kernel
theorem dX3_writeNumber_13 : decode cX3_writeNumber 13 = .ok (.iconst 0, 1) := by decide +kernel
theorem dX3_writeNumber_14 : decode cX3_writeNumber 14 = .ok (.ireturn, 1) := by decide +kernel
theorem dX3_writeNumber_15 : decode cX3_writeNumber 15 = .ok (.iconst 0, 1) := by decide +kernel
theorem dX3_writeNumber_16 : decode cX3_writeNumber 16 = .ok (.istore 4, 2) := by decide +kernel
theorem dX3_writeNumber_18 : decode cX3_writeNumber 18 = .ok (.iload 4, 2) := by decide +kernel
theorem dX3_writeNumber_20 : decode cX3_writeNumber 20 = .ok (.iload_n 2, 1) := by decide +kernel
theorem dX3_writeNumber_21 : decode cX3_writeNumber 21 = .ok (.if_icmp .ge 28, 3) := by decide +kernel
theorem dX3_writeNumber_24 : decode cX3_writeNumber 24 = .ok (.aload_n 0, 1) := by decide +kernel
theorem dX3_writeNumber_25 : decode cX3_writeNumber 25 = .ok (.aload_n 0, 1) := by decide +kernel
theorem dX3_writeNumber_26 : decode cX3_writeNumber 26 = .ok (.getfield 15, 3) := by decide +kernel
theorem dX3_writeNumber_29 : decode cX3_writeNumber 29 = .ok (.iload 4, 2) := by decide +kernel
theorem dX3_writeNumber_31 : decode cX3_writeNumber 31 = .ok (.iconst 0, 1) := by decide +kernel
theorem dX3_writeNumber_32 : decode cX3_writeNumber 32 = .ok (.invokestatic 29, 3) := by decide +kernel
theorem dX3_writeNumber_35 : decode cX3_writeNumber 35 = .ok (.invokevirtual 77, 3) := by decide +kernel
theorem dX3_writeNumber_38 : decode cX3_writeNumber 38 = .ok (.ifCond .ne 5, 3) := by decide +kernel
theorem dX3_writeNumber_41 : decode cX3_writeNumber 41 = .ok (.iconst 0, 1) := by decide +kernel
theorem dX3_writeNumber_42 : decode cX3_writeNumber 42 = .ok (.ireturn, 1) := by decide +kernel
theorem dX3_writeNumber_43 : decode cX3_writeNumber 43 = .ok (.iinc 4 1, 3) := by decide +kernel
theorem dX3_writeNumber_46 : decode cX3_writeNumber 46 = .ok (.goto (-28), 3) := by decide +kernel
theorem dX3_writeNumber_49 : decode cX3_writeNumber 49 = .ok (.iconst 1, 1) := by decide +kernel
theorem dX3_writeNumber_50 : decode cX3_writeNumber 50 = .ok (.ireturn, 1) := by decide +kernel
def is_X3_writeNumber (Rt : np_Rt) : List (Nat × np_Op) := [(0, np_ild 1 1), (1, np_ild 1 2), (2, np_ild 1 3), (3, np_ald 1 0), (4, nw_getf 3 1), (7, nq_call 4 sp_X11_layOutNumber 8 0 0 0 0), (10, nq_ifne 15), (13, np_push 1 (.int 0)), (14, np_ret Rt), (15, np_push 1 (.int 0)), (16, nw_ist 2 4), (18, np_ild 2 4), (20, np_ild 1 2), (21, nq_ic (fun x y => y ≤ x) 49), (24, np_ald 1 0), (25, np_ald 1 0), (26, nw_getf 3 1), (29, np_ild 2 4), (31, np_push 1 (.int 0)), (32, nq_call 3 sp_X11_at 3 0 0 0 0), (35, nw_callV 3 2 sp_X3_write 2 0 0 0 0), (38, nq_ifne 43), (41, np_push 1 (.int 0)), (42, np_ret Rt), (43, nw_iinc 4 1), (46, np_goto 18), (49, np_push 1 (.int 1)), (50, np_ret Rt)]
set_option maxRecDepth 20000 in
theorem so_X3_writeNumber {X : np_Ctx} {Rt : np_Rt} (hX : np_ok RX3 cX3_writeNumber 5 3 62 0 0 .ireturn X) (hR : ∀ st w ce sl, Rt st w ce sl → X.2.2.1 st w ce sl) : ∀ q ∈ is_X3_writeNumber Rt, np_S X q.1 q.2 :=
  List.forall_mem_cons.mpr ⟨np_s_iload_n hX dX3_writeNumber_0 rfl, List.forall_mem_cons.mpr ⟨np_s_iload_n hX dX3_writeNumber_1 rfl, List.forall_mem_cons.mpr ⟨np_s_iload_n hX dX3_writeNumber_2 rfl, List.forall_mem_cons.mpr ⟨np_s_aload_n hX dX3_writeNumber_3 rfl, List.forall_mem_cons.mpr ⟨np_S.mono (op := np_getf 3 1) (np_s_getf hX dX3_writeNumber_4 (C := RX3) (T := TX3) (N := 3) rfl guX3 (by decide) gw183) nw_getf_le, List.forall_mem_cons.mpr ⟨np_S.mono (op := np_call 4 sp_X11_layOutNumber 8 0 0 0 0) (np_s_callSN hX C_X11_layOutNumber dX3_writeNumber_7 gw829 gw63 gw827 gw828 ⟨by decide, by decide, by decide⟩ (by decide) (by decide)) nq_call_le, List.forall_mem_cons.mpr ⟨np_S.mono (op := np_ifne 15) (np_s_if_ne hX dX3_writeNumber_10 (by decide)) nq_ifne_le, List.forall_mem_cons.mpr ⟨np_s_iconst hX dX3_writeNumber_13 (by decide), List.forall_mem_cons.mpr ⟨np_S.mono (op := np_ret X.2.2.1) (np_s_ret hX dX3_writeNumber_14) (nq_ret_le hR), List.forall_mem_cons.mpr ⟨np_s_iconst hX dX3_writeNumber_15 (by decide), List.forall_mem_cons.mpr ⟨np_S.mono (op := np_ist 2 4) (np_s_istore hX dX3_writeNumber_16 (by decide)) nw_ist_le, List.forall_mem_cons.mpr ⟨np_s_iload hX dX3_writeNumber_18, List.forall_mem_cons.mpr ⟨np_s_iload_n hX dX3_writeNumber_20 rfl, List.forall_mem_cons.mpr ⟨np_S.mono (op := np_ic (fun x y => y ≤ x) 49) (np_s_icmp_ge hX dX3_writeNumber_21 (by decide)) nq_ic_le, List.forall_mem_cons.mpr ⟨np_s_aload_n hX dX3_writeNumber_24 rfl, List.forall_mem_cons.mpr ⟨np_s_aload_n hX dX3_writeNumber_25 rfl, List.forall_mem_cons.mpr ⟨np_S.mono (op := np_getf 3 1) (np_s_getf hX dX3_writeNumber_26 (C := RX3) (T := TX3) (N := 3) rfl guX3 (by decide) gw183) nw_getf_le, List.forall_mem_cons.mpr ⟨np_s_iload hX dX3_writeNumber_29, List.forall_mem_cons.mpr ⟨np_s_iconst hX dX3_writeNumber_31 (by decide), List.forall_mem_cons.mpr ⟨np_S.mono (op := np_call 3 sp_X11_at 3 0 0 0 0) (np_s_callSN hX C_X11_at dX3_writeNumber_32 gw653 gw63 gw805 gw652 ⟨by decide, by decide, by decide⟩ (by decide) (by decide)) nq_call_le, List.forall_mem_cons.mpr ⟨np_S.mono (op := np_callV 3 2 sp_X3_write 2 0 0 0 0) (np_s_callV hX C_X3_write dX3_writeNumber_35 (q := (RX3, TX3, 3)) rfl rfl gw836 gw65 gw833 gw835 gw9 ⟨by decide, by decide, by decide⟩ (by decide) (by decide)) nw_callV_le, List.forall_mem_cons.mpr ⟨np_S.mono (op := np_ifne 43) (np_s_if_ne hX dX3_writeNumber_38 (by decide)) nq_ifne_le, List.forall_mem_cons.mpr ⟨np_s_iconst hX dX3_writeNumber_41 (by decide), List.forall_mem_cons.mpr ⟨np_S.mono (op := np_ret X.2.2.1) (np_s_ret hX dX3_writeNumber_42) (nq_ret_le hR), List.forall_mem_cons.mpr ⟨np_S.mono (op := np_iinc 4 1) (np_s_iinc hX dX3_writeNumber_43 (by decide)) nw_iinc_le, List.forall_mem_cons.mpr ⟨np_s_goto hX dX3_writeNumber_46 (by decide), List.forall_mem_cons.mpr ⟨np_s_iconst hX dX3_writeNumber_49 (by decide), List.forall_mem_cons.mpr ⟨np_S.mono (op := np_ret X.2.2.1) (np_s_ret hX dX3_writeNumber_50) (nq_ret_le hR), fun _ h => nomatch h⟩⟩⟩⟩⟩⟩⟩⟩⟩⟩⟩⟩⟩⟩⟩⟩⟩⟩⟩⟩⟩⟩⟩⟩⟩⟩⟩⟩
noncomputable def m_X3_writeNumber_18 : Nat → pw_S → Nat → Int32 → Int32 → pw_R Int32
| 0, _, _, _, _ => none
| N + 1, S, v0, v2, v4 =>
 if v2 ≤ v4 then
 (some (S, 1))
 else
 (pw_b (m_X11_at S 29 0 v4 0) fun S1 r4 =>
 pw_b (m_X3_write S1 v0 r4) fun S6 r9 =>
 if r9 = 0 then
 (some (S6, 0))
 else
 (pw_l (v4 + 1 : Int32) fun z11 =>
 m_X3_writeNumber_18 N S6 v0 v2 z11))
set_option maxRecDepth 100000 in
set_option maxHeartbeats 8000000 in
theorem L_X3_writeNumber_18 {X : np_Ctx} (hX : np_ok RX3 cX3_writeNumber 5 3 62 0 0 .ireturn X) {Q : Option Value → np_W → Prop} {q n : Nat} (hR : ∀ st w ce sl, np_rt (some .boolean) 0 0 Q st w ce sl → X.2.2.1 st w ce sl) : ∀ (N : Nat) (S : pw_S) (v0 : Nat) (v2 : Int32) (v4 : Int32) (f : Nat → Option np_E) (hv0 : pw_ok q 58 v0 = true), pw_W q (n, f) S → pw_p (m_X3_writeNumber_18 N S v0 v2 v4) (fun S' r => ∀ f', pw_W q (n, f') S' → Q (some (.int r)) (n, f')) → np_G X 18 [(0, .ref (pw_pl 58 v0)), (2, .int v2), (4, .int v4)] [] (n, f) 0 0 := by
  intro N
  induction N with
  | zero =>
    intro S v0 v2 v4 f hv0 hW h
    exact (pw_pn h).elim
  | succ N ih =>
    intro S v0 v2 v4 f hv0 hW h
    unfold m_X3_writeNumber_18 at h
    refine np_soundW (so_X3_writeNumber hX hR) [18] 400 18 _ _ _ _ _ ?_
    conv => whnf
    refine pw_br h (fun _ h => ?_) (fun _ h => ?_)
    · conv => whnf
      exact ⟨Nat.le_of_ble_eq_true rfl, Nat.le_of_ble_eq_true rfl, ⟨_, rfl, by decide⟩, _, fun _ _ h9 => h9, pw_ps h _ hW⟩
    · conv => whnf
      refine np_rd_i (hW.g hv0) ?_
      conv => whnf
      refine ⟨q, S, 29, 0, v4, 0, rfl, rfl, rfl, hW, pw_bd h (fun S1 r4 h f2 hW3 => ?_)⟩
      conv => whnf
      refine np_rd_i (hW3.g hv0) ?_
      conv => whnf
      refine ⟨q, S1, v0, r4, rfl, hv0, hW3, pw_bd h (fun S6 r9 h f7 hW8 => ?_)⟩
      conv => whnf
      refine pw_br h (fun _ h => ?_) (fun _ h => ?_)
      · conv => whnf
        exact ⟨Nat.le_of_ble_eq_true rfl, Nat.le_of_ble_eq_true rfl, ⟨_, rfl, by decide⟩, _, fun _ _ h9 => h9, pw_ps h _ hW8⟩
      · conv => whnf
        refine pw_st h (fun z11 h => ?_)
        conv => whnf
        exact np_gl (ih S6 v0 v2 z11 f7 hv0 hW8 h) ⟨rfl, rfl, rfl, trivial⟩
noncomputable def m_X3_writeNumber (S : pw_S) (i0 : Nat) (x1 : Int32) (x2 : Int32) (x3 : Int32) : pw_R Int32 :=
 pw_b (m_X11_layOutNumber S x1 x2 x3 29 0) fun S12 r15 =>
 if r15 = 0 then
 (some (S12, 0))
 else
 (pw_l (0 : Int32) fun z17 =>
 m_X3_writeNumber_18 (pw_F 20000) S12 i0 x2 z17)
def sp_X3_writeNumber : np_Sp := fun vs w Q => ∃ (q : Nat) (S : pw_S) (i0 : Nat) (x1 : Int32) (x2 : Int32) (x3 : Int32), vs = [.ref (pw_pl 58 i0), .int x1, .int x2, .int x3] ∧ pw_ok q 58 i0 = true ∧ pw_W q w S ∧ pw_p (m_X3_writeNumber S i0 x1 x2 x3) (fun S' r => ∀ f', pw_W q (w.1, f') S' → Q (some (.int r)) (w.1, f'))
set_option maxRecDepth 100000 in
set_option maxHeartbeats 8000000 in
theorem C_X3_writeNumber : np_C yX3_writeNumber cX3_writeNumber 5 (some .boolean) 3 62 0 0 sp_X3_writeNumber := by
  refine np_of (by decide) ?_
  intro X vs w Q hsp hX hmn hRt hlt
  obtain ⟨q, S, i0, x1, x2, x3, rfl, hi0, hW, h⟩ := hsp
  obtain ⟨n, f⟩ := w
  unfold m_X3_writeNumber at h
  have hR : ∀ st w ce sl, np_rt (some .boolean) 0 0 Q st w ce sl → X.2.2.1 st w ce sl := fun _ _ _ _ h => by rw [hRt]; exact h
  refine np_soundW (so_X3_writeNumber hX hR) [18] 400 0 _ _ _ _ _ ?_
  conv => whnf
  refine np_rd_i (hW.g hi0) ?_
  conv => whnf
  refine ⟨q, S, x1, x2, x3, 29, 0, rfl, rfl, rfl, hW, pw_bd h (fun S12 r15 h f13 hW14 => ?_)⟩
  conv => whnf
  refine pw_br h (fun _ h => ?_) (fun _ h => ?_)
  · conv => whnf
    exact ⟨Nat.le_of_ble_eq_true rfl, Nat.le_of_ble_eq_true rfl, ⟨_, rfl, by decide⟩, _, fun _ _ h9 => h9, pw_ps h _ hW14⟩
  · conv => whnf
    refine pw_st h (fun z17 h => ?_)
    conv => whnf
    exact np_gl (L_X3_writeNumber_18 hX hR (pw_F 20000) S12 i0 x2 z17 f13 hi0 hW14 h) ⟨rfl, rfl, rfl, trivial⟩
theorem dX11_isWord_0 : decode cX11_isWord 0 = .ok (.iload_n 0, 1) := by decide +kernel
theorem dX11_isWord_1 : decode cX11_isWord 1 = .ok (.istore_n 1, 1) := by decide +kernel
theorem dX11_isWord_2 : decode cX11_isWord 2 = .ok (.iconst 0, 1) := by decide +kernel
theorem dX11_isWord_3 : decode cX11_isWord 3 = .ok (.istore_n 2, 1) := by decide +kernel
theorem dX11_isWord_4 : decode cX11_isWord 4 = .ok (.iload_n 2, 1) := by decide +kernel
theorem dX11_isWord_5 : decode cX11_isWord 5 = .ok (.iconst 5, 1) := by decide +kernel
theorem dX11_isWord_6 : decode cX11_isWord 6 = .ok (.if_icmp .ge 32, 3) := by decide +kernel
theorem dX11_isWord_9 : decode cX11_isWord 9 = .ok (.iload_n 1, 1) := by decide +kernel
theorem dX11_isWord_10 : decode cX11_isWord 10 = .ok (.ifCond .eq 28, 3) := by decide +kernel
theorem dX11_isWord_13 : decode cX11_isWord 13 = .ok (.iload_n 1, 1) := by decide +kernel
theorem dX11_isWord_14 : decode cX11_isWord 14 = .ok (.bipush 31, 2) := by decide +kernel
theorem dX11_isWord_16 : decode cX11_isWord 16 = .ok (.iand, 1) := by decide +kernel
theorem dX11_isWord_17 : decode cX11_isWord 17 = .ok (.iconst 1, 1) := by decide +kernel
theorem dX11_isWord_18 : decode cX11_isWord 18 = .ok (.bipush 27, 2) := by decide +kernel
theorem dX11_isWord_20 : decode cX11_isWord 20 = .ok (.invokestatic 440, 3) := by decide +kernel
theorem dX11_isWord_23 : decode cX11_isWord 23 = .ok (.ifCond .ne 5, 3) := by decide +kernel
theorem dX11_isWord_26 : decode cX11_isWord 26 = .ok (.iconst 0, 1) := by decide +kernel
theorem dX11_isWord_27 : decode cX11_isWord 27 = .ok (.ireturn, 1) := by decide +kernel
theorem dX11_isWord_28 : decode cX11_isWord 28 = .ok (.iload_n 1, 1) := by decide +kernel
theorem dX11_isWord_29 : decode cX11_isWord 29 = .ok (.iconst 5, 1) := by decide +kernel
theorem dX11_isWord_30 : decode cX11_isWord 30 = .ok (.iushr, 1) := by decide +kernel
theorem dX11_isWord_31 : decode cX11_isWord 31 = .ok (.istore_n 1, 1) := by decide +kernel
theorem dX11_isWord_32 : decode cX11_isWord 32 = .ok (.iinc 2 1, 3) := by decide +kernel
theorem dX11_isWord_35 : decode cX11_isWord 35 = .ok (.goto (-31), 3) := by decide +kernel
theorem dX11_isWord_38 : decode cX11_isWord 38 = .ok (.iload_n 1, 1) := by decide +kernel
theorem dX11_isWord_39 : decode cX11_isWord 39 = .ok (.ifCond .ne 7, 3) := by decide +kernel
theorem dX11_isWord_42 : decode cX11_isWord 42 = .ok (.iconst 1, 1) := by decide +kernel
theorem dX11_isWord_43 : decode cX11_isWord 43 = .ok (.goto 4, 3) := by decide +kernel
theorem dX11_isWord_46 : decode cX11_isWord 46 = .ok (.iconst 0, 1) := by decide +kernel
theorem dX11_isWord_47 : decode cX11_isWord 47 = .ok (.ireturn, 1) := by decide +kernel
def is_X11_isWord (Rt : np_Rt) : List (Nat × np_Op) := [(0, np_ild 1 0), (1, nw_ist 1 1), (2, np_push 1 (.int 0)), (3, nw_ist 1 2), (4, np_ild 1 2), (5, np_push 1 (.int 5)), (6, nq_ic (fun x y => y ≤ x) 38), (9, np_ild 1 1), (10, nq_if (fun x => x = 0) 38), (13, np_ild 1 1), (14, np_push 2 (.int 31)), (16, np_ib (fun x y => x &&& y)), (17, np_push 1 (.int 1)), (18, np_push 2 (.int 27)), (20, nq_call 3 sp_X11_isBetween 3 0 0 0 0), (23, nq_ifne 28), (26, np_push 1 (.int 0)), (27, np_ret Rt), (28, np_ild 1 1), (29, np_push 1 (.int 5)), (30, np_ib (fun x y => (x.toUInt32 >>> (y.toUInt32 &&& Int32.toUInt32 31)).toInt32)), (31, nw_ist 1 1), (32, nw_iinc 2 1), (35, np_goto 4), (38, np_ild 1 1), (39, nq_ifne 46), (42, np_push 1 (.int 1)), (43, np_goto 47), (46, np_push 1 (.int 0)), (47, np_ret Rt)]
set_option maxRecDepth 20000 in
theorem so_X11_isWord {X : np_Ctx} {Rt : np_Rt} (hX : np_ok RX11 cX11_isWord 3 1 22 0 0 .ireturn X) (hR : ∀ st w ce sl, Rt st w ce sl → X.2.2.1 st w ce sl) : ∀ q ∈ is_X11_isWord Rt, np_S X q.1 q.2 :=
  List.forall_mem_cons.mpr ⟨np_s_iload_n hX dX11_isWord_0 rfl, List.forall_mem_cons.mpr ⟨np_S.mono (op := np_ist 1 1) (np_s_istore_n hX dX11_isWord_1 rfl (by decide)) nw_ist_le, List.forall_mem_cons.mpr ⟨np_s_iconst hX dX11_isWord_2 (by decide), List.forall_mem_cons.mpr ⟨np_S.mono (op := np_ist 1 2) (np_s_istore_n hX dX11_isWord_3 rfl (by decide)) nw_ist_le, List.forall_mem_cons.mpr ⟨np_s_iload_n hX dX11_isWord_4 rfl, List.forall_mem_cons.mpr ⟨np_s_iconst hX dX11_isWord_5 (by decide), List.forall_mem_cons.mpr ⟨np_S.mono (op := np_ic (fun x y => y ≤ x) 38) (np_s_icmp_ge hX dX11_isWord_6 (by decide)) nq_ic_le, List.forall_mem_cons.mpr ⟨np_s_iload_n hX dX11_isWord_9 rfl, List.forall_mem_cons.mpr ⟨np_S.mono (op := np_if (fun x => x = 0) 38) (np_s_if_eq hX dX11_isWord_10 (by decide)) nq_if_le, List.forall_mem_cons.mpr ⟨np_s_iload_n hX dX11_isWord_13 rfl, List.forall_mem_cons.mpr ⟨np_s_bipush hX dX11_isWord_14 (by decide), List.forall_mem_cons.mpr ⟨np_s_iand hX dX11_isWord_16, List.forall_mem_cons.mpr ⟨np_s_iconst hX dX11_isWord_17 (by decide), List.forall_mem_cons.mpr ⟨np_s_bipush hX dX11_isWord_18 (by decide), List.forall_mem_cons.mpr ⟨np_S.mono (op := np_call 3 sp_X11_isBetween 3 0 0 0 0) (np_s_callS hX C_X11_isBetween dX11_isWord_20 gw589 gw63 gw851 gw588 ⟨by decide, by decide, by decide⟩ (by decide) (by decide)) nq_call_le, List.forall_mem_cons.mpr ⟨np_S.mono (op := np_ifne 28) (np_s_if_ne hX dX11_isWord_23 (by decide)) nq_ifne_le, List.forall_mem_cons.mpr ⟨np_s_iconst hX dX11_isWord_26 (by decide), List.forall_mem_cons.mpr ⟨np_S.mono (op := np_ret X.2.2.1) (np_s_ret hX dX11_isWord_27) (nq_ret_le hR), List.forall_mem_cons.mpr ⟨np_s_iload_n hX dX11_isWord_28 rfl, List.forall_mem_cons.mpr ⟨np_s_iconst hX dX11_isWord_29 (by decide), List.forall_mem_cons.mpr ⟨np_s_iushr hX dX11_isWord_30, List.forall_mem_cons.mpr ⟨np_S.mono (op := np_ist 1 1) (np_s_istore_n hX dX11_isWord_31 rfl (by decide)) nw_ist_le, List.forall_mem_cons.mpr ⟨np_S.mono (op := np_iinc 2 1) (np_s_iinc hX dX11_isWord_32 (by decide)) nw_iinc_le, List.forall_mem_cons.mpr ⟨np_s_goto hX dX11_isWord_35 (by decide), List.forall_mem_cons.mpr ⟨np_s_iload_n hX dX11_isWord_38 rfl, List.forall_mem_cons.mpr ⟨np_S.mono (op := np_ifne 46) (np_s_if_ne hX dX11_isWord_39 (by decide)) nq_ifne_le, List.forall_mem_cons.mpr ⟨np_s_iconst hX dX11_isWord_42 (by decide), List.forall_mem_cons.mpr ⟨np_s_goto hX dX11_isWord_43 (by decide), List.forall_mem_cons.mpr ⟨np_s_iconst hX dX11_isWord_46 (by decide), List.forall_mem_cons.mpr ⟨np_S.mono (op := np_ret X.2.2.1) (np_s_ret hX dX11_isWord_47) (nq_ret_le hR), fun _ h => nomatch h⟩⟩⟩⟩⟩⟩⟩⟩⟩⟩⟩⟩⟩⟩⟩⟩⟩⟩⟩⟩⟩⟩⟩⟩⟩⟩⟩⟩⟩⟩
noncomputable def m_X11_isWord_4 : Nat → pw_S → Int32 → Int32 → pw_R Int32
| 0, _, _, _ => none
| N + 1, S, v1, v2 =>
 if 5 ≤ v2 then
 (if v1 = 0 then
 (some (S, 1))
 else
 (some (S, 0)))
 else
 (if v1 = 0 then
 (if v1 = 0 then
 (some (S, 1))
 else
 (some (S, 0)))
 else
 (pw_b (m_X11_isBetween S (v1 &&& 31) 1 27) fun S1 r4 =>
 if r4 = 0 then
 (some (S1, 0))
 else
 (pw_l (((v1).toUInt32 >>> ((5).toUInt32 &&& Int32.toUInt32 31)).toInt32 : Int32) fun z6 =>
 pw_l (v2 + 1 : Int32) fun z7 =>
 m_X11_isWord_4 N S1 z6 z7)))
set_option maxRecDepth 100000 in
set_option maxHeartbeats 8000000 in
theorem L_X11_isWord_4 {X : np_Ctx} (hX : np_ok RX11 cX11_isWord 3 1 22 0 0 .ireturn X) {Q : Option Value → np_W → Prop} {q n : Nat} (hR : ∀ st w ce sl, np_rt (some .boolean) 0 0 Q st w ce sl → X.2.2.1 st w ce sl) : ∀ (N : Nat) (S : pw_S) (v1 : Int32) (v2 : Int32) (f : Nat → Option np_E), pw_W q (n, f) S → pw_p (m_X11_isWord_4 N S v1 v2) (fun S' r => ∀ f', pw_W q (n, f') S' → Q (some (.int r)) (n, f')) → np_G X 4 [(1, .int v1), (2, .int v2)] [] (n, f) 0 0 := by
  intro N
  induction N with
  | zero =>
    intro S v1 v2 f hW h
    exact (pw_pn h).elim
  | succ N ih =>
    intro S v1 v2 f hW h
    unfold m_X11_isWord_4 at h
    refine np_soundW (so_X11_isWord hX hR) [4] 400 4 _ _ _ _ _ ?_
    conv => whnf
    refine pw_br h (fun _ h => ?_) (fun _ h => ?_)
    · conv => whnf
      refine pw_br h (fun _ h => ?_) (fun _ h => ?_)
      · conv => whnf
        exact ⟨Nat.le_of_ble_eq_true rfl, Nat.le_of_ble_eq_true rfl, ⟨_, rfl, by decide⟩, _, fun _ _ h9 => h9, pw_ps h _ hW⟩
      · conv => whnf
        exact ⟨Nat.le_of_ble_eq_true rfl, Nat.le_of_ble_eq_true rfl, ⟨_, rfl, by decide⟩, _, fun _ _ h9 => h9, pw_ps h _ hW⟩
    · conv => whnf
      refine pw_br h (fun _ h => ?_) (fun _ h => ?_)
      · conv => whnf
        refine pw_br h (fun _ h => ?_) (fun _ h => ?_)
        · conv => whnf
          exact ⟨Nat.le_of_ble_eq_true rfl, Nat.le_of_ble_eq_true rfl, ⟨_, rfl, by decide⟩, _, fun _ _ h9 => h9, pw_ps h _ hW⟩
        · conv => whnf
          exact ⟨Nat.le_of_ble_eq_true rfl, Nat.le_of_ble_eq_true rfl, ⟨_, rfl, by decide⟩, _, fun _ _ h9 => h9, pw_ps h _ hW⟩
      · conv => whnf
        refine ⟨q, S, (v1 &&& 31), 1, 27, rfl, hW, pw_bd h (fun S1 r4 h f2 hW3 => ?_)⟩
        conv => whnf
        refine pw_br h (fun _ h => ?_) (fun _ h => ?_)
        · conv => whnf
          exact ⟨Nat.le_of_ble_eq_true rfl, Nat.le_of_ble_eq_true rfl, ⟨_, rfl, by decide⟩, _, fun _ _ h9 => h9, pw_ps h _ hW3⟩
        · conv => whnf
          refine pw_st h (fun z6 h => ?_)
          conv => whnf
          refine pw_st h (fun z7 h => ?_)
          conv => whnf
          exact np_gl (ih S1 z6 z7 f2 hW3 h) ⟨rfl, rfl, trivial⟩
noncomputable def m_X11_isWord (S : pw_S) (x0 : Int32) : pw_R Int32 :=
 pw_l (x0 : Int32) fun z8 =>
 pw_l (0 : Int32) fun z9 =>
 m_X11_isWord_4 (pw_F 20000) S z8 z9
def sp_X11_isWord : np_Sp := fun vs w Q => ∃ (q : Nat) (S : pw_S) (x0 : Int32), vs = [.int x0] ∧ pw_W q w S ∧ pw_p (m_X11_isWord S x0) (fun S' r => ∀ f', pw_W q (w.1, f') S' → Q (some (.int r)) (w.1, f'))
set_option maxRecDepth 100000 in
set_option maxHeartbeats 8000000 in
theorem C_X11_isWord : np_C yX11_isWord cX11_isWord 3 (some .boolean) 1 22 0 0 sp_X11_isWord := by
  refine np_of (by decide) ?_
  intro X vs w Q hsp hX hmn hRt hlt
  obtain ⟨q, S, x0, rfl, hW, h⟩ := hsp
  obtain ⟨n, f⟩ := w
  unfold m_X11_isWord at h
  have hR : ∀ st w ce sl, np_rt (some .boolean) 0 0 Q st w ce sl → X.2.2.1 st w ce sl := fun _ _ _ _ h => by rw [hRt]; exact h
  refine np_soundW (so_X11_isWord hX hR) [4] 400 0 _ _ _ _ _ ?_
  conv => whnf
  refine pw_st h (fun z8 h => ?_)
  conv => whnf
  refine pw_st h (fun z9 h => ?_)
  conv => whnf
  exact np_gl (L_X11_isWord_4 hX hR (pw_F 20000) S z8 z9 f hW h) ⟨rfl, rfl, trivial⟩
theorem dX11_unitsOfLetter_0 : decode cX11_unitsOfLetter 0 = .ok (.iload_n 0, 1) := by decide +kernel
theorem dX11_unitsOfLetter_1 : decode cX11_unitsOfLetter 1 = .ok (.bipush 27, 2) := by decide +kernel
theorem dX11_unitsOfLetter_3 : decode cX11_unitsOfLetter 3 = .ok (.if_icmp .ne 7, 3) := by decide +kernel
theorem dX11_unitsOfLetter_6 : decode cX11_unitsOfLetter 6 = .ok (.iconst 2, 1) := by decide +kernel
theorem dX11_unitsOfLetter_7 : decode cX11_unitsOfLetter 7 = .ok (.goto 4, 3) := by decide +kernel
theorem dX11_unitsOfLetter_10 : decode cX11_unitsOfLetter 10 = .ok (.iconst 1, 1) := by decide +kernel
theorem dX11_unitsOfLetter_11 : decode cX11_unitsOfLetter 11 = .ok (.ireturn, 1) := by decide +kernel
def is_X11_unitsOfLetter (Rt : np_Rt) : List (Nat × np_Op) := [(0, np_ild 1 0), (1, np_push 2 (.int 27)), (3, nq_icne 10), (6, np_push 1 (.int 2)), (7, np_goto 11), (10, np_push 1 (.int 1)), (11, np_ret Rt)]
set_option maxRecDepth 20000 in
theorem so_X11_unitsOfLetter {X : np_Ctx} {Rt : np_Rt} (hX : np_ok RX11 cX11_unitsOfLetter 1 0 0 0 0 .ireturn X) (hR : ∀ st w ce sl, Rt st w ce sl → X.2.2.1 st w ce sl) : ∀ q ∈ is_X11_unitsOfLetter Rt, np_S X q.1 q.2 :=
  List.forall_mem_cons.mpr ⟨np_s_iload_n hX dX11_unitsOfLetter_0 rfl, List.forall_mem_cons.mpr ⟨np_s_bipush hX dX11_unitsOfLetter_1 (by decide), List.forall_mem_cons.mpr ⟨np_S.mono (op := np_icne 10) (np_s_icmp_ne hX dX11_unitsOfLetter_3 (by decide)) nq_icne_le, List.forall_mem_cons.mpr ⟨np_s_iconst hX dX11_unitsOfLetter_6 (by decide), List.forall_mem_cons.mpr ⟨np_s_goto hX dX11_unitsOfLetter_7 (by decide), List.forall_mem_cons.mpr ⟨np_s_iconst hX dX11_unitsOfLetter_10 (by decide), List.forall_mem_cons.mpr ⟨np_S.mono (op := np_ret X.2.2.1) (np_s_ret hX dX11_unitsOfLetter_11) (nq_ret_le hR), fun _ h => nomatch h⟩⟩⟩⟩⟩⟩⟩
noncomputable def m_X11_unitsOfLetter (S : pw_S) (x0 : Int32) : pw_R Int32 :=
 if x0 = 27 then
 (some (S, 2))
 else
 (some (S, 1))
def sp_X11_unitsOfLetter : np_Sp := fun vs w Q => ∃ (q : Nat) (S : pw_S) (x0 : Int32), vs = [.int x0] ∧ pw_W q w S ∧ pw_p (m_X11_unitsOfLetter S x0) (fun S' r => ∀ f', pw_W q (w.1, f') S' → Q (some (.int r)) (w.1, f'))
set_option maxRecDepth 100000 in
set_option maxHeartbeats 8000000 in
theorem C_X11_unitsOfLetter : np_C yX11_unitsOfLetter cX11_unitsOfLetter 1 (some .int) 0 0 0 0 sp_X11_unitsOfLetter := by
  refine np_of (by decide) ?_
  intro X vs w Q hsp hX hmn hRt hlt
  obtain ⟨q, S, x0, rfl, hW, h⟩ := hsp
  obtain ⟨n, f⟩ := w
  unfold m_X11_unitsOfLetter at h
  have hR : ∀ st w ce sl, np_rt (some .int) 0 0 Q st w ce sl → X.2.2.1 st w ce sl := fun _ _ _ _ h => by rw [hRt]; exact h
  refine np_soundW (so_X11_unitsOfLetter hX hR) [] 400 0 _ _ _ _ _ ?_
  conv => whnf
  refine pw_br h (fun _ h => ?_) (fun _ h => ?_)
  · conv => whnf
    exact ⟨Nat.le_of_ble_eq_true rfl, Nat.le_of_ble_eq_true rfl, ⟨_, rfl⟩, _, fun _ _ h9 => h9, pw_ps h _ hW⟩
  · conv => whnf
    exact ⟨Nat.le_of_ble_eq_true rfl, Nat.le_of_ble_eq_true rfl, ⟨_, rfl⟩, _, fun _ _ h9 => h9, pw_ps h _ hW⟩
theorem dX11_unitsOfWord_0 : decode cX11_unitsOfWord 0 = .ok (.iconst 0, 1) := by decide +kernel
theorem dX11_unitsOfWord_1 : decode cX11_unitsOfWord 1 = .ok (.istore_n 1, 1) := by decide +kernel
theorem dX11_unitsOfWord_2 : decode cX11_unitsOfWord 2 = .ok (.iload_n 0, 1) := by decide +kernel
theorem dX11_unitsOfWord_3 : decode cX11_unitsOfWord 3 = .ok (.istore_n 2, 1) := by decide +kernel
theorem dX11_unitsOfWord_4 : decode cX11_unitsOfWord 4 = .ok (.iconst 0, 1) := by decide +kernel
theorem dX11_unitsOfWord_5 : decode cX11_unitsOfWord 5 = .ok (.istore_n 3, 1) := by decide +kernel
theorem dX11_unitsOfWord_6 : decode cX11_unitsOfWord 6 = .ok (.iload_n 3, 1) := by decide +kernel
theorem dX11_unitsOfWord_7 : decode cX11_unitsOfWord 7 = .ok (.iconst 5, 1) := by decide +kernel
theorem dX11_unitsOfWord_8 : decode cX11_unitsOfWord 8 = .ok (.if_icmp .ge 27, 3) := by decide +kernel
theorem dX11_unitsOfWord_11 : decode cX11_unitsOfWord 11 = .ok (.iload_n 2, 1) := by decide +kernel
theorem dX11_unitsOfWord_12 : decode cX11_unitsOfWord 12 = .ok (.ifCond .eq 23, 3) := by decide +kernel
theorem dX11_unitsOfWord_15 : decode cX11_unitsOfWord 15 = .ok (.iload_n 1, 1) := by decide +kernel
theorem dX11_unitsOfWord_16 : decode cX11_unitsOfWord 16 = .ok (.iload_n 2, 1) := by decide +kernel
theorem dX11_unitsOfWord_17 : decode cX11_unitsOfWord 17 = .ok (.bipush 31, 2) := by decide +kernel
theorem dX11_unitsOfWord_19 : decode cX11_unitsOfWord 19 = .ok (.iand, 1) := by decide +kernel
theorem dX11_unitsOfWord_20 : decode cX11_unitsOfWord 20 = .ok (.invokestatic 443, 3) := by decide +kernel
theorem dX11_unitsOfWord_23 : decode cX11_unitsOfWord 23 = .ok (.iadd, 1) := by decide +kernel
theorem dX11_unitsOfWord_24 : decode cX11_unitsOfWord 24 = .ok (.istore_n 1, 1) := by decide +kernel
theorem dX11_unitsOfWord_25 : decode cX11_unitsOfWord 25 = .ok (.iload_n 2, 1) := by decide +kernel
theorem dX11_unitsOfWord_26 : decode cX11_unitsOfWord 26 = .ok (.iconst 5, 1) := by decide +kernel
theorem dX11_unitsOfWord_27 : decode cX11_unitsOfWord 27 = .ok (.iushr, 1) := by decide +kernel
theorem dX11_unitsOfWord_28 : decode cX11_unitsOfWord 28 = .ok (.istore_n 2, 1) := by decide +kernel
theorem dX11_unitsOfWord_29 : decode cX11_unitsOfWord 29 = .ok (.iinc 3 1, 3) := by decide +kernel
theorem dX11_unitsOfWord_32 : decode cX11_unitsOfWord 32 = .ok (.goto (-26), 3) := by decide +kernel
theorem dX11_unitsOfWord_35 : decode cX11_unitsOfWord 35 = .ok (.iload_n 1, 1) := by decide +kernel
theorem dX11_unitsOfWord_36 : decode cX11_unitsOfWord 36 = .ok (.ireturn, 1) := by decide +kernel
def is_X11_unitsOfWord (Rt : np_Rt) : List (Nat × np_Op) := [(0, np_push 1 (.int 0)), (1, nw_ist 1 1), (2, np_ild 1 0), (3, nw_ist 1 2), (4, np_push 1 (.int 0)), (5, nw_ist 1 3), (6, np_ild 1 3), (7, np_push 1 (.int 5)), (8, nq_ic (fun x y => y ≤ x) 35), (11, np_ild 1 2), (12, nq_if (fun x => x = 0) 35), (15, np_ild 1 1), (16, np_ild 1 2), (17, np_push 2 (.int 31)), (19, np_ib (fun x y => x &&& y)), (20, nq_call 1 sp_X11_unitsOfLetter 1 0 0 0 0), (23, np_ib (fun x y => x + y)), (24, nw_ist 1 1), (25, np_ild 1 2), (26, np_push 1 (.int 5)), (27, np_ib (fun x y => (x.toUInt32 >>> (y.toUInt32 &&& Int32.toUInt32 31)).toInt32)), (28, nw_ist 1 2), (29, nw_iinc 3 1), (32, np_goto 6), (35, np_ild 1 1), (36, np_ret Rt)]
set_option maxRecDepth 20000 in
theorem so_X11_unitsOfWord {X : np_Ctx} {Rt : np_Rt} (hX : np_ok RX11 cX11_unitsOfWord 4 1 20 0 0 .ireturn X) (hR : ∀ st w ce sl, Rt st w ce sl → X.2.2.1 st w ce sl) : ∀ q ∈ is_X11_unitsOfWord Rt, np_S X q.1 q.2 :=
  List.forall_mem_cons.mpr ⟨np_s_iconst hX dX11_unitsOfWord_0 (by decide), List.forall_mem_cons.mpr ⟨np_S.mono (op := np_ist 1 1) (np_s_istore_n hX dX11_unitsOfWord_1 rfl (by decide)) nw_ist_le, List.forall_mem_cons.mpr ⟨np_s_iload_n hX dX11_unitsOfWord_2 rfl, List.forall_mem_cons.mpr ⟨np_S.mono (op := np_ist 1 2) (np_s_istore_n hX dX11_unitsOfWord_3 rfl (by decide)) nw_ist_le, List.forall_mem_cons.mpr ⟨np_s_iconst hX dX11_unitsOfWord_4 (by decide), List.forall_mem_cons.mpr ⟨np_S.mono (op := np_ist 1 3) (np_s_istore_n hX dX11_unitsOfWord_5 rfl (by decide)) nw_ist_le, List.forall_mem_cons.mpr ⟨np_s_iload_n hX dX11_unitsOfWord_6 rfl, List.forall_mem_cons.mpr ⟨np_s_iconst hX dX11_unitsOfWord_7 (by decide), List.forall_mem_cons.mpr ⟨np_S.mono (op := np_ic (fun x y => y ≤ x) 35) (np_s_icmp_ge hX dX11_unitsOfWord_8 (by decide)) nq_ic_le, List.forall_mem_cons.mpr ⟨np_s_iload_n hX dX11_unitsOfWord_11 rfl, List.forall_mem_cons.mpr ⟨np_S.mono (op := np_if (fun x => x = 0) 35) (np_s_if_eq hX dX11_unitsOfWord_12 (by decide)) nq_if_le, List.forall_mem_cons.mpr ⟨np_s_iload_n hX dX11_unitsOfWord_15 rfl, List.forall_mem_cons.mpr ⟨np_s_iload_n hX dX11_unitsOfWord_16 rfl, List.forall_mem_cons.mpr ⟨np_s_bipush hX dX11_unitsOfWord_17 (by decide), List.forall_mem_cons.mpr ⟨np_s_iand hX dX11_unitsOfWord_19, List.forall_mem_cons.mpr ⟨np_S.mono (op := np_call 1 sp_X11_unitsOfLetter 1 0 0 0 0) (np_s_callS hX C_X11_unitsOfLetter dX11_unitsOfWord_20 gw783 gw63 gw855 gw782 ⟨by decide, by decide, by decide⟩ (by decide) (by decide)) nq_call_le, List.forall_mem_cons.mpr ⟨np_s_iadd hX dX11_unitsOfWord_23, List.forall_mem_cons.mpr ⟨np_S.mono (op := np_ist 1 1) (np_s_istore_n hX dX11_unitsOfWord_24 rfl (by decide)) nw_ist_le, List.forall_mem_cons.mpr ⟨np_s_iload_n hX dX11_unitsOfWord_25 rfl, List.forall_mem_cons.mpr ⟨np_s_iconst hX dX11_unitsOfWord_26 (by decide), List.forall_mem_cons.mpr ⟨np_s_iushr hX dX11_unitsOfWord_27, List.forall_mem_cons.mpr ⟨np_S.mono (op := np_ist 1 2) (np_s_istore_n hX dX11_unitsOfWord_28 rfl (by decide)) nw_ist_le, List.forall_mem_cons.mpr ⟨np_S.mono (op := np_iinc 3 1) (np_s_iinc hX dX11_unitsOfWord_29 (by decide)) nw_iinc_le, List.forall_mem_cons.mpr ⟨np_s_goto hX dX11_unitsOfWord_32 (by decide), List.forall_mem_cons.mpr ⟨np_s_iload_n hX dX11_unitsOfWord_35 rfl, List.forall_mem_cons.mpr ⟨np_S.mono (op := np_ret X.2.2.1) (np_s_ret hX dX11_unitsOfWord_36) (nq_ret_le hR), fun _ h => nomatch h⟩⟩⟩⟩⟩⟩⟩⟩⟩⟩⟩⟩⟩⟩⟩⟩⟩⟩⟩⟩⟩⟩⟩⟩⟩⟩
noncomputable def m_X11_unitsOfWord_6 : Nat → pw_S → Int32 → Int32 → Int32 → pw_R Int32
| 0, _, _, _, _ => none
| N + 1, S, v1, v2, v3 =>
 if 5 ≤ v3 then
 (some (S, v1))
 else
 (if v2 = 0 then
 (some (S, v1))
 else
 (pw_b (m_X11_unitsOfLetter S (v2 &&& 31)) fun S1 r4 =>
 pw_l ((v1 + r4) : Int32) fun z6 =>
 pw_l (((v2).toUInt32 >>> ((5).toUInt32 &&& Int32.toUInt32 31)).toInt32 : Int32) fun z7 =>
 pw_l (v3 + 1 : Int32) fun z8 =>
 m_X11_unitsOfWord_6 N S1 z6 z7 z8))
set_option maxRecDepth 100000 in
set_option maxHeartbeats 8000000 in
theorem L_X11_unitsOfWord_6 {X : np_Ctx} (hX : np_ok RX11 cX11_unitsOfWord 4 1 20 0 0 .ireturn X) {Q : Option Value → np_W → Prop} {q n : Nat} (hR : ∀ st w ce sl, np_rt (some .int) 0 0 Q st w ce sl → X.2.2.1 st w ce sl) : ∀ (N : Nat) (S : pw_S) (v1 : Int32) (v2 : Int32) (v3 : Int32) (f : Nat → Option np_E), pw_W q (n, f) S → pw_p (m_X11_unitsOfWord_6 N S v1 v2 v3) (fun S' r => ∀ f', pw_W q (n, f') S' → Q (some (.int r)) (n, f')) → np_G X 6 [(1, .int v1), (2, .int v2), (3, .int v3)] [] (n, f) 0 0 := by
  intro N
  induction N with
  | zero =>
    intro S v1 v2 v3 f hW h
    exact (pw_pn h).elim
  | succ N ih =>
    intro S v1 v2 v3 f hW h
    unfold m_X11_unitsOfWord_6 at h
    refine np_soundW (so_X11_unitsOfWord hX hR) [6] 400 6 _ _ _ _ _ ?_
    conv => whnf
    refine pw_br h (fun _ h => ?_) (fun _ h => ?_)
    · conv => whnf
      exact ⟨Nat.le_of_ble_eq_true rfl, Nat.le_of_ble_eq_true rfl, ⟨_, rfl⟩, _, fun _ _ h9 => h9, pw_ps h _ hW⟩
    · conv => whnf
      refine pw_br h (fun _ h => ?_) (fun _ h => ?_)
      · conv => whnf
        exact ⟨Nat.le_of_ble_eq_true rfl, Nat.le_of_ble_eq_true rfl, ⟨_, rfl⟩, _, fun _ _ h9 => h9, pw_ps h _ hW⟩
      · conv => whnf
        refine ⟨q, S, (v2 &&& 31), rfl, hW, pw_bd h (fun S1 r4 h f2 hW3 => ?_)⟩
        conv => whnf
        refine pw_st h (fun z6 h => ?_)
        conv => whnf
        refine pw_st h (fun z7 h => ?_)
        conv => whnf
        refine pw_st h (fun z8 h => ?_)
        conv => whnf
        exact np_gl (ih S1 z6 z7 z8 f2 hW3 h) ⟨rfl, rfl, rfl, trivial⟩
noncomputable def m_X11_unitsOfWord (S : pw_S) (x0 : Int32) : pw_R Int32 :=
 pw_l (0 : Int32) fun z9 =>
 pw_l (x0 : Int32) fun z10 =>
 pw_l (0 : Int32) fun z11 =>
 m_X11_unitsOfWord_6 (pw_F 20000) S z9 z10 z11
def sp_X11_unitsOfWord : np_Sp := fun vs w Q => ∃ (q : Nat) (S : pw_S) (x0 : Int32), vs = [.int x0] ∧ pw_W q w S ∧ pw_p (m_X11_unitsOfWord S x0) (fun S' r => ∀ f', pw_W q (w.1, f') S' → Q (some (.int r)) (w.1, f'))
set_option maxRecDepth 100000 in
set_option maxHeartbeats 8000000 in
theorem C_X11_unitsOfWord : np_C yX11_unitsOfWord cX11_unitsOfWord 4 (some .int) 1 20 0 0 sp_X11_unitsOfWord := by
  refine np_of (by decide) ?_
  intro X vs w Q hsp hX hmn hRt hlt
  obtain ⟨q, S, x0, rfl, hW, h⟩ := hsp
  obtain ⟨n, f⟩ := w
  unfold m_X11_unitsOfWord at h
  have hR : ∀ st w ce sl, np_rt (some .int) 0 0 Q st w ce sl → X.2.2.1 st w ce sl := fun _ _ _ _ h => by rw [hRt]; exact h
  refine np_soundW (so_X11_unitsOfWord hX hR) [6] 400 0 _ _ _ _ _ ?_
  conv => whnf
  refine pw_st h (fun z9 h => ?_)
  conv => whnf
  refine pw_st h (fun z10 h => ?_)
  conv => whnf
  refine pw_st h (fun z11 h => ?_)
  conv => whnf
  exact np_gl (L_X11_unitsOfWord_6 hX hR (pw_F 20000) S z9 z10 z11 f hW h) ⟨rfl, rfl, rfl, trivial⟩
theorem dX3_writeWord_0 : decode cX3_writeWord 0 = .ok (.iload_n 1, 1) := by decide +kernel
theorem dX3_writeWord_1 : decode cX3_writeWord 1 = .ok (.invokestatic 138, 3) := by decide +kernel
theorem dX3_writeWord_4 : decode cX3_writeWord 4 = .ok (.ifCond .eq 11, 3) := by decide +kernel
theorem dX3_writeWord_7 : decode cX3_writeWord 7 = .ok (.iload_n 1, 1) := by decide +kernel
theorem dX3_writeWord_8 : decode cX3_writeWord 8 = .ok (.invokestatic 119, 3) := by decide +kernel
theorem dX3_writeWord_11 : decode cX3_writeWord 11 = .ok (.iload_n 2, 1) := by decide +kernel
theorem dX3_writeWord_12 : decode cX3_writeWord 12 = .ok (.if_icmp .le 5, 3) := by decide +kernel
theorem dX3_writeWord_15 : decode cX3_writeWord 15 = .ok (.iconst 0, 1) := by decide +kernel
theorem dX3_writeWord_16 : decode cX3_writeWord 16 = .ok (.ireturn, 1) := by decide +kernel
theorem dX3_writeWord_17 : decode cX3_writeWord 17 = .ok (.iload_n 1, 1) := by decide +kernel
theorem dX3_writeWord_18 : decode cX3_writeWord 18 = .ok (.istore_n 3, 1) := by decide +kernel
theorem dX3_writeWord_19 : decode cX3_writeWord 19 = .ok (.iconst 0, 1) := by decide +kernel
theorem dX3_writeWord_20 : decode cX3_writeWord 20 = .ok (.istore 4, 2) := by decide +kernel
theorem dX3_writeWord_22 : decode cX3_writeWord 22 = .ok (.iload 4, 2) := by decide +kernel
theorem dX3_writeWord_24 : decode cX3_writeWord 24 = .ok (.iconst 5, 1) := by decide +kernel
theorem dX3_writeWord_25 : decode cX3_writeWord 25 = .ok (.if_icmp .ge 76, 3) := by decide +kernel
theorem dX3_writeWord_28 : decode cX3_writeWord 28 = .ok (.iload_n 3, 1) := by decide +kernel
theorem dX3_writeWord_29 : decode cX3_writeWord 29 = .ok (.ifCond .eq 72, 3) := by decide +kernel
theorem dX3_writeWord_32 : decode cX3_writeWord 32 = .ok (.iload_n 3, 1) := by decide +kernel
theorem dX3_writeWord_33 : decode cX3_writeWord 33 = .ok (.bipush 31, 2) := by decide +kernel
theorem dX3_writeWord_35 : decode cX3_writeWord 35 = .ok (.iand, 1) := by decide +kernel
theorem dX3_writeWord_36 : decode cX3_writeWord 36 = .ok (.istore 5, 2) := by decide +kernel
theorem dX3_writeWord_38 : decode cX3_writeWord 38 = .ok (.iload 5, 2) := by decide +kernel
theorem dX3_writeWord_40 : decode cX3_writeWord 40 = .ok (.bipush 27, 2) := by decide +kernel
theorem dX3_writeWord_42 : decode cX3_writeWord 42 = .ok (.if_icmp .ne 29, 3) := by decide +kernel
theorem dX3_writeWord_45 : decode cX3_writeWord 45 = .ok (.aload_n 0, 1) := by decide +kernel
theorem dX3_writeWord_46 : decode cX3_writeWord 46 = .ok (.ldc 141, 2) := by decide +kernel
theorem dX3_writeWord_48 : decode cX3_writeWord 48 = .ok (.invokevirtual 77, 3) := by decide +kernel
theorem dX3_writeWord_51 : decode cX3_writeWord 51 = .ok (.ifCond .eq 16, 3) := by decide +kernel
theorem dX3_writeWord_54 : decode cX3_writeWord 54 = .ok (.aload_n 0, 1) := by decide +kernel
theorem dX3_writeWord_55 : decode cX3_writeWord 55 = .ok (.ldc 142, 2) := by decide +kernel
theorem dX3_writeWord_57 : decode cX3_writeWord 57 = .ok (.invokevirtual 77, 3) := by decide +kernel
theorem dX3_writeWord_60 : decode cX3_writeWord 60 = .ok (.ifCond .eq 7, 3) := by decide +kernel
theorem dX3_writeWord_63 : decode cX3_writeWord 63 = .ok (.iconst 1, 1) := by decide +kernel
theorem dX3_writeWord_64 : decode cX3_writeWord 64 = .ok (.goto 18, 3) := by decide +kernel
theorem dX3_writeWord_67 : decode cX3_writeWord 67 = .ok (.iconst 0, 1) := by decide +kernel
theorem dX3_writeWord_68 : decode cX3_writeWord 68 = .ok (.goto 14, 3) := by decide +kernel
theorem dX3_writeWord_71 : decode cX3_writeWord 71 = .ok (.aload_n 0, 1) := by decide +kernel
theorem dX3_writeWord_72 : decode cX3_writeWord 72 = .ok (.bipush 97, 2) := by decide +kernel
theorem dX3_writeWord_74 : decode cX3_writeWord 74 = .ok (.iload 5, 2) := by decide +kernel
theorem dX3_writeWord_76 : decode cX3_writeWord 76 = .ok (.iadd, 1) := by decide +kernel
theorem dX3_writeWord_77 : decode cX3_writeWord 77 = .ok (.iconst 1, 1) := by decide +kernel
theorem dX3_writeWord_78 : decode cX3_writeWord 78 = .ok (.isub, 1) := by decide +kernel
theorem dX3_writeWord_79 : decode cX3_writeWord 79 = .ok (.invokevirtual 77, 3) := by decide +kernel
theorem dX3_writeWord_82 : decode cX3_writeWord 82 = .ok (.istore 6, 2) := by decide +kernel
theorem dX3_writeWord_84 : decode cX3_writeWord 84 = .ok (.iload 6, 2) := by decide +kernel
theorem dX3_writeWord_86 : decode cX3_writeWord 86 = .ok (.ifCond .ne 5, 3) := by decide +kernel
theorem dX3_writeWord_89 : decode cX3_writeWord 89 = .ok (.iconst 0, 1) := by decide +kernel
theorem dX3_writeWord_90 : decode cX3_writeWord 90 = .ok (.ireturn, 1) := by decide +kernel
theorem dX3_writeWord_91 : decode cX3_writeWord 91 = .ok (.iload_n 3, 1) := by decide +kernel
theorem dX3_writeWord_92 : decode cX3_writeWord 92 = .ok (.iconst 5, 1) := by decide +kernel
theorem dX3_writeWord_93 : decode cX3_writeWord 93 = .ok (.iushr, 1) := by decide +kernel
theorem dX3_writeWord_94 : decode cX3_writeWord 94 = .ok (.istore_n 3, 1) := by decide +kernel
theorem dX3_writeWord_95 : decode cX3_writeWord 95 = .ok (.iinc 4 1, 3) := by decide +kernel
theorem dX3_writeWord_98 : decode cX3_writeWord 98 = .ok (.goto (-76), 3) := by decide +kernel
theorem dX3_writeWord_101 : decode cX3_writeWord 101 = .ok (.iconst 1, 1) := by decide +kernel
theorem dX3_writeWord_102 : decode cX3_writeWord 102 = .ok (.ireturn, 1) := by decide +kernel
def is_X3_writeWord (Rt : np_Rt) : List (Nat × np_Op) := [(0, np_ild 1 1), (1, nq_call 1 sp_X11_isWord 3 0 0 0 0), (4, nq_if (fun x => x = 0) 15), (7, np_ild 1 1), (8, nq_call 1 sp_X11_unitsOfWord 4 0 0 0 0), (11, np_ild 1 2), (12, nq_ic (fun x y => x ≤ y) 17), (15, np_push 1 (.int 0)), (16, np_ret Rt), (17, np_ild 1 1), (18, nw_ist 1 3), (19, np_push 1 (.int 0)), (20, nw_ist 2 4), (22, np_ild 2 4), (24, np_push 1 (.int 5)), (25, nq_ic (fun x y => y ≤ x) 101), (28, np_ild 1 3), (29, nq_if (fun x => x = 0) 101), (32, np_ild 1 3), (33, np_push 2 (.int 31)), (35, np_ib (fun x y => x &&& y)), (36, nw_ist 2 5), (38, np_ild 2 5), (40, np_push 2 (.int 27)), (42, nq_icne 71), (45, np_ald 1 0), (46, np_push 2 (.int 55357)), (48, nw_callV 3 2 sp_X3_write 2 0 0 0 0), (51, nq_if (fun x => x = 0) 67), (54, np_ald 1 0), (55, np_push 2 (.int 56832)), (57, nw_callV 3 2 sp_X3_write 2 0 0 0 0), (60, nq_if (fun x => x = 0) 67), (63, np_push 1 (.int 1)), (64, np_goto 82), (67, np_push 1 (.int 0)), (68, np_goto 82), (71, np_ald 1 0), (72, np_push 2 (.int 97)), (74, np_ild 2 5), (76, np_ib (fun x y => x + y)), (77, np_push 1 (.int 1)), (78, np_ib (fun x y => x - y)), (79, nw_callV 3 2 sp_X3_write 2 0 0 0 0), (82, nw_ist 2 6), (84, np_ild 2 6), (86, nq_ifne 91), (89, np_push 1 (.int 0)), (90, np_ret Rt), (91, np_ild 1 3), (92, np_push 1 (.int 5)), (93, np_ib (fun x y => (x.toUInt32 >>> (y.toUInt32 &&& Int32.toUInt32 31)).toInt32)), (94, nw_ist 1 3), (95, nw_iinc 4 1), (98, np_goto 22), (101, np_push 1 (.int 1)), (102, np_ret Rt)]
set_option maxRecDepth 20000 in
theorem so_X3_writeWord {X : np_Ctx} {Rt : np_Rt} (hX : np_ok RX3 cX3_writeWord 7 3 62 0 0 .ireturn X) (hR : ∀ st w ce sl, Rt st w ce sl → X.2.2.1 st w ce sl) : ∀ q ∈ is_X3_writeWord Rt, np_S X q.1 q.2 :=
  List.forall_mem_cons.mpr ⟨np_s_iload_n hX dX3_writeWord_0 rfl, List.forall_mem_cons.mpr ⟨np_S.mono (op := np_call 1 sp_X11_isWord 3 0 0 0 0) (np_s_callSN hX C_X11_isWord dX3_writeWord_1 gw850 gw63 gw848 gw849 ⟨by decide, by decide, by decide⟩ (by decide) (by decide)) nq_call_le, List.forall_mem_cons.mpr ⟨np_S.mono (op := np_if (fun x => x = 0) 15) (np_s_if_eq hX dX3_writeWord_4 (by decide)) nq_if_le, List.forall_mem_cons.mpr ⟨np_s_iload_n hX dX3_writeWord_7 rfl, List.forall_mem_cons.mpr ⟨np_S.mono (op := np_call 1 sp_X11_unitsOfWord 4 0 0 0 0) (np_s_callSN hX C_X11_unitsOfWord dX3_writeWord_8 gw854 gw63 gw852 gw853 ⟨by decide, by decide, by decide⟩ (by decide) (by decide)) nq_call_le, List.forall_mem_cons.mpr ⟨np_s_iload_n hX dX3_writeWord_11 rfl, List.forall_mem_cons.mpr ⟨np_S.mono (op := np_ic (fun x y => x ≤ y) 17) (np_s_icmp_le hX dX3_writeWord_12 (by decide)) nq_ic_le, List.forall_mem_cons.mpr ⟨np_s_iconst hX dX3_writeWord_15 (by decide), List.forall_mem_cons.mpr ⟨np_S.mono (op := np_ret X.2.2.1) (np_s_ret hX dX3_writeWord_16) (nq_ret_le hR), List.forall_mem_cons.mpr ⟨np_s_iload_n hX dX3_writeWord_17 rfl, List.forall_mem_cons.mpr ⟨np_S.mono (op := np_ist 1 3) (np_s_istore_n hX dX3_writeWord_18 rfl (by decide)) nw_ist_le, List.forall_mem_cons.mpr ⟨np_s_iconst hX dX3_writeWord_19 (by decide), List.forall_mem_cons.mpr ⟨np_S.mono (op := np_ist 2 4) (np_s_istore hX dX3_writeWord_20 (by decide)) nw_ist_le, List.forall_mem_cons.mpr ⟨np_s_iload hX dX3_writeWord_22, List.forall_mem_cons.mpr ⟨np_s_iconst hX dX3_writeWord_24 (by decide), List.forall_mem_cons.mpr ⟨np_S.mono (op := np_ic (fun x y => y ≤ x) 101) (np_s_icmp_ge hX dX3_writeWord_25 (by decide)) nq_ic_le, List.forall_mem_cons.mpr ⟨np_s_iload_n hX dX3_writeWord_28 rfl, List.forall_mem_cons.mpr ⟨np_S.mono (op := np_if (fun x => x = 0) 101) (np_s_if_eq hX dX3_writeWord_29 (by decide)) nq_if_le, List.forall_mem_cons.mpr ⟨np_s_iload_n hX dX3_writeWord_32 rfl, List.forall_mem_cons.mpr ⟨np_s_bipush hX dX3_writeWord_33 (by decide), List.forall_mem_cons.mpr ⟨np_s_iand hX dX3_writeWord_35, List.forall_mem_cons.mpr ⟨np_S.mono (op := np_ist 2 5) (np_s_istore hX dX3_writeWord_36 (by decide)) nw_ist_le, List.forall_mem_cons.mpr ⟨np_s_iload hX dX3_writeWord_38, List.forall_mem_cons.mpr ⟨np_s_bipush hX dX3_writeWord_40 (by decide), List.forall_mem_cons.mpr ⟨np_S.mono (op := np_icne 71) (np_s_icmp_ne hX dX3_writeWord_42 (by decide)) nq_icne_le, List.forall_mem_cons.mpr ⟨np_s_aload_n hX dX3_writeWord_45 rfl, List.forall_mem_cons.mpr ⟨np_s_ldc hX dX3_writeWord_46 gw856, List.forall_mem_cons.mpr ⟨np_S.mono (op := np_callV 3 2 sp_X3_write 2 0 0 0 0) (np_s_callV hX C_X3_write dX3_writeWord_48 (q := (RX3, TX3, 3)) rfl rfl gw836 gw65 gw833 gw835 gw9 ⟨by decide, by decide, by decide⟩ (by decide) (by decide)) nw_callV_le, List.forall_mem_cons.mpr ⟨np_S.mono (op := np_if (fun x => x = 0) 67) (np_s_if_eq hX dX3_writeWord_51 (by decide)) nq_if_le, List.forall_mem_cons.mpr ⟨np_s_aload_n hX dX3_writeWord_54 rfl, List.forall_mem_cons.mpr ⟨np_s_ldc hX dX3_writeWord_55 gw857, List.forall_mem_cons.mpr ⟨np_S.mono (op := np_callV 3 2 sp_X3_write 2 0 0 0 0) (np_s_callV hX C_X3_write dX3_writeWord_57 (q := (RX3, TX3, 3)) rfl rfl gw836 gw65 gw833 gw835 gw9 ⟨by decide, by decide, by decide⟩ (by decide) (by decide)) nw_callV_le, List.forall_mem_cons.mpr ⟨np_S.mono (op := np_if (fun x => x = 0) 67) (np_s_if_eq hX dX3_writeWord_60 (by decide)) nq_if_le, List.forall_mem_cons.mpr ⟨np_s_iconst hX dX3_writeWord_63 (by decide), List.forall_mem_cons.mpr ⟨np_s_goto hX dX3_writeWord_64 (by decide), List.forall_mem_cons.mpr ⟨np_s_iconst hX dX3_writeWord_67 (by decide), List.forall_mem_cons.mpr ⟨np_s_goto hX dX3_writeWord_68 (by decide), List.forall_mem_cons.mpr ⟨np_s_aload_n hX dX3_writeWord_71 rfl, List.forall_mem_cons.mpr ⟨np_s_bipush hX dX3_writeWord_72 (by decide), List.forall_mem_cons.mpr ⟨np_s_iload hX dX3_writeWord_74, List.forall_mem_cons.mpr ⟨np_s_iadd hX dX3_writeWord_76, List.forall_mem_cons.mpr ⟨np_s_iconst hX dX3_writeWord_77 (by decide), List.forall_mem_cons.mpr ⟨np_s_isub hX dX3_writeWord_78, List.forall_mem_cons.mpr ⟨np_S.mono (op := np_callV 3 2 sp_X3_write 2 0 0 0 0) (np_s_callV hX C_X3_write dX3_writeWord_79 (q := (RX3, TX3, 3)) rfl rfl gw836 gw65 gw833 gw835 gw9 ⟨by decide, by decide, by decide⟩ (by decide) (by decide)) nw_callV_le, List.forall_mem_cons.mpr ⟨np_S.mono (op := np_ist 2 6) (np_s_istore hX dX3_writeWord_82 (by decide)) nw_ist_le, List.forall_mem_cons.mpr ⟨np_s_iload hX dX3_writeWord_84, List.forall_mem_cons.mpr ⟨np_S.mono (op := np_ifne 91) (np_s_if_ne hX dX3_writeWord_86 (by decide)) nq_ifne_le, List.forall_mem_cons.mpr ⟨np_s_iconst hX dX3_writeWord_89 (by decide), List.forall_mem_cons.mpr ⟨np_S.mono (op := np_ret X.2.2.1) (np_s_ret hX dX3_writeWord_90) (nq_ret_le hR), List.forall_mem_cons.mpr ⟨np_s_iload_n hX dX3_writeWord_91 rfl, List.forall_mem_cons.mpr ⟨np_s_iconst hX dX3_writeWord_92 (by decide), List.forall_mem_cons.mpr ⟨np_s_iushr hX dX3_writeWord_93, List.forall_mem_cons.mpr ⟨np_S.mono (op := np_ist 1 3) (np_s_istore_n hX dX3_writeWord_94 rfl (by decide)) nw_ist_le, List.forall_mem_cons.mpr ⟨np_S.mono (op := np_iinc 4 1) (np_s_iinc hX dX3_writeWord_95 (by decide)) nw_iinc_le, List.forall_mem_cons.mpr ⟨np_s_goto hX dX3_writeWord_98 (by decide), List.forall_mem_cons.mpr ⟨np_s_iconst hX dX3_writeWord_101 (by decide), List.forall_mem_cons.mpr ⟨np_S.mono (op := np_ret X.2.2.1) (np_s_ret hX dX3_writeWord_102) (nq_ret_le hR), fun _ h => nomatch h⟩⟩⟩⟩⟩⟩⟩⟩⟩⟩⟩⟩⟩⟩⟩⟩⟩⟩⟩⟩⟩⟩⟩⟩⟩⟩⟩⟩⟩⟩⟩⟩⟩⟩⟩⟩⟩⟩⟩⟩⟩⟩⟩⟩⟩⟩⟩⟩⟩⟩⟩⟩⟩⟩⟩⟩⟩
noncomputable def m_X3_writeWord_22 : Nat → pw_S → Nat → Int32 → Int32 → pw_R Int32
| 0, _, _, _, _ => none
| N + 1, S, v0, v3, v4 =>
 if 5 ≤ v4 then
 (some (S, 1))
 else
 (if v3 = 0 then
 (some (S, 1))
 else
 (pw_l ((v3 &&& 31) : Int32) fun z1 =>
 if z1 = 27 then
 (pw_b (m_X3_write S v0 55357) fun S2 r5 =>
 if r5 = 0 then
 (pw_l (0 : Int32) fun z7 =>
 if z7 = 0 then
 (some (S2, 0))
 else
 (pw_l (((v3).toUInt32 >>> ((5).toUInt32 &&& Int32.toUInt32 31)).toInt32 : Int32) fun z8 =>
 pw_l (v4 + 1 : Int32) fun z9 =>
 m_X3_writeWord_22 N S2 v0 z8 z9))
 else
 (pw_b (m_X3_write S2 v0 56832) fun S10 r13 =>
 if r13 = 0 then
 (pw_l (0 : Int32) fun z15 =>
 if z15 = 0 then
 (some (S10, 0))
 else
 (pw_l (((v3).toUInt32 >>> ((5).toUInt32 &&& Int32.toUInt32 31)).toInt32 : Int32) fun z16 =>
 pw_l (v4 + 1 : Int32) fun z17 =>
 m_X3_writeWord_22 N S10 v0 z16 z17))
 else
 (pw_l (1 : Int32) fun z18 =>
 if z18 = 0 then
 (some (S10, 0))
 else
 (pw_l (((v3).toUInt32 >>> ((5).toUInt32 &&& Int32.toUInt32 31)).toInt32 : Int32) fun z19 =>
 pw_l (v4 + 1 : Int32) fun z20 =>
 m_X3_writeWord_22 N S10 v0 z19 z20))))
 else
 (pw_b (m_X3_write S v0 ((97 + z1) - 1)) fun S21 r24 =>
 pw_l (r24 : Int32) fun z26 =>
 if z26 = 0 then
 (some (S21, 0))
 else
 (pw_l (((v3).toUInt32 >>> ((5).toUInt32 &&& Int32.toUInt32 31)).toInt32 : Int32) fun z27 =>
 pw_l (v4 + 1 : Int32) fun z28 =>
 m_X3_writeWord_22 N S21 v0 z27 z28))))
set_option maxRecDepth 100000 in
set_option maxHeartbeats 8000000 in
theorem L_X3_writeWord_22 {X : np_Ctx} (hX : np_ok RX3 cX3_writeWord 7 3 62 0 0 .ireturn X) {Q : Option Value → np_W → Prop} {q n : Nat} (hR : ∀ st w ce sl, np_rt (some .boolean) 0 0 Q st w ce sl → X.2.2.1 st w ce sl) : ∀ (N : Nat) (S : pw_S) (v0 : Nat) (v3 : Int32) (v4 : Int32) (f : Nat → Option np_E) (hv0 : pw_ok q 58 v0 = true), pw_W q (n, f) S → pw_p (m_X3_writeWord_22 N S v0 v3 v4) (fun S' r => ∀ f', pw_W q (n, f') S' → Q (some (.int r)) (n, f')) → np_G X 22 [(0, .ref (pw_pl 58 v0)), (3, .int v3), (4, .int v4)] [] (n, f) 0 0 := by
  intro N
  induction N with
  | zero =>
    intro S v0 v3 v4 f hv0 hW h
    exact (pw_pn h).elim
  | succ N ih =>
    intro S v0 v3 v4 f hv0 hW h
    unfold m_X3_writeWord_22 at h
    refine np_soundW (so_X3_writeWord hX hR) [22] 400 22 _ _ _ _ _ ?_
    conv => whnf
    refine pw_br h (fun _ h => ?_) (fun _ h => ?_)
    · conv => whnf
      exact ⟨Nat.le_of_ble_eq_true rfl, Nat.le_of_ble_eq_true rfl, ⟨_, rfl, by decide⟩, _, fun _ _ h9 => h9, pw_ps h _ hW⟩
    · conv => whnf
      refine pw_br h (fun _ h => ?_) (fun _ h => ?_)
      · conv => whnf
        exact ⟨Nat.le_of_ble_eq_true rfl, Nat.le_of_ble_eq_true rfl, ⟨_, rfl, by decide⟩, _, fun _ _ h9 => h9, pw_ps h _ hW⟩
      · conv => whnf
        refine pw_st h (fun z1 h => ?_)
        conv => whnf
        refine pw_br h (fun _ h => ?_) (fun _ h => ?_)
        · conv => whnf
          refine np_rd_i (hW.g hv0) ?_
          conv => whnf
          refine ⟨q, S, v0, 55357, rfl, hv0, hW, pw_bd h (fun S2 r5 h f3 hW4 => ?_)⟩
          conv => whnf
          refine pw_br h (fun _ h => ?_) (fun _ h => ?_)
          · conv => whnf
            refine pw_st h (fun z7 h => ?_)
            conv => whnf
            refine pw_br h (fun _ h => ?_) (fun _ h => ?_)
            · conv => whnf
              exact ⟨Nat.le_of_ble_eq_true rfl, Nat.le_of_ble_eq_true rfl, ⟨_, rfl, by decide⟩, _, fun _ _ h9 => h9, pw_ps h _ hW4⟩
            · conv => whnf
              refine pw_st h (fun z8 h => ?_)
              conv => whnf
              refine pw_st h (fun z9 h => ?_)
              conv => whnf
              exact np_gl (ih S2 v0 z8 z9 f3 hv0 hW4 h) ⟨rfl, rfl, rfl, trivial⟩
          · conv => whnf
            refine np_rd_i (hW4.g hv0) ?_
            conv => whnf
            refine ⟨q, S2, v0, 56832, rfl, hv0, hW4, pw_bd h (fun S10 r13 h f11 hW12 => ?_)⟩
            conv => whnf
            refine pw_br h (fun _ h => ?_) (fun _ h => ?_)
            · conv => whnf
              refine pw_st h (fun z15 h => ?_)
              conv => whnf
              refine pw_br h (fun _ h => ?_) (fun _ h => ?_)
              · conv => whnf
                exact ⟨Nat.le_of_ble_eq_true rfl, Nat.le_of_ble_eq_true rfl, ⟨_, rfl, by decide⟩, _, fun _ _ h9 => h9, pw_ps h _ hW12⟩
              · conv => whnf
                refine pw_st h (fun z16 h => ?_)
                conv => whnf
                refine pw_st h (fun z17 h => ?_)
                conv => whnf
                exact np_gl (ih S10 v0 z16 z17 f11 hv0 hW12 h) ⟨rfl, rfl, rfl, trivial⟩
            · conv => whnf
              refine pw_st h (fun z18 h => ?_)
              conv => whnf
              refine pw_br h (fun _ h => ?_) (fun _ h => ?_)
              · conv => whnf
                exact ⟨Nat.le_of_ble_eq_true rfl, Nat.le_of_ble_eq_true rfl, ⟨_, rfl, by decide⟩, _, fun _ _ h9 => h9, pw_ps h _ hW12⟩
              · conv => whnf
                refine pw_st h (fun z19 h => ?_)
                conv => whnf
                refine pw_st h (fun z20 h => ?_)
                conv => whnf
                exact np_gl (ih S10 v0 z19 z20 f11 hv0 hW12 h) ⟨rfl, rfl, rfl, trivial⟩
        · conv => whnf
          refine np_rd_i (hW.g hv0) ?_
          conv => whnf
          refine ⟨q, S, v0, ((97 + z1) - 1), rfl, hv0, hW, pw_bd h (fun S21 r24 h f22 hW23 => ?_)⟩
          conv => whnf
          refine pw_st h (fun z26 h => ?_)
          conv => whnf
          refine pw_br h (fun _ h => ?_) (fun _ h => ?_)
          · conv => whnf
            exact ⟨Nat.le_of_ble_eq_true rfl, Nat.le_of_ble_eq_true rfl, ⟨_, rfl, by decide⟩, _, fun _ _ h9 => h9, pw_ps h _ hW23⟩
          · conv => whnf
            refine pw_st h (fun z27 h => ?_)
            conv => whnf
            refine pw_st h (fun z28 h => ?_)
            conv => whnf
            exact np_gl (ih S21 v0 z27 z28 f22 hv0 hW23 h) ⟨rfl, rfl, rfl, trivial⟩
noncomputable def m_X3_writeWord (S : pw_S) (i0 : Nat) (x1 : Int32) (x2 : Int32) : pw_R Int32 :=
 pw_b (m_X11_isWord S x1) fun S29 r32 =>
 if r32 = 0 then
 (some (S29, 0))
 else
 (pw_b (m_X11_unitsOfWord S29 x1) fun S34 r37 =>
 if r37 ≤ x2 then
 (pw_l (x1 : Int32) fun z39 =>
 pw_l (0 : Int32) fun z40 =>
 m_X3_writeWord_22 (pw_F 20000) S34 i0 z39 z40)
 else
 (some (S34, 0)))
def sp_X3_writeWord : np_Sp := fun vs w Q => ∃ (q : Nat) (S : pw_S) (i0 : Nat) (x1 : Int32) (x2 : Int32), vs = [.ref (pw_pl 58 i0), .int x1, .int x2] ∧ pw_ok q 58 i0 = true ∧ pw_W q w S ∧ pw_p (m_X3_writeWord S i0 x1 x2) (fun S' r => ∀ f', pw_W q (w.1, f') S' → Q (some (.int r)) (w.1, f'))
set_option maxRecDepth 100000 in
set_option maxHeartbeats 8000000 in
theorem C_X3_writeWord : np_C yX3_writeWord cX3_writeWord 7 (some .boolean) 3 62 0 0 sp_X3_writeWord := by
  refine np_of (by decide) ?_
  intro X vs w Q hsp hX hmn hRt hlt
  obtain ⟨q, S, i0, x1, x2, rfl, hi0, hW, h⟩ := hsp
  obtain ⟨n, f⟩ := w
  unfold m_X3_writeWord at h
  have hR : ∀ st w ce sl, np_rt (some .boolean) 0 0 Q st w ce sl → X.2.2.1 st w ce sl := fun _ _ _ _ h => by rw [hRt]; exact h
  refine np_soundW (so_X3_writeWord hX hR) [22] 400 0 _ _ _ _ _ ?_
  conv => whnf
  refine ⟨q, S, x1, rfl, hW, pw_bd h (fun S29 r32 h f30 hW31 => ?_)⟩
  conv => whnf
  refine pw_br h (fun _ h => ?_) (fun _ h => ?_)
  · conv => whnf
    exact ⟨Nat.le_of_ble_eq_true rfl, Nat.le_of_ble_eq_true rfl, ⟨_, rfl, by decide⟩, _, fun _ _ h9 => h9, pw_ps h _ hW31⟩
  · conv => whnf
    refine ⟨q, S29, x1, rfl, hW31, pw_bd h (fun S34 r37 h f35 hW36 => ?_)⟩
    conv => whnf
    refine pw_br h (fun _ h => ?_) (fun _ h => ?_)
    · conv => whnf
      refine pw_st h (fun z39 h => ?_)
      conv => whnf
      refine pw_st h (fun z40 h => ?_)
      conv => whnf
      exact np_gl (L_X3_writeWord_22 hX hR (pw_F 20000) S34 i0 z39 z40 f35 hi0 hW36 h) ⟨rfl, rfl, rfl, trivial⟩
    · conv => whnf
      exact ⟨Nat.le_of_ble_eq_true rfl, Nat.le_of_ble_eq_true rfl, ⟨_, rfl, by decide⟩, _, fun _ _ h9 => h9, pw_ps h _ hW36⟩
theorem dX3_writeFills_0 : decode cX3_writeFills 0 = .ok (.iconst 0, 1) := by decide +kernel
theorem dX3_writeFills_1 : decode cX3_writeFills 1 = .ok (.istore_n 3, 1) := by decide +kernel
theorem dX3_writeFills_2 : decode cX3_writeFills 2 = .ok (.iload_n 3, 1) := by decide +kernel
theorem dX3_writeFills_3 : decode cX3_writeFills 3 = .ok (.iload_n 2, 1) := by decide +kernel
theorem dX3_writeFills_4 : decode cX3_writeFills 4 = .ok (.if_icmp .ge 19, 3) := by decide +kernel
theorem dX3_writeFills_7 : decode cX3_writeFills 7 = .ok (.aload_n 0, 1) := by decide +kernel
theorem dX3_writeFills_8 : decode cX3_writeFills 8 = .ok (.iload_n 1, 1) := by decide +kernel
theorem dX3_writeFills_9 : decode cX3_writeFills 9 = .ok (.invokevirtual 77, 3) := by decide +kernel
theorem dX3_writeFills_12 : decode cX3_writeFills 12 = .ok (.ifCond .ne 5, 3) := by decide +kernel
theorem dX3_writeFills_15 : decode cX3_writeFills 15 = .ok (.iconst 0, 1) := by decide +kernel
theorem dX3_writeFills_16 : decode cX3_writeFills 16 = .ok (.ireturn, 1) := by decide +kernel
theorem dX3_writeFills_17 : decode cX3_writeFills 17 = .ok (.iinc 3 1, 3) := by decide +kernel
theorem dX3_writeFills_20 : decode cX3_writeFills 20 = .ok (.goto (-18), 3) := by decide +kernel
theorem dX3_writeFills_23 : decode cX3_writeFills 23 = .ok (.iconst 1, 1) := by decide +kernel
theorem dX3_writeFills_24 : decode cX3_writeFills 24 = .ok (.ireturn, 1) := by decide +kernel
def is_X3_writeFills (Rt : np_Rt) : List (Nat × np_Op) := [(0, np_push 1 (.int 0)), (1, nw_ist 1 3), (2, np_ild 1 3), (3, np_ild 1 2), (4, nq_ic (fun x y => y ≤ x) 23), (7, np_ald 1 0), (8, np_ild 1 1), (9, nw_callV 3 2 sp_X3_write 2 0 0 0 0), (12, nq_ifne 17), (15, np_push 1 (.int 0)), (16, np_ret Rt), (17, nw_iinc 3 1), (20, np_goto 2), (23, np_push 1 (.int 1)), (24, np_ret Rt)]
set_option maxRecDepth 20000 in
theorem so_X3_writeFills {X : np_Ctx} {Rt : np_Rt} (hX : np_ok RX3 cX3_writeFills 4 3 62 0 0 .ireturn X) (hR : ∀ st w ce sl, Rt st w ce sl → X.2.2.1 st w ce sl) : ∀ q ∈ is_X3_writeFills Rt, np_S X q.1 q.2 :=
  List.forall_mem_cons.mpr ⟨np_s_iconst hX dX3_writeFills_0 (by decide), List.forall_mem_cons.mpr ⟨np_S.mono (op := np_ist 1 3) (np_s_istore_n hX dX3_writeFills_1 rfl (by decide)) nw_ist_le, List.forall_mem_cons.mpr ⟨np_s_iload_n hX dX3_writeFills_2 rfl, List.forall_mem_cons.mpr ⟨np_s_iload_n hX dX3_writeFills_3 rfl, List.forall_mem_cons.mpr ⟨np_S.mono (op := np_ic (fun x y => y ≤ x) 23) (np_s_icmp_ge hX dX3_writeFills_4 (by decide)) nq_ic_le, List.forall_mem_cons.mpr ⟨np_s_aload_n hX dX3_writeFills_7 rfl, List.forall_mem_cons.mpr ⟨np_s_iload_n hX dX3_writeFills_8 rfl, List.forall_mem_cons.mpr ⟨np_S.mono (op := np_callV 3 2 sp_X3_write 2 0 0 0 0) (np_s_callV hX C_X3_write dX3_writeFills_9 (q := (RX3, TX3, 3)) rfl rfl gw836 gw65 gw833 gw835 gw9 ⟨by decide, by decide, by decide⟩ (by decide) (by decide)) nw_callV_le, List.forall_mem_cons.mpr ⟨np_S.mono (op := np_ifne 17) (np_s_if_ne hX dX3_writeFills_12 (by decide)) nq_ifne_le, List.forall_mem_cons.mpr ⟨np_s_iconst hX dX3_writeFills_15 (by decide), List.forall_mem_cons.mpr ⟨np_S.mono (op := np_ret X.2.2.1) (np_s_ret hX dX3_writeFills_16) (nq_ret_le hR), List.forall_mem_cons.mpr ⟨np_S.mono (op := np_iinc 3 1) (np_s_iinc hX dX3_writeFills_17 (by decide)) nw_iinc_le, List.forall_mem_cons.mpr ⟨np_s_goto hX dX3_writeFills_20 (by decide), List.forall_mem_cons.mpr ⟨np_s_iconst hX dX3_writeFills_23 (by decide), List.forall_mem_cons.mpr ⟨np_S.mono (op := np_ret X.2.2.1) (np_s_ret hX dX3_writeFills_24) (nq_ret_le hR), fun _ h => nomatch h⟩⟩⟩⟩⟩⟩⟩⟩⟩⟩⟩⟩⟩⟩⟩
noncomputable def m_X3_writeFills_2 : Nat → pw_S → Nat → Int32 → Int32 → Int32 → pw_R Int32
| 0, _, _, _, _, _ => none
| N + 1, S, v0, v1, v2, v3 =>
 if v2 ≤ v3 then
 (some (S, 1))
 else
 (pw_b (m_X3_write S v0 v1) fun S1 r4 =>
 if r4 = 0 then
 (some (S1, 0))
 else
 (pw_l (v3 + 1 : Int32) fun z6 =>
 m_X3_writeFills_2 N S1 v0 v1 v2 z6))
set_option maxRecDepth 100000 in
set_option maxHeartbeats 8000000 in
theorem L_X3_writeFills_2 {X : np_Ctx} (hX : np_ok RX3 cX3_writeFills 4 3 62 0 0 .ireturn X) {Q : Option Value → np_W → Prop} {q n : Nat} (hR : ∀ st w ce sl, np_rt (some .boolean) 0 0 Q st w ce sl → X.2.2.1 st w ce sl) : ∀ (N : Nat) (S : pw_S) (v0 : Nat) (v1 : Int32) (v2 : Int32) (v3 : Int32) (f : Nat → Option np_E) (hv0 : pw_ok q 58 v0 = true), pw_W q (n, f) S → pw_p (m_X3_writeFills_2 N S v0 v1 v2 v3) (fun S' r => ∀ f', pw_W q (n, f') S' → Q (some (.int r)) (n, f')) → np_G X 2 [(0, .ref (pw_pl 58 v0)), (1, .int v1), (2, .int v2), (3, .int v3)] [] (n, f) 0 0 := by
  intro N
  induction N with
  | zero =>
    intro S v0 v1 v2 v3 f hv0 hW h
    exact (pw_pn h).elim
  | succ N ih =>
    intro S v0 v1 v2 v3 f hv0 hW h
    unfold m_X3_writeFills_2 at h
    refine np_soundW (so_X3_writeFills hX hR) [2] 400 2 _ _ _ _ _ ?_
    conv => whnf
    refine pw_br h (fun _ h => ?_) (fun _ h => ?_)
    · conv => whnf
      exact ⟨Nat.le_of_ble_eq_true rfl, Nat.le_of_ble_eq_true rfl, ⟨_, rfl, by decide⟩, _, fun _ _ h9 => h9, pw_ps h _ hW⟩
    · conv => whnf
      refine np_rd_i (hW.g hv0) ?_
      conv => whnf
      refine ⟨q, S, v0, v1, rfl, hv0, hW, pw_bd h (fun S1 r4 h f2 hW3 => ?_)⟩
      conv => whnf
      refine pw_br h (fun _ h => ?_) (fun _ h => ?_)
      · conv => whnf
        exact ⟨Nat.le_of_ble_eq_true rfl, Nat.le_of_ble_eq_true rfl, ⟨_, rfl, by decide⟩, _, fun _ _ h9 => h9, pw_ps h _ hW3⟩
      · conv => whnf
        refine pw_st h (fun z6 h => ?_)
        conv => whnf
        exact np_gl (ih S1 v0 v1 v2 z6 f2 hv0 hW3 h) ⟨rfl, rfl, rfl, rfl, trivial⟩
noncomputable def m_X3_writeFills (S : pw_S) (i0 : Nat) (x1 : Int32) (x2 : Int32) : pw_R Int32 :=
 pw_l (0 : Int32) fun z7 =>
 m_X3_writeFills_2 (pw_F 20000) S i0 x1 x2 z7
def sp_X3_writeFills : np_Sp := fun vs w Q => ∃ (q : Nat) (S : pw_S) (i0 : Nat) (x1 : Int32) (x2 : Int32), vs = [.ref (pw_pl 58 i0), .int x1, .int x2] ∧ pw_ok q 58 i0 = true ∧ pw_W q w S ∧ pw_p (m_X3_writeFills S i0 x1 x2) (fun S' r => ∀ f', pw_W q (w.1, f') S' → Q (some (.int r)) (w.1, f'))
set_option maxRecDepth 100000 in
set_option maxHeartbeats 8000000 in
theorem C_X3_writeFills : np_C yX3_writeFills cX3_writeFills 4 (some .boolean) 3 62 0 0 sp_X3_writeFills := by
  refine np_of (by decide) ?_
  intro X vs w Q hsp hX hmn hRt hlt
  obtain ⟨q, S, i0, x1, x2, rfl, hi0, hW, h⟩ := hsp
  obtain ⟨n, f⟩ := w
  unfold m_X3_writeFills at h
  have hR : ∀ st w ce sl, np_rt (some .boolean) 0 0 Q st w ce sl → X.2.2.1 st w ce sl := fun _ _ _ _ h => by rw [hRt]; exact h
  refine np_soundW (so_X3_writeFills hX hR) [2] 400 0 _ _ _ _ _ ?_
  conv => whnf
  refine pw_st h (fun z7 h => ?_)
  conv => whnf
  exact np_gl (L_X3_writeFills_2 hX hR (pw_F 20000) S i0 x1 x2 z7 f hi0 hW h) ⟨rfl, rfl, rfl, rfl, trivial⟩
theorem dX3_writeBits_0 : decode cX3_writeBits 0 = .ok (.iload_n 1, 1) := by decide +kernel
theorem dX3_writeBits_1 : decode cX3_writeBits 1 = .ok (.ifCond .lt 10, 3) := by decide +kernel
theorem dX3_writeBits_4 : decode cX3_writeBits 4 = .ok (.iload_n 1, 1) := by decide +kernel
theorem dX3_writeBits_5 : decode cX3_writeBits 5 = .ok (.iconst 1, 1) := by decide +kernel
theorem dX3_writeBits_6 : decode cX3_writeBits 6 = .ok (.iload_n 2, 1) := by decide +kernel
theorem dX3_writeBits_7 : decode cX3_writeBits 7 = .ok (.ishl, 1) := by decide +kernel
theorem dX3_writeBits_8 : decode cX3_writeBits 8 = .ok (.if_icmp .lt 5, 3) := by decide +kernel
theorem dX3_writeBits_11 : decode cX3_writeBits 11 = .ok (.iconst 0, 1) := by decide +kernel
theorem dX3_writeBits_12 : decode cX3_writeBits 12 = .ok (.ireturn, 1) := by decide +kernel
theorem dX3_writeBits_13 : decode cX3_writeBits 13 = .ok (.iconst 0, 1) := by decide +kernel
theorem dX3_writeBits_14 : decode cX3_writeBits 14 = .ok (.istore_n 3, 1) := by decide +kernel
theorem dX3_writeBits_15 : decode cX3_writeBits 15 = .ok (.iload_n 3, 1) := by decide +kernel
theorem dX3_writeBits_16 : decode cX3_writeBits 16 = .ok (.iload_n 2, 1) := by decide +kernel
theorem dX3_writeBits_17 : decode cX3_writeBits 17 = .ok (.if_icmp .ge 34, 3) := by decide +kernel
theorem dX3_writeBits_20 : decode cX3_writeBits 20 = .ok (.aload_n 0, 1) := by decide +kernel
theorem dX3_writeBits_21 : decode cX3_writeBits 21 = .ok (.iload_n 1, 1) := by decide +kernel
theorem dX3_writeBits_22 : decode cX3_writeBits 22 = .ok (.iload_n 3, 1) := by decide +kernel
theorem dX3_writeBits_23 : decode cX3_writeBits 23 = .ok (.ishr, 1) := by decide +kernel
theorem dX3_writeBits_24 : decode cX3_writeBits 24 = .ok (.iconst 1, 1) := by decide +kernel
theorem dX3_writeBits_25 : decode cX3_writeBits 25 = .ok (.iand, 1) := by decide +kernel
theorem dX3_writeBits_26 : decode cX3_writeBits 26 = .ok (.iconst 1, 1) := by decide +kernel
theorem dX3_writeBits_27 : decode cX3_writeBits 27 = .ok (.if_icmp .ne 8, 3) := by decide +kernel
theorem dX3_writeBits_30 : decode cX3_writeBits 30 = .ok (.bipush 120, 2) := by decide +kernel
theorem dX3_writeBits_32 : decode cX3_writeBits 32 = .ok (.goto 5, 3) := by decide +kernel
theorem dX3_writeBits_35 : decode cX3_writeBits 35 = .ok (.bipush 45, 2) := by decide +kernel
theorem dX3_writeBits_37 : decode cX3_writeBits 37 = .ok (.invokevirtual 77, 3) := by decide +kernel
theorem dX3_writeBits_40 : decode cX3_writeBits 40 = .ok (.ifCond .ne 5, 3) := by decide +kernel
theorem dX3_writeBits_43 : decode cX3_writeBits 43 = .ok (.iconst 0, 1) := by decide +kernel
theorem dX3_writeBits_44 : decode cX3_writeBits 44 = .ok (.ireturn, 1) := by decide +kernel
theorem dX3_writeBits_45 : decode cX3_writeBits 45 = .ok (.iinc 3 1, 3) := by decide +kernel
theorem dX3_writeBits_48 : decode cX3_writeBits 48 = .ok (.goto (-33), 3) := by decide +kernel
theorem dX3_writeBits_51 : decode cX3_writeBits 51 = .ok (.iconst 1, 1) := by decide +kernel
theorem dX3_writeBits_52 : decode cX3_writeBits 52 = .ok (.ireturn, 1) := by decide +kernel
def is_X3_writeBits (Rt : np_Rt) : List (Nat × np_Op) := [(0, np_ild 1 1), (1, nq_if (fun x => x < 0) 11), (4, np_ild 1 1), (5, np_push 1 (.int 1)), (6, np_ild 1 2), (7, np_ib (fun x y => x <<< (y &&& 31))), (8, nq_ic (fun x y => x < y) 13), (11, np_push 1 (.int 0)), (12, np_ret Rt), (13, np_push 1 (.int 0)), (14, nw_ist 1 3), (15, np_ild 1 3), (16, np_ild 1 2), (17, nq_ic (fun x y => y ≤ x) 51), (20, np_ald 1 0), (21, np_ild 1 1), (22, np_ild 1 3), (23, np_ib (fun x y => x >>> (y &&& 31))), (24, np_push 1 (.int 1)), (25, np_ib (fun x y => x &&& y)), (26, np_push 1 (.int 1)), (27, nq_icne 35), (30, np_push 2 (.int 120)), (32, np_goto 37), (35, np_push 2 (.int 45)), (37, nw_callV 3 2 sp_X3_write 2 0 0 0 0), (40, nq_ifne 45), (43, np_push 1 (.int 0)), (44, np_ret Rt), (45, nw_iinc 3 1), (48, np_goto 15), (51, np_push 1 (.int 1)), (52, np_ret Rt)]
set_option maxRecDepth 20000 in
theorem so_X3_writeBits {X : np_Ctx} {Rt : np_Rt} (hX : np_ok RX3 cX3_writeBits 4 3 62 0 0 .ireturn X) (hR : ∀ st w ce sl, Rt st w ce sl → X.2.2.1 st w ce sl) : ∀ q ∈ is_X3_writeBits Rt, np_S X q.1 q.2 :=
  List.forall_mem_cons.mpr ⟨np_s_iload_n hX dX3_writeBits_0 rfl, List.forall_mem_cons.mpr ⟨np_S.mono (op := np_if (fun x => x < 0) 11) (np_s_if_lt hX dX3_writeBits_1 (by decide)) nq_if_le, List.forall_mem_cons.mpr ⟨np_s_iload_n hX dX3_writeBits_4 rfl, List.forall_mem_cons.mpr ⟨np_s_iconst hX dX3_writeBits_5 (by decide), List.forall_mem_cons.mpr ⟨np_s_iload_n hX dX3_writeBits_6 rfl, List.forall_mem_cons.mpr ⟨np_s_ishl hX dX3_writeBits_7, List.forall_mem_cons.mpr ⟨np_S.mono (op := np_ic (fun x y => x < y) 13) (np_s_icmp_lt hX dX3_writeBits_8 (by decide)) nq_ic_le, List.forall_mem_cons.mpr ⟨np_s_iconst hX dX3_writeBits_11 (by decide), List.forall_mem_cons.mpr ⟨np_S.mono (op := np_ret X.2.2.1) (np_s_ret hX dX3_writeBits_12) (nq_ret_le hR), List.forall_mem_cons.mpr ⟨np_s_iconst hX dX3_writeBits_13 (by decide), List.forall_mem_cons.mpr ⟨np_S.mono (op := np_ist 1 3) (np_s_istore_n hX dX3_writeBits_14 rfl (by decide)) nw_ist_le, List.forall_mem_cons.mpr ⟨np_s_iload_n hX dX3_writeBits_15 rfl, List.forall_mem_cons.mpr ⟨np_s_iload_n hX dX3_writeBits_16 rfl, List.forall_mem_cons.mpr ⟨np_S.mono (op := np_ic (fun x y => y ≤ x) 51) (np_s_icmp_ge hX dX3_writeBits_17 (by decide)) nq_ic_le, List.forall_mem_cons.mpr ⟨np_s_aload_n hX dX3_writeBits_20 rfl, List.forall_mem_cons.mpr ⟨np_s_iload_n hX dX3_writeBits_21 rfl, List.forall_mem_cons.mpr ⟨np_s_iload_n hX dX3_writeBits_22 rfl, List.forall_mem_cons.mpr ⟨np_s_ishr hX dX3_writeBits_23, List.forall_mem_cons.mpr ⟨np_s_iconst hX dX3_writeBits_24 (by decide), List.forall_mem_cons.mpr ⟨np_s_iand hX dX3_writeBits_25, List.forall_mem_cons.mpr ⟨np_s_iconst hX dX3_writeBits_26 (by decide), List.forall_mem_cons.mpr ⟨np_S.mono (op := np_icne 35) (np_s_icmp_ne hX dX3_writeBits_27 (by decide)) nq_icne_le, List.forall_mem_cons.mpr ⟨np_s_bipush hX dX3_writeBits_30 (by decide), List.forall_mem_cons.mpr ⟨np_s_goto hX dX3_writeBits_32 (by decide), List.forall_mem_cons.mpr ⟨np_s_bipush hX dX3_writeBits_35 (by decide), List.forall_mem_cons.mpr ⟨np_S.mono (op := np_callV 3 2 sp_X3_write 2 0 0 0 0) (np_s_callV hX C_X3_write dX3_writeBits_37 (q := (RX3, TX3, 3)) rfl rfl gw836 gw65 gw833 gw835 gw9 ⟨by decide, by decide, by decide⟩ (by decide) (by decide)) nw_callV_le, List.forall_mem_cons.mpr ⟨np_S.mono (op := np_ifne 45) (np_s_if_ne hX dX3_writeBits_40 (by decide)) nq_ifne_le, List.forall_mem_cons.mpr ⟨np_s_iconst hX dX3_writeBits_43 (by decide), List.forall_mem_cons.mpr ⟨np_S.mono (op := np_ret X.2.2.1) (np_s_ret hX dX3_writeBits_44) (nq_ret_le hR), List.forall_mem_cons.mpr ⟨np_S.mono (op := np_iinc 3 1) (np_s_iinc hX dX3_writeBits_45 (by decide)) nw_iinc_le, List.forall_mem_cons.mpr ⟨np_s_goto hX dX3_writeBits_48 (by decide), List.forall_mem_cons.mpr ⟨np_s_iconst hX dX3_writeBits_51 (by decide), List.forall_mem_cons.mpr ⟨np_S.mono (op := np_ret X.2.2.1) (np_s_ret hX dX3_writeBits_52) (nq_ret_le hR), fun _ h => nomatch h⟩⟩⟩⟩⟩⟩⟩⟩⟩⟩⟩⟩⟩⟩⟩⟩⟩⟩⟩⟩⟩⟩⟩⟩⟩⟩⟩⟩⟩⟩⟩⟩⟩
noncomputable def m_X3_writeBits_15 : Nat → pw_S → Nat → Int32 → Int32 → Int32 → pw_R Int32
| 0, _, _, _, _, _ => none
| N + 1, S, v0, v1, v2, v3 =>
 if v2 ≤ v3 then
 (some (S, 1))
 else
 (if ((v1 >>> (v3 &&& 31)) &&& 1) = 1 then
 (pw_b (m_X3_write S v0 120) fun S1 r4 =>
 if r4 = 0 then
 (some (S1, 0))
 else
 (pw_l (v3 + 1 : Int32) fun z6 =>
 m_X3_writeBits_15 N S1 v0 v1 v2 z6))
 else
 (pw_b (m_X3_write S v0 45) fun S7 r10 =>
 if r10 = 0 then
 (some (S7, 0))
 else
 (pw_l (v3 + 1 : Int32) fun z12 =>
 m_X3_writeBits_15 N S7 v0 v1 v2 z12)))
set_option maxRecDepth 100000 in
set_option maxHeartbeats 8000000 in
theorem L_X3_writeBits_15 {X : np_Ctx} (hX : np_ok RX3 cX3_writeBits 4 3 62 0 0 .ireturn X) {Q : Option Value → np_W → Prop} {q n : Nat} (hR : ∀ st w ce sl, np_rt (some .boolean) 0 0 Q st w ce sl → X.2.2.1 st w ce sl) : ∀ (N : Nat) (S : pw_S) (v0 : Nat) (v1 : Int32) (v2 : Int32) (v3 : Int32) (f : Nat → Option np_E) (hv0 : pw_ok q 58 v0 = true), pw_W q (n, f) S → pw_p (m_X3_writeBits_15 N S v0 v1 v2 v3) (fun S' r => ∀ f', pw_W q (n, f') S' → Q (some (.int r)) (n, f')) → np_G X 15 [(0, .ref (pw_pl 58 v0)), (1, .int v1), (2, .int v2), (3, .int v3)] [] (n, f) 0 0 := by
  intro N
  induction N with
  | zero =>
    intro S v0 v1 v2 v3 f hv0 hW h
    exact (pw_pn h).elim
  | succ N ih =>
    intro S v0 v1 v2 v3 f hv0 hW h
    unfold m_X3_writeBits_15 at h
    refine np_soundW (so_X3_writeBits hX hR) [15] 400 15 _ _ _ _ _ ?_
    conv => whnf
    refine pw_br h (fun _ h => ?_) (fun _ h => ?_)
    · conv => whnf
      exact ⟨Nat.le_of_ble_eq_true rfl, Nat.le_of_ble_eq_true rfl, ⟨_, rfl, by decide⟩, _, fun _ _ h9 => h9, pw_ps h _ hW⟩
    · conv => whnf
      refine pw_br h (fun _ h => ?_) (fun _ h => ?_)
      · conv => whnf
        refine np_rd_i (hW.g hv0) ?_
        conv => whnf
        refine ⟨q, S, v0, 120, rfl, hv0, hW, pw_bd h (fun S1 r4 h f2 hW3 => ?_)⟩
        conv => whnf
        refine pw_br h (fun _ h => ?_) (fun _ h => ?_)
        · conv => whnf
          exact ⟨Nat.le_of_ble_eq_true rfl, Nat.le_of_ble_eq_true rfl, ⟨_, rfl, by decide⟩, _, fun _ _ h9 => h9, pw_ps h _ hW3⟩
        · conv => whnf
          refine pw_st h (fun z6 h => ?_)
          conv => whnf
          exact np_gl (ih S1 v0 v1 v2 z6 f2 hv0 hW3 h) ⟨rfl, rfl, rfl, rfl, trivial⟩
      · conv => whnf
        refine np_rd_i (hW.g hv0) ?_
        conv => whnf
        refine ⟨q, S, v0, 45, rfl, hv0, hW, pw_bd h (fun S7 r10 h f8 hW9 => ?_)⟩
        conv => whnf
        refine pw_br h (fun _ h => ?_) (fun _ h => ?_)
        · conv => whnf
          exact ⟨Nat.le_of_ble_eq_true rfl, Nat.le_of_ble_eq_true rfl, ⟨_, rfl, by decide⟩, _, fun _ _ h9 => h9, pw_ps h _ hW9⟩
        · conv => whnf
          refine pw_st h (fun z12 h => ?_)
          conv => whnf
          exact np_gl (ih S7 v0 v1 v2 z12 f8 hv0 hW9 h) ⟨rfl, rfl, rfl, rfl, trivial⟩
noncomputable def m_X3_writeBits (S : pw_S) (i0 : Nat) (x1 : Int32) (x2 : Int32) : pw_R Int32 :=
 if x1 < 0 then
 (some (S, 0))
 else
 (if x1 < (1 <<< (x2 &&& 31)) then
 (pw_l (0 : Int32) fun z13 =>
 m_X3_writeBits_15 (pw_F 20000) S i0 x1 x2 z13)
 else
 (some (S, 0)))
def sp_X3_writeBits : np_Sp := fun vs w Q => ∃ (q : Nat) (S : pw_S) (i0 : Nat) (x1 : Int32) (x2 : Int32), vs = [.ref (pw_pl 58 i0), .int x1, .int x2] ∧ pw_ok q 58 i0 = true ∧ pw_W q w S ∧ pw_p (m_X3_writeBits S i0 x1 x2) (fun S' r => ∀ f', pw_W q (w.1, f') S' → Q (some (.int r)) (w.1, f'))
set_option maxRecDepth 100000 in
set_option maxHeartbeats 8000000 in
theorem C_X3_writeBits : np_C yX3_writeBits cX3_writeBits 4 (some .boolean) 3 62 0 0 sp_X3_writeBits := by
  refine np_of (by decide) ?_
  intro X vs w Q hsp hX hmn hRt hlt
  obtain ⟨q, S, i0, x1, x2, rfl, hi0, hW, h⟩ := hsp
  obtain ⟨n, f⟩ := w
  unfold m_X3_writeBits at h
  have hR : ∀ st w ce sl, np_rt (some .boolean) 0 0 Q st w ce sl → X.2.2.1 st w ce sl := fun _ _ _ _ h => by rw [hRt]; exact h
  refine np_soundW (so_X3_writeBits hX hR) [15] 400 0 _ _ _ _ _ ?_
  conv => whnf
  refine pw_br h (fun _ h => ?_) (fun _ h => ?_)
  · conv => whnf
    exact ⟨Nat.le_of_ble_eq_true rfl, Nat.le_of_ble_eq_true rfl, ⟨_, rfl, by decide⟩, _, fun _ _ h9 => h9, pw_ps h _ hW⟩
  · conv => whnf
    refine pw_br h (fun _ h => ?_) (fun _ h => ?_)
    · conv => whnf
      refine pw_st h (fun z13 h => ?_)
      conv => whnf
      exact np_gl (L_X3_writeBits_15 hX hR (pw_F 20000) S i0 x1 x2 z13 f hi0 hW h) ⟨rfl, rfl, rfl, rfl, trivial⟩
    · conv => whnf
      exact ⟨Nat.le_of_ble_eq_true rfl, Nat.le_of_ble_eq_true rfl, ⟨_, rfl, by decide⟩, _, fun _ _ h9 => h9, pw_ps h _ hW⟩
theorem dX3_printSlot_0 : decode cX3_printSlot 0 = .ok (.aload_n 1, 1) := by decide +kernel
theorem dX3_printSlot_1 : decode cX3_printSlot 1 = .ok (.aload_n 0, 1) := by decide +kernel
theorem dX3_printSlot_2 : decode cX3_printSlot 2 = .ok (.getfield 21, 3) := by decide +kernel
theorem dX3_printSlot_5 : decode cX3_printSlot 5 = .ok (.getfield 40, 3) := by decide +kernel
theorem dX3_printSlot_8 : decode cX3_printSlot 8 = .ok (.invokevirtual 66, 3) := by decide +kernel
theorem dX3_printSlot_11 : decode cX3_printSlot 11 = .ok (.istore_n 3, 1) := by decide +kernel
theorem dX3_printSlot_12 : decode cX3_printSlot 12 = .ok (.aload_n 2, 1) := by decide +kernel
theorem dX3_printSlot_13 : decode cX3_printSlot 13 = .ok (.iload_n 3, 1) := by decide +kernel
theorem dX3_printSlot_14 : decode cX3_printSlot 14 = .ok (.aload_n 0, 1) := by decide +kernel
theorem dX3_printSlot_15 : decode cX3_printSlot 15 = .ok (.getfield 21, 3) := by decide +kernel
theorem dX3_printSlot_18 : decode cX3_printSlot 18 = .ok (.getfield 86, 3) := by decide +kernel
theorem dX3_printSlot_21 : decode cX3_printSlot 21 = .ok (.invokestatic 89, 3) := by decide +kernel
theorem dX3_printSlot_24 : decode cX3_printSlot 24 = .ok (.ldc 93, 2) := by decide +kernel
theorem dX3_printSlot_26 : decode cX3_printSlot 26 = .ok (.invokestatic 29, 3) := by decide +kernel
theorem dX3_printSlot_29 : decode cX3_printSlot 29 = .ok (.istore 4, 2) := by decide +kernel
theorem dX3_printSlot_31 : decode cX3_printSlot 31 = .ok (.iload 4, 2) := by decide +kernel
theorem dX3_printSlot_33 : decode cX3_printSlot 33 = .ok (.ldc 93, 2) := by decide +kernel
theorem dX3_printSlot_35 : decode cX3_printSlot 35 = .ok (.if_icmp .ne 5, 3) := by decide +kernel
theorem dX3_printSlot_38 : decode cX3_printSlot 38 = .ok (.iconst 0, 1) := by decide +kernel
theorem dX3_printSlot_39 : decode cX3_printSlot 39 = .ok (.ireturn, 1) := by decide +kernel
theorem dX3_printSlot_40 : decode cX3_printSlot 40 = .ok (.aload_n 0, 1) := by decide +kernel
theorem dX3_printSlot_41 : decode cX3_printSlot 41 = .ok (.getfield 21, 3) := by decide +kernel
theorem dX3_printSlot_44 : decode cX3_printSlot 44 = .ok (.iload_n 3, 1) := by decide +kernel
theorem dX3_printSlot_45 : decode cX3_printSlot 45 = .ok (.invokevirtual 94, 3) := by decide +kernel
theorem dX3_printSlot_48 : decode cX3_printSlot 48 = .ok (.aload_n 0, 1) := by decide +kernel
theorem dX3_printSlot_49 : decode cX3_printSlot 49 = .ok (.getfield 21, 3) := by decide +kernel
theorem dX3_printSlot_52 : decode cX3_printSlot 52 = .ok (.iload_n 3, 1) := by decide +kernel
theorem dX3_printSlot_53 : decode cX3_printSlot 53 = .ok (.iload 4, 2) := by decide +kernel
theorem dX3_printSlot_55 : decode cX3_printSlot 55 = .ok (.invokevirtual 98, 3) := by decide +kernel
theorem dX3_printSlot_58 : decode cX3_printSlot 58 = .ok (.aload_n 1, 1) := by decide +kernel
theorem dX3_printSlot_59 : decode cX3_printSlot 59 = .ok (.aload_n 0, 1) := by decide +kernel
theorem dX3_printSlot_60 : decode cX3_printSlot 60 = .ok (.getfield 21, 3) := by decide +kernel
theorem dX3_printSlot_63 : decode cX3_printSlot 63 = .ok (.getfield 40, 3) := by decide +kernel
theorem dX3_printSlot_66 : decode cX3_printSlot 66 = .ok (.invokevirtual 102, 3) := by decide +kernel
theorem dX3_printSlot_69 : decode cX3_printSlot 69 = .ok (.istore 5, 2) := by decide +kernel
theorem dX3_printSlot_71 : decode cX3_printSlot 71 = .ok (.aload_n 1, 1) := by decide +kernel
theorem dX3_printSlot_72 : decode cX3_printSlot 72 = .ok (.aload_n 0, 1) := by decide +kernel
theorem dX3_printSlot_73 : decode cX3_printSlot 73 = .ok (.getfield 21, 3) := by decide +kernel
theorem dX3_printSlot_76 : decode cX3_printSlot 76 = .ok (.getfield 40, 3) := by decide +kernel
theorem dX3_printSlot_79 : decode cX3_printSlot 79 = .ok (.invokevirtual 105, 3) := by decide +kernel
theorem dX3_printSlot_82 : decode cX3_printSlot 82 = .ok (.istore 6, 2) := by decide +kernel
theorem dX3_printSlot_84 : decode cX3_printSlot 84 = .ok (.aload_n 1, 1) := by decide +kernel
theorem dX3_printSlot_85 : decode cX3_printSlot 85 = .ok (.aload_n 0, 1) := by decide +kernel
theorem dX3_printSlot_86 : decode cX3_printSlot 86 = .ok (.getfield 21, 3) := by decide +kernel
theorem dX3_printSlot_89 : decode cX3_printSlot 89 = .ok (.getfield 40, 3) := by decide +kernel
theorem dX3_printSlot_92 : decode cX3_printSlot 92 = .ok (.invokevirtual 70, 3) := by decide +kernel
theorem dX3_printSlot_95 : decode cX3_printSlot 95 = .ok (.tableswitch 152 0 6 #[41, 52, 89, 115, 152, 152, 124], 41) := by decide +kernel
theorem dX3_printSlot_136 : decode cX3_printSlot 136 = .ok (.aload_n 0, 1) := by decide +kernel
theorem dX3_printSlot_137 : decode cX3_printSlot 137 = .ok (.iload 4, 2) := by decide +kernel
theorem dX3_printSlot_139 : decode cX3_printSlot 139 = .ok (.iload 5, 2) := by decide +kernel
theorem dX3_printSlot_141 : decode cX3_printSlot 141 = .ok (.iload 6, 2) := by decide +kernel
theorem dX3_printSlot_143 : decode cX3_printSlot 143 = .ok (.invokevirtual 108, 3) := by decide +kernel
theorem dX3_printSlot_146 : decode cX3_printSlot 146 = .ok (.ireturn, 1) := by decide +kernel
theorem dX3_printSlot_147 : decode cX3_printSlot 147 = .ok (.aload_n 0, 1) := by decide +kernel
theorem dX3_printSlot_148 : decode cX3_printSlot 148 = .ok (.iload 4, 2) := by decide +kernel
theorem dX3_printSlot_150 : decode cX3_printSlot 150 = .ok (.iload 5, 2) := by decide +kernel
theorem dX3_printSlot_152 : decode cX3_printSlot 152 = .ok (.invokevirtual 112, 3) := by decide +kernel
theorem dX3_printSlot_155 : decode cX3_printSlot 155 = .ok (.ifCond .eq 27, 3) := by decide +kernel
theorem dX3_printSlot_158 : decode cX3_printSlot 158 = .ok (.aload_n 0, 1) := by decide +kernel
theorem dX3_printSlot_159 : decode cX3_printSlot 159 = .ok (.iload 6, 2) := by decide +kernel
theorem dX3_printSlot_161 : decode cX3_printSlot 161 = .ok (.invokestatic 116, 3) := by decide +kernel
theorem dX3_printSlot_164 : decode cX3_printSlot 164 = .ok (.iload 5, 2) := by decide +kernel
theorem dX3_printSlot_166 : decode cX3_printSlot 166 = .ok (.iload 4, 2) := by decide +kernel
theorem dX3_printSlot_168 : decode cX3_printSlot 168 = .ok (.invokestatic 119, 3) := by decide +kernel
theorem dX3_printSlot_171 : decode cX3_printSlot 171 = .ok (.isub, 1) := by decide +kernel
theorem dX3_printSlot_172 : decode cX3_printSlot 172 = .ok (.invokevirtual 122, 3) := by decide +kernel
theorem dX3_printSlot_175 : decode cX3_printSlot 175 = .ok (.ifCond .eq 7, 3) := by decide +kernel
theorem dX3_printSlot_178 : decode cX3_printSlot 178 = .ok (.iconst 1, 1) := by decide +kernel
theorem dX3_printSlot_179 : decode cX3_printSlot 179 = .ok (.goto 4, 3) := by decide +kernel
theorem dX3_printSlot_182 : decode cX3_printSlot 182 = .ok (.iconst 0, 1) := by decide +kernel
theorem dX3_printSlot_183 : decode cX3_printSlot 183 = .ok (.ireturn, 1) := by decide +kernel
theorem dX3_printSlot_184 : decode cX3_printSlot 184 = .ok (.aload_n 0, 1) := by decide +kernel
theorem dX3_printSlot_185 : decode cX3_printSlot 185 = .ok (.iload 4, 2) := by decide +kernel
theorem dX3_printSlot_187 : decode cX3_printSlot 187 = .ok (.bipush 60, 2) := by decide +kernel
theorem dX3_printSlot_189 : decode cX3_printSlot 189 = .ok (.invokevirtual 112, 3) := by decide +kernel
theorem dX3_printSlot_192 : decode cX3_printSlot 192 = .ok (.ifCond .eq 16, 3) := by decide +kernel
theorem dX3_printSlot_195 : decode cX3_printSlot 195 = .ok (.aload_n 0, 1) := by decide +kernel
theorem dX3_printSlot_196 : decode cX3_printSlot 196 = .ok (.iload 5, 2) := by decide +kernel
theorem dX3_printSlot_198 : decode cX3_printSlot 198 = .ok (.invokevirtual 77, 3) := by decide +kernel
theorem dX3_printSlot_201 : decode cX3_printSlot 201 = .ok (.ifCond .eq 7, 3) := by decide +kernel
theorem dX3_printSlot_204 : decode cX3_printSlot 204 = .ok (.iconst 1, 1) := by decide +kernel
theorem dX3_printSlot_205 : decode cX3_printSlot 205 = .ok (.goto 4, 3) := by decide +kernel
theorem dX3_printSlot_208 : decode cX3_printSlot 208 = .ok (.iconst 0, 1) := by decide +kernel
theorem dX3_printSlot_209 : decode cX3_printSlot 209 = .ok (.ireturn, 1) := by decide +kernel
theorem dX3_printSlot_210 : decode cX3_printSlot 210 = .ok (.aload_n 0, 1) := by decide +kernel
theorem dX3_printSlot_211 : decode cX3_printSlot 211 = .ok (.iload 4, 2) := by decide +kernel
theorem dX3_printSlot_213 : decode cX3_printSlot 213 = .ok (.iload 5, 2) := by decide +kernel
theorem dX3_printSlot_215 : decode cX3_printSlot 215 = .ok (.invokevirtual 125, 3) := by decide +kernel
theorem dX3_printSlot_218 : decode cX3_printSlot 218 = .ok (.ireturn, 1) := by decide +kernel
theorem dX3_printSlot_219 : decode cX3_printSlot 219 = .ok (.iload 4, 2) := by decide +kernel
theorem dX3_printSlot_221 : decode cX3_printSlot 221 = .ok (.iconst 0, 1) := by decide +kernel
theorem dX3_printSlot_222 : decode cX3_printSlot 222 = .ok (.iconst 3, 1) := by decide +kernel
theorem dX3_printSlot_223 : decode cX3_printSlot 223 = .ok (.invokestatic 128, 3) := by decide +kernel
theorem dX3_printSlot_226 : decode cX3_printSlot 226 = .ok (.ifCond .eq 19, 3) := by decide +kernel
theorem dX3_printSlot_229 : decode cX3_printSlot 229 = .ok (.aload_n 0, 1) := by decide +kernel
theorem dX3_printSlot_230 : decode cX3_printSlot 230 = .ok (.bipush 48, 2) := by decide +kernel
theorem dX3_printSlot_232 : decode cX3_printSlot 232 = .ok (.iload 4, 2) := by decide +kernel
theorem dX3_printSlot_234 : decode cX3_printSlot 234 = .ok (.iadd, 1) := by decide +kernel
theorem dX3_printSlot_235 : decode cX3_printSlot 235 = .ok (.invokevirtual 77, 3) := by decide +kernel
theorem dX3_printSlot_238 : decode cX3_printSlot 238 = .ok (.ifCond .eq 7, 3) := by decide +kernel
theorem dX3_printSlot_241 : decode cX3_printSlot 241 = .ok (.iconst 1, 1) := by decide +kernel
theorem dX3_printSlot_242 : decode cX3_printSlot 242 = .ok (.goto 4, 3) := by decide +kernel
theorem dX3_printSlot_245 : decode cX3_printSlot 245 = .ok (.iconst 0, 1) := by decide +kernel
theorem dX3_printSlot_246 : decode cX3_printSlot 246 = .ok (.ireturn, 1) := by decide +kernel
theorem dX3_printSlot_247 : decode cX3_printSlot 247 = .ok (.iconst 0, 1) := by decide +kernel
theorem dX3_printSlot_248 : decode cX3_printSlot 248 = .ok (.ireturn, 1) := by decide +kernel
def is_X3_printSlot (Rt : np_Rt) : List (Nat × np_Op) := [(0, np_ald 1 1), (1, np_ald 1 0), (2, nw_getf 3 2), (5, nw_getf 8 2), (8, nw_callV 2 2 sp_X2_a 2 0 0 0 0), (11, nw_ist 1 3), (12, np_ald 1 2), (13, np_ild 1 3), (14, np_ald 1 0), (15, nw_getf 3 2), (18, nw_getf 8 5), (21, nq_call 2 sp_X11_cellPlace 2 0 0 0 0), (24, np_push 2 (.int (-2147483648))), (26, nq_call 3 sp_X11_at 3 0 0 0 0), (29, nw_ist 2 4), (31, np_ild 2 4), (33, np_push 2 (.int (-2147483648))), (35, nq_icne 40), (38, np_push 1 (.int 0)), (39, np_ret Rt), (40, np_ald 1 0), (41, nw_getf 3 2), (44, np_ild 1 3), (45, nw_callV 8 2 sp_X8_begin 2 0 0 0 0), (48, np_ald 1 0), (49, nw_getf 3 2), (52, np_ild 1 3), (53, np_ild 2 4), (55, nw_callV 8 3 sp_X8_keep 3 0 0 0 0), (58, np_ald 1 1), (59, np_ald 1 0), (60, nw_getf 3 2), (63, nw_getf 8 2), (66, nw_callV 2 2 sp_X2_b 2 0 0 0 0), (69, nw_ist 2 5), (71, np_ald 1 1), (72, np_ald 1 0), (73, nw_getf 3 2), (76, nw_getf 8 2), (79, nw_callV 2 2 sp_X2_c 2 0 0 0 0), (82, nw_ist 2 6), (84, np_ald 1 1), (85, np_ald 1 0), (86, nw_getf 3 2), (89, nw_getf 8 2), (92, nw_callV 2 2 sp_X2_kind 2 0 0 0 0), (95, nq_tsw (0) [136, 147, 184, 210, 247, 247, 219] 247), (136, np_ald 1 0), (137, np_ild 2 4), (139, np_ild 2 5), (141, np_ild 2 6), (143, nw_callV 3 4 sp_X3_writeNumber 5 0 0 0 0), (146, np_ret Rt), (147, np_ald 1 0), (148, np_ild 2 4), (150, np_ild 2 5), (152, nw_callV 3 3 sp_X3_writeWord 7 0 0 0 0), (155, nq_if (fun x => x = 0) 182), (158, np_ald 1 0), (159, np_ild 2 6), (161, nq_call 1 sp_X11_fillOfWord 1 0 0 0 0), (164, np_ild 2 5), (166, np_ild 2 4), (168, nq_call 1 sp_X11_unitsOfWord 4 0 0 0 0), (171, np_ib (fun x y => x - y)), (172, nw_callV 3 3 sp_X3_writeFills 4 0 0 0 0), (175, nq_if (fun x => x = 0) 182), (178, np_push 1 (.int 1)), (179, np_goto 183), (182, np_push 1 (.int 0)), (183, np_ret Rt), (184, np_ald 1 0), (185, np_ild 2 4), (187, np_push 2 (.int 60)), (189, nw_callV 3 3 sp_X3_writeWord 7 0 0 0 0), (192, nq_if (fun x => x = 0) 208), (195, np_ald 1 0), (196, np_ild 2 5), (198, nw_callV 3 2 sp_X3_write 2 0 0 0 0), (201, nq_if (fun x => x = 0) 208), (204, np_push 1 (.int 1)), (205, np_goto 209), (208, np_push 1 (.int 0)), (209, np_ret Rt), (210, np_ald 1 0), (211, np_ild 2 4), (213, np_ild 2 5), (215, nw_callV 3 3 sp_X3_writeBits 4 0 0 0 0), (218, np_ret Rt), (219, np_ild 2 4), (221, np_push 1 (.int 0)), (222, np_push 1 (.int 3)), (223, nq_call 3 sp_X11_isBetween 3 0 0 0 0), (226, nq_if (fun x => x = 0) 245), (229, np_ald 1 0), (230, np_push 2 (.int 48)), (232, np_ild 2 4), (234, np_ib (fun x y => x + y)), (235, nw_callV 3 2 sp_X3_write 2 0 0 0 0), (238, nq_if (fun x => x = 0) 245), (241, np_push 1 (.int 1)), (242, np_goto 246), (245, np_push 1 (.int 0)), (246, np_ret Rt), (247, np_push 1 (.int 0)), (248, np_ret Rt)]
set_option maxRecDepth 20000 in
theorem so_X3_printSlot {X : np_Ctx} {Rt : np_Rt} (hX : np_ok RX3 cX3_printSlot 7 4 88 0 0 .ireturn X) (hR : ∀ st w ce sl, Rt st w ce sl → X.2.2.1 st w ce sl) : ∀ q ∈ is_X3_printSlot Rt, np_S X q.1 q.2 :=
  List.forall_mem_cons.mpr ⟨np_s_aload_n hX dX3_printSlot_0 rfl, List.forall_mem_cons.mpr ⟨np_s_aload_n hX dX3_printSlot_1 rfl, List.forall_mem_cons.mpr ⟨np_S.mono (op := np_getf 3 2) (np_s_getf hX dX3_printSlot_2 (C := RX3) (T := TX3) (N := 3) rfl guX3 (by decide) gw184) nw_getf_le, List.forall_mem_cons.mpr ⟨np_S.mono (op := np_getf 8 2) (np_s_getN hX dX3_printSlot_5 (C := RX8) (T := TX8) (N := 9) rfl guX8 (by decide) gw151) nw_getf_le, List.forall_mem_cons.mpr ⟨np_S.mono (op := np_callV 2 2 sp_X2_a 2 0 0 0 0) (np_s_callV hX C_X2_a dX3_printSlot_8 (q := (RX2, TX2, 5)) rfl rfl gw657 gw64 gw802 gw655 gw656 ⟨by decide, by decide, by decide⟩ (by decide) (by decide)) nw_callV_le, List.forall_mem_cons.mpr ⟨np_S.mono (op := np_ist 1 3) (np_s_istore_n hX dX3_printSlot_11 rfl (by decide)) nw_ist_le, List.forall_mem_cons.mpr ⟨np_s_aload_n hX dX3_printSlot_12 rfl, List.forall_mem_cons.mpr ⟨np_s_iload_n hX dX3_printSlot_13 rfl, List.forall_mem_cons.mpr ⟨np_s_aload_n hX dX3_printSlot_14 rfl, List.forall_mem_cons.mpr ⟨np_S.mono (op := np_getf 3 2) (np_s_getf hX dX3_printSlot_15 (C := RX3) (T := TX3) (N := 3) rfl guX3 (by decide) gw184) nw_getf_le, List.forall_mem_cons.mpr ⟨np_S.mono (op := np_getf 8 5) (np_s_getN hX dX3_printSlot_18 (C := RX8) (T := TX8) (N := 9) rfl guX8 (by decide) gw156) nw_getf_le, List.forall_mem_cons.mpr ⟨np_S.mono (op := np_call 2 sp_X11_cellPlace 2 0 0 0 0) (np_s_callSN hX C_X11_cellPlace dX3_printSlot_21 gw725 gw63 gw803 gw724 ⟨by decide, by decide, by decide⟩ (by decide) (by decide)) nq_call_le, List.forall_mem_cons.mpr ⟨np_s_ldc hX dX3_printSlot_24 gw804, List.forall_mem_cons.mpr ⟨np_S.mono (op := np_call 3 sp_X11_at 3 0 0 0 0) (np_s_callSN hX C_X11_at dX3_printSlot_26 gw653 gw63 gw805 gw652 ⟨by decide, by decide, by decide⟩ (by decide) (by decide)) nq_call_le, List.forall_mem_cons.mpr ⟨np_S.mono (op := np_ist 2 4) (np_s_istore hX dX3_printSlot_29 (by decide)) nw_ist_le, List.forall_mem_cons.mpr ⟨np_s_iload hX dX3_printSlot_31, List.forall_mem_cons.mpr ⟨np_s_ldc hX dX3_printSlot_33 gw804, List.forall_mem_cons.mpr ⟨np_S.mono (op := np_icne 40) (np_s_icmp_ne hX dX3_printSlot_35 (by decide)) nq_icne_le, List.forall_mem_cons.mpr ⟨np_s_iconst hX dX3_printSlot_38 (by decide), List.forall_mem_cons.mpr ⟨np_S.mono (op := np_ret X.2.2.1) (np_s_ret hX dX3_printSlot_39) (nq_ret_le hR), List.forall_mem_cons.mpr ⟨np_s_aload_n hX dX3_printSlot_40 rfl, List.forall_mem_cons.mpr ⟨np_S.mono (op := np_getf 3 2) (np_s_getf hX dX3_printSlot_41 (C := RX3) (T := TX3) (N := 3) rfl guX3 (by decide) gw184) nw_getf_le, List.forall_mem_cons.mpr ⟨np_s_iload_n hX dX3_printSlot_44 rfl, List.forall_mem_cons.mpr ⟨np_S.mono (op := np_callV 8 2 sp_X8_begin 2 0 0 0 0) (np_s_callV hX C_X8_begin dX3_printSlot_45 (q := (RX8, TX8, 9)) rfl rfl gw809 gw66 gw806 gw807 gw808 ⟨by decide, by decide, by decide⟩ (by decide) (by decide)) nw_callV_le, List.forall_mem_cons.mpr ⟨np_s_aload_n hX dX3_printSlot_48 rfl, List.forall_mem_cons.mpr ⟨np_S.mono (op := np_getf 3 2) (np_s_getf hX dX3_printSlot_49 (C := RX3) (T := TX3) (N := 3) rfl guX3 (by decide) gw184) nw_getf_le, List.forall_mem_cons.mpr ⟨np_s_iload_n hX dX3_printSlot_52 rfl, List.forall_mem_cons.mpr ⟨np_s_iload hX dX3_printSlot_53, List.forall_mem_cons.mpr ⟨np_S.mono (op := np_callV 8 3 sp_X8_keep 3 0 0 0 0) (np_s_callV hX C_X8_keep dX3_printSlot_55 (q := (RX8, TX8, 9)) rfl rfl gw818 gw66 gw815 gw816 gw817 ⟨by decide, by decide, by decide⟩ (by decide) (by decide)) nw_callV_le, List.forall_mem_cons.mpr ⟨np_s_aload_n hX dX3_printSlot_58 rfl, List.forall_mem_cons.mpr ⟨np_s_aload_n hX dX3_printSlot_59 rfl, List.forall_mem_cons.mpr ⟨np_S.mono (op := np_getf 3 2) (np_s_getf hX dX3_printSlot_60 (C := RX3) (T := TX3) (N := 3) rfl guX3 (by decide) gw184) nw_getf_le, List.forall_mem_cons.mpr ⟨np_S.mono (op := np_getf 8 2) (np_s_getN hX dX3_printSlot_63 (C := RX8) (T := TX8) (N := 9) rfl guX8 (by decide) gw151) nw_getf_le, List.forall_mem_cons.mpr ⟨np_S.mono (op := np_callV 2 2 sp_X2_b 2 0 0 0 0) (np_s_callV hX C_X2_b dX3_printSlot_66 (q := (RX2, TX2, 5)) rfl rfl gw673 gw64 gw820 gw671 gw672 ⟨by decide, by decide, by decide⟩ (by decide) (by decide)) nw_callV_le, List.forall_mem_cons.mpr ⟨np_S.mono (op := np_ist 2 5) (np_s_istore hX dX3_printSlot_69 (by decide)) nw_ist_le, List.forall_mem_cons.mpr ⟨np_s_aload_n hX dX3_printSlot_71 rfl, List.forall_mem_cons.mpr ⟨np_s_aload_n hX dX3_printSlot_72 rfl, List.forall_mem_cons.mpr ⟨np_S.mono (op := np_getf 3 2) (np_s_getf hX dX3_printSlot_73 (C := RX3) (T := TX3) (N := 3) rfl guX3 (by decide) gw184) nw_getf_le, List.forall_mem_cons.mpr ⟨np_S.mono (op := np_getf 8 2) (np_s_getN hX dX3_printSlot_76 (C := RX8) (T := TX8) (N := 9) rfl guX8 (by decide) gw151) nw_getf_le, List.forall_mem_cons.mpr ⟨np_S.mono (op := np_callV 2 2 sp_X2_c 2 0 0 0 0) (np_s_callV hX C_X2_c dX3_printSlot_79 (q := (RX2, TX2, 5)) rfl rfl gw690 gw64 gw821 gw688 gw689 ⟨by decide, by decide, by decide⟩ (by decide) (by decide)) nw_callV_le, List.forall_mem_cons.mpr ⟨np_S.mono (op := np_ist 2 6) (np_s_istore hX dX3_printSlot_82 (by decide)) nw_ist_le, List.forall_mem_cons.mpr ⟨np_s_aload_n hX dX3_printSlot_84 rfl, List.forall_mem_cons.mpr ⟨np_s_aload_n hX dX3_printSlot_85 rfl, List.forall_mem_cons.mpr ⟨np_S.mono (op := np_getf 3 2) (np_s_getf hX dX3_printSlot_86 (C := RX3) (T := TX3) (N := 3) rfl guX3 (by decide) gw184) nw_getf_le, List.forall_mem_cons.mpr ⟨np_S.mono (op := np_getf 8 2) (np_s_getN hX dX3_printSlot_89 (C := RX8) (T := TX8) (N := 9) rfl guX8 (by decide) gw151) nw_getf_le, List.forall_mem_cons.mpr ⟨np_S.mono (op := np_callV 2 2 sp_X2_kind 2 0 0 0 0) (np_s_callV hX C_X2_kind dX3_printSlot_92 (q := (RX2, TX2, 5)) rfl rfl gw650 gw64 gw822 gw648 gw649 ⟨by decide, by decide, by decide⟩ (by decide) (by decide)) nw_callV_le, List.forall_mem_cons.mpr ⟨np_S.mono (op := np_tsw (0) (6) [136, 147, 184, 210, 247, 247, 219] 247) (np_s_tsw hX dX3_printSlot_95 (by decide) (by decide) (by decide)) (nq_tsw_le (by decide)), List.forall_mem_cons.mpr ⟨np_s_aload_n hX dX3_printSlot_136 rfl, List.forall_mem_cons.mpr ⟨np_s_iload hX dX3_printSlot_137, List.forall_mem_cons.mpr ⟨np_s_iload hX dX3_printSlot_139, List.forall_mem_cons.mpr ⟨np_s_iload hX dX3_printSlot_141, List.forall_mem_cons.mpr ⟨np_S.mono (op := np_callV 3 4 sp_X3_writeNumber 5 0 0 0 0) (np_s_callV hX C_X3_writeNumber dX3_printSlot_143 (q := (RX3, TX3, 3)) rfl rfl gw826 gw65 gw823 gw825 gw8 ⟨by decide, by decide, by decide⟩ (by decide) (by decide)) nw_callV_le, List.forall_mem_cons.mpr ⟨np_S.mono (op := np_ret X.2.2.1) (np_s_ret hX dX3_printSlot_146) (nq_ret_le hR), List.forall_mem_cons.mpr ⟨np_s_aload_n hX dX3_printSlot_147 rfl, List.forall_mem_cons.mpr ⟨np_s_iload hX dX3_printSlot_148, List.forall_mem_cons.mpr ⟨np_s_iload hX dX3_printSlot_150, List.forall_mem_cons.mpr ⟨np_S.mono (op := np_callV 3 3 sp_X3_writeWord 7 0 0 0 0) (np_s_callV hX C_X3_writeWord dX3_printSlot_152 (q := (RX3, TX3, 3)) rfl rfl gw847 gw65 gw844 gw846 gw10 ⟨by decide, by decide, by decide⟩ (by decide) (by decide)) nw_callV_le, List.forall_mem_cons.mpr ⟨np_S.mono (op := np_if (fun x => x = 0) 182) (np_s_if_eq hX dX3_printSlot_155 (by decide)) nq_if_le, List.forall_mem_cons.mpr ⟨np_s_aload_n hX dX3_printSlot_158 rfl, List.forall_mem_cons.mpr ⟨np_s_iload hX dX3_printSlot_159, List.forall_mem_cons.mpr ⟨np_S.mono (op := np_call 1 sp_X11_fillOfWord 1 0 0 0 0) (np_s_callSN hX C_X11_fillOfWord dX3_printSlot_161 gw707 gw63 gw858 gw706 ⟨by decide, by decide, by decide⟩ (by decide) (by decide)) nq_call_le, List.forall_mem_cons.mpr ⟨np_s_iload hX dX3_printSlot_164, List.forall_mem_cons.mpr ⟨np_s_iload hX dX3_printSlot_166, List.forall_mem_cons.mpr ⟨np_S.mono (op := np_call 1 sp_X11_unitsOfWord 4 0 0 0 0) (np_s_callSN hX C_X11_unitsOfWord dX3_printSlot_168 gw854 gw63 gw852 gw853 ⟨by decide, by decide, by decide⟩ (by decide) (by decide)) nq_call_le, List.forall_mem_cons.mpr ⟨np_s_isub hX dX3_printSlot_171, List.forall_mem_cons.mpr ⟨np_S.mono (op := np_callV 3 3 sp_X3_writeFills 4 0 0 0 0) (np_s_callV hX C_X3_writeFills dX3_printSlot_172 (q := (RX3, TX3, 3)) rfl rfl gw862 gw65 gw859 gw861 gw11 ⟨by decide, by decide, by decide⟩ (by decide) (by decide)) nw_callV_le, List.forall_mem_cons.mpr ⟨np_S.mono (op := np_if (fun x => x = 0) 182) (np_s_if_eq hX dX3_printSlot_175 (by decide)) nq_if_le, List.forall_mem_cons.mpr ⟨np_s_iconst hX dX3_printSlot_178 (by decide), List.forall_mem_cons.mpr ⟨np_s_goto hX dX3_printSlot_179 (by decide), List.forall_mem_cons.mpr ⟨np_s_iconst hX dX3_printSlot_182 (by decide), List.forall_mem_cons.mpr ⟨np_S.mono (op := np_ret X.2.2.1) (np_s_ret hX dX3_printSlot_183) (nq_ret_le hR), List.forall_mem_cons.mpr ⟨np_s_aload_n hX dX3_printSlot_184 rfl, List.forall_mem_cons.mpr ⟨np_s_iload hX dX3_printSlot_185, List.forall_mem_cons.mpr ⟨np_s_bipush hX dX3_printSlot_187 (by decide), List.forall_mem_cons.mpr ⟨np_S.mono (op := np_callV 3 3 sp_X3_writeWord 7 0 0 0 0) (np_s_callV hX C_X3_writeWord dX3_printSlot_189 (q := (RX3, TX3, 3)) rfl rfl gw847 gw65 gw844 gw846 gw10 ⟨by decide, by decide, by decide⟩ (by decide) (by decide)) nw_callV_le, List.forall_mem_cons.mpr ⟨np_S.mono (op := np_if (fun x => x = 0) 208) (np_s_if_eq hX dX3_printSlot_192 (by decide)) nq_if_le, List.forall_mem_cons.mpr ⟨np_s_aload_n hX dX3_printSlot_195 rfl, List.forall_mem_cons.mpr ⟨np_s_iload hX dX3_printSlot_196, List.forall_mem_cons.mpr ⟨np_S.mono (op := np_callV 3 2 sp_X3_write 2 0 0 0 0) (np_s_callV hX C_X3_write dX3_printSlot_198 (q := (RX3, TX3, 3)) rfl rfl gw836 gw65 gw833 gw835 gw9 ⟨by decide, by decide, by decide⟩ (by decide) (by decide)) nw_callV_le, List.forall_mem_cons.mpr ⟨np_S.mono (op := np_if (fun x => x = 0) 208) (np_s_if_eq hX dX3_printSlot_201 (by decide)) nq_if_le, List.forall_mem_cons.mpr ⟨np_s_iconst hX dX3_printSlot_204 (by decide), List.forall_mem_cons.mpr ⟨np_s_goto hX dX3_printSlot_205 (by decide), List.forall_mem_cons.mpr ⟨np_s_iconst hX dX3_printSlot_208 (by decide), List.forall_mem_cons.mpr ⟨np_S.mono (op := np_ret X.2.2.1) (np_s_ret hX dX3_printSlot_209) (nq_ret_le hR), List.forall_mem_cons.mpr ⟨np_s_aload_n hX dX3_printSlot_210 rfl, List.forall_mem_cons.mpr ⟨np_s_iload hX dX3_printSlot_211, List.forall_mem_cons.mpr ⟨np_s_iload hX dX3_printSlot_213, List.forall_mem_cons.mpr ⟨np_S.mono (op := np_callV 3 3 sp_X3_writeBits 4 0 0 0 0) (np_s_callV hX C_X3_writeBits dX3_printSlot_215 (q := (RX3, TX3, 3)) rfl rfl gw866 gw65 gw863 gw865 gw12 ⟨by decide, by decide, by decide⟩ (by decide) (by decide)) nw_callV_le, List.forall_mem_cons.mpr ⟨np_S.mono (op := np_ret X.2.2.1) (np_s_ret hX dX3_printSlot_218) (nq_ret_le hR), List.forall_mem_cons.mpr ⟨np_s_iload hX dX3_printSlot_219, List.forall_mem_cons.mpr ⟨np_s_iconst hX dX3_printSlot_221 (by decide), List.forall_mem_cons.mpr ⟨np_s_iconst hX dX3_printSlot_222 (by decide), List.forall_mem_cons.mpr ⟨np_S.mono (op := np_call 3 sp_X11_isBetween 3 0 0 0 0) (np_s_callSN hX C_X11_isBetween dX3_printSlot_223 gw589 gw63 gw867 gw588 ⟨by decide, by decide, by decide⟩ (by decide) (by decide)) nq_call_le, List.forall_mem_cons.mpr ⟨np_S.mono (op := np_if (fun x => x = 0) 245) (np_s_if_eq hX dX3_printSlot_226 (by decide)) nq_if_le, List.forall_mem_cons.mpr ⟨np_s_aload_n hX dX3_printSlot_229 rfl, List.forall_mem_cons.mpr ⟨np_s_bipush hX dX3_printSlot_230 (by decide), List.forall_mem_cons.mpr ⟨np_s_iload hX dX3_printSlot_232, List.forall_mem_cons.mpr ⟨np_s_iadd hX dX3_printSlot_234, List.forall_mem_cons.mpr ⟨np_S.mono (op := np_callV 3 2 sp_X3_write 2 0 0 0 0) (np_s_callV hX C_X3_write dX3_printSlot_235 (q := (RX3, TX3, 3)) rfl rfl gw836 gw65 gw833 gw835 gw9 ⟨by decide, by decide, by decide⟩ (by decide) (by decide)) nw_callV_le, List.forall_mem_cons.mpr ⟨np_S.mono (op := np_if (fun x => x = 0) 245) (np_s_if_eq hX dX3_printSlot_238 (by decide)) nq_if_le, List.forall_mem_cons.mpr ⟨np_s_iconst hX dX3_printSlot_241 (by decide), List.forall_mem_cons.mpr ⟨np_s_goto hX dX3_printSlot_242 (by decide), List.forall_mem_cons.mpr ⟨np_s_iconst hX dX3_printSlot_245 (by decide), List.forall_mem_cons.mpr ⟨np_S.mono (op := np_ret X.2.2.1) (np_s_ret hX dX3_printSlot_246) (nq_ret_le hR), List.forall_mem_cons.mpr ⟨np_s_iconst hX dX3_printSlot_247 (by decide), List.forall_mem_cons.mpr ⟨np_S.mono (op := np_ret X.2.2.1) (np_s_ret hX dX3_printSlot_248) (nq_ret_le hR), fun _ h => nomatch h⟩⟩⟩⟩⟩⟩⟩⟩⟩⟩⟩⟩⟩⟩⟩⟩⟩⟩⟩⟩⟩⟩⟩⟩⟩⟩⟩⟩⟩⟩⟩⟩⟩⟩⟩⟩⟩⟩⟩⟩⟩⟩⟩⟩⟩⟩⟩⟩⟩⟩⟩⟩⟩⟩⟩⟩⟩⟩⟩⟩⟩⟩⟩⟩⟩⟩⟩⟩⟩⟩⟩⟩⟩⟩⟩⟩⟩⟩⟩⟩⟩⟩⟩⟩⟩⟩⟩⟩⟩⟩⟩⟩⟩⟩⟩⟩⟩⟩⟩⟩⟩⟩⟩⟩⟩⟩
noncomputable def m_X3_printSlot (S : pw_S) (i0 : Nat) (i1 : Nat) (a2 : Nat) (i2 : Nat) : pw_R Int32 :=
 pw_b (m_X2_a S i1 (S 50 408 2)) fun S1 r4 =>
 pw_l (r4 : Int32) fun z6 =>
 pw_b (m_X11_cellPlace S1 z6 (S1 50 408 5)) fun S7 r10 =>
 pw_b (m_X11_at S7 a2 i2 r10 (-2147483648)) fun S12 r15 =>
 pw_l (r15 : Int32) fun z17 =>
 if z17 = (-2147483648) then
 (some (S12, 0))
 else
 (pw_b (m_X8_begin S12 408 z6) fun S18 r21 =>
 pw_b (m_X8_keep S18 408 z6 z17) fun S23 r26 =>
 pw_b (m_X2_b S23 i1 (S23 50 408 2)) fun S28 r31 =>
 pw_l (r31 : Int32) fun z33 =>
 pw_b (m_X2_c S28 i1 (S28 50 408 2)) fun S34 r37 =>
 pw_l (r37 : Int32) fun z39 =>
 pw_b (m_X2_kind S34 i1 (S34 50 408 2)) fun S40 r43 =>
 if (r43 : Int32).toInt = 0 then
 (pw_b (m_X3_writeNumber S40 i0 z17 z33 z39) fun S45 r48 =>
 pw_c (decide (r48 = 0) || decide (r48 = 1)) <|
 some (S45, r48))
 else if (r43 : Int32).toInt = (0 + 1) then
 (pw_b (m_X3_writeWord S40 i0 z17 z33) fun S51 r54 =>
 if r54 = 0 then
 (some (S51, 0))
 else
 (pw_b (m_X11_fillOfWord S51 z39) fun S56 r59 =>
 pw_b (m_X11_unitsOfWord S56 z17) fun S61 r64 =>
 pw_b (m_X3_writeFills S61 i0 r59 (z33 - r64)) fun S66 r69 =>
 if r69 = 0 then
 (some (S66, 0))
 else
 (some (S66, 1))))
 else if (r43 : Int32).toInt = ((0 + 1) + 1) then
 (pw_b (m_X3_writeWord S40 i0 z17 60) fun S71 r74 =>
 if r74 = 0 then
 (some (S71, 0))
 else
 (pw_b (m_X3_write S71 i0 z33) fun S76 r79 =>
 if r79 = 0 then
 (some (S76, 0))
 else
 (some (S76, 1))))
 else if (r43 : Int32).toInt = (((0 + 1) + 1) + 1) then
 (pw_b (m_X3_writeBits S40 i0 z17 z33) fun S81 r84 =>
 pw_c (decide (r84 = 0) || decide (r84 = 1)) <|
 some (S81, r84))
 else if (r43 : Int32).toInt = ((((0 + 1) + 1) + 1) + 1) then
 (some (S40, 0))
 else if (r43 : Int32).toInt = (((((0 + 1) + 1) + 1) + 1) + 1) then
 (some (S40, 0))
 else if (r43 : Int32).toInt = ((((((0 + 1) + 1) + 1) + 1) + 1) + 1) then
 (pw_b (m_X11_isBetween S40 z17 0 3) fun S87 r90 =>
 if r90 = 0 then
 (some (S87, 0))
 else
 (pw_b (m_X3_write S87 i0 (48 + z17)) fun S92 r95 =>
 if r95 = 0 then
 (some (S92, 0))
 else
 (some (S92, 1))))
 else 
 (some (S40, 0)))
def sp_X3_printSlot : np_Sp := fun vs w Q => ∃ (q : Nat) (S : pw_S) (i0 : Nat) (i1 : Nat) (a2 : Nat) (i2 : Nat), vs = [.ref (pw_pl 58 i0), .ref (pw_pl 51 i1), .ref (pw_pl a2 i2)] ∧ pw_ok q 58 i0 = true ∧ pw_ok q 51 i1 = true ∧ pw_arr a2 = true ∧ pw_ok q a2 i2 = true ∧ pw_W q w S ∧ pw_p (m_X3_printSlot S i0 i1 a2 i2) (fun S' r => ∀ f', pw_W q (w.1, f') S' → Q (some (.int r)) (w.1, f'))
set_option maxRecDepth 100000 in
set_option maxHeartbeats 8000000 in
theorem C_X3_printSlot : np_C yX3_printSlot cX3_printSlot 7 (some .boolean) 4 88 0 0 sp_X3_printSlot := by
  refine np_of (by decide) ?_
  intro X vs w Q hsp hX hmn hRt hlt
  obtain ⟨q, S, i0, i1, a2, i2, rfl, hi0, hi1, ha2, hi2, hW, h⟩ := hsp
  obtain ⟨n, f⟩ := w
  unfold m_X3_printSlot at h
  have hR : ∀ st w ce sl, np_rt (some .boolean) 0 0 Q st w ce sl → X.2.2.1 st w ce sl := fun _ _ _ _ h => by rw [hRt]; exact h
  refine np_soundW (so_X3_printSlot hX hR) [] 400 0 _ _ _ _ _ ?_
  conv => whnf
  refine np_rd_i (hW.g hi0) ?_
  conv => whnf
  refine np_rd_i (hW.g rfl) ?_
  conv => whnf
  refine np_rd_i (hW.g hi1) ?_
  conv => whnf
  refine ⟨q, S, i1, (S 50 408 2), rfl, hi1, hW, pw_bd h (fun S1 r4 h f2 hW3 => ?_)⟩
  conv => whnf
  refine pw_st h (fun z6 h => ?_)
  conv => whnf
  refine np_rd_i (hW3.g hi0) ?_
  conv => whnf
  refine np_rd_i (hW3.g rfl) ?_
  conv => whnf
  refine ⟨q, S1, z6, (S1 50 408 5), rfl, hW3, pw_bd h (fun S7 r10 h f8 hW9 => ?_)⟩
  conv => whnf
  refine ⟨q, S7, a2, i2, r10, (-2147483648), rfl, ha2, hi2, hW9, pw_bd h (fun S12 r15 h f13 hW14 => ?_)⟩
  conv => whnf
  refine pw_st h (fun z17 h => ?_)
  conv => whnf
  refine pw_br h (fun _ h => ?_) (fun _ h => ?_)
  · conv => whnf
    exact ⟨Nat.le_of_ble_eq_true rfl, Nat.le_of_ble_eq_true rfl, ⟨_, rfl, by decide⟩, _, fun _ _ h9 => h9, pw_ps h _ hW14⟩
  · conv => whnf
    refine np_rd_i (hW14.g hi0) ?_
    conv => whnf
    refine np_rd_i (hW14.g rfl) ?_
    conv => whnf
    refine ⟨q, S12, 408, z6, rfl, rfl, hW14, pw_bd h (fun S18 r21 h f19 hW20 => ?_)⟩
    conv => whnf
    refine np_rd_i (hW20.g hi0) ?_
    conv => whnf
    refine np_rd_i (hW20.g rfl) ?_
    conv => whnf
    refine ⟨q, S18, 408, z6, z17, rfl, rfl, hW20, pw_bd h (fun S23 r26 h f24 hW25 => ?_)⟩
    conv => whnf
    refine np_rd_i (hW25.g hi0) ?_
    conv => whnf
    refine np_rd_i (hW25.g rfl) ?_
    conv => whnf
    refine np_rd_i (hW25.g hi1) ?_
    conv => whnf
    refine ⟨q, S23, i1, (S23 50 408 2), rfl, hi1, hW25, pw_bd h (fun S28 r31 h f29 hW30 => ?_)⟩
    conv => whnf
    refine pw_st h (fun z33 h => ?_)
    conv => whnf
    refine np_rd_i (hW30.g hi0) ?_
    conv => whnf
    refine np_rd_i (hW30.g rfl) ?_
    conv => whnf
    refine np_rd_i (hW30.g hi1) ?_
    conv => whnf
    refine ⟨q, S28, i1, (S28 50 408 2), rfl, hi1, hW30, pw_bd h (fun S34 r37 h f35 hW36 => ?_)⟩
    conv => whnf
    refine pw_st h (fun z39 h => ?_)
    conv => whnf
    refine np_rd_i (hW36.g hi0) ?_
    conv => whnf
    refine np_rd_i (hW36.g rfl) ?_
    conv => whnf
    refine np_rd_i (hW36.g hi1) ?_
    conv => whnf
    refine ⟨q, S34, i1, (S34 50 408 2), rfl, hi1, hW36, pw_bd h (fun S40 r43 h f41 hW42 => ?_)⟩
    conv => whnf
    refine pw_br h (fun _ h => ?_) (fun _ h => ?_)
    · conv => whnf
      refine np_rd_i (hW42.g hi0) ?_
      conv => whnf
      refine ⟨q, S40, i0, z17, z33, z39, rfl, hi0, hW42, pw_bd h (fun S45 r48 h f46 hW47 => ?_)⟩
      conv => whnf
      obtain ⟨hb50, h⟩ := pw_ck1 h
      conv => whnf
      exact ⟨Nat.le_of_ble_eq_true rfl, Nat.le_of_ble_eq_true rfl, ⟨_, rfl, pw_nz hb50⟩, _, fun _ _ h9 => h9, pw_ps h _ hW47⟩
    conv => whnf
    refine pw_br h (fun _ h => ?_) (fun _ h => ?_)
    · conv => whnf
      refine np_rd_i (hW42.g hi0) ?_
      conv => whnf
      refine ⟨q, S40, i0, z17, z33, rfl, hi0, hW42, pw_bd h (fun S51 r54 h f52 hW53 => ?_)⟩
      conv => whnf
      refine pw_br h (fun _ h => ?_) (fun _ h => ?_)
      · conv => whnf
        exact ⟨Nat.le_of_ble_eq_true rfl, Nat.le_of_ble_eq_true rfl, ⟨_, rfl, by decide⟩, _, fun _ _ h9 => h9, pw_ps h _ hW53⟩
      · conv => whnf
        refine ⟨q, S51, z39, rfl, hW53, pw_bd h (fun S56 r59 h f57 hW58 => ?_)⟩
        conv => whnf
        refine ⟨q, S56, z17, rfl, hW58, pw_bd h (fun S61 r64 h f62 hW63 => ?_)⟩
        conv => whnf
        refine np_rd_i (hW63.g hi0) ?_
        conv => whnf
        refine ⟨q, S61, i0, r59, (z33 - r64), rfl, hi0, hW63, pw_bd h (fun S66 r69 h f67 hW68 => ?_)⟩
        conv => whnf
        refine pw_br h (fun _ h => ?_) (fun _ h => ?_)
        · conv => whnf
          exact ⟨Nat.le_of_ble_eq_true rfl, Nat.le_of_ble_eq_true rfl, ⟨_, rfl, by decide⟩, _, fun _ _ h9 => h9, pw_ps h _ hW68⟩
        · conv => whnf
          exact ⟨Nat.le_of_ble_eq_true rfl, Nat.le_of_ble_eq_true rfl, ⟨_, rfl, by decide⟩, _, fun _ _ h9 => h9, pw_ps h _ hW68⟩
    conv => whnf
    refine pw_br h (fun _ h => ?_) (fun _ h => ?_)
    · conv => whnf
      refine np_rd_i (hW42.g hi0) ?_
      conv => whnf
      refine ⟨q, S40, i0, z17, 60, rfl, hi0, hW42, pw_bd h (fun S71 r74 h f72 hW73 => ?_)⟩
      conv => whnf
      refine pw_br h (fun _ h => ?_) (fun _ h => ?_)
      · conv => whnf
        exact ⟨Nat.le_of_ble_eq_true rfl, Nat.le_of_ble_eq_true rfl, ⟨_, rfl, by decide⟩, _, fun _ _ h9 => h9, pw_ps h _ hW73⟩
      · conv => whnf
        refine np_rd_i (hW73.g hi0) ?_
        conv => whnf
        refine ⟨q, S71, i0, z33, rfl, hi0, hW73, pw_bd h (fun S76 r79 h f77 hW78 => ?_)⟩
        conv => whnf
        refine pw_br h (fun _ h => ?_) (fun _ h => ?_)
        · conv => whnf
          exact ⟨Nat.le_of_ble_eq_true rfl, Nat.le_of_ble_eq_true rfl, ⟨_, rfl, by decide⟩, _, fun _ _ h9 => h9, pw_ps h _ hW78⟩
        · conv => whnf
          exact ⟨Nat.le_of_ble_eq_true rfl, Nat.le_of_ble_eq_true rfl, ⟨_, rfl, by decide⟩, _, fun _ _ h9 => h9, pw_ps h _ hW78⟩
    conv => whnf
    refine pw_br h (fun _ h => ?_) (fun _ h => ?_)
    · conv => whnf
      refine np_rd_i (hW42.g hi0) ?_
      conv => whnf
      refine ⟨q, S40, i0, z17, z33, rfl, hi0, hW42, pw_bd h (fun S81 r84 h f82 hW83 => ?_)⟩
      conv => whnf
      obtain ⟨hb86, h⟩ := pw_ck1 h
      conv => whnf
      exact ⟨Nat.le_of_ble_eq_true rfl, Nat.le_of_ble_eq_true rfl, ⟨_, rfl, pw_nz hb86⟩, _, fun _ _ h9 => h9, pw_ps h _ hW83⟩
    conv => whnf
    refine pw_br h (fun _ h => ?_) (fun _ h => ?_)
    · conv => whnf
      exact ⟨Nat.le_of_ble_eq_true rfl, Nat.le_of_ble_eq_true rfl, ⟨_, rfl, by decide⟩, _, fun _ _ h9 => h9, pw_ps h _ hW42⟩
    conv => whnf
    refine pw_br h (fun _ h => ?_) (fun _ h => ?_)
    · conv => whnf
      exact ⟨Nat.le_of_ble_eq_true rfl, Nat.le_of_ble_eq_true rfl, ⟨_, rfl, by decide⟩, _, fun _ _ h9 => h9, pw_ps h _ hW42⟩
    conv => whnf
    refine pw_br h (fun _ h => ?_) (fun _ h => ?_)
    · conv => whnf
      refine ⟨q, S40, z17, 0, 3, rfl, hW42, pw_bd h (fun S87 r90 h f88 hW89 => ?_)⟩
      conv => whnf
      refine pw_br h (fun _ h => ?_) (fun _ h => ?_)
      · conv => whnf
        exact ⟨Nat.le_of_ble_eq_true rfl, Nat.le_of_ble_eq_true rfl, ⟨_, rfl, by decide⟩, _, fun _ _ h9 => h9, pw_ps h _ hW89⟩
      · conv => whnf
        refine np_rd_i (hW89.g hi0) ?_
        conv => whnf
        refine ⟨q, S87, i0, (48 + z17), rfl, hi0, hW89, pw_bd h (fun S92 r95 h f93 hW94 => ?_)⟩
        conv => whnf
        refine pw_br h (fun _ h => ?_) (fun _ h => ?_)
        · conv => whnf
          exact ⟨Nat.le_of_ble_eq_true rfl, Nat.le_of_ble_eq_true rfl, ⟨_, rfl, by decide⟩, _, fun _ _ h9 => h9, pw_ps h _ hW94⟩
        · conv => whnf
          exact ⟨Nat.le_of_ble_eq_true rfl, Nat.le_of_ble_eq_true rfl, ⟨_, rfl, by decide⟩, _, fun _ _ h9 => h9, pw_ps h _ hW94⟩
    conv => whnf
    exact ⟨Nat.le_of_ble_eq_true rfl, Nat.le_of_ble_eq_true rfl, ⟨_, rfl, by decide⟩, _, fun _ _ h9 => h9, pw_ps h _ hW42⟩
