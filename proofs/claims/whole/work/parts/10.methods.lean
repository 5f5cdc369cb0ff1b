/-! the methods' instructions, by program out of the claim's bytecode -/
def RJ6 : String := "java/lang/Integer"
def RJ9 : String := "java/lang/Math"
def RJ0 : String := "java/lang/String"
def RJ7 : String := "java/util/Arrays"
abbrev cJ6_bitCount_0f7a4 : ByteArray := prog_15_method_49_code
def yJ6_bitCount_0f7a4 : MethodName := ⟨RJ6, "bitCount", "(I)I"⟩
abbrev cJ9_max_7cf53 : ByteArray := prog_16_method_65_code
def yJ9_max_7cf53 : MethodName := ⟨RJ9, "max", "(II)I"⟩
abbrev cJ9_min_7cf53 : ByteArray := prog_16_method_69_code
def yJ9_min_7cf53 : MethodName := ⟨RJ9, "min", "(II)I"⟩
abbrev cJ0_length_8abf5 : ByteArray := prog_17_method_54_code
def yJ0_length_8abf5 : MethodName := ⟨RJ0, "length", "()I"⟩
abbrev cJ0_charAt_5068e : ByteArray := prog_17_method_56_code
def yJ0_charAt_5068e : MethodName := ⟨RJ0, "charAt", "(I)C"⟩
abbrev cJ7_fill_53178 : ByteArray := prog_21_method_103_code
def yJ7_fill_53178 : MethodName := ⟨RJ7, "fill", "([II)V"⟩
def mi_X0_init : am_MI := (yX0_init, cX0_init, 2, none, [
  some (.aload_n 0, 1, 0, 0, 0, 0), some (.invokespecial 3, 3, 0, 0, 2, 0), none, none, some (.aload_n 0, 1, 0, 0, 0, 0), some (.bipush 8, 2, 0, 0, 0, 8),
  none, some (.newarray .int, 2, 0, 0, 0, 0), none, some (.putfield 9, 3, 0, 0, 0, 0), none, none,
  some (.aload_n 0, 1, 0, 0, 0, 0), some (.bipush 120, 2, 0, 0, 0, 120), none, some (.newarray .byte, 2, 1, 0, 0, 0), none, some (.putfield 15, 3, 0, 1, 0, 0),
  none, none, some (.aload_n 0, 1, 0, 0, 0, 0), some (.bipush 20, 2, 0, 0, 0, 20), none, some (.anewarray 19, 3, 3, 0, 0, 0),
  none, none, some (.putfield 21, 3, 0, 2, 0, 0), none, none, some (.aload_n 0, 1, 0, 0, 0, 0),
  some (.bipush 12, 2, 0, 0, 0, 12), none, some (.newarray .int, 2, 0, 0, 0, 0), none, some (.putfield 25, 3, 0, 3, 0, 0), none,
  none, some (.aload_n 0, 1, 0, 0, 0, 0), some (.bipush 12, 2, 0, 0, 0, 12), none, some (.newarray .int, 2, 0, 0, 0, 0), none,
  some (.putfield 28, 3, 0, 4, 0, 0), none, none, some (.aload_n 0, 1, 0, 0, 0, 0), some (.bipush 20, 2, 0, 0, 0, 20), none,
  some (.newarray .int, 2, 0, 0, 0, 0), none, some (.putfield 31, 3, 0, 5, 0, 0), none, none, some (.aload_n 0, 1, 0, 0, 0, 0),
  some (.bipush 20, 2, 0, 0, 0, 20), none, some (.newarray .int, 2, 0, 0, 0, 0), none, some (.putfield 34, 3, 0, 6, 0, 0), none,
  none, some (.aload_n 0, 1, 0, 0, 0, 0), some (.iconst 0, 1, 0, 0, 0, 0), some (.putfield 37, 3, 0, 7, 0, 0), none, none,
  some (.aload_n 0, 1, 0, 0, 0, 0), some (.bipush 12, 2, 0, 0, 0, 12), none, some (.newarray .int, 2, 0, 0, 0, 0), none, some (.putfield 41, 3, 0, 8, 0, 0),
  none, none, some (.aload_n 0, 1, 0, 0, 0, 0), some (.bipush 12, 2, 0, 0, 0, 12), none, some (.newarray .int, 2, 0, 0, 0, 0),
  none, some (.putfield 44, 3, 0, 9, 0, 0), none, none, some (.aload_n 0, 1, 0, 0, 0, 0), some (.sipush 864, 3, 0, 0, 0, 864),
  none, none, some (.newarray .int, 2, 0, 0, 0, 0), none, some (.putfield 47, 3, 0, 10, 0, 0), none,
  none, some (.aload_n 0, 1, 0, 0, 0, 0), some (.bipush 10, 2, 0, 0, 0, 10), none, some (.newarray .int, 2, 0, 0, 0, 0), none,
  some (.putfield 50, 3, 0, 11, 0, 0), none, none, some (.aload_n 0, 1, 0, 0, 0, 0), some (.bipush 10, 2, 0, 0, 0, 10), none,
  some (.newarray .int, 2, 0, 0, 0, 0), none, some (.putfield 53, 3, 0, 12, 0, 0), none, none, some (.aload_n 0, 1, 0, 0, 0, 0),
  some (.bipush 10, 2, 0, 0, 0, 10), none, some (.newarray .int, 2, 0, 0, 0, 0), none, some (.putfield 56, 3, 0, 13, 0, 0), none,
  none, some (.aload_n 0, 1, 0, 0, 0, 0), some (.bipush 6, 2, 0, 0, 0, 6), none, some (.newarray .int, 2, 0, 0, 0, 0), none,
  some (.putfield 59, 3, 0, 14, 0, 0), none, none, some (.aload_n 0, 1, 0, 0, 0, 0), some (.sipush 720, 3, 0, 0, 0, 720), none,
  none, some (.newarray .byte, 2, 1, 0, 0, 0), none, some (.putfield 62, 3, 0, 15, 0, 0), none, none,
  some (.aload_n 0, 1, 0, 0, 0, 0), some (.sipush 750, 3, 0, 0, 0, 750), none, none, some (.newarray .boolean, 2, 2, 0, 0, 0), none,
  some (.putfield 65, 3, 0, 16, 0, 0), none, none, some (.aload_n 0, 1, 0, 0, 0, 0), some (.iconst 0, 1, 0, 0, 0, 0), some (.putfield 69, 3, 0, 17, 0, 0),
  none, none, some (.iconst 0, 1, 0, 0, 0, 0), some (.istore_n 1, 1, 1, 0, 0, 0), some (.iload_n 1, 1, 1, 0, 0, 0), some (.aload_n 0, 1, 0, 0, 0, 0),
  some (.getfield 21, 3, 0, 2, 0, 0), none, none, some (.arraylength, 1, 3, 0, 1, 0), some (.if_icmp .ge 22, 3, 176, 0, 0, 0), none,
  none, some (.aload_n 0, 1, 0, 0, 0, 0), some (.getfield 21, 3, 0, 2, 0, 0), none, none, some (.iload_n 1, 1, 1, 0, 0, 0),
  some (.new 19, 3, 10, 0, 0, 0), none, none, some (.dup, 1, 0, 0, 0, 0), some (.invokespecial 73, 3, 68, 0, 1, 0), none,
  none, some (.aastore, 1, 3, 0, 0, 0), some (.iinc 1 1, 3, 1, 0, 0, 1), none, none, some (.goto (-25), 3, 148, 0, 0, 0),
  none, none, some (.return_, 1, 0, 0, 0, 0)
  ])
def mi_X0_become : am_MI := (yX0_become, cX0_become, 3, none, [
  some (.aload_n 1, 1, 1, 0, 0, 0), some (.getfield 9, 3, 0, 0, 0, 0), none, none, some (.iconst 0, 1, 0, 0, 0, 0), some (.aload_n 0, 1, 0, 0, 0, 0),
  some (.getfield 9, 3, 0, 0, 0, 0), none, none, some (.iconst 0, 1, 0, 0, 0, 0), some (.aload_n 0, 1, 0, 0, 0, 0), some (.getfield 9, 3, 0, 0, 0, 0),
  none, none, some (.arraylength, 1, 0, 0, 0, 0), some (.invokestatic 74, 3, 0, 0, 2, 0), none, none,
  some (.aload_n 1, 1, 1, 0, 0, 0), some (.getfield 15, 3, 0, 1, 0, 0), none, none, some (.iconst 0, 1, 0, 0, 0, 0), some (.aload_n 0, 1, 0, 0, 0, 0),
  some (.getfield 15, 3, 0, 1, 0, 0), none, none, some (.iconst 0, 1, 0, 0, 0, 0), some (.aload_n 0, 1, 0, 0, 0, 0), some (.getfield 15, 3, 0, 1, 0, 0),
  none, none, some (.arraylength, 1, 1, 0, 0, 0), some (.invokestatic 74, 3, 1, 0, 2, 0), none, none,
  some (.iconst 0, 1, 0, 0, 0, 0), some (.istore_n 2, 1, 2, 0, 0, 0), some (.iload_n 2, 1, 2, 0, 0, 0), some (.aload_n 0, 1, 0, 0, 0, 0), some (.getfield 21, 3, 0, 2, 0, 0), none,
  none, some (.arraylength, 1, 3, 0, 1, 0), some (.if_icmp .ge 24, 3, 68, 0, 0, 0), none, none, some (.aload_n 0, 1, 0, 0, 0, 0),
  some (.getfield 21, 3, 0, 2, 0, 0), none, none, some (.iload_n 2, 1, 2, 0, 0, 0), some (.aaload, 1, 3, 0, 0, 0), some (.aload_n 1, 1, 1, 0, 0, 0),
  some (.getfield 21, 3, 0, 2, 0, 0), none, none, some (.iload_n 2, 1, 2, 0, 0, 0), some (.aaload, 1, 3, 0, 0, 0), some (.invokevirtual 80, 3, 74, 1, 1, 10),
  none, none, some (.iinc 2 1, 3, 2, 0, 0, 1), none, none, some (.goto (-27), 3, 38, 0, 0, 0),
  none, none, some (.aload_n 1, 1, 1, 0, 0, 0), some (.getfield 25, 3, 0, 3, 0, 0), none, none,
  some (.iconst 0, 1, 0, 0, 0, 0), some (.aload_n 0, 1, 0, 0, 0, 0), some (.getfield 25, 3, 0, 3, 0, 0), none, none, some (.iconst 0, 1, 0, 0, 0, 0),
  some (.aload_n 0, 1, 0, 0, 0, 0), some (.getfield 25, 3, 0, 3, 0, 0), none, none, some (.arraylength, 1, 0, 0, 0, 0), some (.invokestatic 74, 3, 0, 0, 2, 0),
  none, none, some (.aload_n 1, 1, 1, 0, 0, 0), some (.getfield 28, 3, 0, 4, 0, 0), none, none,
  some (.iconst 0, 1, 0, 0, 0, 0), some (.aload_n 0, 1, 0, 0, 0, 0), some (.getfield 28, 3, 0, 4, 0, 0), none, none, some (.iconst 0, 1, 0, 0, 0, 0),
  some (.aload_n 0, 1, 0, 0, 0, 0), some (.getfield 28, 3, 0, 4, 0, 0), none, none, some (.arraylength, 1, 0, 0, 0, 0), some (.invokestatic 74, 3, 0, 0, 2, 0),
  none, none, some (.aload_n 1, 1, 1, 0, 0, 0), some (.getfield 31, 3, 0, 5, 0, 0), none, none,
  some (.iconst 0, 1, 0, 0, 0, 0), some (.aload_n 0, 1, 0, 0, 0, 0), some (.getfield 31, 3, 0, 5, 0, 0), none, none, some (.iconst 0, 1, 0, 0, 0, 0),
  some (.aload_n 0, 1, 0, 0, 0, 0), some (.getfield 31, 3, 0, 5, 0, 0), none, none, some (.arraylength, 1, 0, 0, 0, 0), some (.invokestatic 74, 3, 0, 0, 2, 0),
  none, none, some (.aload_n 1, 1, 1, 0, 0, 0), some (.getfield 34, 3, 0, 6, 0, 0), none, none,
  some (.iconst 0, 1, 0, 0, 0, 0), some (.aload_n 0, 1, 0, 0, 0, 0), some (.getfield 34, 3, 0, 6, 0, 0), none, none, some (.iconst 0, 1, 0, 0, 0, 0),
  some (.aload_n 0, 1, 0, 0, 0, 0), some (.getfield 34, 3, 0, 6, 0, 0), none, none, some (.arraylength, 1, 0, 0, 0, 0), some (.invokestatic 74, 3, 0, 0, 2, 0),
  none, none, some (.aload_n 0, 1, 0, 0, 0, 0), some (.aload_n 1, 1, 1, 0, 0, 0), some (.getfield 37, 3, 0, 7, 0, 0), none,
  none, some (.putfield 37, 3, 0, 7, 0, 0), none, none, some (.aload_n 1, 1, 1, 0, 0, 0), some (.getfield 41, 3, 0, 8, 0, 0),
  none, none, some (.iconst 0, 1, 0, 0, 0, 0), some (.aload_n 0, 1, 0, 0, 0, 0), some (.getfield 41, 3, 0, 8, 0, 0), none,
  none, some (.iconst 0, 1, 0, 0, 0, 0), some (.aload_n 0, 1, 0, 0, 0, 0), some (.getfield 41, 3, 0, 8, 0, 0), none, none,
  some (.arraylength, 1, 0, 0, 0, 0), some (.invokestatic 74, 3, 0, 0, 2, 0), none, none, some (.aload_n 1, 1, 1, 0, 0, 0), some (.getfield 44, 3, 0, 9, 0, 0),
  none, none, some (.iconst 0, 1, 0, 0, 0, 0), some (.aload_n 0, 1, 0, 0, 0, 0), some (.getfield 44, 3, 0, 9, 0, 0), none,
  none, some (.iconst 0, 1, 0, 0, 0, 0), some (.aload_n 0, 1, 0, 0, 0, 0), some (.getfield 44, 3, 0, 9, 0, 0), none, none,
  some (.arraylength, 1, 0, 0, 0, 0), some (.invokestatic 74, 3, 0, 0, 2, 0), none, none, some (.aload_n 1, 1, 1, 0, 0, 0), some (.getfield 47, 3, 0, 10, 0, 0),
  none, none, some (.iconst 0, 1, 0, 0, 0, 0), some (.aload_n 0, 1, 0, 0, 0, 0), some (.getfield 47, 3, 0, 10, 0, 0), none,
  none, some (.iconst 0, 1, 0, 0, 0, 0), some (.aload_n 0, 1, 0, 0, 0, 0), some (.getfield 47, 3, 0, 10, 0, 0), none, none,
  some (.arraylength, 1, 0, 0, 0, 0), some (.invokestatic 74, 3, 0, 0, 2, 0), none, none, some (.aload_n 1, 1, 1, 0, 0, 0), some (.getfield 50, 3, 0, 11, 0, 0),
  none, none, some (.iconst 0, 1, 0, 0, 0, 0), some (.aload_n 0, 1, 0, 0, 0, 0), some (.getfield 50, 3, 0, 11, 0, 0), none,
  none, some (.iconst 0, 1, 0, 0, 0, 0), some (.aload_n 0, 1, 0, 0, 0, 0), some (.getfield 50, 3, 0, 11, 0, 0), none, none,
  some (.arraylength, 1, 0, 0, 0, 0), some (.invokestatic 74, 3, 0, 0, 2, 0), none, none, some (.aload_n 1, 1, 1, 0, 0, 0), some (.getfield 53, 3, 0, 12, 0, 0),
  none, none, some (.iconst 0, 1, 0, 0, 0, 0), some (.aload_n 0, 1, 0, 0, 0, 0), some (.getfield 53, 3, 0, 12, 0, 0), none,
  none, some (.iconst 0, 1, 0, 0, 0, 0), some (.aload_n 0, 1, 0, 0, 0, 0), some (.getfield 53, 3, 0, 12, 0, 0), none, none,
  some (.arraylength, 1, 0, 0, 0, 0), some (.invokestatic 74, 3, 0, 0, 2, 0), none, none, some (.aload_n 1, 1, 1, 0, 0, 0), some (.getfield 56, 3, 0, 13, 0, 0),
  none, none, some (.iconst 0, 1, 0, 0, 0, 0), some (.aload_n 0, 1, 0, 0, 0, 0), some (.getfield 56, 3, 0, 13, 0, 0), none,
  none, some (.iconst 0, 1, 0, 0, 0, 0), some (.aload_n 0, 1, 0, 0, 0, 0), some (.getfield 56, 3, 0, 13, 0, 0), none, none,
  some (.arraylength, 1, 0, 0, 0, 0), some (.invokestatic 74, 3, 0, 0, 2, 0), none, none, some (.aload_n 1, 1, 1, 0, 0, 0), some (.getfield 59, 3, 0, 14, 0, 0),
  none, none, some (.iconst 0, 1, 0, 0, 0, 0), some (.aload_n 0, 1, 0, 0, 0, 0), some (.getfield 59, 3, 0, 14, 0, 0), none,
  none, some (.iconst 0, 1, 0, 0, 0, 0), some (.aload_n 0, 1, 0, 0, 0, 0), some (.getfield 59, 3, 0, 14, 0, 0), none, none,
  some (.arraylength, 1, 0, 0, 0, 0), some (.invokestatic 74, 3, 0, 0, 2, 0), none, none, some (.aload_n 1, 1, 1, 0, 0, 0), some (.getfield 62, 3, 0, 15, 0, 0),
  none, none, some (.iconst 0, 1, 0, 0, 0, 0), some (.aload_n 0, 1, 0, 0, 0, 0), some (.getfield 62, 3, 0, 15, 0, 0), none,
  none, some (.iconst 0, 1, 0, 0, 0, 0), some (.aload_n 0, 1, 0, 0, 0, 0), some (.getfield 62, 3, 0, 15, 0, 0), none, none,
  some (.arraylength, 1, 1, 0, 0, 0), some (.invokestatic 74, 3, 1, 0, 2, 0), none, none, some (.aload_n 1, 1, 1, 0, 0, 0), some (.getfield 65, 3, 0, 16, 0, 0),
  none, none, some (.iconst 0, 1, 0, 0, 0, 0), some (.aload_n 0, 1, 0, 0, 0, 0), some (.getfield 65, 3, 0, 16, 0, 0), none,
  none, some (.iconst 0, 1, 0, 0, 0, 0), some (.aload_n 0, 1, 0, 0, 0, 0), some (.getfield 65, 3, 0, 16, 0, 0), none, none,
  some (.arraylength, 1, 2, 0, 0, 0), some (.invokestatic 74, 3, 2, 0, 2, 0), none, none, some (.aload_n 0, 1, 0, 0, 0, 0), some (.aload_n 1, 1, 1, 0, 0, 0),
  some (.getfield 69, 3, 0, 17, 0, 0), none, none, some (.putfield 69, 3, 0, 17, 0, 0), none, none,
  some (.return_, 1, 0, 0, 0, 0)
  ])
def mi_X0_has : am_MI := (yX0_has, cX0_has, 3, (some FieldType.boolean), [
  some (.iload_n 2, 1, 2, 0, 0, 0), some (.ifCond .lt 17, 3, 18, 0, 0, 0), none, none, some (.iload_n 2, 1, 2, 0, 0, 0), some (.aload_n 0, 1, 0, 0, 0, 0),
  some (.getfield 9, 3, 0, 0, 0, 0), none, none, some (.iload_n 1, 1, 1, 0, 0, 0), some (.iaload, 1, 0, 0, 0, 0), some (.if_icmp .ge 7, 3, 18, 0, 0, 0),
  none, none, some (.iconst 1, 1, 0, 0, 0, 1), some (.goto 4, 3, 19, 0, 0, 0), none, none,
  some (.iconst 0, 1, 0, 0, 0, 0), some (.ireturn, 1, 0, 0, 0, 0)
  ])
def mi_X0_hasStep : am_MI := (yX0_hasStep, cX0_hasStep, 3, (some FieldType.boolean), [
  some (.aload_n 0, 1, 0, 0, 0, 0), some (.iconst 4, 1, 0, 0, 0, 4), some (.iload_n 1, 1, 1, 0, 0, 0), some (.invokevirtual 84, 3, 2, 2, 0, 0), none, none,
  some (.ifCond .eq 21, 3, 27, 0, 0, 0), none, none, some (.iload_n 2, 1, 2, 0, 0, 0), some (.ifCond .lt 17, 3, 27, 0, 0, 0), none,
  none, some (.iload_n 2, 1, 2, 0, 0, 0), some (.aload_n 0, 1, 0, 0, 0, 0), some (.getfield 44, 3, 0, 9, 0, 0), none, none,
  some (.iload_n 1, 1, 1, 0, 0, 0), some (.iaload, 1, 0, 0, 0, 0), some (.if_icmp .ge 7, 3, 27, 0, 0, 0), none, none, some (.iconst 1, 1, 0, 0, 0, 1),
  some (.goto 4, 3, 28, 0, 0, 0), none, none, some (.iconst 0, 1, 0, 0, 0, 0), some (.ireturn, 1, 0, 0, 0, 0)
  ])
def mi_X0_isTrue : am_MI := (yX0_isTrue, cX0_isTrue, 2, (some FieldType.boolean), [
  some (.aload_n 0, 1, 0, 0, 0, 0), some (.iconst 3, 1, 0, 0, 0, 3), some (.iload_n 1, 1, 1, 0, 0, 0), some (.invokevirtual 84, 3, 2, 2, 0, 0), none, none,
  some (.ifCond .eq 18, 3, 24, 0, 0, 0), none, none, some (.aload_n 0, 1, 0, 0, 0, 0), some (.getfield 37, 3, 0, 7, 0, 0), none,
  none, some (.iload_n 1, 1, 1, 0, 0, 0), some (.ishr, 1, 0, 0, 0, 0), some (.iconst 1, 1, 0, 0, 0, 1), some (.iand, 1, 0, 0, 0, 0), some (.ifCond .eq 7, 3, 24, 0, 0, 0),
  none, none, some (.iconst 1, 1, 0, 0, 0, 1), some (.goto 4, 3, 25, 0, 0, 0), none, none,
  some (.iconst 0, 1, 0, 0, 0, 0), some (.ireturn, 1, 0, 0, 0, 0)
  ])
def mi_X0_changeOn : am_MI := (yX0_changeOn, cX0_changeOn, 6, (some FieldType.int), [
  some (.iconst (-1), 1, 0, 0, 0, -1), some (.istore_n 3, 1, 3, 0, 0, 0), some (.iconst 0, 1, 0, 0, 0, 0), some (.istore 4, 2, 4, 0, 0, 0), none, some (.iload 4, 2, 4, 0, 0, 0),
  none, some (.aload_n 0, 1, 0, 0, 0, 0), some (.getfield 9, 3, 0, 0, 0, 0), none, none, some (.iconst 2, 1, 0, 0, 0, 2),
  some (.iaload, 1, 0, 0, 0, 0), some (.if_icmp .ge 66, 3, 79, 0, 0, 0), none, none, some (.aload_n 0, 1, 0, 0, 0, 0), some (.getfield 25, 3, 0, 3, 0, 0),
  none, none, some (.iload 4, 2, 4, 0, 0, 0), none, some (.iaload, 1, 0, 0, 0, 0), some (.iload_n 1, 1, 1, 0, 0, 0),
  some (.if_icmp .ne 18, 3, 42, 0, 0, 0), none, none, some (.aload_n 0, 1, 0, 0, 0, 0), some (.getfield 28, 3, 0, 4, 0, 0), none,
  none, some (.iload 4, 2, 4, 0, 0, 0), none, some (.iaload, 1, 0, 0, 0, 0), some (.iload_n 2, 1, 2, 0, 0, 0), some (.if_icmp .gt 7, 3, 42, 0, 0, 0),
  none, none, some (.iconst 1, 1, 0, 0, 0, 1), some (.goto 4, 3, 43, 0, 0, 0), none, none,
  some (.iconst 0, 1, 0, 0, 0, 0), some (.istore 5, 2, 5, 0, 0, 0), none, some (.iload 5, 2, 5, 0, 0, 0), none, some (.ifCond .eq 26, 3, 73, 0, 0, 0),
  none, none, some (.iload_n 3, 1, 3, 0, 0, 0), some (.ifCond .lt 19, 3, 70, 0, 0, 0), none, none,
  some (.aload_n 0, 1, 0, 0, 0, 0), some (.getfield 28, 3, 0, 4, 0, 0), none, none, some (.iload 4, 2, 4, 0, 0, 0), none,
  some (.iaload, 1, 0, 0, 0, 0), some (.aload_n 0, 1, 0, 0, 0, 0), some (.getfield 28, 3, 0, 4, 0, 0), none, none, some (.iload_n 3, 1, 3, 0, 0, 0),
  some (.iaload, 1, 0, 0, 0, 0), some (.if_icmp .lt 6, 3, 73, 0, 0, 0), none, none, some (.iload 4, 2, 4, 0, 0, 0), none,
  some (.istore_n 3, 1, 3, 0, 0, 0), some (.iinc 4 1, 3, 4, 0, 0, 1), none, none, some (.goto (-71), 3, 5, 0, 0, 0), none,
  none, some (.iload_n 3, 1, 3, 0, 0, 0), some (.ireturn, 1, 0, 0, 0, 0)
  ])
def mi_X0_textOn : am_MI := (yX0_textOn, cX0_textOn, 4, (some (FieldType.object "DeedProofs$Text")), [
  some (.aload_n 0, 1, 0, 0, 0, 0), some (.iload_n 1, 1, 1, 0, 0, 0), some (.iload_n 2, 1, 2, 0, 0, 0), some (.invokevirtual 88, 3, 5, 2, 0, 0), none, none,
  some (.istore_n 3, 1, 3, 0, 0, 0), some (.iload_n 3, 1, 3, 0, 0, 0), some (.ifCond .ge 12, 3, 20, 0, 0, 0), none, none, some (.aload_n 0, 1, 0, 0, 0, 0),
  some (.getfield 21, 3, 0, 2, 0, 0), none, none, some (.iload_n 1, 1, 1, 0, 0, 0), some (.aaload, 1, 3, 0, 0, 0), some (.goto 12, 3, 29, 0, 0, 0),
  none, none, some (.aload_n 0, 1, 0, 0, 0, 0), some (.getfield 21, 3, 0, 2, 0, 0), none, none,
  some (.bipush 8, 2, 0, 0, 0, 8), none, some (.iload_n 3, 1, 3, 0, 0, 0), some (.iadd, 1, 0, 0, 0, 0), some (.aaload, 1, 3, 0, 0, 0), some (.areturn, 1, 0, 0, 0, 0)
  ])
def mi_X0_rowOf : am_MI := (yX0_rowOf, cX0_rowOf, 3, (some FieldType.int), [
  some (.iload_n 1, 1, 1, 0, 0, 0), some (.bipush 12, 2, 0, 0, 0, 12), none, some (.imul, 1, 0, 0, 0, 0), some (.iload_n 2, 1, 2, 0, 0, 0), some (.iadd, 1, 0, 0, 0, 0),
  some (.bipush 6, 2, 0, 0, 0, 6), none, some (.imul, 1, 0, 0, 0, 0), some (.ireturn, 1, 0, 0, 0, 0)
  ])
def mi_X0_takesHoles : am_MI := (yX0_takesHoles, cX0_takesHoles, 2, (some FieldType.boolean), [
  some (.aload_n 0, 1, 0, 0, 0, 0), some (.getfield 41, 3, 0, 8, 0, 0), none, none, some (.iload_n 1, 1, 1, 0, 0, 0), some (.iaload, 1, 0, 0, 0, 0),
  some (.iconst 1, 1, 0, 0, 0, 1), some (.if_icmp .eq 13, 3, 20, 0, 0, 0), none, none, some (.aload_n 0, 1, 0, 0, 0, 0), some (.getfield 41, 3, 0, 8, 0, 0),
  none, none, some (.iload_n 1, 1, 1, 0, 0, 0), some (.iaload, 1, 0, 0, 0, 0), some (.iconst 4, 1, 0, 0, 0, 4), some (.if_icmp .ne 7, 3, 24, 0, 0, 0),
  none, none, some (.iconst 1, 1, 0, 0, 0, 1), some (.goto 4, 3, 25, 0, 0, 0), none, none,
  some (.iconst 0, 1, 0, 0, 0, 0), some (.ireturn, 1, 0, 0, 0, 0)
  ])
def mi_X0_takesEnds : am_MI := (yX0_takesEnds, cX0_takesEnds, 2, (some FieldType.boolean), [
  some (.aload_n 0, 1, 0, 0, 0, 0), some (.getfield 41, 3, 0, 8, 0, 0), none, none, some (.iload_n 1, 1, 1, 0, 0, 0), some (.iaload, 1, 0, 0, 0, 0),
  some (.iconst 2, 1, 0, 0, 0, 2), some (.if_icmp .eq 13, 3, 20, 0, 0, 0), none, none, some (.aload_n 0, 1, 0, 0, 0, 0), some (.getfield 41, 3, 0, 8, 0, 0),
  none, none, some (.iload_n 1, 1, 1, 0, 0, 0), some (.iaload, 1, 0, 0, 0, 0), some (.iconst 3, 1, 0, 0, 0, 3), some (.if_icmp .ne 7, 3, 24, 0, 0, 0),
  none, none, some (.iconst 1, 1, 0, 0, 0, 1), some (.goto 4, 3, 25, 0, 0, 0), none, none,
  some (.iconst 0, 1, 0, 0, 0, 0), some (.ireturn, 1, 0, 0, 0, 0)
  ])
def mi_X0_endIn : am_MI := (yX0_endIn, cX0_endIn, 4, (some FieldType.int), [
  some (.iload_n 2, 1, 2, 0, 0, 0), some (.sipush 200, 3, 0, 0, 0, 200), none, none, some (.if_icmp .lt 16, 3, 20, 0, 0, 0), none,
  none, some (.iload_n 2, 1, 2, 0, 0, 0), some (.sipush 200, 3, 0, 0, 0, 200), none, none, some (.iload_n 1, 1, 1, 0, 0, 0),
  some (.iadd, 1, 0, 0, 0, 0), some (.if_icmp .ge 7, 3, 20, 0, 0, 0), none, none, some (.iconst 1, 1, 0, 0, 0, 1), some (.goto 4, 3, 21, 0, 0, 0),
  none, none, some (.iconst 0, 1, 0, 0, 0, 0), some (.istore_n 3, 1, 3, 0, 0, 0), some (.iload_n 3, 1, 3, 0, 0, 0), some (.ifCond .eq 19, 3, 42, 0, 0, 0),
  none, none, some (.aload_n 0, 1, 0, 0, 0, 0), some (.iload_n 1, 1, 1, 0, 0, 0), some (.invokevirtual 92, 3, 9, 1, 0, 0), none,
  none, some (.ifCond .eq 11, 3, 42, 0, 0, 0), none, none, some (.iload_n 2, 1, 2, 0, 0, 0), some (.sipush 200, 3, 0, 0, 0, 200),
  none, none, some (.isub, 1, 0, 0, 0, 0), some (.goto 4, 3, 43, 0, 0, 0), none, none,
  some (.iconst (-1), 1, 0, 0, 0, -1), some (.ireturn, 1, 0, 0, 0, 0)
  ])
def mi_X0_isTitled : am_MI := (yX0_isTitled, cX0_isTitled, 3, (some FieldType.boolean), [
  some (.iconst 0, 1, 0, 0, 0, 0), some (.istore_n 2, 1, 2, 0, 0, 0), some (.iload_n 2, 1, 2, 0, 0, 0), some (.aload_n 0, 1, 0, 0, 0, 0), some (.getfield 9, 3, 0, 0, 0, 0), none,
  none, some (.iconst 5, 1, 0, 0, 0, 5), some (.iaload, 1, 0, 0, 0, 0), some (.if_icmp .ge 21, 3, 30, 0, 0, 0), none, none,
  some (.aload_n 0, 1, 0, 0, 0, 0), some (.getfield 50, 3, 0, 11, 0, 0), none, none, some (.iload_n 2, 1, 2, 0, 0, 0), some (.iaload, 1, 0, 0, 0, 0),
  some (.iload_n 1, 1, 1, 0, 0, 0), some (.if_icmp .ne 5, 3, 24, 0, 0, 0), none, none, some (.iconst 1, 1, 0, 0, 0, 1), some (.ireturn, 1, 0, 0, 0, 0),
  some (.iinc 2 1, 3, 2, 0, 0, 1), none, none, some (.goto (-25), 3, 2, 0, 0, 0), none, none,
  some (.iconst 0, 1, 0, 0, 0, 0), some (.ireturn, 1, 0, 0, 0, 0)
  ])
def mi_X0_isTitleOf : am_MI := (yX0_isTitleOf, cX0_isTitleOf, 3, (some FieldType.boolean), [
  some (.iconst 0, 1, 0, 0, 0, 0), some (.istore_n 2, 1, 2, 0, 0, 0), some (.iload_n 2, 1, 2, 0, 0, 0), some (.aload_n 0, 1, 0, 0, 0, 0), some (.getfield 9, 3, 0, 0, 0, 0), none,
  none, some (.iconst 5, 1, 0, 0, 0, 5), some (.iaload, 1, 0, 0, 0, 0), some (.if_icmp .ge 21, 3, 30, 0, 0, 0), none, none,
  some (.aload_n 0, 1, 0, 0, 0, 0), some (.getfield 53, 3, 0, 12, 0, 0), none, none, some (.iload_n 2, 1, 2, 0, 0, 0), some (.iaload, 1, 0, 0, 0, 0),
  some (.iload_n 1, 1, 1, 0, 0, 0), some (.if_icmp .ne 5, 3, 24, 0, 0, 0), none, none, some (.iconst 1, 1, 0, 0, 0, 1), some (.ireturn, 1, 0, 0, 0, 0),
  some (.iinc 2 1, 3, 2, 0, 0, 1), none, none, some (.goto (-25), 3, 2, 0, 0, 0), none, none,
  some (.iconst 0, 1, 0, 0, 0, 0), some (.ireturn, 1, 0, 0, 0, 0)
  ])
def mi_X0_isUsed : am_MI := (yX0_isUsed, cX0_isUsed, 3, (some FieldType.boolean), [
  some (.iload_n 1, 1, 1, 0, 0, 0), some (.iconst 1, 1, 0, 0, 0, 1), some (.iadd, 1, 0, 0, 0, 0), some (.istore_n 2, 1, 2, 0, 0, 0), some (.iload_n 2, 1, 2, 0, 0, 0), some (.aload_n 0, 1, 0, 0, 0, 0),
  some (.getfield 9, 3, 0, 0, 0, 0), none, none, some (.iconst 4, 1, 0, 0, 0, 4), some (.iaload, 1, 0, 0, 0, 0), some (.if_icmp .ge 32, 3, 43, 0, 0, 0),
  none, none, some (.aload_n 0, 1, 0, 0, 0, 0), some (.iload_n 2, 1, 2, 0, 0, 0), some (.invokevirtual 92, 3, 9, 1, 0, 0), none,
  none, some (.ifCond .eq 18, 3, 37, 0, 0, 0), none, none, some (.aload_n 0, 1, 0, 0, 0, 0), some (.iload_n 2, 1, 2, 0, 0, 0),
  some (.sipush 200, 3, 0, 0, 0, 200), none, none, some (.iload_n 1, 1, 1, 0, 0, 0), some (.iadd, 1, 0, 0, 0, 0), some (.invokevirtual 96, 3, 15, 2, 0, 0),
  none, none, some (.ifCond .le 5, 3, 37, 0, 0, 0), none, none, some (.iconst 1, 1, 0, 0, 0, 1),
  some (.ireturn, 1, 0, 0, 0, 0), some (.iinc 2 1, 3, 2, 0, 0, 1), none, none, some (.goto (-36), 3, 4, 0, 0, 0), none,
  none, some (.iconst 0, 1, 0, 0, 0, 0), some (.ireturn, 1, 0, 0, 0, 0)
  ])
def mi_X0_holesOf : am_MI := (yX0_holesOf, cX0_holesOf, 2, (some FieldType.int), [
  some (.aload_n 0, 1, 0, 0, 0, 0), some (.iload_n 1, 1, 1, 0, 0, 0), some (.invokevirtual 99, 3, 8, 1, 0, 0), none, none, some (.ifCond .eq 14, 3, 19, 0, 0, 0),
  none, none, some (.aload_n 0, 1, 0, 0, 0, 0), some (.iload_n 1, 1, 1, 0, 0, 0), some (.sipush 300, 3, 0, 0, 0, 300), none,
  none, some (.invokevirtual 96, 3, 15, 2, 0, 0), none, none, some (.goto 4, 3, 20, 0, 0, 0), none,
  none, some (.iconst 0, 1, 0, 0, 0, 0), some (.ireturn, 1, 0, 0, 0, 0)
  ])
def mi_X0_countSources : am_MI := (yX0_countSources, cX0_countSources, 7, (some FieldType.int), [
  some (.iconst 0, 1, 0, 0, 0, 0), some (.istore_n 3, 1, 3, 0, 0, 0), some (.iconst 0, 1, 0, 0, 0, 0), some (.istore 4, 2, 4, 0, 0, 0), none, some (.iload 4, 2, 4, 0, 0, 0),
  none, some (.aload_n 0, 1, 0, 0, 0, 0), some (.getfield 44, 3, 0, 9, 0, 0), none, none, some (.iload_n 1, 1, 1, 0, 0, 0),
  some (.iaload, 1, 0, 0, 0, 0), some (.if_icmp .ge 65, 3, 78, 0, 0, 0), none, none, some (.aload_n 0, 1, 0, 0, 0, 0), some (.iload_n 1, 1, 1, 0, 0, 0),
  some (.iload 4, 2, 4, 0, 0, 0), none, some (.invokevirtual 102, 3, 7, 2, 0, 0), none, none, some (.istore 5, 2, 5, 0, 0, 0),
  none, some (.iconst 0, 1, 0, 0, 0, 0), some (.istore 6, 2, 6, 0, 0, 0), none, some (.iload 6, 2, 6, 0, 0, 0), none,
  some (.aload_n 0, 1, 0, 0, 0, 0), some (.getfield 47, 3, 0, 10, 0, 0), none, none, some (.iload 5, 2, 5, 0, 0, 0), none,
  some (.iconst 2, 1, 0, 0, 0, 2), some (.iadd, 1, 0, 0, 0, 0), some (.iaload, 1, 0, 0, 0, 0), some (.if_icmp .ge 33, 3, 72, 0, 0, 0), none, none,
  some (.iload_n 3, 1, 3, 0, 0, 0), some (.aload_n 0, 1, 0, 0, 0, 0), some (.getfield 47, 3, 0, 10, 0, 0), none, none, some (.iload 5, 2, 5, 0, 0, 0),
  none, some (.iconst 3, 1, 0, 0, 0, 3), some (.iadd, 1, 0, 0, 0, 0), some (.iload 6, 2, 6, 0, 0, 0), none, some (.iadd, 1, 0, 0, 0, 0),
  some (.iaload, 1, 0, 0, 0, 0), some (.iload_n 2, 1, 2, 0, 0, 0), some (.if_icmp .ne 7, 3, 63, 0, 0, 0), none, none, some (.iconst 1, 1, 0, 0, 0, 1),
  some (.goto 4, 3, 64, 0, 0, 0), none, none, some (.iconst 0, 1, 0, 0, 0, 0), some (.iadd, 1, 0, 0, 0, 0), some (.istore_n 3, 1, 3, 0, 0, 0),
  some (.iinc 6 1, 3, 6, 0, 0, 1), none, none, some (.goto (-41), 3, 28, 0, 0, 0), none, none,
  some (.iinc 4 1, 3, 4, 0, 0, 1), none, none, some (.goto (-70), 3, 5, 0, 0, 0), none, none,
  some (.iload_n 3, 1, 3, 0, 0, 0), some (.ireturn, 1, 0, 0, 0, 0)
  ])
def mi_X0_placeOfHole : am_MI := (yX0_placeOfHole, cX0_placeOfHole, 8, (some FieldType.int), [
  some (.aload_n 0, 1, 0, 0, 0, 0), some (.iload_n 1, 1, 1, 0, 0, 0), some (.invokevirtual 99, 3, 8, 1, 0, 0), none, none, some (.ifCond .ne 5, 3, 10, 0, 0, 0),
  none, none, some (.iconst (-1), 1, 0, 0, 0, -1), some (.ireturn, 1, 0, 0, 0, 0), some (.iload_n 2, 1, 2, 0, 0, 0), some (.istore_n 3, 1, 3, 0, 0, 0),
  some (.iconst 0, 1, 0, 0, 0, 0), some (.istore 4, 2, 4, 0, 0, 0), none, some (.iload 4, 2, 4, 0, 0, 0), none, some (.aload_n 0, 1, 0, 0, 0, 0),
  some (.getfield 44, 3, 0, 9, 0, 0), none, none, some (.iload_n 1, 1, 1, 0, 0, 0), some (.iaload, 1, 0, 0, 0, 0), some (.if_icmp .ge 97, 3, 120, 0, 0, 0),
  none, none, some (.aload_n 0, 1, 0, 0, 0, 0), some (.iload_n 1, 1, 1, 0, 0, 0), some (.iload 4, 2, 4, 0, 0, 0), none,
  some (.invokevirtual 102, 3, 7, 2, 0, 0), none, none, some (.istore 5, 2, 5, 0, 0, 0), none, some (.iconst 0, 1, 0, 0, 0, 0),
  some (.istore 6, 2, 6, 0, 0, 0), none, some (.iload 6, 2, 6, 0, 0, 0), none, some (.aload_n 0, 1, 0, 0, 0, 0), some (.getfield 47, 3, 0, 10, 0, 0),
  none, none, some (.iload 5, 2, 5, 0, 0, 0), none, some (.iconst 2, 1, 0, 0, 0, 2), some (.iadd, 1, 0, 0, 0, 0),
  some (.iaload, 1, 0, 0, 0, 0), some (.if_icmp .ge 65, 3, 114, 0, 0, 0), none, none, some (.aload_n 0, 1, 0, 0, 0, 0), some (.getfield 47, 3, 0, 10, 0, 0),
  none, none, some (.iload 5, 2, 5, 0, 0, 0), none, some (.iconst 3, 1, 0, 0, 0, 3), some (.iadd, 1, 0, 0, 0, 0),
  some (.iload 6, 2, 6, 0, 0, 0), none, some (.iadd, 1, 0, 0, 0, 0), some (.iaload, 1, 0, 0, 0, 0), some (.sipush 300, 3, 0, 0, 0, 300), none,
  none, some (.if_icmp .ne 7, 3, 74, 0, 0, 0), none, none, some (.iconst 1, 1, 0, 0, 0, 1), some (.goto 4, 3, 75, 0, 0, 0),
  none, none, some (.iconst 0, 1, 0, 0, 0, 0), some (.istore 7, 2, 7, 0, 0, 0), none, some (.iload 7, 2, 7, 0, 0, 0),
  none, some (.ifCond .eq 16, 3, 95, 0, 0, 0), none, none, some (.iload_n 3, 1, 3, 0, 0, 0), some (.ifCond .ne 12, 3, 95, 0, 0, 0),
  none, none, some (.bipush 10, 2, 0, 0, 0, 10), none, some (.iload 4, 2, 4, 0, 0, 0), none,
  some (.imul, 1, 0, 0, 0, 0), some (.iload 6, 2, 6, 0, 0, 0), none, some (.iadd, 1, 0, 0, 0, 0), some (.ireturn, 1, 0, 0, 0, 0), some (.iload_n 3, 1, 3, 0, 0, 0),
  some (.iload 7, 2, 7, 0, 0, 0), none, some (.ifCond .eq 7, 3, 105, 0, 0, 0), none, none, some (.iconst 1, 1, 0, 0, 0, 1),
  some (.goto 4, 3, 106, 0, 0, 0), none, none, some (.iconst 0, 1, 0, 0, 0, 0), some (.isub, 1, 0, 0, 0, 0), some (.istore_n 3, 1, 3, 0, 0, 0),
  some (.iinc 6 1, 3, 6, 0, 0, 1), none, none, some (.goto (-73), 3, 38, 0, 0, 0), none, none,
  some (.iinc 4 1, 3, 4, 0, 0, 1), none, none, some (.goto (-102), 3, 15, 0, 0, 0), none, none,
  some (.iconst (-1), 1, 0, 0, 0, -1), some (.ireturn, 1, 0, 0, 0, 0)
  ])
def mi_X1_init : am_MI := (yX1_init, cX1_init, 1, none, [
  some (.aload_n 0, 1, 0, 0, 0, 0), some (.invokespecial 1, 3, 28, 0, 1, 0), none, none, some (.return_, 1, 0, 0, 0, 0)
  ])
def mi_X1_actEnds : am_MI := (yX1_actEnds, cX1_actEnds, 4, (some FieldType.int), [
  some (.aload_n 0, 1, 0, 0, 0, 0), some (.iload_n 1, 1, 1, 0, 0, 0), some (.iload_n 2, 1, 2, 0, 0, 0), some (.iload_n 3, 1, 3, 0, 0, 0), some (.invokespecial 7, 3, 31, 3, 3, 0), none,
  none, some (.ineg, 1, 0, 0, 0, 0), some (.ireturn, 1, 0, 0, 0, 0)
  ])
def mi_X2_init : am_MI := (yX2_init, cX2_init, 2, none, [
  some (.aload_n 0, 1, 0, 0, 0, 0), some (.invokespecial 3, 3, 0, 0, 2, 0), none, none, some (.aload_n 0, 1, 0, 0, 0, 0), some (.sipush 144, 3, 0, 0, 0, 144),
  none, none, some (.newarray .int, 2, 0, 0, 0, 0), none, some (.putfield 9, 3, 2, 1, 0, 0), none,
  none, some (.aload_n 0, 1, 0, 0, 0, 0), some (.sipush 144, 3, 0, 0, 0, 144), none, none, some (.newarray .int, 2, 0, 0, 0, 0),
  none, some (.putfield 15, 3, 2, 2, 0, 0), none, none, some (.aload_n 0, 1, 0, 0, 0, 0), some (.bipush 12, 2, 0, 0, 0, 12),
  none, some (.newarray .boolean, 2, 2, 0, 0, 0), none, some (.putfield 18, 3, 2, 3, 0, 0), none, none,
  some (.aload_n 0, 1, 0, 0, 0, 0), some (.bipush 12, 2, 0, 0, 0, 12), none, some (.newarray .int, 2, 0, 0, 0, 0), none, some (.putfield 22, 3, 2, 4, 0, 0),
  none, none, some (.aload_n 0, 1, 0, 0, 0, 0), some (.invokestatic 25, 3, 69, 0, 1, 0), none, none,
  some (.putfield 31, 3, 2, 5, 0, 0), none, none, some (.aload_n 0, 1, 0, 0, 0, 0), some (.iconst 0, 1, 0, 0, 0, 0), some (.putfield 34, 3, 2, 6, 0, 0),
  none, none, some (.aload_n 0, 1, 0, 0, 0, 0), some (.aload_n 1, 1, 1, 0, 0, 0), some (.putfield 38, 3, 2, 0, 0, 0), none,
  none, some (.return_, 1, 0, 0, 0, 0)
  ])
def mi_X2_weigh : am_MI := (yX2_weigh, cX2_weigh, 9, none, [
  some (.aload_n 0, 1, 0, 0, 0, 0), some (.iload_n 3, 1, 3, 0, 0, 0), some (.putfield 34, 3, 2, 6, 0, 0), none, none, some (.iconst 0, 1, 0, 0, 0, 0),
  some (.istore 4, 2, 4, 0, 0, 0), none, some (.iload 4, 2, 4, 0, 0, 0), none, some (.iload_n 1, 1, 1, 0, 0, 0), some (.if_icmp .gt 156, 3, 167, 0, 0, 0),
  none, none, some (.aload_n 0, 1, 0, 0, 0, 0), some (.getfield 38, 3, 2, 0, 0, 0), none, none,
  some (.getfield 42, 3, 0, 9, 0, 0), none, none, some (.iload 4, 2, 4, 0, 0, 0), none, some (.iaload, 1, 0, 0, 0, 0),
  some (.istore 5, 2, 5, 0, 0, 0), none, some (.iload 5, 2, 5, 0, 0, 0), none, some (.ifCond .le 7, 3, 35, 0, 0, 0), none,
  none, some (.iconst 1, 1, 0, 0, 0, 1), some (.goto 4, 3, 36, 0, 0, 0), none, none, some (.iconst 0, 1, 0, 0, 0, 0),
  some (.istore 6, 2, 6, 0, 0, 0), none, some (.iconst 0, 1, 0, 0, 0, 0), some (.istore 7, 2, 7, 0, 0, 0), none, some (.iload 7, 2, 7, 0, 0, 0),
  none, some (.iload 5, 2, 5, 0, 0, 0), none, some (.if_icmp .ge 73, 3, 118, 0, 0, 0), none, none,
  some (.iload 4, 2, 4, 0, 0, 0), none, some (.bipush 12, 2, 0, 0, 0, 12), none, some (.imul, 1, 0, 0, 0, 0), some (.iload 7, 2, 7, 0, 0, 0),
  none, some (.iadd, 1, 0, 0, 0, 0), some (.istore 8, 2, 8, 0, 0, 0), none, some (.aload_n 0, 1, 0, 0, 0, 0), some (.getfield 15, 3, 2, 2, 0, 0),
  none, none, some (.iload 8, 2, 8, 0, 0, 0), none, some (.aload_n 0, 1, 0, 0, 0, 0), some (.iload 4, 2, 4, 0, 0, 0),
  none, some (.iload 7, 2, 7, 0, 0, 0), none, some (.iload_n 2, 1, 2, 0, 0, 0), some (.invokevirtual 47, 3, 23, 3, 0, 2), none,
  none, some (.iastore, 1, 0, 0, 0, 0), some (.aload_n 0, 1, 0, 0, 0, 0), some (.getfield 9, 3, 2, 1, 0, 0), none, none,
  some (.iload 8, 2, 8, 0, 0, 0), none, some (.aload_n 0, 1, 0, 0, 0, 0), some (.iload 4, 2, 4, 0, 0, 0), none, some (.iload 7, 2, 7, 0, 0, 0),
  none, some (.iload_n 2, 1, 2, 0, 0, 0), some (.invokevirtual 51, 3, 21, 3, 0, 2), none, none, some (.iastore, 1, 0, 0, 0, 0),
  some (.iload 6, 2, 6, 0, 0, 0), none, some (.ifCond .eq 17, 3, 109, 0, 0, 0), none, none, some (.aload_n 0, 1, 0, 0, 0, 0),
  some (.getfield 9, 3, 2, 1, 0, 0), none, none, some (.iload 8, 2, 8, 0, 0, 0), none, some (.iaload, 1, 0, 0, 0, 0),
  some (.ifCond .ne 7, 3, 109, 0, 0, 0), none, none, some (.iconst 1, 1, 0, 0, 0, 1), some (.goto 4, 3, 110, 0, 0, 0), none,
  none, some (.iconst 0, 1, 0, 0, 0, 0), some (.istore 6, 2, 6, 0, 0, 0), none, some (.iinc 7 1, 3, 7, 0, 0, 1), none,
  none, some (.goto (-74), 3, 41, 0, 0, 0), none, none, some (.aload_n 0, 1, 0, 0, 0, 0), some (.getfield 18, 3, 2, 3, 0, 0),
  none, none, some (.iload 4, 2, 4, 0, 0, 0), none, some (.iload 6, 2, 6, 0, 0, 0), none,
  some (.ifCond .eq 33, 3, 159, 0, 0, 0), none, none, some (.aload_n 0, 1, 0, 0, 0, 0), some (.getfield 38, 3, 2, 0, 0, 0), none,
  none, some (.getfield 54, 3, 0, 8, 0, 0), none, none, some (.iload 4, 2, 4, 0, 0, 0), none,
  some (.iaload, 1, 0, 0, 0, 0), some (.iconst 4, 1, 0, 0, 0, 4), some (.if_icmp .eq 15, 3, 155, 0, 0, 0), none, none, some (.aload_n 0, 1, 0, 0, 0, 0),
  some (.getfield 38, 3, 2, 0, 0, 0), none, none, some (.iload 4, 2, 4, 0, 0, 0), none, some (.invokevirtual 57, 3, 14, 1, 1, 0),
  none, none, some (.ifCond .ne 7, 3, 159, 0, 0, 0), none, none, some (.iconst 1, 1, 0, 0, 0, 1),
  some (.goto 4, 3, 160, 0, 0, 0), none, none, some (.iconst 0, 1, 0, 0, 0, 0), some (.bastore, 1, 2, 0, 0, 0), some (.iinc 4 1, 3, 4, 0, 0, 1),
  none, none, some (.goto (-156), 3, 8, 0, 0, 0), none, none, some (.return_, 1, 0, 0, 0, 0)
  ])
def mi_X2_lackOf : am_MI := (yX2_lackOf, cX2_lackOf, 9, (some FieldType.int), [
  some (.aload_n 0, 1, 0, 0, 0, 0), some (.getfield 38, 3, 2, 0, 0, 0), none, none, some (.iload_n 1, 1, 1, 0, 0, 0), some (.iload_n 2, 1, 2, 0, 0, 0),
  some (.invokevirtual 61, 3, 7, 2, 1, 0), none, none, some (.istore 4, 2, 4, 0, 0, 0), none, some (.aload_n 0, 1, 0, 0, 0, 0),
  some (.getfield 38, 3, 2, 0, 0, 0), none, none, some (.getfield 65, 3, 0, 10, 0, 0), none, none,
  some (.iload 4, 2, 4, 0, 0, 0), none, some (.iconst 2, 1, 0, 0, 0, 2), some (.iadd, 1, 0, 0, 0, 0), some (.iaload, 1, 0, 0, 0, 0), some (.istore 5, 2, 5, 0, 0, 0),
  none, some (.aload_n 0, 1, 0, 0, 0, 0), some (.getfield 38, 3, 2, 0, 0, 0), none, none, some (.aload_n 0, 1, 0, 0, 0, 0),
  some (.getfield 38, 3, 2, 0, 0, 0), none, none, some (.getfield 65, 3, 0, 10, 0, 0), none, none,
  some (.iload 4, 2, 4, 0, 0, 0), none, some (.iconst 0, 1, 0, 0, 0, 0), some (.iadd, 1, 0, 0, 0, 0), some (.iaload, 1, 0, 0, 0, 0), some (.iload_n 3, 1, 3, 0, 0, 0),
  some (.invokevirtual 68, 3, 6, 2, 1, 0), none, none, some (.astore 6, 2, 6, 0, 0, 0), none, some (.aload 6, 2, 6, 0, 0, 0),
  none, some (.getfield 72, 3, 10, 0, 0, 0), none, none, some (.iload 5, 2, 5, 0, 0, 0), none,
  some (.if_icmp .eq 5, 3, 59, 0, 0, 0), none, none, some (.iconst 1, 1, 0, 0, 0, 1), some (.ireturn, 1, 0, 0, 0, 0), some (.aload_n 0, 1, 0, 0, 0, 0),
  some (.getfield 38, 3, 2, 0, 0, 0), none, none, some (.getfield 65, 3, 0, 10, 0, 0), none, none,
  some (.iload 4, 2, 4, 0, 0, 0), none, some (.iconst 1, 1, 0, 0, 0, 1), some (.iadd, 1, 0, 0, 0, 0), some (.iaload, 1, 0, 0, 0, 0), some (.aload_n 0, 1, 0, 0, 0, 0),
  some (.getfield 31, 3, 2, 5, 0, 0), none, none, some (.invokestatic 75, 3, 70, 2, 1, 0), none, none,
  some (.aload 6, 2, 6, 0, 0, 0), none, some (.aload_n 0, 1, 0, 0, 0, 0), some (.getfield 31, 3, 2, 5, 0, 0), none, none,
  some (.invokevirtual 79, 3, 73, 1, 1, 10), none, none, some (.ifCond .ne 5, 3, 92, 0, 0, 0), none, none,
  some (.iconst 2, 1, 0, 0, 0, 2), some (.ireturn, 1, 0, 0, 0, 0), some (.iconst 0, 1, 0, 0, 0, 0), some (.istore 7, 2, 7, 0, 0, 0), none, some (.iload 7, 2, 7, 0, 0, 0),
  none, some (.iload 5, 2, 5, 0, 0, 0), none, some (.if_icmp .ge 54, 3, 153, 0, 0, 0), none, none,
  some (.aload_n 0, 1, 0, 0, 0, 0), some (.getfield 38, 3, 2, 0, 0, 0), none, none, some (.getfield 65, 3, 0, 10, 0, 0), none,
  none, some (.iload 4, 2, 4, 0, 0, 0), none, some (.iconst 3, 1, 0, 0, 0, 3), some (.iadd, 1, 0, 0, 0, 0), some (.iload 7, 2, 7, 0, 0, 0),
  none, some (.iadd, 1, 0, 0, 0, 0), some (.iaload, 1, 0, 0, 0, 0), some (.istore 8, 2, 8, 0, 0, 0), none, some (.aload_n 0, 1, 0, 0, 0, 0),
  some (.iload_n 1, 1, 1, 0, 0, 0), some (.iload_n 2, 1, 2, 0, 0, 0), some (.iload 8, 2, 8, 0, 0, 0), none, some (.aload 6, 2, 6, 0, 0, 0), none,
  some (.iload 7, 2, 7, 0, 0, 0), none, some (.aload_n 0, 1, 0, 0, 0, 0), some (.getfield 31, 3, 2, 5, 0, 0), none, none,
  some (.invokevirtual 83, 3, 72, 2, 1, 10), none, none, some (.invokevirtual 87, 3, 22, 4, 0, 2), none, none,
  some (.ifCond .ne 9, 3, 147, 0, 0, 0), none, none, some (.bipush 10, 2, 0, 0, 0, 10), none, some (.iload 7, 2, 7, 0, 0, 0),
  none, some (.iadd, 1, 0, 0, 0, 0), some (.ireturn, 1, 0, 0, 0, 0), some (.iinc 7 1, 3, 7, 0, 0, 1), none, none,
  some (.goto (-55), 3, 95, 0, 0, 0), none, none, some (.iconst 0, 1, 0, 0, 0, 0), some (.ireturn, 1, 0, 0, 0, 0)
  ])
def mi_X2_gives : am_MI := (yX2_gives, cX2_gives, 6, (some FieldType.boolean), [
  some (.aload_n 0, 1, 0, 0, 0, 0), some (.getfield 38, 3, 2, 0, 0, 0), none, none, some (.iconst 3, 1, 0, 0, 0, 3), some (.iload_n 3, 1, 3, 0, 0, 0),
  some (.invokevirtual 91, 3, 2, 2, 1, 0), none, none, some (.ifCond .eq 34, 3, 43, 0, 0, 0), none, none,
  some (.aload_n 0, 1, 0, 0, 0, 0), some (.getfield 34, 3, 2, 6, 0, 0), none, none, some (.iload_n 3, 1, 3, 0, 0, 0), some (.ishr, 1, 0, 0, 0, 0),
  some (.iconst 1, 1, 0, 0, 0, 1), some (.iand, 1, 0, 0, 0, 0), some (.ifCond .eq 21, 3, 41, 0, 0, 0), none, none, some (.aload_n 0, 1, 0, 0, 0, 0),
  some (.getfield 38, 3, 2, 0, 0, 0), none, none, some (.getfield 95, 3, 0, 5, 0, 0), none, none,
  some (.iload_n 3, 1, 3, 0, 0, 0), some (.iaload, 1, 0, 0, 0, 0), some (.iload 4, 2, 4, 0, 0, 0), none, some (.if_icmp .ne 7, 3, 41, 0, 0, 0), none,
  none, some (.iconst 1, 1, 0, 0, 0, 1), some (.goto 4, 3, 42, 0, 0, 0), none, none, some (.iconst 0, 1, 0, 0, 0, 0),
  some (.ireturn, 1, 0, 0, 0, 0), some (.iload_n 3, 1, 3, 0, 0, 0), some (.bipush 100, 2, 0, 0, 0, 100), none, some (.if_icmp .lt 50, 3, 96, 0, 0, 0), none,
  none, some (.iload_n 3, 1, 3, 0, 0, 0), some (.bipush 100, 2, 0, 0, 0, 100), none, some (.iload_n 2, 1, 2, 0, 0, 0), some (.iadd, 1, 0, 0, 0, 0),
  some (.if_icmp .ge 42, 3, 96, 0, 0, 0), none, none, some (.iload_n 1, 1, 1, 0, 0, 0), some (.bipush 12, 2, 0, 0, 0, 12), none,
  some (.imul, 1, 0, 0, 0, 0), some (.iload_n 3, 1, 3, 0, 0, 0), some (.iadd, 1, 0, 0, 0, 0), some (.bipush 100, 2, 0, 0, 0, 100), none, some (.isub, 1, 0, 0, 0, 0),
  some (.istore 5, 2, 5, 0, 0, 0), none, some (.aload_n 0, 1, 0, 0, 0, 0), some (.getfield 9, 3, 2, 1, 0, 0), none, none,
  some (.iload 5, 2, 5, 0, 0, 0), none, some (.iaload, 1, 0, 0, 0, 0), some (.ifCond .ne 19, 3, 94, 0, 0, 0), none, none,
  some (.aload_n 0, 1, 0, 0, 0, 0), some (.getfield 15, 3, 2, 2, 0, 0), none, none, some (.iload 5, 2, 5, 0, 0, 0), none,
  some (.iaload, 1, 0, 0, 0, 0), some (.iload 4, 2, 4, 0, 0, 0), none, some (.if_icmp .ne 7, 3, 94, 0, 0, 0), none, none,
  some (.iconst 1, 1, 0, 0, 0, 1), some (.goto 4, 3, 95, 0, 0, 0), none, none, some (.iconst 0, 1, 0, 0, 0, 0), some (.ireturn, 1, 0, 0, 0, 0),
  some (.aload_n 0, 1, 0, 0, 0, 0), some (.getfield 38, 3, 2, 0, 0, 0), none, none, some (.iload_n 1, 1, 1, 0, 0, 0), some (.iload_n 3, 1, 3, 0, 0, 0),
  some (.invokevirtual 98, 3, 10, 2, 1, 0), none, none, some (.istore 5, 2, 5, 0, 0, 0), none, some (.iload 5, 2, 5, 0, 0, 0),
  none, some (.ifCond .lt 47, 3, 156, 0, 0, 0), none, none, some (.aload_n 0, 1, 0, 0, 0, 0), some (.getfield 18, 3, 2, 3, 0, 0),
  none, none, some (.iload 5, 2, 5, 0, 0, 0), none, some (.baload, 1, 2, 0, 0, 0), some (.ifCond .eq 35, 3, 154, 0, 0, 0),
  none, none, some (.aload_n 0, 1, 0, 0, 0, 0), some (.getfield 15, 3, 2, 2, 0, 0), none, none,
  some (.iload 5, 2, 5, 0, 0, 0), none, some (.bipush 12, 2, 0, 0, 0, 12), none, some (.imul, 1, 0, 0, 0, 0), some (.aload_n 0, 1, 0, 0, 0, 0),
  some (.getfield 38, 3, 2, 0, 0, 0), none, none, some (.getfield 42, 3, 0, 9, 0, 0), none, none,
  some (.iload 5, 2, 5, 0, 0, 0), none, some (.iaload, 1, 0, 0, 0, 0), some (.iadd, 1, 0, 0, 0, 0), some (.iconst 1, 1, 0, 0, 0, 1), some (.isub, 1, 0, 0, 0, 0),
  some (.iaload, 1, 0, 0, 0, 0), some (.iload 4, 2, 4, 0, 0, 0), none, some (.if_icmp .ne 7, 3, 154, 0, 0, 0), none, none,
  some (.iconst 1, 1, 0, 0, 0, 1), some (.goto 4, 3, 155, 0, 0, 0), none, none, some (.iconst 0, 1, 0, 0, 0, 0), some (.ireturn, 1, 0, 0, 0, 0),
  some (.iload_n 3, 1, 3, 0, 0, 0), some (.sipush 300, 3, 0, 0, 0, 300), none, none, some (.if_icmp .ne 18, 3, 178, 0, 0, 0), none,
  none, some (.aload_n 0, 1, 0, 0, 0, 0), some (.getfield 38, 3, 2, 0, 0, 0), none, none, some (.iload_n 1, 1, 1, 0, 0, 0),
  some (.invokevirtual 101, 3, 8, 1, 1, 0), none, none, some (.ifCond .eq 7, 3, 178, 0, 0, 0), none, none,
  some (.iconst 1, 1, 0, 0, 0, 1), some (.goto 4, 3, 179, 0, 0, 0), none, none, some (.iconst 0, 1, 0, 0, 0, 0), some (.ireturn, 1, 0, 0, 0, 0)
  ])
def mi_X2_factOfStep : am_MI := (yX2_factOfStep, cX2_factOfStep, 5, (some FieldType.int), [
  some (.aload_n 0, 1, 0, 0, 0, 0), some (.getfield 38, 3, 2, 0, 0, 0), none, none, some (.iload_n 1, 1, 1, 0, 0, 0), some (.iload_n 2, 1, 2, 0, 0, 0),
  some (.invokevirtual 61, 3, 7, 2, 1, 0), none, none, some (.istore 4, 2, 4, 0, 0, 0), none, some (.aload_n 0, 1, 0, 0, 0, 0),
  some (.getfield 38, 3, 2, 0, 0, 0), none, none, some (.getfield 65, 3, 0, 10, 0, 0), none, none,
  some (.iload 4, 2, 4, 0, 0, 0), none, some (.iconst 1, 1, 0, 0, 0, 1), some (.iadd, 1, 0, 0, 0, 0), some (.iaload, 1, 0, 0, 0, 0), some (.aload_n 0, 1, 0, 0, 0, 0),
  some (.getfield 31, 3, 2, 5, 0, 0), none, none, some (.invokestatic 75, 3, 70, 2, 1, 0), none, none,
  some (.aload_n 0, 1, 0, 0, 0, 0), some (.getfield 38, 3, 2, 0, 0, 0), none, none, some (.aload_n 0, 1, 0, 0, 0, 0), some (.getfield 38, 3, 2, 0, 0, 0),
  none, none, some (.getfield 65, 3, 0, 10, 0, 0), none, none, some (.iload 4, 2, 4, 0, 0, 0),
  none, some (.iconst 0, 1, 0, 0, 0, 0), some (.iadd, 1, 0, 0, 0, 0), some (.iaload, 1, 0, 0, 0, 0), some (.iload_n 3, 1, 3, 0, 0, 0), some (.invokevirtual 68, 3, 6, 2, 1, 0),
  none, none, some (.iconst 3, 1, 0, 0, 0, 3), some (.aload_n 0, 1, 0, 0, 0, 0), some (.getfield 31, 3, 2, 5, 0, 0), none,
  none, some (.invokevirtual 83, 3, 72, 2, 1, 10), none, none, some (.ireturn, 1, 0, 0, 0, 0)
  ])
def mi_X2_factOfTerm : am_MI := (yX2_factOfTerm, cX2_factOfTerm, 6, (some FieldType.int), [
  some (.aload_n 0, 1, 0, 0, 0, 0), some (.getfield 38, 3, 2, 0, 0, 0), none, none, some (.iload_n 1, 1, 1, 0, 0, 0), some (.iload_n 2, 1, 2, 0, 0, 0),
  some (.invokevirtual 61, 3, 7, 2, 1, 0), none, none, some (.istore 4, 2, 4, 0, 0, 0), none, some (.aload_n 0, 1, 0, 0, 0, 0),
  some (.getfield 38, 3, 2, 0, 0, 0), none, none, some (.aload_n 0, 1, 0, 0, 0, 0), some (.getfield 38, 3, 2, 0, 0, 0), none,
  none, some (.getfield 65, 3, 0, 10, 0, 0), none, none, some (.iload 4, 2, 4, 0, 0, 0), none,
  some (.iconst 0, 1, 0, 0, 0, 0), some (.iadd, 1, 0, 0, 0, 0), some (.iaload, 1, 0, 0, 0, 0), some (.aload_n 0, 1, 0, 0, 0, 0), some (.getfield 38, 3, 2, 0, 0, 0), none,
  none, some (.getfield 105, 3, 0, 0, 0, 0), none, none, some (.iconst 0, 1, 0, 0, 0, 0), some (.iaload, 1, 0, 0, 0, 0),
  some (.invokevirtual 68, 3, 6, 2, 1, 0), none, none, some (.astore 5, 2, 5, 0, 0, 0), none, some (.iload_n 3, 1, 3, 0, 0, 0),
  some (.ifCond .lt 12, 3, 54, 0, 0, 0), none, none, some (.iload_n 3, 1, 3, 0, 0, 0), some (.aload 5, 2, 5, 0, 0, 0), none,
  some (.getfield 72, 3, 10, 0, 0, 0), none, none, some (.if_icmp .lt 5, 3, 56, 0, 0, 0), none, none,
  some (.iconst (-1), 1, 0, 0, 0, -1), some (.ireturn, 1, 0, 0, 0, 0), some (.aload_n 0, 1, 0, 0, 0, 0), some (.getfield 38, 3, 2, 0, 0, 0), none, none,
  some (.getfield 65, 3, 0, 10, 0, 0), none, none, some (.iload 4, 2, 4, 0, 0, 0), none, some (.iconst 1, 1, 0, 0, 0, 1),
  some (.iadd, 1, 0, 0, 0, 0), some (.iaload, 1, 0, 0, 0, 0), some (.aload_n 0, 1, 0, 0, 0, 0), some (.getfield 31, 3, 2, 5, 0, 0), none, none,
  some (.invokestatic 75, 3, 70, 2, 1, 0), none, none, some (.aload 5, 2, 5, 0, 0, 0), none, some (.iload_n 3, 1, 3, 0, 0, 0),
  some (.aload_n 0, 1, 0, 0, 0, 0), some (.getfield 31, 3, 2, 5, 0, 0), none, none, some (.invokevirtual 83, 3, 72, 2, 1, 10), none,
  none, some (.ireturn, 1, 0, 0, 0, 0)
  ])
def mi_X2_saidBy : am_MI := (yX2_saidBy, cX2_saidBy, 4, (some FieldType.int), [
  some (.aload_n 0, 1, 0, 0, 0, 0), some (.getfield 38, 3, 2, 0, 0, 0), none, none, some (.iload_n 3, 1, 3, 0, 0, 0), some (.invokevirtual 108, 3, 4, 1, 1, 0),
  none, none, some (.ifCond .eq 13, 3, 21, 0, 0, 0), none, none, some (.aload_n 0, 1, 0, 0, 0, 0),
  some (.getfield 38, 3, 2, 0, 0, 0), none, none, some (.getfield 95, 3, 0, 5, 0, 0), none, none,
  some (.iload_n 3, 1, 3, 0, 0, 0), some (.iaload, 1, 0, 0, 0, 0), some (.ireturn, 1, 0, 0, 0, 0), some (.iload_n 3, 1, 3, 0, 0, 0), some (.bipush 100, 2, 0, 0, 0, 100), none,
  some (.if_icmp .lt 30, 3, 54, 0, 0, 0), none, none, some (.iload_n 3, 1, 3, 0, 0, 0), some (.bipush 100, 2, 0, 0, 0, 100), none,
  some (.iload_n 2, 1, 2, 0, 0, 0), some (.iadd, 1, 0, 0, 0, 0), some (.if_icmp .ge 22, 3, 54, 0, 0, 0), none, none, some (.aload_n 0, 1, 0, 0, 0, 0),
  some (.iload_n 1, 1, 1, 0, 0, 0), some (.iload_n 3, 1, 3, 0, 0, 0), some (.bipush 100, 2, 0, 0, 0, 100), none, some (.isub, 1, 0, 0, 0, 0), some (.aload_n 0, 1, 0, 0, 0, 0),
  some (.getfield 38, 3, 2, 0, 0, 0), none, none, some (.getfield 105, 3, 0, 0, 0, 0), none, none,
  some (.iconst 0, 1, 0, 0, 0, 0), some (.iaload, 1, 0, 0, 0, 0), some (.invokevirtual 47, 3, 23, 3, 0, 2), none, none, some (.ireturn, 1, 0, 0, 0, 0),
  some (.iconst (-1), 1, 0, 0, 0, -1), some (.ireturn, 1, 0, 0, 0, 0)
  ])
def mi_X2_papersUnder : am_MI := (yX2_papersUnder, cX2_papersUnder, 4, (some FieldType.int), [
  some (.iconst 0, 1, 0, 0, 0, 0), some (.istore_n 2, 1, 2, 0, 0, 0), some (.iload_n 2, 1, 2, 0, 0, 0), some (.iload_n 1, 1, 1, 0, 0, 0), some (.if_icmp .gt 60, 3, 64, 0, 0, 0), none,
  none, some (.aload_n 0, 1, 0, 0, 0, 0), some (.getfield 22, 3, 2, 4, 0, 0), none, none, some (.iload_n 2, 1, 2, 0, 0, 0),
  some (.iconst 0, 1, 0, 0, 0, 0), some (.iastore, 1, 0, 0, 0, 0), some (.iconst 0, 1, 0, 0, 0, 0), some (.istore_n 3, 1, 3, 0, 0, 0), some (.iload_n 3, 1, 3, 0, 0, 0), some (.aload_n 0, 1, 0, 0, 0, 0),
  some (.getfield 38, 3, 2, 0, 0, 0), none, none, some (.getfield 42, 3, 0, 9, 0, 0), none, none,
  some (.iload_n 2, 1, 2, 0, 0, 0), some (.iaload, 1, 0, 0, 0, 0), some (.if_icmp .ge 32, 3, 58, 0, 0, 0), none, none, some (.aload_n 0, 1, 0, 0, 0, 0),
  some (.getfield 22, 3, 2, 4, 0, 0), none, none, some (.iload_n 2, 1, 2, 0, 0, 0), some (.dup2, 1, 0, 0, 0, 0), some (.iaload, 1, 0, 0, 0, 0),
  some (.aload_n 0, 1, 0, 0, 0, 0), some (.iload_n 2, 1, 2, 0, 0, 0), some (.aload_n 0, 1, 0, 0, 0, 0), some (.getfield 38, 3, 2, 0, 0, 0), none, none,
  some (.iload_n 2, 1, 2, 0, 0, 0), some (.iload_n 3, 1, 3, 0, 0, 0), some (.invokevirtual 61, 3, 7, 2, 1, 0), none, none, some (.invokevirtual 111, 3, 27, 2, 0, 2),
  none, none, some (.ior, 1, 0, 0, 0, 0), some (.iastore, 1, 0, 0, 0, 0), some (.iinc 3 1, 3, 3, 0, 0, 1), none,
  none, some (.goto (-39), 3, 16, 0, 0, 0), none, none, some (.iinc 2 1, 3, 2, 0, 0, 1), none,
  none, some (.goto (-59), 3, 2, 0, 0, 0), none, none, some (.aload_n 0, 1, 0, 0, 0, 0), some (.getfield 22, 3, 2, 4, 0, 0),
  none, none, some (.iload_n 1, 1, 1, 0, 0, 0), some (.iaload, 1, 0, 0, 0, 0), some (.ireturn, 1, 0, 0, 0, 0)
  ])
def mi_X2_papersUnderStep : am_MI := (yX2_papersUnderStep, cX2_papersUnderStep, 7, (some FieldType.int), [
  some (.iconst 0, 1, 0, 0, 0, 0), some (.istore_n 3, 1, 3, 0, 0, 0), some (.iconst 0, 1, 0, 0, 0, 0), some (.istore 4, 2, 4, 0, 0, 0), none, some (.iload 4, 2, 4, 0, 0, 0),
  none, some (.aload_n 0, 1, 0, 0, 0, 0), some (.getfield 38, 3, 2, 0, 0, 0), none, none, some (.getfield 65, 3, 0, 10, 0, 0),
  none, none, some (.iload_n 2, 1, 2, 0, 0, 0), some (.iconst 2, 1, 0, 0, 0, 2), some (.iadd, 1, 0, 0, 0, 0), some (.iaload, 1, 0, 0, 0, 0),
  some (.if_icmp .ge 75, 3, 93, 0, 0, 0), none, none, some (.aload_n 0, 1, 0, 0, 0, 0), some (.getfield 38, 3, 2, 0, 0, 0), none,
  none, some (.getfield 65, 3, 0, 10, 0, 0), none, none, some (.iload_n 2, 1, 2, 0, 0, 0), some (.iconst 3, 1, 0, 0, 0, 3),
  some (.iadd, 1, 0, 0, 0, 0), some (.iload 4, 2, 4, 0, 0, 0), none, some (.iadd, 1, 0, 0, 0, 0), some (.iaload, 1, 0, 0, 0, 0), some (.istore 5, 2, 5, 0, 0, 0),
  none, some (.aload_n 0, 1, 0, 0, 0, 0), some (.getfield 38, 3, 2, 0, 0, 0), none, none, some (.iload_n 1, 1, 1, 0, 0, 0),
  some (.iload 5, 2, 5, 0, 0, 0), none, some (.invokevirtual 98, 3, 10, 2, 1, 0), none, none, some (.istore 6, 2, 6, 0, 0, 0),
  none, some (.aload_n 0, 1, 0, 0, 0, 0), some (.getfield 38, 3, 2, 0, 0, 0), none, none, some (.iconst 3, 1, 0, 0, 0, 3),
  some (.iload 5, 2, 5, 0, 0, 0), none, some (.invokevirtual 91, 3, 2, 2, 1, 0), none, none, some (.ifCond .eq 13, 3, 72, 0, 0, 0),
  none, none, some (.iload_n 3, 1, 3, 0, 0, 0), some (.iconst 1, 1, 0, 0, 0, 1), some (.iload 5, 2, 5, 0, 0, 0), none,
  some (.ishl, 1, 0, 0, 0, 0), some (.ior, 1, 0, 0, 0, 0), some (.istore_n 3, 1, 3, 0, 0, 0), some (.goto 18, 3, 87, 0, 0, 0), none, none,
  some (.iload 6, 2, 6, 0, 0, 0), none, some (.ifCond .lt 13, 3, 87, 0, 0, 0), none, none, some (.iload_n 3, 1, 3, 0, 0, 0),
  some (.aload_n 0, 1, 0, 0, 0, 0), some (.getfield 22, 3, 2, 4, 0, 0), none, none, some (.iload 6, 2, 6, 0, 0, 0), none,
  some (.iaload, 1, 0, 0, 0, 0), some (.ior, 1, 0, 0, 0, 0), some (.istore_n 3, 1, 3, 0, 0, 0), some (.iinc 4 1, 3, 4, 0, 0, 1), none, none,
  some (.goto (-85), 3, 5, 0, 0, 0), none, none, some (.iload_n 3, 1, 3, 0, 0, 0), some (.ireturn, 1, 0, 0, 0, 0)
  ])
def mi_X3_init : am_MI := (yX3_init, cX3_init, 1, none, [
  some (.aload_n 0, 1, 0, 0, 0, 0), some (.invokespecial 1, 3, 0, 0, 2, 0), none, none, some (.return_, 1, 0, 0, 0, 0)
  ])
def mi_X3_actLeans : am_MI := (yX3_actLeans, cX3_actLeans, 4, (some FieldType.int), [
  some (.iload_n 1, 1, 1, 0, 0, 0), some (.iload_n 3, 1, 3, 0, 0, 0), some (.iadd, 1, 0, 0, 0, 0), some (.ireturn, 1, 0, 0, 0, 0)
  ])
def mi_X3_actShows : am_MI := (yX3_actShows, cX3_actShows, 4, (some FieldType.int), [
  some (.aload_n 0, 1, 0, 0, 0, 0), some (.iload_n 1, 1, 1, 0, 0, 0), some (.iload_n 2, 1, 2, 0, 0, 0), some (.iload_n 3, 1, 3, 0, 0, 0), some (.invokevirtual 7, 3, 215, 3, 3, 0), none,
  none, some (.iload_n 2, 1, 2, 0, 0, 0), some (.isub, 1, 0, 0, 0, 0), some (.ireturn, 1, 0, 0, 0, 0)
  ])
def mi_X3_actEnds : am_MI := (yX3_actEnds, cX3_actEnds, 4, (some FieldType.int), [
  some (.aload_n 0, 1, 0, 0, 0, 0), some (.iload_n 1, 1, 1, 0, 0, 0), some (.iload_n 2, 1, 2, 0, 0, 0), some (.iload_n 3, 1, 3, 0, 0, 0), some (.invokevirtual 13, 3, 224, 3, 3, 0), none,
  none, some (.iconst 2, 1, 0, 0, 0, 2), some (.imul, 1, 0, 0, 0, 0), some (.ireturn, 1, 0, 0, 0, 0)
  ])
def mi_X4_init : am_MI := (yX4_init, cX4_init, 1, none, [
  some (.aload_n 0, 1, 0, 0, 0, 0), some (.invokespecial 1, 3, 35, 0, 1, 0), none, none, some (.return_, 1, 0, 0, 0, 0)
  ])
def mi_X4_actShows : am_MI := (yX4_actShows, cX4_actShows, 4, (some FieldType.int), [
  some (.aload_n 0, 1, 0, 0, 0, 0), some (.iload_n 1, 1, 1, 0, 0, 0), some (.iconst 1, 1, 0, 0, 0, 1), some (.iadd, 1, 0, 0, 0, 0), some (.iload_n 2, 1, 2, 0, 0, 0), some (.iload_n 3, 1, 3, 0, 0, 0),
  some (.invokespecial 7, 3, 30, 3, 3, 0), none, none, some (.ireturn, 1, 0, 0, 0, 0)
  ])
def mi_X4_actEnds : am_MI := (yX4_actEnds, cX4_actEnds, 4, (some FieldType.int), [
  some (.aload_n 0, 1, 0, 0, 0, 0), some (.iload_n 1, 1, 1, 0, 0, 0), some (.iload_n 2, 1, 2, 0, 0, 0), some (.iload_n 3, 1, 3, 0, 0, 0), some (.invokespecial 11, 3, 31, 3, 3, 0), none,
  none, some (.aload_n 0, 1, 0, 0, 0, 0), some (.iconst 1, 1, 0, 0, 0, 1), some (.iload_n 2, 1, 2, 0, 0, 0), some (.iload_n 3, 1, 3, 0, 0, 0), some (.invokevirtual 14, 3, 36, 3, 4, 4),
  none, none, some (.iadd, 1, 0, 0, 0, 0), some (.ireturn, 1, 0, 0, 0, 0)
  ])
def mi_X5_init : am_MI := (yX5_init, cX5_init, 1, none, [
  some (.aload_n 0, 1, 0, 0, 0, 0), some (.invokespecial 1, 3, 28, 0, 1, 0), none, none, some (.return_, 1, 0, 0, 0, 0)
  ])
def mi_X5_actLeans : am_MI := (yX5_actLeans, cX5_actLeans, 4, (some FieldType.int), [
  some (.aload_n 0, 1, 0, 0, 0, 0), some (.iload_n 1, 1, 1, 0, 0, 0), some (.iconst 2, 1, 0, 0, 0, 2), some (.imul, 1, 0, 0, 0, 0), some (.iload_n 2, 1, 2, 0, 0, 0), some (.iload_n 3, 1, 3, 0, 0, 0),
  some (.invokespecial 7, 3, 29, 3, 3, 0), none, none, some (.ireturn, 1, 0, 0, 0, 0)
  ])
def mi_X6_init : am_MI := (yX6_init, cX6_init, 2, none, [
  some (.aload_n 0, 1, 0, 0, 0, 0), some (.invokespecial 3, 3, 0, 0, 2, 0), none, none, some (.aload_n 0, 1, 0, 0, 0, 0), some (.sipush 750, 3, 0, 0, 0, 750),
  none, none, some (.newarray .int, 2, 0, 0, 0, 0), none, some (.putfield 9, 3, 6, 1, 0, 0), none,
  none, some (.aload_n 0, 1, 0, 0, 0, 0), some (.sipush 750, 3, 0, 0, 0, 750), none, none, some (.newarray .int, 2, 0, 0, 0, 0),
  none, some (.putfield 15, 3, 6, 2, 0, 0), none, none, some (.aload_n 0, 1, 0, 0, 0, 0), some (.iconst 0, 1, 0, 0, 0, 0),
  some (.putfield 18, 3, 6, 3, 0, 0), none, none, some (.aload_n 0, 1, 0, 0, 0, 0), some (.sipush 750, 3, 0, 0, 0, 750), none,
  none, some (.newarray .boolean, 2, 2, 0, 0, 0), none, some (.putfield 22, 3, 6, 4, 0, 0), none, none,
  some (.aload_n 0, 1, 0, 0, 0, 0), some (.iconst 0, 1, 0, 0, 0, 0), some (.putfield 26, 3, 6, 5, 0, 0), none, none, some (.aload_n 0, 1, 0, 0, 0, 0),
  some (.bipush 8, 2, 0, 0, 0, 8), none, some (.anewarray 30, 3, 3, 0, 0, 0), none, none, some (.putfield 32, 3, 6, 6, 0, 0),
  none, none, some (.aload_n 0, 1, 0, 0, 0, 0), some (.invokestatic 36, 3, 69, 0, 1, 0), none, none,
  some (.putfield 40, 3, 6, 7, 0, 0), none, none, some (.aload_n 0, 1, 0, 0, 0, 0), some (.aload_n 1, 1, 1, 0, 0, 0), some (.putfield 43, 3, 6, 0, 0, 0),
  none, none, some (.aload_n 0, 1, 0, 0, 0, 0), some (.getfield 9, 3, 6, 1, 0, 0), none, none,
  some (.iconst (-1), 1, 0, 0, 0, -1), some (.invokestatic 47, 3, 214, 2, 0, 0), none, none, some (.return_, 1, 0, 0, 0, 0)
  ])
def mi_X6_has : am_MI := (yX6_has, cX6_has, 2, (some FieldType.boolean), [
  some (.aload_n 0, 1, 0, 0, 0, 0), some (.getfield 9, 3, 6, 1, 0, 0), none, none, some (.iload_n 1, 1, 1, 0, 0, 0), some (.iaload, 1, 0, 0, 0, 0),
  some (.ifCond .lt 7, 3, 13, 0, 0, 0), none, none, some (.iconst 1, 1, 0, 0, 0, 1), some (.goto 4, 3, 14, 0, 0, 0), none,
  none, some (.iconst 0, 1, 0, 0, 0, 0), some (.ireturn, 1, 0, 0, 0, 0)
  ])
def mi_X6_begin : am_MI := (yX6_begin, cX6_begin, 4, none, [
  some (.iconst 0, 1, 0, 0, 0, 0), some (.istore_n 3, 1, 3, 0, 0, 0), some (.iload_n 3, 1, 3, 0, 0, 0), some (.aload_n 0, 1, 0, 0, 0, 0), some (.getfield 18, 3, 6, 3, 0, 0), none,
  none, some (.if_icmp .ge 33, 3, 40, 0, 0, 0), none, none, some (.aload_n 0, 1, 0, 0, 0, 0), some (.getfield 9, 3, 6, 1, 0, 0),
  none, none, some (.aload_n 0, 1, 0, 0, 0, 0), some (.getfield 15, 3, 6, 2, 0, 0), none, none,
  some (.iload_n 3, 1, 3, 0, 0, 0), some (.iaload, 1, 0, 0, 0, 0), some (.iconst (-1), 1, 0, 0, 0, -1), some (.iastore, 1, 0, 0, 0, 0), some (.aload_n 0, 1, 0, 0, 0, 0), some (.getfield 22, 3, 6, 4, 0, 0),
  none, none, some (.aload_n 0, 1, 0, 0, 0, 0), some (.getfield 15, 3, 6, 2, 0, 0), none, none,
  some (.iload_n 3, 1, 3, 0, 0, 0), some (.iaload, 1, 0, 0, 0, 0), some (.iconst 0, 1, 0, 0, 0, 0), some (.bastore, 1, 2, 0, 0, 0), some (.iinc 3 1, 3, 3, 0, 0, 1), none,
  none, some (.goto (-35), 3, 2, 0, 0, 0), none, none, some (.aload_n 0, 1, 0, 0, 0, 0), some (.iconst 0, 1, 0, 0, 0, 0),
  some (.putfield 18, 3, 6, 3, 0, 0), none, none, some (.aload_n 0, 1, 0, 0, 0, 0), some (.iload_n 2, 1, 2, 0, 0, 0), some (.putfield 26, 3, 6, 5, 0, 0),
  none, none, some (.iconst 0, 1, 0, 0, 0, 0), some (.istore_n 3, 1, 3, 0, 0, 0), some (.iload_n 3, 1, 3, 0, 0, 0), some (.aload_n 0, 1, 0, 0, 0, 0),
  some (.getfield 43, 3, 6, 0, 0, 0), none, none, some (.getfield 53, 3, 0, 0, 0, 0), none, none,
  some (.iconst 3, 1, 0, 0, 0, 3), some (.iaload, 1, 0, 0, 0, 0), some (.if_icmp .ge 39, 3, 101, 0, 0, 0), none, none, some (.iload_n 1, 1, 1, 0, 0, 0),
  some (.iload_n 3, 1, 3, 0, 0, 0), some (.ishr, 1, 0, 0, 0, 0), some (.iconst 1, 1, 0, 0, 0, 1), some (.iand, 1, 0, 0, 0, 0), some (.ifCond .eq 25, 3, 95, 0, 0, 0), none,
  none, some (.aload_n 0, 1, 0, 0, 0, 0), some (.aload_n 0, 1, 0, 0, 0, 0), some (.getfield 43, 3, 6, 0, 0, 0), none, none,
  some (.getfield 58, 3, 0, 5, 0, 0), none, none, some (.iload_n 3, 1, 3, 0, 0, 0), some (.iaload, 1, 0, 0, 0, 0), some (.iload_n 2, 1, 2, 0, 0, 0),
  some (.ifCond .eq 7, 3, 91, 0, 0, 0), none, none, some (.iconst 1, 1, 0, 0, 0, 1), some (.goto 4, 3, 92, 0, 0, 0), none,
  none, some (.iconst 0, 1, 0, 0, 0, 0), some (.invokevirtual 61, 3, 49, 2, 0, 6), none, none, some (.iinc 3 1, 3, 3, 0, 0, 1),
  none, none, some (.goto (-46), 3, 52, 0, 0, 0), none, none, some (.return_, 1, 0, 0, 0, 0)
  ])
def mi_X6_spread : am_MI := (yX6_spread, cX6_spread, 7, none, [
  some (.aload_n 0, 1, 0, 0, 0, 0), some (.iload_n 2, 1, 2, 0, 0, 0), some (.iload_n 3, 1, 3, 0, 0, 0), some (.invokevirtual 65, 3, 39, 2, 0, 6), none, none,
  some (.aload_n 0, 1, 0, 0, 0, 0), some (.getfield 43, 3, 6, 0, 0, 0), none, none, some (.getfield 53, 3, 0, 0, 0, 0), none,
  none, some (.iconst 1, 1, 0, 0, 0, 1), some (.iaload, 1, 0, 0, 0, 0), some (.istore 4, 2, 4, 0, 0, 0), none, some (.iconst 0, 1, 0, 0, 0, 0),
  some (.istore 5, 2, 5, 0, 0, 0), none, some (.iload 5, 2, 5, 0, 0, 0), none, some (.iload 4, 2, 4, 0, 0, 0), none,
  some (.if_icmp .ge 26, 3, 50, 0, 0, 0), none, none, some (.aload_n 0, 1, 0, 0, 0, 0), some (.getfield 32, 3, 6, 6, 0, 0), none,
  none, some (.iload 5, 2, 5, 0, 0, 0), none, some (.aload_n 0, 1, 0, 0, 0, 0), some (.getfield 43, 3, 6, 0, 0, 0), none,
  none, some (.iload 5, 2, 5, 0, 0, 0), none, some (.iload_n 1, 1, 1, 0, 0, 0), some (.invokevirtual 69, 3, 6, 2, 1, 0), none,
  none, some (.aastore, 1, 3, 0, 0, 0), some (.iinc 5 1, 3, 5, 0, 0, 1), none, none, some (.goto (-27), 3, 20, 0, 0, 0),
  none, none, some (.iconst 0, 1, 0, 0, 0, 0), some (.istore 5, 2, 5, 0, 0, 0), none, some (.iload 5, 2, 5, 0, 0, 0),
  none, some (.aload_n 0, 1, 0, 0, 0, 0), some (.getfield 18, 3, 6, 3, 0, 0), none, none, some (.if_icmp .ge 77, 3, 136, 0, 0, 0),
  none, none, some (.iload 5, 2, 5, 0, 0, 0), none, some (.sipush 750, 3, 0, 0, 0, 750), none,
  none, some (.if_icmp .ge 69, 3, 136, 0, 0, 0), none, none, some (.aload_n 0, 1, 0, 0, 0, 0), some (.getfield 26, 3, 6, 5, 0, 0),
  none, none, some (.ifCond .eq 9, 3, 83, 0, 0, 0), none, none, some (.aload_n 0, 1, 0, 0, 0, 0),
  some (.iload 5, 2, 5, 0, 0, 0), none, some (.invokevirtual 73, 3, 41, 1, 0, 6), none, none, some (.aload_n 0, 1, 0, 0, 0, 0),
  some (.getfield 22, 3, 6, 4, 0, 0), none, none, some (.aload_n 0, 1, 0, 0, 0, 0), some (.getfield 15, 3, 6, 2, 0, 0), none,
  none, some (.iload 5, 2, 5, 0, 0, 0), none, some (.iaload, 1, 0, 0, 0, 0), some (.iconst 1, 1, 0, 0, 0, 1), some (.bastore, 1, 2, 0, 0, 0),
  some (.iconst 0, 1, 0, 0, 0, 0), some (.istore 6, 2, 6, 0, 0, 0), none, some (.iload 6, 2, 6, 0, 0, 0), none, some (.iload 4, 2, 4, 0, 0, 0),
  none, some (.if_icmp .ge 27, 3, 130, 0, 0, 0), none, none, some (.aload_n 0, 1, 0, 0, 0, 0), some (.aload_n 0, 1, 0, 0, 0, 0),
  some (.getfield 32, 3, 6, 6, 0, 0), none, none, some (.iload 6, 2, 6, 0, 0, 0), none, some (.aaload, 1, 3, 0, 0, 0),
  some (.aload_n 0, 1, 0, 0, 0, 0), some (.getfield 15, 3, 6, 2, 0, 0), none, none, some (.iload 5, 2, 5, 0, 0, 0), none,
  some (.iaload, 1, 0, 0, 0, 0), some (.invokevirtual 77, 3, 42, 2, 0, 6), none, none, some (.iinc 6 1, 3, 6, 0, 0, 1), none,
  none, some (.goto (-28), 3, 99, 0, 0, 0), none, none, some (.iinc 5 1, 3, 5, 0, 0, 1), none,
  none, some (.goto (-80), 3, 53, 0, 0, 0), none, none, some (.return_, 1, 0, 0, 0, 0)
  ])
def mi_X6_bringLeast : am_MI := (yX6_bringLeast, cX6_bringLeast, 4, none, [
  some (.iload_n 1, 1, 1, 0, 0, 0), some (.istore_n 2, 1, 2, 0, 0, 0), some (.iload_n 1, 1, 1, 0, 0, 0), some (.iconst 1, 1, 0, 0, 0, 1), some (.iadd, 1, 0, 0, 0, 0), some (.istore_n 3, 1, 3, 0, 0, 0),
  some (.iload_n 3, 1, 3, 0, 0, 0), some (.aload_n 0, 1, 0, 0, 0, 0), some (.getfield 18, 3, 6, 3, 0, 0), none, none, some (.if_icmp .ge 36, 3, 47, 0, 0, 0),
  none, none, some (.aload_n 0, 1, 0, 0, 0, 0), some (.getfield 9, 3, 6, 1, 0, 0), none, none,
  some (.aload_n 0, 1, 0, 0, 0, 0), some (.getfield 15, 3, 6, 2, 0, 0), none, none, some (.iload_n 3, 1, 3, 0, 0, 0), some (.iaload, 1, 0, 0, 0, 0),
  some (.iaload, 1, 0, 0, 0, 0), some (.aload_n 0, 1, 0, 0, 0, 0), some (.getfield 9, 3, 6, 1, 0, 0), none, none, some (.aload_n 0, 1, 0, 0, 0, 0),
  some (.getfield 15, 3, 6, 2, 0, 0), none, none, some (.iload_n 2, 1, 2, 0, 0, 0), some (.iaload, 1, 0, 0, 0, 0), some (.iaload, 1, 0, 0, 0, 0),
  some (.if_icmp .ge 5, 3, 41, 0, 0, 0), none, none, some (.iload_n 3, 1, 3, 0, 0, 0), some (.istore_n 2, 1, 2, 0, 0, 0), some (.iinc 3 1, 3, 3, 0, 0, 1),
  none, none, some (.goto (-38), 3, 6, 0, 0, 0), none, none, some (.aload_n 0, 1, 0, 0, 0, 0),
  some (.getfield 15, 3, 6, 2, 0, 0), none, none, some (.iload_n 2, 1, 2, 0, 0, 0), some (.iaload, 1, 0, 0, 0, 0), some (.istore_n 3, 1, 3, 0, 0, 0),
  some (.aload_n 0, 1, 0, 0, 0, 0), some (.getfield 15, 3, 6, 2, 0, 0), none, none, some (.iload_n 2, 1, 2, 0, 0, 0), some (.aload_n 0, 1, 0, 0, 0, 0),
  some (.getfield 15, 3, 6, 2, 0, 0), none, none, some (.iload_n 1, 1, 1, 0, 0, 0), some (.iaload, 1, 0, 0, 0, 0), some (.iastore, 1, 0, 0, 0, 0),
  some (.aload_n 0, 1, 0, 0, 0, 0), some (.getfield 15, 3, 6, 2, 0, 0), none, none, some (.iload_n 1, 1, 1, 0, 0, 0), some (.iload_n 3, 1, 3, 0, 0, 0),
  some (.iastore, 1, 0, 0, 0, 0), some (.return_, 1, 0, 0, 0, 0)
  ])
def mi_X6_useIn : am_MI := (yX6_useIn, cX6_useIn, 4, none, [
  some (.iconst 0, 1, 0, 0, 0, 0), some (.istore_n 3, 1, 3, 0, 0, 0), some (.iload_n 3, 1, 3, 0, 0, 0), some (.aload_n 1, 1, 1, 0, 0, 0), some (.getfield 81, 3, 10, 0, 0, 0), none,
  none, some (.if_icmp .ge 25, 3, 32, 0, 0, 0), none, none, some (.aload_n 0, 1, 0, 0, 0, 0), some (.aload_n 1, 1, 1, 0, 0, 0),
  some (.iload_n 3, 1, 3, 0, 0, 0), some (.iload_n 2, 1, 2, 0, 0, 0), some (.invokevirtual 84, 3, 45, 3, 0, 6), none, none, some (.ifCond .eq 9, 3, 26, 0, 0, 0),
  none, none, some (.aload_n 0, 1, 0, 0, 0, 0), some (.aload_n 1, 1, 1, 0, 0, 0), some (.iconst 5, 1, 0, 0, 0, 5), some (.invokevirtual 88, 3, 47, 2, 0, 6),
  none, none, some (.iinc 3 1, 3, 3, 0, 0, 1), none, none, some (.goto (-27), 3, 2, 0, 0, 0),
  none, none, some (.return_, 1, 0, 0, 0, 0)
  ])
def mi_X6_useOnce : am_MI := (yX6_useOnce, cX6_useOnce, 4, none, [
  some (.aload_n 0, 1, 0, 0, 0, 0), some (.getfield 18, 3, 6, 3, 0, 0), none, none, some (.istore_n 2, 1, 2, 0, 0, 0), some (.iconst 0, 1, 0, 0, 0, 0),
  some (.istore_n 3, 1, 3, 0, 0, 0), some (.iload_n 3, 1, 3, 0, 0, 0), some (.iload_n 2, 1, 2, 0, 0, 0), some (.if_icmp .ge 30, 3, 39, 0, 0, 0), none, none,
  some (.aload_n 0, 1, 0, 0, 0, 0), some (.aload_n 1, 1, 1, 0, 0, 0), some (.iconst 0, 1, 0, 0, 0, 0), some (.aload_n 0, 1, 0, 0, 0, 0), some (.getfield 15, 3, 6, 2, 0, 0), none,
  none, some (.iload_n 3, 1, 3, 0, 0, 0), some (.iaload, 1, 0, 0, 0, 0), some (.invokevirtual 84, 3, 45, 3, 0, 6), none, none,
  some (.ifCond .eq 9, 3, 33, 0, 0, 0), none, none, some (.aload_n 0, 1, 0, 0, 0, 0), some (.aload_n 1, 1, 1, 0, 0, 0), some (.iconst 5, 1, 0, 0, 0, 5),
  some (.invokevirtual 88, 3, 47, 2, 0, 6), none, none, some (.iinc 3 1, 3, 3, 0, 0, 1), none, none,
  some (.goto (-29), 3, 7, 0, 0, 0), none, none, some (.aload_n 0, 1, 0, 0, 0, 0), some (.iload_n 2, 1, 2, 0, 0, 0), some (.invokevirtual 91, 3, 44, 1, 0, 6),
  none, none, some (.return_, 1, 0, 0, 0, 0)
  ])
def mi_X6_settleFrom : am_MI := (yX6_settleFrom, cX6_settleFrom, 3, none, [
  some (.iload_n 1, 1, 1, 0, 0, 0), some (.istore_n 2, 1, 2, 0, 0, 0), some (.iload_n 2, 1, 2, 0, 0, 0), some (.aload_n 0, 1, 0, 0, 0, 0), some (.getfield 18, 3, 6, 3, 0, 0), none,
  none, some (.if_icmp .ge 21, 3, 28, 0, 0, 0), none, none, some (.aload_n 0, 1, 0, 0, 0, 0), some (.getfield 22, 3, 6, 4, 0, 0),
  none, none, some (.aload_n 0, 1, 0, 0, 0, 0), some (.getfield 15, 3, 6, 2, 0, 0), none, none,
  some (.iload_n 2, 1, 2, 0, 0, 0), some (.iaload, 1, 0, 0, 0, 0), some (.iconst 1, 1, 0, 0, 0, 1), some (.bastore, 1, 2, 0, 0, 0), some (.iinc 2 1, 3, 2, 0, 0, 1), none,
  none, some (.goto (-23), 3, 2, 0, 0, 0), none, none, some (.return_, 1, 0, 0, 0, 0)
  ])
def mi_X6_bind : am_MI := (yX6_bind, cX6_bind, 5, (some FieldType.boolean), [
  some (.aload_n 1, 1, 1, 0, 0, 0), some (.getfield 94, 3, 10, 3, 0, 0), none, none, some (.iconst 4, 1, 0, 0, 0, 4), some (.iload_n 2, 1, 2, 0, 0, 0),
  some (.imul, 1, 0, 0, 0, 0), some (.iaload, 1, 0, 0, 0, 0), some (.iload_n 3, 1, 3, 0, 0, 0), some (.bipush 125, 2, 0, 0, 0, 125), none, some (.idiv, 1, 0, 0, 0, 0),
  some (.if_icmp .eq 5, 3, 17, 0, 0, 0), none, none, some (.iconst 0, 1, 0, 0, 0, 0), some (.ireturn, 1, 0, 0, 0, 0), some (.iconst 5, 1, 0, 0, 0, 5),
  some (.istore 4, 2, 4, 0, 0, 0), none, some (.iload 4, 2, 4, 0, 0, 0), none, some (.bipush 9, 2, 0, 0, 0, 9), none,
  some (.if_icmp .ge 17, 3, 41, 0, 0, 0), none, none, some (.aload_n 0, 1, 0, 0, 0, 0), some (.getfield 40, 3, 6, 7, 0, 0), none,
  none, some (.iload 4, 2, 4, 0, 0, 0), none, some (.iconst (-1), 1, 0, 0, 0, -1), some (.iastore, 1, 0, 0, 0, 0), some (.iinc 4 1, 3, 4, 0, 0, 1),
  none, none, some (.goto (-18), 3, 20, 0, 0, 0), none, none, some (.aload_n 0, 1, 0, 0, 0, 0),
  some (.aload_n 1, 1, 1, 0, 0, 0), some (.getfield 94, 3, 10, 3, 0, 0), none, none, some (.iconst 4, 1, 0, 0, 0, 4), some (.iload_n 2, 1, 2, 0, 0, 0),
  some (.imul, 1, 0, 0, 0, 0), some (.iconst 1, 1, 0, 0, 0, 1), some (.iadd, 1, 0, 0, 0, 0), some (.iaload, 1, 0, 0, 0, 0), some (.iload_n 3, 1, 3, 0, 0, 0), some (.bipush 25, 2, 0, 0, 0, 25),
  none, some (.idiv, 1, 0, 0, 0, 0), some (.iconst 5, 1, 0, 0, 0, 5), some (.irem, 1, 0, 0, 0, 0), some (.invokevirtual 97, 3, 46, 2, 0, 6), none,
  none, some (.ifCond .eq 49, 3, 110, 0, 0, 0), none, none, some (.aload_n 0, 1, 0, 0, 0, 0), some (.aload_n 1, 1, 1, 0, 0, 0),
  some (.getfield 94, 3, 10, 3, 0, 0), none, none, some (.iconst 4, 1, 0, 0, 0, 4), some (.iload_n 2, 1, 2, 0, 0, 0), some (.imul, 1, 0, 0, 0, 0),
  some (.iconst 2, 1, 0, 0, 0, 2), some (.iadd, 1, 0, 0, 0, 0), some (.iaload, 1, 0, 0, 0, 0), some (.iload_n 3, 1, 3, 0, 0, 0), some (.iconst 5, 1, 0, 0, 0, 5), some (.idiv, 1, 0, 0, 0, 0),
  some (.iconst 5, 1, 0, 0, 0, 5), some (.irem, 1, 0, 0, 0, 0), some (.invokevirtual 97, 3, 46, 2, 0, 6), none, none, some (.ifCond .eq 27, 3, 110, 0, 0, 0),
  none, none, some (.aload_n 0, 1, 0, 0, 0, 0), some (.aload_n 1, 1, 1, 0, 0, 0), some (.getfield 94, 3, 10, 3, 0, 0), none,
  none, some (.iconst 4, 1, 0, 0, 0, 4), some (.iload_n 2, 1, 2, 0, 0, 0), some (.imul, 1, 0, 0, 0, 0), some (.iconst 3, 1, 0, 0, 0, 3), some (.iadd, 1, 0, 0, 0, 0),
  some (.iaload, 1, 0, 0, 0, 0), some (.iload_n 3, 1, 3, 0, 0, 0), some (.iconst 5, 1, 0, 0, 0, 5), some (.irem, 1, 0, 0, 0, 0), some (.invokevirtual 97, 3, 46, 2, 0, 6), none,
  none, some (.ifCond .eq 7, 3, 110, 0, 0, 0), none, none, some (.iconst 1, 1, 0, 0, 0, 1), some (.goto 4, 3, 111, 0, 0, 0),
  none, none, some (.iconst 0, 1, 0, 0, 0, 0), some (.ireturn, 1, 0, 0, 0, 0)
  ])
def mi_X6_bindArg : am_MI := (yX6_bindArg, cX6_bindArg, 3, (some FieldType.boolean), [
  some (.aload_n 0, 1, 0, 0, 0, 0), some (.getfield 40, 3, 6, 7, 0, 0), none, none, some (.iload_n 1, 1, 1, 0, 0, 0), some (.iaload, 1, 0, 0, 0, 0),
  some (.iconst (-1), 1, 0, 0, 0, -1), some (.if_icmp .ne 10, 3, 17, 0, 0, 0), none, none, some (.aload_n 0, 1, 0, 0, 0, 0), some (.getfield 40, 3, 6, 7, 0, 0),
  none, none, some (.iload_n 1, 1, 1, 0, 0, 0), some (.iload_n 2, 1, 2, 0, 0, 0), some (.iastore, 1, 0, 0, 0, 0), some (.aload_n 0, 1, 0, 0, 0, 0),
  some (.getfield 40, 3, 6, 7, 0, 0), none, none, some (.iload_n 1, 1, 1, 0, 0, 0), some (.iaload, 1, 0, 0, 0, 0), some (.iload_n 2, 1, 2, 0, 0, 0),
  some (.if_icmp .ne 7, 3, 31, 0, 0, 0), none, none, some (.iconst 1, 1, 0, 0, 0, 1), some (.goto 4, 3, 32, 0, 0, 0), none,
  none, some (.iconst 0, 1, 0, 0, 0, 0), some (.ireturn, 1, 0, 0, 0, 0)
  ])
def mi_X6_complete : am_MI := (yX6_complete, cX6_complete, 5, none, [
  some (.iload_n 2, 1, 2, 0, 0, 0), some (.istore_n 3, 1, 3, 0, 0, 0), some (.iload_n 3, 1, 3, 0, 0, 0), some (.bipush 9, 2, 0, 0, 0, 9), none, some (.if_icmp .ge 27, 3, 32, 0, 0, 0),
  none, none, some (.aload_n 0, 1, 0, 0, 0, 0), some (.getfield 40, 3, 6, 7, 0, 0), none, none,
  some (.iload_n 3, 1, 3, 0, 0, 0), some (.iaload, 1, 0, 0, 0, 0), some (.iconst (-1), 1, 0, 0, 0, -1), some (.if_icmp .ne 11, 3, 26, 0, 0, 0), none, none,
  some (.aload_n 1, 1, 1, 0, 0, 0), some (.iload_n 3, 1, 3, 0, 0, 0), some (.invokevirtual 101, 3, 71, 1, 1, 10), none, none, some (.ifCond .ne 9, 3, 32, 0, 0, 0),
  none, none, some (.iinc 3 1, 3, 3, 0, 0, 1), none, none, some (.goto (-27), 3, 2, 0, 0, 0),
  none, none, some (.iload_n 3, 1, 3, 0, 0, 0), some (.bipush 9, 2, 0, 0, 0, 9), none, some (.if_icmp .lt 9, 3, 44, 0, 0, 0),
  none, none, some (.aload_n 0, 1, 0, 0, 0, 0), some (.aload_n 1, 1, 1, 0, 0, 0), some (.invokevirtual 105, 3, 48, 1, 0, 6), none,
  none, some (.return_, 1, 0, 0, 0, 0), some (.iconst 0, 1, 0, 0, 0, 0), some (.istore 4, 2, 4, 0, 0, 0), none, some (.iload 4, 2, 4, 0, 0, 0),
  none, some (.iconst 5, 1, 0, 0, 0, 5), some (.if_icmp .ge 25, 3, 75, 0, 0, 0), none, none, some (.aload_n 0, 1, 0, 0, 0, 0),
  some (.getfield 40, 3, 6, 7, 0, 0), none, none, some (.iload_n 3, 1, 3, 0, 0, 0), some (.iload 4, 2, 4, 0, 0, 0), none,
  some (.iastore, 1, 0, 0, 0, 0), some (.aload_n 0, 1, 0, 0, 0, 0), some (.aload_n 1, 1, 1, 0, 0, 0), some (.iload_n 3, 1, 3, 0, 0, 0), some (.iconst 1, 1, 0, 0, 0, 1), some (.iadd, 1, 0, 0, 0, 0),
  some (.invokevirtual 88, 3, 47, 2, 0, 6), none, none, some (.iinc 4 1, 3, 4, 0, 0, 1), none, none,
  some (.goto (-25), 3, 47, 0, 0, 0), none, none, some (.aload_n 0, 1, 0, 0, 0, 0), some (.getfield 40, 3, 6, 7, 0, 0), none,
  none, some (.iload_n 3, 1, 3, 0, 0, 0), some (.iconst (-1), 1, 0, 0, 0, -1), some (.iastore, 1, 0, 0, 0, 0), some (.return_, 1, 0, 0, 0, 0)
  ])
def mi_X6_conclude : am_MI := (yX6_conclude, cX6_conclude, 6, none, [
  some (.aload_n 1, 1, 1, 0, 0, 0), some (.aload_n 0, 1, 0, 0, 0, 0), some (.getfield 40, 3, 6, 7, 0, 0), none, none, some (.invokevirtual 109, 3, 73, 1, 1, 10),
  none, none, some (.ifCond .ne 4, 3, 12, 0, 0, 0), none, none, some (.return_, 1, 0, 0, 0, 0),
  some (.iconst 0, 1, 0, 0, 0, 0), some (.istore_n 2, 1, 2, 0, 0, 0), some (.iconst 0, 1, 0, 0, 0, 0), some (.istore_n 3, 1, 3, 0, 0, 0), some (.iconst 0, 1, 0, 0, 0, 0), some (.istore 4, 2, 4, 0, 0, 0),
  none, some (.iload 4, 2, 4, 0, 0, 0), none, some (.aload_n 1, 1, 1, 0, 0, 0), some (.getfield 81, 3, 10, 0, 0, 0), none,
  none, some (.if_icmp .ge 54, 3, 79, 0, 0, 0), none, none, some (.aload_n 1, 1, 1, 0, 0, 0), some (.iload 4, 2, 4, 0, 0, 0),
  none, some (.aload_n 0, 1, 0, 0, 0, 0), some (.getfield 40, 3, 6, 7, 0, 0), none, none, some (.invokevirtual 113, 3, 72, 2, 1, 10),
  none, none, some (.istore 5, 2, 5, 0, 0, 0), none, some (.aload_n 0, 1, 0, 0, 0, 0), some (.getfield 22, 3, 6, 4, 0, 0),
  none, none, some (.iload 5, 2, 5, 0, 0, 0), none, some (.baload, 1, 2, 0, 0, 0), some (.ifCond .ne 4, 3, 51, 0, 0, 0),
  none, none, some (.return_, 1, 0, 0, 0, 0), some (.iload_n 2, 1, 2, 0, 0, 0), some (.aload_n 0, 1, 0, 0, 0, 0), some (.getfield 9, 3, 6, 1, 0, 0),
  none, none, some (.iload 5, 2, 5, 0, 0, 0), none, some (.iaload, 1, 0, 0, 0, 0), some (.iadd, 1, 0, 0, 0, 0),
  some (.istore_n 2, 1, 2, 0, 0, 0), some (.iload_n 3, 1, 3, 0, 0, 0), some (.aload_n 0, 1, 0, 0, 0, 0), some (.getfield 9, 3, 6, 1, 0, 0), none, none,
  some (.iload 5, 2, 5, 0, 0, 0), none, some (.iaload, 1, 0, 0, 0, 0), some (.invokestatic 117, 3, 210, 2, 0, 0), none, none,
  some (.istore_n 3, 1, 3, 0, 0, 0), some (.iinc 4 1, 3, 4, 0, 0, 1), none, none, some (.goto (-57), 3, 19, 0, 0, 0), none,
  none, some (.aload_n 0, 1, 0, 0, 0, 0), some (.aload_n 1, 1, 1, 0, 0, 0), some (.iconst 3, 1, 0, 0, 0, 3), some (.aload_n 0, 1, 0, 0, 0, 0), some (.getfield 40, 3, 6, 7, 0, 0),
  none, none, some (.invokevirtual 113, 3, 72, 2, 1, 10), none, none, some (.aload_n 0, 1, 0, 0, 0, 0),
  some (.getfield 26, 3, 6, 5, 0, 0), none, none, some (.ifCond .eq 14, 3, 107, 0, 0, 0), none, none,
  some (.ldc 123, 2, 0, 0, 0, 100000), none, some (.iconst 1, 1, 0, 0, 0, 1), some (.iload_n 2, 1, 2, 0, 0, 0), some (.iadd, 1, 0, 0, 0, 0), some (.invokestatic 124, 3, 211, 2, 0, 0),
  none, none, some (.goto 6, 3, 110, 0, 0, 0), none, none, some (.iconst 1, 1, 0, 0, 0, 1),
  some (.iload_n 3, 1, 3, 0, 0, 0), some (.iadd, 1, 0, 0, 0, 0), some (.invokevirtual 61, 3, 49, 2, 0, 6), none, none, some (.return_, 1, 0, 0, 0, 0)
  ])
def mi_X6_arrive : am_MI := (yX6_arrive, cX6_arrive, 3, none, [
  some (.aload_n 0, 1, 0, 0, 0, 0), some (.getfield 9, 3, 6, 1, 0, 0), none, none, some (.iload_n 1, 1, 1, 0, 0, 0), some (.iaload, 1, 0, 0, 0, 0),
  some (.ifCond .ge 43, 3, 49, 0, 0, 0), none, none, some (.aload_n 0, 1, 0, 0, 0, 0), some (.getfield 18, 3, 6, 3, 0, 0), none,
  none, some (.sipush 750, 3, 0, 0, 0, 750), none, none, some (.if_icmp .ge 33, 3, 49, 0, 0, 0), none,
  none, some (.aload_n 0, 1, 0, 0, 0, 0), some (.getfield 15, 3, 6, 2, 0, 0), none, none, some (.aload_n 0, 1, 0, 0, 0, 0),
  some (.getfield 18, 3, 6, 3, 0, 0), none, none, some (.iload_n 1, 1, 1, 0, 0, 0), some (.iastore, 1, 0, 0, 0, 0), some (.aload_n 0, 1, 0, 0, 0, 0),
  some (.dup, 1, 0, 0, 0, 0), some (.getfield 18, 3, 6, 3, 0, 0), none, none, some (.iconst 1, 1, 0, 0, 0, 1), some (.iadd, 1, 0, 0, 0, 0),
  some (.putfield 18, 3, 6, 3, 0, 0), none, none, some (.aload_n 0, 1, 0, 0, 0, 0), some (.getfield 9, 3, 6, 1, 0, 0), none,
  none, some (.iload_n 1, 1, 1, 0, 0, 0), some (.iload_n 2, 1, 2, 0, 0, 0), some (.iastore, 1, 0, 0, 0, 0), some (.goto 20, 3, 66, 0, 0, 0), none,
  none, some (.iload_n 2, 1, 2, 0, 0, 0), some (.aload_n 0, 1, 0, 0, 0, 0), some (.getfield 9, 3, 6, 1, 0, 0), none, none,
  some (.iload_n 1, 1, 1, 0, 0, 0), some (.iaload, 1, 0, 0, 0, 0), some (.if_icmp .ge 10, 3, 66, 0, 0, 0), none, none, some (.aload_n 0, 1, 0, 0, 0, 0),
  some (.getfield 9, 3, 6, 1, 0, 0), none, none, some (.iload_n 1, 1, 1, 0, 0, 0), some (.iload_n 2, 1, 2, 0, 0, 0), some (.iastore, 1, 0, 0, 0, 0),
  some (.return_, 1, 0, 0, 0, 0)
  ])
def mi_X7_init : am_MI := (yX7_init, cX7_init, 2, none, [
  some (.aload_n 0, 1, 0, 0, 0, 0), some (.invokespecial 3, 3, 0, 0, 2, 0), none, none, some (.aload_n 0, 1, 0, 0, 0, 0), some (.iconst 0, 1, 0, 0, 0, 0),
  some (.putfield 9, 3, 7, 1, 0, 0), none, none, some (.aload_n 0, 1, 0, 0, 0, 0), some (.iconst 0, 1, 0, 0, 0, 0), some (.putfield 15, 3, 7, 2, 0, 0),
  none, none, some (.aload_n 0, 1, 0, 0, 0, 0), some (.new 18, 3, 10, 0, 0, 0), none, none,
  some (.dup, 1, 0, 0, 0, 0), some (.invokespecial 20, 3, 68, 0, 1, 0), none, none, some (.putfield 21, 3, 7, 3, 0, 0), none,
  none, some (.aload_n 0, 1, 0, 0, 0, 0), some (.iconst 0, 1, 0, 0, 0, 0), some (.putfield 25, 3, 7, 4, 0, 0), none, none,
  some (.aload_n 0, 1, 0, 0, 0, 0), some (.aload_n 1, 1, 1, 0, 0, 0), some (.putfield 28, 3, 7, 0, 0, 0), none, none, some (.return_, 1, 0, 0, 0, 0)
  ])
def mi_X7_read : am_MI := (yX7_read, cX7_read, 2, (some FieldType.int), [
  some (.aload_n 0, 1, 0, 0, 0, 0), some (.aload_n 0, 1, 0, 0, 0, 0), some (.getfield 28, 3, 7, 0, 0, 0), none, none, some (.getfield 32, 3, 0, 0, 0, 0),
  none, none, some (.bipush 7, 2, 0, 0, 0, 7), none, some (.iaload, 1, 0, 0, 0, 0), some (.aload_n 0, 1, 0, 0, 0, 0),
  some (.getfield 28, 3, 7, 0, 0, 0), none, none, some (.getfield 38, 3, 0, 1, 0, 0), none, none,
  some (.arraylength, 1, 1, 0, 0, 0), some (.invokestatic 42, 3, 211, 2, 0, 0), none, none, some (.putfield 9, 3, 7, 1, 0, 0), none,
  none, some (.aload_n 0, 1, 0, 0, 0, 0), some (.getfield 28, 3, 7, 0, 0, 0), none, none, some (.getfield 32, 3, 0, 0, 0, 0),
  none, none, some (.bipush 7, 2, 0, 0, 0, 7), none, some (.iconst 0, 1, 0, 0, 0, 0), some (.iastore, 1, 0, 0, 0, 0),
  some (.aload_n 0, 1, 0, 0, 0, 0), some (.iconst 0, 1, 0, 0, 0, 0), some (.putfield 15, 3, 7, 2, 0, 0), none, none, some (.aload_n 0, 1, 0, 0, 0, 0),
  some (.aload_n 1, 1, 1, 0, 0, 0), some (.putfield 21, 3, 7, 3, 0, 0), none, none, some (.aload_n 0, 1, 0, 0, 0, 0), some (.iconst 0, 1, 0, 0, 0, 0),
  some (.putfield 25, 3, 7, 4, 0, 0), none, none, some (.aload_n 1, 1, 1, 0, 0, 0), some (.iconst 0, 1, 0, 0, 0, 0), some (.putfield 48, 3, 10, 0, 0, 0),
  none, none, some (.aload_n 1, 1, 1, 0, 0, 0), some (.iconst 0, 1, 0, 0, 0, 0), some (.putfield 51, 3, 10, 1, 0, 0), none,
  none, some (.aload_n 1, 1, 1, 0, 0, 0), some (.iconst 0, 1, 0, 0, 0, 0), some (.putfield 54, 3, 10, 2, 0, 0), none, none,
  some (.aload_n 0, 1, 0, 0, 0, 0), some (.invokevirtual 57, 3, 52, 0, 0, 7), none, none, some (.ifCond .eq 22, 3, 92, 0, 0, 0), none,
  none, some (.aload_n 0, 1, 0, 0, 0, 0), some (.iconst 3, 1, 0, 0, 0, 3), some (.invokevirtual 61, 3, 54, 1, 0, 7), none, none,
  some (.ifCond .eq 14, 3, 92, 0, 0, 0), none, none, some (.aload_n 0, 1, 0, 0, 0, 0), some (.getfield 15, 3, 7, 2, 0, 0), none,
  none, some (.aload_n 0, 1, 0, 0, 0, 0), some (.getfield 9, 3, 7, 1, 0, 0), none, none, some (.if_icmp .ge 8, 3, 97, 0, 0, 0),
  none, none, some (.aload_n 0, 1, 0, 0, 0, 0), some (.getfield 15, 3, 7, 2, 0, 0), none, none,
  some (.ireturn, 1, 0, 0, 0, 0), some (.aload_n 0, 1, 0, 0, 0, 0), some (.getfield 25, 3, 7, 4, 0, 0), none, none, some (.aload_n 1, 1, 1, 0, 0, 0),
  some (.getfield 54, 3, 10, 2, 0, 0), none, none, some (.iconst (-1), 1, 0, 0, 0, -1), some (.ixor, 1, 0, 0, 0, 0), some (.iand, 1, 0, 0, 0, 0),
  some (.ifCond .eq 9, 3, 117, 0, 0, 0), none, none, some (.sipush 200, 3, 0, 0, 0, 200), none, none,
  some (.goto 4, 3, 118, 0, 0, 0), none, none, some (.iconst (-1), 1, 0, 0, 0, -1), some (.ireturn, 1, 0, 0, 0, 0)
  ])
def mi_X7_readParts : am_MI := (yX7_readParts, cX7_readParts, 3, (some FieldType.boolean), [
  some (.iconst 0, 1, 0, 0, 0, 0), some (.istore_n 1, 1, 1, 0, 0, 0), some (.iload_n 1, 1, 1, 0, 0, 0), some (.bipush 7, 2, 0, 0, 0, 7), none, some (.if_icmp .ge 82, 3, 87, 0, 0, 0),
  none, none, some (.aload_n 0, 1, 0, 0, 0, 0), some (.invokevirtual 65, 3, 53, 0, 0, 7), none, none,
  some (.ifCond .ne 5, 3, 17, 0, 0, 0), none, none, some (.iconst 0, 1, 0, 0, 0, 0), some (.ireturn, 1, 0, 0, 0, 0), some (.aload_n 0, 1, 0, 0, 0, 0),
  some (.getfield 21, 3, 7, 3, 0, 0), none, none, some (.getfield 48, 3, 10, 0, 0, 0), none, none,
  some (.ifCond .le 14, 3, 38, 0, 0, 0), none, none, some (.aload_n 0, 1, 0, 0, 0, 0), some (.bipush 62, 2, 0, 0, 0, 62), none,
  some (.invokevirtual 68, 3, 58, 1, 0, 7), none, none, some (.ifCond .eq 5, 3, 38, 0, 0, 0), none, none,
  some (.iconst 1, 1, 0, 0, 0, 1), some (.ireturn, 1, 0, 0, 0, 0), some (.aload_n 0, 1, 0, 0, 0, 0), some (.getfield 21, 3, 7, 3, 0, 0), none, none,
  some (.getfield 48, 3, 10, 0, 0, 0), none, none, some (.iconst 3, 1, 0, 0, 0, 3), some (.if_icmp .lt 14, 3, 60, 0, 0, 0), none,
  none, some (.aload_n 0, 1, 0, 0, 0, 0), some (.getfield 21, 3, 7, 3, 0, 0), none, none, some (.getfield 51, 3, 10, 1, 0, 0),
  none, none, some (.iconst 4, 1, 0, 0, 0, 4), some (.if_icmp .ge 7, 3, 64, 0, 0, 0), none, none,
  some (.iconst 1, 1, 0, 0, 0, 1), some (.goto 4, 3, 65, 0, 0, 0), none, none, some (.iconst 0, 1, 0, 0, 0, 0), some (.istore_n 2, 1, 2, 0, 0, 0),
  some (.iload_n 2, 1, 2, 0, 0, 0), some (.ifCond .eq 12, 3, 79, 0, 0, 0), none, none, some (.aload_n 0, 1, 0, 0, 0, 0), some (.bipush 38, 2, 0, 0, 0, 38),
  none, some (.invokevirtual 68, 3, 58, 1, 0, 7), none, none, some (.ifCond .ne 5, 3, 81, 0, 0, 0), none,
  none, some (.iconst 0, 1, 0, 0, 0, 0), some (.ireturn, 1, 0, 0, 0, 0), some (.iinc 1 1, 3, 1, 0, 0, 1), none, none,
  some (.goto (-82), 3, 2, 0, 0, 0), none, none, some (.iconst 0, 1, 0, 0, 0, 0), some (.ireturn, 1, 0, 0, 0, 0)
  ])
def mi_X7_readPart : am_MI := (yX7_readPart, cX7_readPart, 1, (some FieldType.boolean), [
  some (.aload_n 0, 1, 0, 0, 0, 0), some (.getfield 21, 3, 7, 3, 0, 0), none, none, some (.getfield 48, 3, 10, 0, 0, 0), none,
  none, some (.iconst 3, 1, 0, 0, 0, 3), some (.if_icmp .ge 39, 3, 47, 0, 0, 0), none, none, some (.aload_n 0, 1, 0, 0, 0, 0),
  some (.ldc 72, 2, 0, 0, 1, 0), none, some (.invokevirtual 74, 3, 57, 1, 0, 7), none, none, some (.ifCond .lt 30, 3, 47, 0, 0, 0),
  none, none, some (.aload_n 0, 1, 0, 0, 0, 0), some (.getfield 21, 3, 7, 3, 0, 0), none, none,
  some (.dup, 1, 0, 0, 0, 0), some (.getfield 48, 3, 10, 0, 0, 0), none, none, some (.iconst 1, 1, 0, 0, 0, 1), some (.iadd, 1, 0, 0, 0, 0),
  some (.putfield 48, 3, 10, 0, 0, 0), none, none, some (.aload_n 0, 1, 0, 0, 0, 0), some (.aload_n 0, 1, 0, 0, 0, 0), some (.getfield 21, 3, 7, 3, 0, 0),
  none, none, some (.getfield 48, 3, 10, 0, 0, 0), none, none, some (.iconst 1, 1, 0, 0, 0, 1),
  some (.isub, 1, 0, 0, 0, 0), some (.invokevirtual 61, 3, 54, 1, 0, 7), none, none, some (.ireturn, 1, 0, 0, 0, 0), some (.aload_n 0, 1, 0, 0, 0, 0),
  some (.getfield 21, 3, 7, 3, 0, 0), none, none, some (.getfield 51, 3, 10, 1, 0, 0), none, none,
  some (.iconst 4, 1, 0, 0, 0, 4), some (.if_icmp .ge 40, 3, 95, 0, 0, 0), none, none, some (.aload_n 0, 1, 0, 0, 0, 0), some (.ldc 78, 2, 1, 0, 1, 0),
  none, some (.invokevirtual 74, 3, 57, 1, 0, 7), none, none, some (.iconst 5, 1, 0, 0, 0, 5), some (.if_icmp .lt 30, 3, 95, 0, 0, 0),
  none, none, some (.aload_n 0, 1, 0, 0, 0, 0), some (.getfield 21, 3, 7, 3, 0, 0), none, none,
  some (.dup, 1, 0, 0, 0, 0), some (.getfield 51, 3, 10, 1, 0, 0), none, none, some (.iconst 1, 1, 0, 0, 0, 1), some (.iadd, 1, 0, 0, 0, 0),
  some (.putfield 51, 3, 10, 1, 0, 0), none, none, some (.aload_n 0, 1, 0, 0, 0, 0), some (.aload_n 0, 1, 0, 0, 0, 0), some (.getfield 21, 3, 7, 3, 0, 0),
  none, none, some (.getfield 51, 3, 10, 1, 0, 0), none, none, some (.iconst 1, 1, 0, 0, 0, 1),
  some (.isub, 1, 0, 0, 0, 0), some (.invokevirtual 80, 3, 55, 1, 0, 7), none, none, some (.ireturn, 1, 0, 0, 0, 0), some (.iconst 0, 1, 0, 0, 0, 0),
  some (.ireturn, 1, 0, 0, 0, 0)
  ])
def mi_X7_readTerm : am_MI := (yX7_readTerm, cX7_readTerm, 5, (some FieldType.boolean), [
  some (.aload_n 0, 1, 0, 0, 0, 0), some (.ldc 72, 2, 0, 0, 1, 0), none, some (.invokevirtual 74, 3, 57, 1, 0, 7), none, none,
  some (.istore_n 2, 1, 2, 0, 0, 0), some (.iload_n 2, 1, 2, 0, 0, 0), some (.ifCond .ge 5, 3, 13, 0, 0, 0), none, none, some (.iconst 0, 1, 0, 0, 0, 0),
  some (.ireturn, 1, 0, 0, 0, 0), some (.aload_n 0, 1, 0, 0, 0, 0), some (.dup, 1, 0, 0, 0, 0), some (.getfield 15, 3, 7, 2, 0, 0), none, none,
  some (.iconst 1, 1, 0, 0, 0, 1), some (.iadd, 1, 0, 0, 0, 0), some (.putfield 15, 3, 7, 2, 0, 0), none, none, some (.aload_n 0, 1, 0, 0, 0, 0),
  some (.getfield 21, 3, 7, 3, 0, 0), none, none, some (.getfield 83, 3, 10, 3, 0, 0), none, none,
  some (.iconst 4, 1, 0, 0, 0, 4), some (.iload_n 1, 1, 1, 0, 0, 0), some (.imul, 1, 0, 0, 0, 0), some (.iload_n 2, 1, 2, 0, 0, 0), some (.iastore, 1, 0, 0, 0, 0), some (.iconst 1, 1, 0, 0, 0, 1),
  some (.istore_n 3, 1, 3, 0, 0, 0), some (.iload_n 3, 1, 3, 0, 0, 0), some (.iconst 3, 1, 0, 0, 0, 3), some (.if_icmp .gt 68, 3, 107, 0, 0, 0), none, none,
  some (.aload_n 0, 1, 0, 0, 0, 0), some (.iload_n 3, 1, 3, 0, 0, 0), some (.iconst 1, 1, 0, 0, 0, 1), some (.if_icmp .ne 8, 3, 53, 0, 0, 0), none, none,
  some (.bipush 40, 2, 0, 0, 0, 40), none, some (.goto 5, 3, 55, 0, 0, 0), none, none, some (.bipush 44, 2, 0, 0, 0, 44),
  none, some (.invokevirtual 68, 3, 58, 1, 0, 7), none, none, some (.ifCond .ne 5, 3, 63, 0, 0, 0), none,
  none, some (.iconst 0, 1, 0, 0, 0, 0), some (.ireturn, 1, 0, 0, 0, 0), some (.aload_n 0, 1, 0, 0, 0, 0), some (.iload_n 1, 1, 1, 0, 0, 0), some (.iconst 3, 1, 0, 0, 0, 3),
  some (.if_icmp .ne 7, 3, 73, 0, 0, 0), none, none, some (.iconst 1, 1, 0, 0, 0, 1), some (.goto 4, 3, 74, 0, 0, 0), none,
  none, some (.iconst 0, 1, 0, 0, 0, 0), some (.invokevirtual 86, 3, 56, 1, 0, 7), none, none, some (.istore 4, 2, 4, 0, 0, 0),
  none, some (.iload 4, 2, 4, 0, 0, 0), none, some (.ifCond .ge 5, 3, 86, 0, 0, 0), none, none,
  some (.iconst 0, 1, 0, 0, 0, 0), some (.ireturn, 1, 0, 0, 0, 0), some (.aload_n 0, 1, 0, 0, 0, 0), some (.getfield 21, 3, 7, 3, 0, 0), none, none,
  some (.getfield 83, 3, 10, 3, 0, 0), none, none, some (.iconst 4, 1, 0, 0, 0, 4), some (.iload_n 1, 1, 1, 0, 0, 0), some (.imul, 1, 0, 0, 0, 0),
  some (.iload_n 3, 1, 3, 0, 0, 0), some (.iadd, 1, 0, 0, 0, 0), some (.iload 4, 2, 4, 0, 0, 0), none, some (.iastore, 1, 0, 0, 0, 0), some (.iinc 3 1, 3, 3, 0, 0, 1),
  none, none, some (.goto (-67), 3, 37, 0, 0, 0), none, none, some (.aload_n 0, 1, 0, 0, 0, 0),
  some (.bipush 41, 2, 0, 0, 0, 41), none, some (.invokevirtual 68, 3, 58, 1, 0, 7), none, none, some (.ireturn, 1, 0, 0, 0, 0)
  ])
def mi_X7_readTest : am_MI := (yX7_readTest, cX7_readTest, 5, (some FieldType.boolean), [
  some (.aload_n 0, 1, 0, 0, 0, 0), some (.iconst 1, 1, 0, 0, 0, 1), some (.invokevirtual 86, 3, 56, 1, 0, 7), none, none, some (.istore_n 2, 1, 2, 0, 0, 0),
  some (.aload_n 0, 1, 0, 0, 0, 0), some (.ldc 90, 2, 2, 0, 1, 0), none, some (.invokevirtual 74, 3, 57, 1, 0, 7), none, none,
  some (.istore_n 3, 1, 3, 0, 0, 0), some (.iload_n 2, 1, 2, 0, 0, 0), some (.ifCond .lt 7, 3, 21, 0, 0, 0), none, none, some (.iload_n 3, 1, 3, 0, 0, 0),
  some (.ifCond .ge 5, 3, 23, 0, 0, 0), none, none, some (.iconst 0, 1, 0, 0, 0, 0), some (.ireturn, 1, 0, 0, 0, 0), some (.aload_n 0, 1, 0, 0, 0, 0),
  some (.dup, 1, 0, 0, 0, 0), some (.getfield 15, 3, 7, 2, 0, 0), none, none, some (.iconst 1, 1, 0, 0, 0, 1), some (.iadd, 1, 0, 0, 0, 0),
  some (.putfield 15, 3, 7, 2, 0, 0), none, none, some (.aload_n 0, 1, 0, 0, 0, 0), some (.iconst 1, 1, 0, 0, 0, 1), some (.invokevirtual 86, 3, 56, 1, 0, 7),
  none, none, some (.istore 4, 2, 4, 0, 0, 0), none, some (.iload 4, 2, 4, 0, 0, 0), none,
  some (.ifCond .ge 5, 3, 47, 0, 0, 0), none, none, some (.iconst 0, 1, 0, 0, 0, 0), some (.ireturn, 1, 0, 0, 0, 0), some (.aload_n 0, 1, 0, 0, 0, 0),
  some (.getfield 21, 3, 7, 3, 0, 0), none, none, some (.getfield 92, 3, 10, 4, 0, 0), none, none,
  some (.iconst 3, 1, 0, 0, 0, 3), some (.iload_n 1, 1, 1, 0, 0, 0), some (.imul, 1, 0, 0, 0, 0), some (.iload_n 2, 1, 2, 0, 0, 0), some (.iastore, 1, 0, 0, 0, 0), some (.aload_n 0, 1, 0, 0, 0, 0),
  some (.getfield 21, 3, 7, 3, 0, 0), none, none, some (.getfield 92, 3, 10, 4, 0, 0), none, none,
  some (.iconst 3, 1, 0, 0, 0, 3), some (.iload_n 1, 1, 1, 0, 0, 0), some (.imul, 1, 0, 0, 0, 0), some (.iconst 1, 1, 0, 0, 0, 1), some (.iadd, 1, 0, 0, 0, 0), some (.iload_n 3, 1, 3, 0, 0, 0),
  some (.iastore, 1, 0, 0, 0, 0), some (.aload_n 0, 1, 0, 0, 0, 0), some (.getfield 21, 3, 7, 3, 0, 0), none, none, some (.getfield 92, 3, 10, 4, 0, 0),
  none, none, some (.iconst 3, 1, 0, 0, 0, 3), some (.iload_n 1, 1, 1, 0, 0, 0), some (.imul, 1, 0, 0, 0, 0), some (.iconst 2, 1, 0, 0, 0, 2),
  some (.iadd, 1, 0, 0, 0, 0), some (.iload 4, 2, 4, 0, 0, 0), none, some (.iastore, 1, 0, 0, 0, 0), some (.iconst 1, 1, 0, 0, 0, 1), some (.ireturn, 1, 0, 0, 0, 0)
  ])
def mi_X7_readArg : am_MI := (yX7_readArg, cX7_readArg, 3, (some FieldType.int), [
  some (.aload_n 0, 1, 0, 0, 0, 0), some (.ldc 78, 2, 1, 0, 1, 0), none, some (.invokevirtual 74, 3, 57, 1, 0, 7), none, none,
  some (.istore_n 2, 1, 2, 0, 0, 0), some (.iload_n 2, 1, 2, 0, 0, 0), some (.ifCond .ge 5, 3, 13, 0, 0, 0), none, none, some (.iconst (-1), 1, 0, 0, 0, -1),
  some (.ireturn, 1, 0, 0, 0, 0), some (.aload_n 0, 1, 0, 0, 0, 0), some (.dup, 1, 0, 0, 0, 0), some (.getfield 15, 3, 7, 2, 0, 0), none, none,
  some (.iconst 1, 1, 0, 0, 0, 1), some (.iadd, 1, 0, 0, 0, 0), some (.putfield 15, 3, 7, 2, 0, 0), none, none, some (.iload_n 2, 1, 2, 0, 0, 0),
  some (.iconst 5, 1, 0, 0, 0, 5), some (.if_icmp .lt 22, 3, 47, 0, 0, 0), none, none, some (.iload_n 1, 1, 1, 0, 0, 0), some (.ifCond .eq 18, 3, 47, 0, 0, 0),
  none, none, some (.aload_n 0, 1, 0, 0, 0, 0), some (.dup, 1, 0, 0, 0, 0), some (.getfield 25, 3, 7, 4, 0, 0), none,
  none, some (.iconst 1, 1, 0, 0, 0, 1), some (.iload_n 2, 1, 2, 0, 0, 0), some (.ishl, 1, 0, 0, 0, 0), some (.ior, 1, 0, 0, 0, 0), some (.putfield 25, 3, 7, 4, 0, 0),
  none, none, some (.goto 23, 3, 67, 0, 0, 0), none, none, some (.iload_n 2, 1, 2, 0, 0, 0),
  some (.iconst 5, 1, 0, 0, 0, 5), some (.if_icmp .lt 18, 3, 67, 0, 0, 0), none, none, some (.aload_n 0, 1, 0, 0, 0, 0), some (.getfield 21, 3, 7, 3, 0, 0),
  none, none, some (.dup, 1, 0, 0, 0, 0), some (.getfield 54, 3, 10, 2, 0, 0), none, none,
  some (.iconst 1, 1, 0, 0, 0, 1), some (.iload_n 2, 1, 2, 0, 0, 0), some (.ishl, 1, 0, 0, 0, 0), some (.ior, 1, 0, 0, 0, 0), some (.putfield 54, 3, 10, 2, 0, 0), none,
  none, some (.iload_n 2, 1, 2, 0, 0, 0), some (.ireturn, 1, 0, 0, 0, 0)
  ])
def mi_X7_placeIn : am_MI := (yX7_placeIn, cX7_placeIn, 3, (some FieldType.int), [
  some (.aload_n 0, 1, 0, 0, 0, 0), some (.getfield 15, 3, 7, 2, 0, 0), none, none, some (.aload_n 0, 1, 0, 0, 0, 0), some (.getfield 9, 3, 7, 1, 0, 0),
  none, none, some (.if_icmp .lt 5, 3, 13, 0, 0, 0), none, none, some (.iconst (-1), 1, 0, 0, 0, -1),
  some (.ireturn, 1, 0, 0, 0, 0), some (.iconst 0, 1, 0, 0, 0, 0), some (.istore_n 2, 1, 2, 0, 0, 0), some (.iload_n 2, 1, 2, 0, 0, 0), some (.aload_n 1, 1, 1, 0, 0, 0), some (.invokevirtual 95, 3, 212, 0, 2, 0),
  none, none, some (.if_icmp .ge 31, 3, 51, 0, 0, 0), none, none, some (.aload_n 1, 1, 1, 0, 0, 0),
  some (.iload_n 2, 1, 2, 0, 0, 0), some (.invokevirtual 101, 3, 213, 1, 2, 0), none, none, some (.aload_n 0, 1, 0, 0, 0, 0), some (.getfield 28, 3, 7, 0, 0, 0),
  none, none, some (.getfield 38, 3, 0, 1, 0, 0), none, none, some (.aload_n 0, 1, 0, 0, 0, 0),
  some (.getfield 15, 3, 7, 2, 0, 0), none, none, some (.baload, 1, 1, 0, 0, 0), some (.if_icmp .ne 5, 3, 45, 0, 0, 0), none,
  none, some (.iload_n 2, 1, 2, 0, 0, 0), some (.ireturn, 1, 0, 0, 0, 0), some (.iinc 2 1, 3, 2, 0, 0, 1), none, none,
  some (.goto (-33), 3, 15, 0, 0, 0), none, none, some (.iconst (-1), 1, 0, 0, 0, -1), some (.ireturn, 1, 0, 0, 0, 0)
  ])
def mi_X7_skip : am_MI := (yX7_skip, cX7_skip, 2, (some FieldType.boolean), [
  some (.aload_n 0, 1, 0, 0, 0, 0), some (.getfield 15, 3, 7, 2, 0, 0), none, none, some (.aload_n 0, 1, 0, 0, 0, 0), some (.getfield 9, 3, 7, 1, 0, 0),
  none, none, some (.if_icmp .ge 19, 3, 27, 0, 0, 0), none, none, some (.aload_n 0, 1, 0, 0, 0, 0),
  some (.getfield 28, 3, 7, 0, 0, 0), none, none, some (.getfield 38, 3, 0, 1, 0, 0), none, none,
  some (.aload_n 0, 1, 0, 0, 0, 0), some (.getfield 15, 3, 7, 2, 0, 0), none, none, some (.baload, 1, 1, 0, 0, 0), some (.iload_n 1, 1, 1, 0, 0, 0),
  some (.if_icmp .eq 5, 3, 29, 0, 0, 0), none, none, some (.iconst 0, 1, 0, 0, 0, 0), some (.ireturn, 1, 0, 0, 0, 0), some (.aload_n 0, 1, 0, 0, 0, 0),
  some (.dup, 1, 0, 0, 0, 0), some (.getfield 15, 3, 7, 2, 0, 0), none, none, some (.iconst 1, 1, 0, 0, 0, 1), some (.iadd, 1, 0, 0, 0, 0),
  some (.putfield 15, 3, 7, 2, 0, 0), none, none, some (.iconst 1, 1, 0, 0, 0, 1), some (.ireturn, 1, 0, 0, 0, 0)
  ])
def mi_X8_init : am_MI := (yX8_init, cX8_init, 1, none, [
  some (.aload_n 0, 1, 0, 0, 0, 0), some (.invokespecial 1, 3, 28, 0, 1, 0), none, none, some (.return_, 1, 0, 0, 0, 0)
  ])
def mi_X8_actShows : am_MI := (yX8_actShows, cX8_actShows, 4, (some FieldType.int), [
  some (.aload_n 0, 1, 0, 0, 0, 0), some (.iload_n 1, 1, 1, 0, 0, 0), some (.iload_n 2, 1, 2, 0, 0, 0), some (.iload_n 3, 1, 3, 0, 0, 0), some (.invokespecial 7, 3, 30, 3, 3, 0), none,
  none, some (.iconst 5, 1, 0, 0, 0, 5), some (.ixor, 1, 0, 0, 0, 0), some (.ireturn, 1, 0, 0, 0, 0)
  ])
def mi_X9_init : am_MI := (yX9_init, cX9_init, 3, none, [
  some (.aload_n 0, 1, 0, 0, 0, 0), some (.invokespecial 3, 3, 0, 0, 2, 0), none, none, some (.aload_n 0, 1, 0, 0, 0, 0), some (.iconst 0, 1, 0, 0, 0, 0),
  some (.putfield 9, 3, 9, 2, 0, 0), none, none, some (.aload_n 0, 1, 0, 0, 0, 0), some (.iconst 0, 1, 0, 0, 0, 0), some (.putfield 15, 3, 9, 3, 0, 0),
  none, none, some (.aload_n 0, 1, 0, 0, 0, 0), some (.iconst 0, 1, 0, 0, 0, 0), some (.putfield 18, 3, 9, 4, 0, 0), none,
  none, some (.aload_n 0, 1, 0, 0, 0, 0), some (.iconst 0, 1, 0, 0, 0, 0), some (.putfield 21, 3, 9, 5, 0, 0), none, none,
  some (.aload_n 0, 1, 0, 0, 0, 0), some (.aload_n 1, 1, 1, 0, 0, 0), some (.putfield 24, 3, 9, 0, 0, 0), none, none, some (.aload_n 0, 1, 0, 0, 0, 0),
  some (.aload_n 2, 1, 2, 0, 0, 0), some (.putfield 28, 3, 9, 1, 0, 0), none, none, some (.return_, 1, 0, 0, 0, 0)
  ])
def mi_X9_faultOf : am_MI := (yX9_faultOf, cX9_faultOf, 7, (some FieldType.int), [
  some (.iconst 0, 1, 0, 0, 0, 0), some (.istore_n 2, 1, 2, 0, 0, 0), some (.iconst 1, 1, 0, 0, 0, 1), some (.istore_n 3, 1, 3, 0, 0, 0), some (.iconst 0, 1, 0, 0, 0, 0), some (.istore 4, 2, 4, 0, 0, 0),
  none, some (.iconst 0, 1, 0, 0, 0, 0), some (.istore 5, 2, 5, 0, 0, 0), none, some (.iload 5, 2, 5, 0, 0, 0), none,
  some (.iload_n 1, 1, 1, 0, 0, 0), some (.if_icmp .ge 143, 3, 156, 0, 0, 0), none, none, some (.iload 5, 2, 5, 0, 0, 0), none,
  some (.aload_n 0, 1, 0, 0, 0, 0), some (.arraylength, 1, 1, 0, 0, 0), some (.if_icmp .ge 136, 3, 156, 0, 0, 0), none, none, some (.aload_n 0, 1, 0, 0, 0, 0),
  some (.iload 5, 2, 5, 0, 0, 0), none, some (.baload, 1, 1, 0, 0, 0), some (.istore 6, 2, 6, 0, 0, 0), none, some (.iload_n 3, 1, 3, 0, 0, 0),
  some (.ifCond .eq 22, 3, 52, 0, 0, 0), none, none, some (.iload 6, 2, 6, 0, 0, 0), none, some (.bipush 40, 2, 0, 0, 0, 40),
  none, some (.if_icmp .ne 15, 3, 52, 0, 0, 0), none, none, some (.iload_n 2, 1, 2, 0, 0, 0), some (.bipush 6, 2, 0, 0, 0, 6),
  none, some (.if_icmp .ge 9, 3, 52, 0, 0, 0), none, none, some (.iinc 2 1, 3, 2, 0, 0, 1), none,
  none, some (.goto 101, 3, 150, 0, 0, 0), none, none, some (.iload_n 3, 1, 3, 0, 0, 0), some (.ifCond .eq 25, 3, 78, 0, 0, 0),
  none, none, some (.iload 6, 2, 6, 0, 0, 0), none, some (.bipush 48, 2, 0, 0, 0, 48), none,
  some (.if_icmp .lt 18, 3, 78, 0, 0, 0), none, none, some (.iload 6, 2, 6, 0, 0, 0), none, some (.bipush 56, 2, 0, 0, 0, 56),
  none, some (.if_icmp .ge 11, 3, 78, 0, 0, 0), none, none, some (.iconst 0, 1, 0, 0, 0, 0), some (.istore_n 3, 1, 3, 0, 0, 0),
  some (.iconst 0, 1, 0, 0, 0, 0), some (.istore 4, 2, 4, 0, 0, 0), none, some (.goto 75, 3, 150, 0, 0, 0), none, none,
  some (.iload_n 3, 1, 3, 0, 0, 0), some (.ifCond .ne 21, 3, 100, 0, 0, 0), none, none, some (.iload 6, 2, 6, 0, 0, 0), none,
  some (.bipush 42, 2, 0, 0, 0, 42), none, some (.if_icmp .ne 14, 3, 100, 0, 0, 0), none, none, some (.iload 4, 2, 4, 0, 0, 0),
  none, some (.ifCond .ne 9, 3, 100, 0, 0, 0), none, none, some (.iconst 1, 1, 0, 0, 0, 1), some (.istore 4, 2, 4, 0, 0, 0),
  none, some (.goto 53, 3, 150, 0, 0, 0), none, none, some (.iload_n 3, 1, 3, 0, 0, 0), some (.ifCond .ne 23, 3, 124, 0, 0, 0),
  none, none, some (.iload 6, 2, 6, 0, 0, 0), none, some (.bipush 41, 2, 0, 0, 0, 41), none,
  some (.if_icmp .ne 16, 3, 124, 0, 0, 0), none, none, some (.iload_n 2, 1, 2, 0, 0, 0), some (.ifCond .le 12, 3, 124, 0, 0, 0), none,
  none, some (.iinc 2 (-1), 3, 2, 0, 0, -1), none, none, some (.iconst 0, 1, 0, 0, 0, 0), some (.istore 4, 2, 4, 0, 0, 0),
  none, some (.goto 29, 3, 150, 0, 0, 0), none, none, some (.iload_n 3, 1, 3, 0, 0, 0), some (.ifCond .ne 22, 3, 147, 0, 0, 0),
  none, none, some (.iload 6, 2, 6, 0, 0, 0), none, some (.bipush 59, 2, 0, 0, 0, 59), none,
  some (.if_icmp .eq 10, 3, 142, 0, 0, 0), none, none, some (.iload 6, 2, 6, 0, 0, 0), none, some (.bipush 124, 2, 0, 0, 0, 124),
  none, some (.if_icmp .ne 8, 3, 147, 0, 0, 0), none, none, some (.iconst 1, 1, 0, 0, 0, 1), some (.istore_n 3, 1, 3, 0, 0, 0),
  some (.goto 6, 3, 150, 0, 0, 0), none, none, some (.iload 5, 2, 5, 0, 0, 0), none, some (.ireturn, 1, 0, 0, 0, 0),
  some (.iinc 5 1, 3, 5, 0, 0, 1), none, none, some (.goto (-143), 3, 10, 0, 0, 0), none, none,
  some (.iload_n 3, 1, 3, 0, 0, 0), some (.ifCond .ne 7, 3, 164, 0, 0, 0), none, none, some (.iload_n 2, 1, 2, 0, 0, 0), some (.ifCond .le 7, 3, 168, 0, 0, 0),
  none, none, some (.iload_n 1, 1, 1, 0, 0, 0), some (.goto 4, 3, 169, 0, 0, 0), none, none,
  some (.iconst (-1), 1, 0, 0, 0, -1), some (.ireturn, 1, 0, 0, 0, 0)
  ])
def mi_X9_play : am_MI := (yX9_play, cX9_play, 3, none, [
  some (.aload_n 0, 1, 0, 0, 0, 0), some (.getfield 28, 3, 9, 1, 0, 0), none, none, some (.aload_n 0, 1, 0, 0, 0, 0), some (.getfield 24, 3, 9, 0, 0, 0),
  none, none, some (.getfield 32, 3, 0, 7, 0, 0), none, none, some (.iconst 0, 1, 0, 0, 0, 0),
  some (.invokevirtual 37, 3, 39, 2, 1, 6), none, none, some (.aload_n 0, 1, 0, 0, 0, 0), some (.getfield 28, 3, 9, 1, 0, 0), none,
  none, some (.iconst 0, 1, 0, 0, 0, 0), some (.invokevirtual 43, 3, 44, 1, 1, 6), none, none, some (.aload_n 0, 1, 0, 0, 0, 0),
  some (.iconst 0, 1, 0, 0, 0, 0), some (.putfield 9, 3, 9, 2, 0, 0), none, none, some (.aload_n 0, 1, 0, 0, 0, 0), some (.iload_n 2, 1, 2, 0, 0, 0),
  some (.putfield 15, 3, 9, 3, 0, 0), none, none, some (.aload_n 0, 1, 0, 0, 0, 0), some (.iload_n 1, 1, 1, 0, 0, 0), some (.bipush 120, 2, 0, 0, 0, 120),
  none, some (.imul, 1, 0, 0, 0, 0), some (.putfield 18, 3, 9, 4, 0, 0), none, none, some (.aload_n 0, 1, 0, 0, 0, 0),
  some (.aload_n 0, 1, 0, 0, 0, 0), some (.getfield 24, 3, 9, 0, 0, 0), none, none, some (.getfield 47, 3, 0, 14, 0, 0), none,
  none, some (.iload_n 1, 1, 1, 0, 0, 0), some (.iaload, 1, 0, 0, 0, 0), some (.putfield 21, 3, 9, 5, 0, 0), none, none,
  some (.aload_n 0, 1, 0, 0, 0, 0), some (.iconst 0, 1, 0, 0, 0, 0), some (.iconst 0, 1, 0, 0, 0, 0), some (.invokevirtual 51, 3, 65, 2, 0, 9), none, none,
  some (.return_, 1, 0, 0, 0, 0)
  ])
def mi_X9_signAt : am_MI := (yX9_signAt, cX9_signAt, 2, (some FieldType.int), [
  some (.iload_n 1, 1, 1, 0, 0, 0), some (.ifCond .lt 28, 3, 29, 0, 0, 0), none, none, some (.iload_n 1, 1, 1, 0, 0, 0), some (.aload_n 0, 1, 0, 0, 0, 0),
  some (.getfield 21, 3, 9, 5, 0, 0), none, none, some (.if_icmp .ge 20, 3, 29, 0, 0, 0), none, none,
  some (.aload_n 0, 1, 0, 0, 0, 0), some (.getfield 24, 3, 9, 0, 0, 0), none, none, some (.getfield 55, 3, 0, 15, 0, 0), none,
  none, some (.aload_n 0, 1, 0, 0, 0, 0), some (.getfield 18, 3, 9, 4, 0, 0), none, none, some (.iload_n 1, 1, 1, 0, 0, 0),
  some (.iadd, 1, 0, 0, 0, 0), some (.baload, 1, 1, 0, 0, 0), some (.goto 4, 3, 30, 0, 0, 0), none, none, some (.iconst 0, 1, 0, 0, 0, 0),
  some (.ireturn, 1, 0, 0, 0, 0)
  ])
def mi_X9_playPieces : am_MI := (yX9_playPieces, cX9_playPieces, 7, none, [
  some (.iload_n 1, 1, 1, 0, 0, 0), some (.istore_n 3, 1, 3, 0, 0, 0), some (.iconst 0, 1, 0, 0, 0, 0), some (.istore 4, 2, 4, 0, 0, 0), none, some (.iconst 0, 1, 0, 0, 0, 0),
  some (.istore 5, 2, 5, 0, 0, 0), none, some (.iload 5, 2, 5, 0, 0, 0), none, some (.bipush 120, 2, 0, 0, 0, 120), none,
  some (.if_icmp .ge 73, 3, 85, 0, 0, 0), none, none, some (.iload_n 3, 1, 3, 0, 0, 0), some (.aload_n 0, 1, 0, 0, 0, 0), some (.getfield 21, 3, 9, 5, 0, 0),
  none, none, some (.if_icmp .ge 65, 3, 85, 0, 0, 0), none, none, some (.aload_n 0, 1, 0, 0, 0, 0),
  some (.iload_n 3, 1, 3, 0, 0, 0), some (.invokevirtual 59, 3, 67, 1, 0, 9), none, none, some (.istore 6, 2, 6, 0, 0, 0), none,
  some (.iload 4, 2, 4, 0, 0, 0), none, some (.ifCond .ne 13, 3, 45, 0, 0, 0), none, none, some (.aload_n 0, 1, 0, 0, 0, 0),
  some (.iload_n 3, 1, 3, 0, 0, 0), some (.iload 6, 2, 6, 0, 0, 0), none, some (.iload_n 2, 1, 2, 0, 0, 0), some (.invokevirtual 63, 3, 66, 3, 0, 9), none,
  none, some (.istore 4, 2, 4, 0, 0, 0), none, some (.aload_n 0, 1, 0, 0, 0, 0), some (.iload 6, 2, 6, 0, 0, 0), none,
  some (.invokevirtual 67, 3, 64, 1, 0, 9), none, none, some (.bipush 59, 2, 0, 0, 0, 59), none, some (.if_icmp .ne 9, 3, 62, 0, 0, 0),
  none, none, some (.iconst 0, 1, 0, 0, 0, 0), some (.istore 4, 2, 4, 0, 0, 0), none, some (.goto 15, 3, 74, 0, 0, 0),
  none, none, some (.aload_n 0, 1, 0, 0, 0, 0), some (.iload 6, 2, 6, 0, 0, 0), none, some (.invokevirtual 67, 3, 64, 1, 0, 9),
  none, none, some (.bipush 124, 2, 0, 0, 0, 124), none, some (.if_icmp .eq 4, 3, 74, 0, 0, 0), none,
  none, some (.return_, 1, 0, 0, 0, 0), some (.iload 6, 2, 6, 0, 0, 0), none, some (.iconst 1, 1, 0, 0, 0, 1), some (.iadd, 1, 0, 0, 0, 0),
  some (.istore_n 3, 1, 3, 0, 0, 0), some (.iinc 5 1, 3, 5, 0, 0, 1), none, none, some (.goto (-74), 3, 8, 0, 0, 0), none,
  none, some (.return_, 1, 0, 0, 0, 0)
  ])
def mi_X9_playTry : am_MI := (yX9_playTry, cX9_playTry, 9, (some FieldType.boolean), [
  some (.aload_n 0, 1, 0, 0, 0, 0), some (.getfield 28, 3, 9, 1, 0, 0), none, none, some (.getfield 70, 3, 6, 3, 0, 0), none,
  none, some (.istore 4, 2, 4, 0, 0, 0), none, some (.aload_n 0, 1, 0, 0, 0, 0), some (.iload_n 1, 1, 1, 0, 0, 0), some (.invokevirtual 67, 3, 64, 1, 0, 9),
  none, none, some (.bipush 48, 2, 0, 0, 0, 48), none, some (.isub, 1, 0, 0, 0, 0), some (.istore 5, 2, 5, 0, 0, 0),
  none, some (.iconst 1, 1, 0, 0, 0, 1), some (.istore 6, 2, 6, 0, 0, 0), none, some (.iconst 0, 1, 0, 0, 0, 0), some (.istore 7, 2, 7, 0, 0, 0),
  none, some (.iload 7, 2, 7, 0, 0, 0), none, some (.sipush 750, 3, 0, 0, 0, 750), none, none,
  some (.if_icmp .gt 142, 3, 172, 0, 0, 0), none, none, some (.iload 6, 2, 6, 0, 0, 0), none, some (.ifCond .eq 137, 3, 172, 0, 0, 0),
  none, none, some (.aload_n 0, 1, 0, 0, 0, 0), some (.getfield 28, 3, 9, 1, 0, 0), none, none,
  some (.getfield 70, 3, 6, 3, 0, 0), none, none, some (.istore 8, 2, 8, 0, 0, 0), none, some (.aload_n 0, 1, 0, 0, 0, 0),
  some (.iload_n 1, 1, 1, 0, 0, 0), some (.invokevirtual 67, 3, 64, 1, 0, 9), none, none, some (.bipush 40, 2, 0, 0, 0, 40), none,
  some (.if_icmp .ne 22, 3, 76, 0, 0, 0), none, none, some (.iload_n 3, 1, 3, 0, 0, 0), some (.bipush 6, 2, 0, 0, 0, 6), none,
  some (.if_icmp .ge 16, 3, 76, 0, 0, 0), none, none, some (.aload_n 0, 1, 0, 0, 0, 0), some (.iload_n 1, 1, 1, 0, 0, 0), some (.iconst 1, 1, 0, 0, 0, 1),
  some (.iadd, 1, 0, 0, 0, 0), some (.iload_n 3, 1, 3, 0, 0, 0), some (.iconst 1, 1, 0, 0, 0, 1), some (.iadd, 1, 0, 0, 0, 0), some (.invokevirtual 51, 3, 65, 2, 0, 9), none,
  none, some (.goto 62, 3, 135, 0, 0, 0), none, none, some (.aload_n 0, 1, 0, 0, 0, 0), some (.getfield 9, 3, 9, 2, 0, 0),
  none, none, some (.aload_n 0, 1, 0, 0, 0, 0), some (.getfield 15, 3, 9, 3, 0, 0), none, none,
  some (.if_icmp .ge 51, 3, 135, 0, 0, 0), none, none, some (.aload_n 0, 1, 0, 0, 0, 0), some (.getfield 24, 3, 9, 0, 0, 0), none,
  none, some (.iconst 1, 1, 0, 0, 0, 1), some (.iload 5, 2, 5, 0, 0, 0), none, some (.invokevirtual 71, 3, 2, 2, 1, 0), none,
  none, some (.ifCond .eq 38, 3, 135, 0, 0, 0), none, none, some (.aload_n 0, 1, 0, 0, 0, 0), some (.dup, 1, 0, 0, 0, 0),
  some (.getfield 9, 3, 9, 2, 0, 0), none, none, some (.iconst 1, 1, 0, 0, 0, 1), some (.iadd, 1, 0, 0, 0, 0), some (.putfield 9, 3, 9, 2, 0, 0),
  none, none, some (.aload_n 0, 1, 0, 0, 0, 0), some (.getfield 28, 3, 9, 1, 0, 0), none, none,
  some (.aload_n 0, 1, 0, 0, 0, 0), some (.getfield 24, 3, 9, 0, 0, 0), none, none, some (.iload 5, 2, 5, 0, 0, 0), none,
  some (.aload_n 0, 1, 0, 0, 0, 0), some (.getfield 24, 3, 9, 0, 0, 0), none, none, some (.getfield 75, 3, 0, 0, 0, 0), none,
  none, some (.iconst 0, 1, 0, 0, 0, 0), some (.iaload, 1, 0, 0, 0, 0), some (.invokevirtual 78, 3, 6, 2, 1, 0), none, none,
  some (.invokevirtual 82, 3, 43, 1, 1, 6), none, none, some (.aload_n 0, 1, 0, 0, 0, 0), some (.iload_n 2, 1, 2, 0, 0, 0), some (.iconst 1, 1, 0, 0, 0, 1),
  some (.isub, 1, 0, 0, 0, 0), some (.invokevirtual 67, 3, 64, 1, 0, 9), none, none, some (.bipush 42, 2, 0, 0, 0, 42), none,
  some (.if_icmp .ne 19, 3, 163, 0, 0, 0), none, none, some (.aload_n 0, 1, 0, 0, 0, 0), some (.getfield 28, 3, 9, 1, 0, 0), none,
  none, some (.getfield 70, 3, 6, 3, 0, 0), none, none, some (.iload 8, 2, 8, 0, 0, 0), none,
  some (.if_icmp .le 7, 3, 163, 0, 0, 0), none, none, some (.iconst 1, 1, 0, 0, 0, 1), some (.goto 4, 3, 164, 0, 0, 0), none,
  none, some (.iconst 0, 1, 0, 0, 0, 0), some (.istore 6, 2, 6, 0, 0, 0), none, some (.iinc 7 1, 3, 7, 0, 0, 1), none,
  none, some (.goto (-144), 3, 25, 0, 0, 0), none, none, some (.aload_n 0, 1, 0, 0, 0, 0), some (.getfield 28, 3, 9, 1, 0, 0),
  none, none, some (.getfield 70, 3, 6, 3, 0, 0), none, none, some (.iload 4, 2, 4, 0, 0, 0),
  none, some (.if_icmp .le 7, 3, 188, 0, 0, 0), none, none, some (.iconst 1, 1, 0, 0, 0, 1), some (.goto 4, 3, 189, 0, 0, 0),
  none, none, some (.iconst 0, 1, 0, 0, 0, 0), some (.ireturn, 1, 0, 0, 0, 0)
  ])
def mi_X9_endOfTry : am_MI := (yX9_endOfTry, cX9_endOfTry, 4, (some FieldType.int), [
  some (.iconst 0, 1, 0, 0, 0, 0), some (.istore_n 2, 1, 2, 0, 0, 0), some (.iload_n 1, 1, 1, 0, 0, 0), some (.istore_n 3, 1, 3, 0, 0, 0), some (.iload_n 3, 1, 3, 0, 0, 0), some (.aload_n 0, 1, 0, 0, 0, 0),
  some (.getfield 21, 3, 9, 5, 0, 0), none, none, some (.if_icmp .ge 45, 3, 54, 0, 0, 0), none, none,
  some (.iload_n 2, 1, 2, 0, 0, 0), some (.aload_n 0, 1, 0, 0, 0, 0), some (.iload_n 3, 1, 3, 0, 0, 0), some (.invokevirtual 67, 3, 64, 1, 0, 9), none, none,
  some (.bipush 40, 2, 0, 0, 0, 40), none, some (.if_icmp .ne 7, 3, 27, 0, 0, 0), none, none, some (.iconst 1, 1, 0, 0, 0, 1),
  some (.goto 18, 3, 42, 0, 0, 0), none, none, some (.aload_n 0, 1, 0, 0, 0, 0), some (.iload_n 3, 1, 3, 0, 0, 0), some (.invokevirtual 67, 3, 64, 1, 0, 9),
  none, none, some (.bipush 41, 2, 0, 0, 0, 41), none, some (.if_icmp .ne 7, 3, 41, 0, 0, 0), none,
  none, some (.iconst (-1), 1, 0, 0, 0, -1), some (.goto 4, 3, 42, 0, 0, 0), none, none, some (.iconst 0, 1, 0, 0, 0, 0),
  some (.iadd, 1, 0, 0, 0, 0), some (.istore_n 2, 1, 2, 0, 0, 0), some (.iinc 3 1, 3, 3, 0, 0, 1), none, none, some (.iload_n 2, 1, 2, 0, 0, 0),
  some (.ifCond .gt (-44), 3, 4, 0, 0, 0), none, none, some (.goto 3, 3, 54, 0, 0, 0), none, none,
  some (.aload_n 0, 1, 0, 0, 0, 0), some (.iload_n 3, 1, 3, 0, 0, 0), some (.invokevirtual 67, 3, 64, 1, 0, 9), none, none, some (.bipush 42, 2, 0, 0, 0, 42),
  none, some (.if_icmp .ne 9, 3, 70, 0, 0, 0), none, none, some (.iload_n 3, 1, 3, 0, 0, 0), some (.iconst 1, 1, 0, 0, 0, 1),
  some (.iadd, 1, 0, 0, 0, 0), some (.goto 4, 3, 71, 0, 0, 0), none, none, some (.iload_n 3, 1, 3, 0, 0, 0), some (.ireturn, 1, 0, 0, 0, 0)
  ])
def mi_X10_init : am_MI := (yX10_init, cX10_init, 1, none, [
  some (.aload_n 0, 1, 0, 0, 0, 0), some (.invokespecial 3, 3, 0, 0, 2, 0), none, none, some (.aload_n 0, 1, 0, 0, 0, 0), some (.iconst 0, 1, 0, 0, 0, 0),
  some (.putfield 9, 3, 10, 0, 0, 0), none, none, some (.aload_n 0, 1, 0, 0, 0, 0), some (.iconst 0, 1, 0, 0, 0, 0), some (.putfield 15, 3, 10, 1, 0, 0),
  none, none, some (.aload_n 0, 1, 0, 0, 0, 0), some (.iconst 0, 1, 0, 0, 0, 0), some (.putfield 18, 3, 10, 2, 0, 0), none,
  none, some (.aload_n 0, 1, 0, 0, 0, 0), some (.bipush 16, 2, 0, 0, 0, 16), none, some (.newarray .int, 2, 0, 0, 0, 0), none,
  some (.putfield 21, 3, 10, 3, 0, 0), none, none, some (.aload_n 0, 1, 0, 0, 0, 0), some (.bipush 12, 2, 0, 0, 0, 12), none,
  some (.newarray .int, 2, 0, 0, 0, 0), none, some (.putfield 25, 3, 10, 4, 0, 0), none, none, some (.return_, 1, 0, 0, 0, 0)
  ])
def mi_X10_newValues : am_MI := (yX10_newValues, cX10_newValues, 2, (some (FieldType.array FieldType.int)), [
  some (.bipush 9, 2, 0, 0, 0, 9), none, some (.newarray .int, 2, 0, 0, 0, 0), none, some (.astore_n 0, 1, 0, 0, 0, 0), some (.iconst 0, 1, 0, 0, 0, 0),
  some (.istore_n 1, 1, 1, 0, 0, 0), some (.iload_n 1, 1, 1, 0, 0, 0), some (.iconst 5, 1, 0, 0, 0, 5), some (.if_icmp .ge 13, 3, 22, 0, 0, 0), none, none,
  some (.aload_n 0, 1, 0, 0, 0, 0), some (.iload_n 1, 1, 1, 0, 0, 0), some (.iload_n 1, 1, 1, 0, 0, 0), some (.iastore, 1, 0, 0, 0, 0), some (.iinc 1 1, 3, 1, 0, 0, 1), none,
  none, some (.goto (-12), 3, 7, 0, 0, 0), none, none, some (.aload_n 0, 1, 0, 0, 0, 0), some (.areturn, 1, 0, 0, 0, 0)
  ])
def mi_X10_putLetters : am_MI := (yX10_putLetters, cX10_putLetters, 2, none, [
  some (.aload_n 1, 1, 1, 0, 0, 0), some (.iconst 5, 1, 0, 0, 0, 5), some (.iload_n 0, 1, 0, 0, 0, 0), some (.bipush 125, 2, 0, 0, 0, 125), none, some (.idiv, 1, 0, 0, 0, 0),
  some (.iconst 5, 1, 0, 0, 0, 5), some (.irem, 1, 0, 0, 0, 0), some (.iastore, 1, 0, 0, 0, 0), some (.aload_n 1, 1, 1, 0, 0, 0), some (.bipush 6, 2, 0, 0, 0, 6), none,
  some (.iload_n 0, 1, 0, 0, 0, 0), some (.bipush 25, 2, 0, 0, 0, 25), none, some (.idiv, 1, 0, 0, 0, 0), some (.iconst 5, 1, 0, 0, 0, 5), some (.irem, 1, 0, 0, 0, 0),
  some (.iastore, 1, 0, 0, 0, 0), some (.aload_n 1, 1, 1, 0, 0, 0), some (.bipush 7, 2, 0, 0, 0, 7), none, some (.iload_n 0, 1, 0, 0, 0, 0), some (.iconst 5, 1, 0, 0, 0, 5),
  some (.idiv, 1, 0, 0, 0, 0), some (.iconst 5, 1, 0, 0, 0, 5), some (.irem, 1, 0, 0, 0, 0), some (.iastore, 1, 0, 0, 0, 0), some (.aload_n 1, 1, 1, 0, 0, 0), some (.bipush 8, 2, 0, 0, 0, 8),
  none, some (.iload_n 0, 1, 0, 0, 0, 0), some (.iconst 5, 1, 0, 0, 0, 5), some (.irem, 1, 0, 0, 0, 0), some (.iastore, 1, 0, 0, 0, 0), some (.return_, 1, 0, 0, 0, 0)
  ])
def mi_X10_hasInTerms : am_MI := (yX10_hasInTerms, cX10_hasInTerms, 2, (some FieldType.boolean), [
  some (.aload_n 0, 1, 0, 0, 0, 0), some (.getfield 18, 3, 10, 2, 0, 0), none, none, some (.iload_n 1, 1, 1, 0, 0, 0), some (.ishr, 1, 0, 0, 0, 0),
  some (.iconst 1, 1, 0, 0, 0, 1), some (.iand, 1, 0, 0, 0, 0), some (.ifCond .eq 7, 3, 15, 0, 0, 0), none, none, some (.iconst 1, 1, 0, 0, 0, 1),
  some (.goto 4, 3, 16, 0, 0, 0), none, none, some (.iconst 0, 1, 0, 0, 0, 0), some (.ireturn, 1, 0, 0, 0, 0)
  ])
def mi_X10_factOf : am_MI := (yX10_factOf, cX10_factOf, 4, (some FieldType.int), [
  some (.iconst 4, 1, 0, 0, 0, 4), some (.iload_n 1, 1, 1, 0, 0, 0), some (.imul, 1, 0, 0, 0, 0), some (.istore_n 3, 1, 3, 0, 0, 0), some (.bipush 125, 2, 0, 0, 0, 125), none,
  some (.aload_n 0, 1, 0, 0, 0, 0), some (.getfield 21, 3, 10, 3, 0, 0), none, none, some (.iload_n 3, 1, 3, 0, 0, 0), some (.iaload, 1, 0, 0, 0, 0),
  some (.imul, 1, 0, 0, 0, 0), some (.bipush 25, 2, 0, 0, 0, 25), none, some (.aload_n 2, 1, 2, 0, 0, 0), some (.aload_n 0, 1, 0, 0, 0, 0), some (.getfield 21, 3, 10, 3, 0, 0),
  none, none, some (.iload_n 3, 1, 3, 0, 0, 0), some (.iconst 1, 1, 0, 0, 0, 1), some (.iadd, 1, 0, 0, 0, 0), some (.iaload, 1, 0, 0, 0, 0),
  some (.iaload, 1, 0, 0, 0, 0), some (.imul, 1, 0, 0, 0, 0), some (.iadd, 1, 0, 0, 0, 0), some (.iconst 5, 1, 0, 0, 0, 5), some (.aload_n 2, 1, 2, 0, 0, 0), some (.aload_n 0, 1, 0, 0, 0, 0),
  some (.getfield 21, 3, 10, 3, 0, 0), none, none, some (.iload_n 3, 1, 3, 0, 0, 0), some (.iconst 2, 1, 0, 0, 0, 2), some (.iadd, 1, 0, 0, 0, 0),
  some (.iaload, 1, 0, 0, 0, 0), some (.iaload, 1, 0, 0, 0, 0), some (.imul, 1, 0, 0, 0, 0), some (.iadd, 1, 0, 0, 0, 0), some (.aload_n 2, 1, 2, 0, 0, 0), some (.aload_n 0, 1, 0, 0, 0, 0),
  some (.getfield 21, 3, 10, 3, 0, 0), none, none, some (.iload_n 3, 1, 3, 0, 0, 0), some (.iconst 3, 1, 0, 0, 0, 3), some (.iadd, 1, 0, 0, 0, 0),
  some (.iaload, 1, 0, 0, 0, 0), some (.iaload, 1, 0, 0, 0, 0), some (.iadd, 1, 0, 0, 0, 0), some (.ireturn, 1, 0, 0, 0, 0)
  ])
def mi_X10_testsHold : am_MI := (yX10_testsHold, cX10_testsHold, 7, (some FieldType.boolean), [
  some (.iconst 0, 1, 0, 0, 0, 0), some (.istore_n 2, 1, 2, 0, 0, 0), some (.iload_n 2, 1, 2, 0, 0, 0), some (.aload_n 0, 1, 0, 0, 0, 0), some (.getfield 15, 3, 10, 1, 0, 0), none,
  none, some (.if_icmp .ge 104, 3, 111, 0, 0, 0), none, none, some (.aload_n 1, 1, 1, 0, 0, 0), some (.aload_n 0, 1, 0, 0, 0, 0),
  some (.getfield 25, 3, 10, 4, 0, 0), none, none, some (.iconst 3, 1, 0, 0, 0, 3), some (.iload_n 2, 1, 2, 0, 0, 0), some (.imul, 1, 0, 0, 0, 0),
  some (.iaload, 1, 0, 0, 0, 0), some (.iaload, 1, 0, 0, 0, 0), some (.istore_n 3, 1, 3, 0, 0, 0), some (.aload_n 1, 1, 1, 0, 0, 0), some (.aload_n 0, 1, 0, 0, 0, 0), some (.getfield 25, 3, 10, 4, 0, 0),
  none, none, some (.iconst 3, 1, 0, 0, 0, 3), some (.iload_n 2, 1, 2, 0, 0, 0), some (.imul, 1, 0, 0, 0, 0), some (.iconst 2, 1, 0, 0, 0, 2),
  some (.iadd, 1, 0, 0, 0, 0), some (.iaload, 1, 0, 0, 0, 0), some (.iaload, 1, 0, 0, 0, 0), some (.istore 4, 2, 4, 0, 0, 0), none, some (.aload_n 0, 1, 0, 0, 0, 0),
  some (.getfield 25, 3, 10, 4, 0, 0), none, none, some (.iconst 3, 1, 0, 0, 0, 3), some (.iload_n 2, 1, 2, 0, 0, 0), some (.imul, 1, 0, 0, 0, 0),
  some (.iconst 1, 1, 0, 0, 0, 1), some (.iadd, 1, 0, 0, 0, 0), some (.iaload, 1, 0, 0, 0, 0), some (.istore 5, 2, 5, 0, 0, 0), none, some (.iload 5, 2, 5, 0, 0, 0),
  none, some (.ifCond .ne 17, 3, 66, 0, 0, 0), none, none, some (.iload_n 3, 1, 3, 0, 0, 0), some (.iload 4, 2, 4, 0, 0, 0),
  none, some (.if_icmp .ge 7, 3, 62, 0, 0, 0), none, none, some (.iconst 1, 1, 0, 0, 0, 1), some (.goto 37, 3, 96, 0, 0, 0),
  none, none, some (.iconst 0, 1, 0, 0, 0, 0), some (.goto 33, 3, 96, 0, 0, 0), none, none,
  some (.iload_n 3, 1, 3, 0, 0, 0), some (.iload 4, 2, 4, 0, 0, 0), none, some (.if_icmp .ne 7, 3, 76, 0, 0, 0), none, none,
  some (.iconst 1, 1, 0, 0, 0, 1), some (.goto 4, 3, 77, 0, 0, 0), none, none, some (.iconst 0, 1, 0, 0, 0, 0), some (.iload 5, 2, 5, 0, 0, 0),
  none, some (.iconst 1, 1, 0, 0, 0, 1), some (.if_icmp .ne 7, 3, 87, 0, 0, 0), none, none, some (.iconst 1, 1, 0, 0, 0, 1),
  some (.goto 4, 3, 88, 0, 0, 0), none, none, some (.iconst 0, 1, 0, 0, 0, 0), some (.if_icmp .ne 7, 3, 95, 0, 0, 0), none,
  none, some (.iconst 1, 1, 0, 0, 0, 1), some (.goto 4, 3, 96, 0, 0, 0), none, none, some (.iconst 0, 1, 0, 0, 0, 0),
  some (.istore 6, 2, 6, 0, 0, 0), none, some (.iload 6, 2, 6, 0, 0, 0), none, some (.ifCond .ne 5, 3, 105, 0, 0, 0), none,
  none, some (.iconst 0, 1, 0, 0, 0, 0), some (.ireturn, 1, 0, 0, 0, 0), some (.iinc 2 1, 3, 2, 0, 0, 1), none, none,
  some (.goto (-106), 3, 2, 0, 0, 0), none, none, some (.iconst 1, 1, 0, 0, 0, 1), some (.ireturn, 1, 0, 0, 0, 0)
  ])
def mi_X10_become : am_MI := (yX10_become, cX10_become, 2, none, [
  some (.aload_n 0, 1, 0, 0, 0, 0), some (.aload_n 1, 1, 1, 0, 0, 0), some (.getfield 9, 3, 10, 0, 0, 0), none, none, some (.putfield 9, 3, 10, 0, 0, 0),
  none, none, some (.aload_n 0, 1, 0, 0, 0, 0), some (.aload_n 1, 1, 1, 0, 0, 0), some (.getfield 15, 3, 10, 1, 0, 0), none,
  none, some (.putfield 15, 3, 10, 1, 0, 0), none, none, some (.aload_n 0, 1, 0, 0, 0, 0), some (.aload_n 1, 1, 1, 0, 0, 0),
  some (.getfield 18, 3, 10, 2, 0, 0), none, none, some (.putfield 18, 3, 10, 2, 0, 0), none, none,
  some (.aload_n 1, 1, 1, 0, 0, 0), some (.getfield 21, 3, 10, 3, 0, 0), none, none, some (.iconst 0, 1, 0, 0, 0, 0), some (.aload_n 0, 1, 0, 0, 0, 0),
  some (.getfield 21, 3, 10, 3, 0, 0), none, none, some (.iconst 0, 1, 0, 0, 0, 0), some (.aload_n 0, 1, 0, 0, 0, 0), some (.getfield 21, 3, 10, 3, 0, 0),
  none, none, some (.arraylength, 1, 0, 0, 0, 0), some (.invokestatic 28, 3, 0, 0, 2, 0), none, none,
  some (.aload_n 1, 1, 1, 0, 0, 0), some (.getfield 25, 3, 10, 4, 0, 0), none, none, some (.iconst 0, 1, 0, 0, 0, 0), some (.aload_n 0, 1, 0, 0, 0, 0),
  some (.getfield 25, 3, 10, 4, 0, 0), none, none, some (.iconst 0, 1, 0, 0, 0, 0), some (.aload_n 0, 1, 0, 0, 0, 0), some (.getfield 25, 3, 10, 4, 0, 0),
  none, none, some (.arraylength, 1, 0, 0, 0, 0), some (.invokestatic 28, 3, 0, 0, 2, 0), none, none,
  some (.return_, 1, 0, 0, 0, 0)
  ])
def mi_X11_init : am_MI := (yX11_init, cX11_init, 1, none, [
  some (.aload_n 0, 1, 0, 0, 0, 0), some (.invokespecial 1, 3, 0, 0, 2, 0), none, none, some (.aload_n 0, 1, 0, 0, 0, 0), some (.new 7, 3, 0, 0, 0, 0),
  none, none, some (.dup, 1, 0, 0, 0, 0), some (.invokespecial 9, 3, 0, 0, 1, 0), none, none,
  some (.putfield 10, 3, 11, 0, 0, 0), none, none, some (.aload_n 0, 1, 0, 0, 0, 0), some (.new 16, 3, 2, 0, 0, 0), none,
  none, some (.dup, 1, 0, 0, 0, 0), some (.aload_n 0, 1, 0, 0, 0, 0), some (.getfield 10, 3, 11, 0, 0, 0), none, none,
  some (.invokespecial 18, 3, 19, 1, 1, 0), none, none, some (.putfield 21, 3, 11, 1, 0, 0), none, none,
  some (.aload_n 0, 1, 0, 0, 0, 0), some (.new 25, 3, 6, 0, 0, 0), none, none, some (.dup, 1, 0, 0, 0, 0), some (.aload_n 0, 1, 0, 0, 0, 0),
  some (.getfield 10, 3, 11, 0, 0, 0), none, none, some (.invokespecial 27, 3, 37, 1, 1, 0), none, none,
  some (.putfield 28, 3, 11, 2, 0, 0), none, none, some (.aload_n 0, 1, 0, 0, 0, 0), some (.new 32, 3, 9, 0, 0, 0), none,
  none, some (.dup, 1, 0, 0, 0, 0), some (.aload_n 0, 1, 0, 0, 0, 0), some (.getfield 10, 3, 11, 0, 0, 0), none, none,
  some (.aload_n 0, 1, 0, 0, 0, 0), some (.getfield 28, 3, 11, 2, 0, 0), none, none, some (.invokespecial 34, 3, 61, 2, 1, 0), none,
  none, some (.putfield 37, 3, 11, 3, 0, 0), none, none, some (.aload_n 0, 1, 0, 0, 0, 0), some (.new 41, 3, 7, 0, 0, 0),
  none, none, some (.dup, 1, 0, 0, 0, 0), some (.aload_n 0, 1, 0, 0, 0, 0), some (.getfield 10, 3, 11, 0, 0, 0), none,
  none, some (.invokespecial 43, 3, 50, 1, 1, 0), none, none, some (.putfield 44, 3, 11, 4, 0, 0), none,
  none, some (.aload_n 0, 1, 0, 0, 0, 0), some (.iconst 5, 1, 0, 0, 0, 5), some (.anewarray 48, 3, 4, 0, 0, 0), none, none,
  some (.dup, 1, 0, 0, 0, 0), some (.iconst 0, 1, 0, 0, 0, 0), some (.new 48, 3, 3, 0, 0, 0), none, none, some (.dup, 1, 0, 0, 0, 0),
  some (.invokespecial 50, 3, 28, 0, 1, 0), none, none, some (.aastore, 1, 4, 0, 0, 0), some (.dup, 1, 0, 0, 0, 0), some (.iconst 1, 1, 0, 0, 0, 1),
  some (.new 51, 3, 5, 0, 0, 0), none, none, some (.dup, 1, 0, 0, 0, 0), some (.invokespecial 53, 3, 35, 0, 1, 0), none,
  none, some (.aastore, 1, 4, 0, 0, 0), some (.dup, 1, 0, 0, 0, 0), some (.iconst 2, 1, 0, 0, 0, 2), some (.new 54, 3, 8, 0, 0, 0), none,
  none, some (.dup, 1, 0, 0, 0, 0), some (.invokespecial 56, 3, 59, 0, 1, 0), none, none, some (.aastore, 1, 4, 0, 0, 0),
  some (.dup, 1, 0, 0, 0, 0), some (.iconst 3, 1, 0, 0, 0, 3), some (.new 57, 3, 1, 0, 0, 0), none, none, some (.dup, 1, 0, 0, 0, 0),
  some (.invokespecial 59, 3, 17, 0, 1, 0), none, none, some (.aastore, 1, 4, 0, 0, 0), some (.dup, 1, 0, 0, 0, 0), some (.iconst 4, 1, 0, 0, 0, 4),
  some (.new 60, 3, 4, 0, 0, 0), none, none, some (.dup, 1, 0, 0, 0, 0), some (.invokespecial 62, 3, 32, 0, 1, 0), none,
  none, some (.aastore, 1, 4, 0, 0, 0), some (.putfield 63, 3, 11, 5, 0, 0), none, none, some (.aload_n 0, 1, 0, 0, 0, 0),
  some (.aconst_null, 1, 0, 0, 0, 0), some (.putfield 67, 3, 11, 6, 0, 0), none, none, some (.return_, 1, 0, 0, 0, 0)
  ])
def mi_X11_day : am_MI := (yX11_day, cX11_day, 3, (some FieldType.int), [
  some (.aload_n 0, 1, 0, 0, 0, 0), some (.getfield 10, 3, 11, 0, 0, 0), none, none, some (.getfield 70, 3, 0, 0, 0, 0), none,
  none, some (.iconst 0, 1, 0, 0, 0, 0), some (.iaload, 1, 0, 0, 0, 0), some (.istore_n 2, 1, 2, 0, 0, 0), some (.iload_n 1, 1, 1, 0, 0, 0), some (.iconst 1, 1, 0, 0, 0, 1),
  some (.if_icmp .lt 18, 3, 30, 0, 0, 0), none, none, some (.iload_n 1, 1, 1, 0, 0, 0), some (.bipush 99, 2, 0, 0, 0, 99), none,
  some (.if_icmp .gt 12, 3, 30, 0, 0, 0), none, none, some (.iload_n 2, 1, 2, 0, 0, 0), some (.iload_n 1, 1, 1, 0, 0, 0), some (.iadd, 1, 0, 0, 0, 0),
  some (.sipush 1000, 3, 0, 0, 0, 1000), none, none, some (.if_icmp .lt 6, 3, 33, 0, 0, 0), none, none,
  some (.bipush (-2), 2, 0, 0, 0, -2), none, some (.ireturn, 1, 0, 0, 0, 0), some (.aload_n 0, 1, 0, 0, 0, 0), some (.getfield 10, 3, 11, 0, 0, 0), none,
  none, some (.getfield 70, 3, 0, 0, 0, 0), none, none, some (.iconst 0, 1, 0, 0, 0, 0), some (.iload_n 2, 1, 2, 0, 0, 0),
  some (.iload_n 1, 1, 1, 0, 0, 0), some (.iadd, 1, 0, 0, 0, 0), some (.iastore, 1, 0, 0, 0, 0), some (.iload_n 2, 1, 2, 0, 0, 0), some (.iload_n 1, 1, 1, 0, 0, 0), some (.iadd, 1, 0, 0, 0, 0),
  some (.ireturn, 1, 0, 0, 0, 0)
  ])
def mi_X11_feed : am_MI := (yX11_feed, cX11_feed, 6, (some FieldType.int), [
  some (.iload_n 3, 1, 3, 0, 0, 0), some (.iconst 1, 1, 0, 0, 0, 1), some (.if_icmp .lt 9, 3, 11, 0, 0, 0), none, none, some (.iload_n 3, 1, 3, 0, 0, 0),
  some (.bipush 8, 2, 0, 0, 0, 8), none, some (.if_icmp .le 6, 3, 14, 0, 0, 0), none, none, some (.bipush (-2), 2, 0, 0, 0, -2),
  none, some (.ireturn, 1, 0, 0, 0, 0), some (.aload_n 0, 1, 0, 0, 0, 0), some (.getfield 10, 3, 11, 0, 0, 0), none, none,
  some (.getfield 70, 3, 0, 0, 0, 0), none, none, some (.bipush 7, 2, 0, 0, 0, 7), none, some (.iaload, 1, 0, 0, 0, 0),
  some (.istore 4, 2, 4, 0, 0, 0), none, some (.iload 4, 2, 4, 0, 0, 0), none, some (.iload_n 3, 1, 3, 0, 0, 0), some (.iadd, 1, 0, 0, 0, 0),
  some (.bipush 120, 2, 0, 0, 0, 120), none, some (.if_icmp .le 6, 3, 38, 0, 0, 0), none, none, some (.bipush (-4), 2, 0, 0, 0, -4),
  none, some (.ireturn, 1, 0, 0, 0, 0), some (.iconst 0, 1, 0, 0, 0, 0), some (.istore 5, 2, 5, 0, 0, 0), none, some (.iload 5, 2, 5, 0, 0, 0),
  none, some (.iload_n 3, 1, 3, 0, 0, 0), some (.if_icmp .ge 35, 3, 79, 0, 0, 0), none, none, some (.aload_n 0, 1, 0, 0, 0, 0),
  some (.getfield 10, 3, 11, 0, 0, 0), none, none, some (.getfield 74, 3, 0, 1, 0, 0), none, none,
  some (.iload 4, 2, 4, 0, 0, 0), none, some (.iload 5, 2, 5, 0, 0, 0), none, some (.iadd, 1, 0, 0, 0, 0), some (.lload_n 1, 1, 1, 0, 0, 0),
  some (.bipush 8, 2, 0, 0, 0, 8), none, some (.iload_n 3, 1, 3, 0, 0, 0), some (.iconst 1, 1, 0, 0, 0, 1), some (.isub, 1, 0, 0, 0, 0), some (.iload 5, 2, 5, 0, 0, 0),
  none, some (.isub, 1, 0, 0, 0, 0), some (.imul, 1, 0, 0, 0, 0), some (.lushr, 1, 0, 0, 0, 0), some (.l2i, 1, 0, 0, 0, 0), some (.i2b, 1, 0, 0, 0, 0),
  some (.bastore, 1, 1, 0, 0, 0), some (.iinc 5 1, 3, 5, 0, 0, 1), none, none, some (.goto (-35), 3, 41, 0, 0, 0), none,
  none, some (.aload_n 0, 1, 0, 0, 0, 0), some (.getfield 10, 3, 11, 0, 0, 0), none, none, some (.getfield 70, 3, 0, 0, 0, 0),
  none, none, some (.bipush 7, 2, 0, 0, 0, 7), none, some (.iload 4, 2, 4, 0, 0, 0), none,
  some (.iload_n 3, 1, 3, 0, 0, 0), some (.iadd, 1, 0, 0, 0, 0), some (.iastore, 1, 0, 0, 0, 0), some (.iload 4, 2, 4, 0, 0, 0), none, some (.iload_n 3, 1, 3, 0, 0, 0),
  some (.iadd, 1, 0, 0, 0, 0), some (.ireturn, 1, 0, 0, 0, 0)
  ])
def mi_X11_rule : am_MI := (yX11_rule, cX11_rule, 3, (some FieldType.int), [
  some (.aload_n 0, 1, 0, 0, 0, 0), some (.getfield 10, 3, 11, 0, 0, 0), none, none, some (.getfield 70, 3, 0, 0, 0, 0), none,
  none, some (.iconst 1, 1, 0, 0, 0, 1), some (.iaload, 1, 0, 0, 0, 0), some (.istore_n 1, 1, 1, 0, 0, 0), some (.iload_n 1, 1, 1, 0, 0, 0), some (.bipush 8, 2, 0, 0, 0, 8),
  none, some (.if_icmp .lt 6, 3, 19, 0, 0, 0), none, none, some (.bipush (-4), 2, 0, 0, 0, -4), none,
  some (.ireturn, 1, 0, 0, 0, 0), some (.aload_n 0, 1, 0, 0, 0, 0), some (.getfield 44, 3, 11, 4, 0, 0), none, none, some (.aload_n 0, 1, 0, 0, 0, 0),
  some (.getfield 10, 3, 11, 0, 0, 0), none, none, some (.getfield 78, 3, 0, 2, 0, 0), none, none,
  some (.iload_n 1, 1, 1, 0, 0, 0), some (.aaload, 1, 3, 0, 0, 0), some (.invokevirtual 82, 3, 51, 1, 1, 7), none, none, some (.istore_n 2, 1, 2, 0, 0, 0),
  some (.iload_n 2, 1, 2, 0, 0, 0), some (.ifCond .lt 8, 3, 45, 0, 0, 0), none, none, some (.bipush (-10), 2, 0, 0, 0, -10), none,
  some (.iload_n 2, 1, 2, 0, 0, 0), some (.isub, 1, 0, 0, 0, 0), some (.ireturn, 1, 0, 0, 0, 0), some (.aload_n 0, 1, 0, 0, 0, 0), some (.getfield 10, 3, 11, 0, 0, 0), none,
  none, some (.getfield 70, 3, 0, 0, 0, 0), none, none, some (.iconst 1, 1, 0, 0, 0, 1), some (.iload_n 1, 1, 1, 0, 0, 0),
  some (.iconst 1, 1, 0, 0, 0, 1), some (.iadd, 1, 0, 0, 0, 0), some (.iastore, 1, 0, 0, 0, 0), some (.iload_n 1, 1, 1, 0, 0, 0), some (.ireturn, 1, 0, 0, 0, 0)
  ])
def mi_X11_change : am_MI := (yX11_change, cX11_change, 5, (some FieldType.int), [
  some (.aload_n 0, 1, 0, 0, 0, 0), some (.getfield 10, 3, 11, 0, 0, 0), none, none, some (.iconst 1, 1, 0, 0, 0, 1), some (.iload_n 1, 1, 1, 0, 0, 0),
  some (.invokevirtual 86, 3, 2, 2, 1, 0), none, none, some (.ifCond .ne 5, 3, 14, 0, 0, 0), none, none,
  some (.iconst (-1), 1, 0, 0, 0, -1), some (.ireturn, 1, 0, 0, 0, 0), some (.iload_n 2, 1, 2, 0, 0, 0), some (.aload_n 0, 1, 0, 0, 0, 0), some (.getfield 10, 3, 11, 0, 0, 0), none,
  none, some (.getfield 70, 3, 0, 0, 0, 0), none, none, some (.iconst 0, 1, 0, 0, 0, 0), some (.iaload, 1, 0, 0, 0, 0),
  some (.if_icmp .lt 10, 3, 34, 0, 0, 0), none, none, some (.iload_n 2, 1, 2, 0, 0, 0), some (.sipush 1000, 3, 0, 0, 0, 1000), none,
  none, some (.if_icmp .lt 6, 3, 37, 0, 0, 0), none, none, some (.bipush (-2), 2, 0, 0, 0, -2), none,
  some (.ireturn, 1, 0, 0, 0, 0), some (.aload_n 0, 1, 0, 0, 0, 0), some (.getfield 10, 3, 11, 0, 0, 0), none, none, some (.getfield 70, 3, 0, 0, 0, 0),
  none, none, some (.iconst 2, 1, 0, 0, 0, 2), some (.iaload, 1, 0, 0, 0, 0), some (.istore_n 3, 1, 3, 0, 0, 0), some (.iload_n 3, 1, 3, 0, 0, 0),
  some (.bipush 12, 2, 0, 0, 0, 12), none, some (.if_icmp .lt 6, 3, 56, 0, 0, 0), none, none, some (.bipush (-4), 2, 0, 0, 0, -4),
  none, some (.ireturn, 1, 0, 0, 0, 0), some (.aload_n 0, 1, 0, 0, 0, 0), some (.getfield 44, 3, 11, 4, 0, 0), none, none,
  some (.aload_n 0, 1, 0, 0, 0, 0), some (.getfield 10, 3, 11, 0, 0, 0), none, none, some (.getfield 78, 3, 0, 2, 0, 0), none,
  none, some (.bipush 8, 2, 0, 0, 0, 8), none, some (.iload_n 3, 1, 3, 0, 0, 0), some (.iadd, 1, 0, 0, 0, 0), some (.aaload, 1, 3, 0, 0, 0),
  some (.invokevirtual 82, 3, 51, 1, 1, 7), none, none, some (.istore 4, 2, 4, 0, 0, 0), none, some (.iload 4, 2, 4, 0, 0, 0),
  none, some (.ifCond .lt 9, 3, 88, 0, 0, 0), none, none, some (.bipush (-10), 2, 0, 0, 0, -10), none,
  some (.iload 4, 2, 4, 0, 0, 0), none, some (.isub, 1, 0, 0, 0, 0), some (.ireturn, 1, 0, 0, 0, 0), some (.aload_n 0, 1, 0, 0, 0, 0), some (.getfield 10, 3, 11, 0, 0, 0),
  none, none, some (.getfield 90, 3, 0, 3, 0, 0), none, none, some (.iload_n 3, 1, 3, 0, 0, 0),
  some (.iload_n 1, 1, 1, 0, 0, 0), some (.iastore, 1, 0, 0, 0, 0), some (.aload_n 0, 1, 0, 0, 0, 0), some (.getfield 10, 3, 11, 0, 0, 0), none, none,
  some (.getfield 93, 3, 0, 4, 0, 0), none, none, some (.iload_n 3, 1, 3, 0, 0, 0), some (.iload_n 2, 1, 2, 0, 0, 0), some (.iastore, 1, 0, 0, 0, 0),
  some (.aload_n 0, 1, 0, 0, 0, 0), some (.getfield 10, 3, 11, 0, 0, 0), none, none, some (.getfield 70, 3, 0, 0, 0, 0), none,
  none, some (.iconst 2, 1, 0, 0, 0, 2), some (.iload_n 3, 1, 3, 0, 0, 0), some (.iconst 1, 1, 0, 0, 0, 1), some (.iadd, 1, 0, 0, 0, 0), some (.iastore, 1, 0, 0, 0, 0),
  some (.iload_n 3, 1, 3, 0, 0, 0), some (.iconst 1, 1, 0, 0, 0, 1), some (.iadd, 1, 0, 0, 0, 0), some (.ireturn, 1, 0, 0, 0, 0)
  ])
def mi_X11_told : am_MI := (yX11_told, cX11_told, 5, (some FieldType.int), [
  some (.aload_n 0, 1, 0, 0, 0, 0), some (.getfield 10, 3, 11, 0, 0, 0), none, none, some (.iconst 1, 1, 0, 0, 0, 1), some (.iload_n 1, 1, 1, 0, 0, 0),
  some (.invokevirtual 86, 3, 2, 2, 1, 0), none, none, some (.ifCond .eq 12, 3, 21, 0, 0, 0), none, none,
  some (.iload_n 3, 1, 3, 0, 0, 0), some (.ifCond .lt 8, 3, 21, 0, 0, 0), none, none, some (.iload_n 3, 1, 3, 0, 0, 0), some (.iconst 2, 1, 0, 0, 0, 2),
  some (.if_icmp .le 5, 3, 23, 0, 0, 0), none, none, some (.iconst (-1), 1, 0, 0, 0, -1), some (.ireturn, 1, 0, 0, 0, 0), some (.iload_n 2, 1, 2, 0, 0, 0),
  some (.invokestatic 96, 3, 110, 1, 0, 0), none, none, some (.ifCond .ne 6, 3, 33, 0, 0, 0), none, none,
  some (.bipush (-2), 2, 0, 0, 0, -2), none, some (.ireturn, 1, 0, 0, 0, 0), some (.iload_n 3, 1, 3, 0, 0, 0), some (.iconst 2, 1, 0, 0, 0, 2), some (.if_icmp .ne 27, 3, 62, 0, 0, 0),
  none, none, some (.aload_n 0, 1, 0, 0, 0, 0), some (.getfield 10, 3, 11, 0, 0, 0), none, none,
  some (.iload_n 1, 1, 1, 0, 0, 0), some (.iload_n 2, 1, 2, 0, 0, 0), some (.invokevirtual 100, 3, 5, 2, 1, 0), none, none, some (.istore 4, 2, 4, 0, 0, 0),
  none, some (.iload 4, 2, 4, 0, 0, 0), none, some (.ifCond .ge 8, 3, 59, 0, 0, 0), none, none,
  some (.bipush (-5), 2, 0, 0, 0, -5), none, some (.goto 5, 3, 61, 0, 0, 0), none, none, some (.iload 4, 2, 4, 0, 0, 0),
  none, some (.ireturn, 1, 0, 0, 0, 0), some (.aload_n 0, 1, 0, 0, 0, 0), some (.getfield 10, 3, 11, 0, 0, 0), none, none,
  some (.iload_n 1, 1, 1, 0, 0, 0), some (.iload_n 2, 1, 2, 0, 0, 0), some (.invokevirtual 104, 3, 6, 2, 1, 0), none, none, some (.astore 4, 2, 4, 0, 0, 0),
  none, some (.iload_n 3, 1, 3, 0, 0, 0), some (.ifCond .ne 11, 3, 85, 0, 0, 0), none, none, some (.aload 4, 2, 4, 0, 0, 0),
  none, some (.getfield 108, 3, 10, 0, 0, 0), none, none, some (.goto 8, 3, 90, 0, 0, 0), none,
  none, some (.aload 4, 2, 4, 0, 0, 0), none, some (.getfield 114, 3, 10, 1, 0, 0), none, none,
  some (.ireturn, 1, 0, 0, 0, 0)
  ])
def mi_X11_paper : am_MI := (yX11_paper, cX11_paper, 4, (some FieldType.int), [
  some (.iload_n 2, 1, 2, 0, 0, 0), some (.invokestatic 117, 3, 112, 1, 0, 0), none, none, some (.ifCond .ne 5, 3, 9, 0, 0, 0), none,
  none, some (.iconst (-1), 1, 0, 0, 0, -1), some (.ireturn, 1, 0, 0, 0, 0), some (.iload_n 1, 1, 1, 0, 0, 0), some (.invokestatic 120, 3, 111, 1, 0, 0), none,
  none, some (.ifCond .ne 6, 3, 19, 0, 0, 0), none, none, some (.bipush (-2), 2, 0, 0, 0, -2), none,
  some (.ireturn, 1, 0, 0, 0, 0), some (.aload_n 0, 1, 0, 0, 0, 0), some (.getfield 10, 3, 11, 0, 0, 0), none, none, some (.getfield 70, 3, 0, 0, 0, 0),
  none, none, some (.iconst 3, 1, 0, 0, 0, 3), some (.iaload, 1, 0, 0, 0, 0), some (.istore_n 3, 1, 3, 0, 0, 0), some (.iload_n 3, 1, 3, 0, 0, 0),
  some (.bipush 20, 2, 0, 0, 0, 20), none, some (.if_icmp .lt 6, 3, 38, 0, 0, 0), none, none, some (.bipush (-4), 2, 0, 0, 0, -4),
  none, some (.ireturn, 1, 0, 0, 0, 0), some (.aload_n 0, 1, 0, 0, 0, 0), some (.getfield 10, 3, 11, 0, 0, 0), none, none,
  some (.getfield 123, 3, 0, 5, 0, 0), none, none, some (.iload_n 3, 1, 3, 0, 0, 0), some (.iload_n 1, 1, 1, 0, 0, 0), some (.iastore, 1, 0, 0, 0, 0),
  some (.aload_n 0, 1, 0, 0, 0, 0), some (.getfield 10, 3, 11, 0, 0, 0), none, none, some (.getfield 126, 3, 0, 6, 0, 0), none,
  none, some (.iload_n 3, 1, 3, 0, 0, 0), some (.iload_n 2, 1, 2, 0, 0, 0), some (.iastore, 1, 0, 0, 0, 0), some (.aload_n 0, 1, 0, 0, 0, 0), some (.getfield 10, 3, 11, 0, 0, 0),
  none, none, some (.dup, 1, 0, 0, 0, 0), some (.getfield 129, 3, 0, 7, 0, 0), none, none,
  some (.iconst 1, 1, 0, 0, 0, 1), some (.iload_n 3, 1, 3, 0, 0, 0), some (.ishl, 1, 0, 0, 0, 0), some (.ior, 1, 0, 0, 0, 0), some (.putfield 129, 3, 0, 7, 0, 0), none,
  none, some (.aload_n 0, 1, 0, 0, 0, 0), some (.getfield 10, 3, 11, 0, 0, 0), none, none, some (.getfield 70, 3, 0, 0, 0, 0),
  none, none, some (.iconst 3, 1, 0, 0, 0, 3), some (.iload_n 3, 1, 3, 0, 0, 0), some (.iconst 1, 1, 0, 0, 0, 1), some (.iadd, 1, 0, 0, 0, 0),
  some (.iastore, 1, 0, 0, 0, 0), some (.iload_n 3, 1, 3, 0, 0, 0), some (.ireturn, 1, 0, 0, 0, 0)
  ])
def mi_X11_shown : am_MI := (yX11_shown, cX11_shown, 5, (some FieldType.int), [
  some (.aload_n 0, 1, 0, 0, 0, 0), some (.getfield 10, 3, 11, 0, 0, 0), none, none, some (.iconst 3, 1, 0, 0, 0, 3), some (.iload_n 1, 1, 1, 0, 0, 0),
  some (.invokevirtual 86, 3, 2, 2, 1, 0), none, none, some (.ifCond .ne 5, 3, 14, 0, 0, 0), none, none,
  some (.iconst (-1), 1, 0, 0, 0, -1), some (.ireturn, 1, 0, 0, 0, 0), some (.aload_n 0, 1, 0, 0, 0, 0), some (.getfield 10, 3, 11, 0, 0, 0), none, none,
  some (.iload_n 1, 1, 1, 0, 0, 0), some (.invokevirtual 132, 3, 4, 1, 1, 0), none, none, some (.ifCond .eq 7, 3, 29, 0, 0, 0), none,
  none, some (.iconst 0, 1, 0, 0, 0, 0), some (.goto 4, 3, 30, 0, 0, 0), none, none, some (.iconst 1, 1, 0, 0, 0, 1),
  some (.istore_n 3, 1, 3, 0, 0, 0), some (.iconst 1, 1, 0, 0, 0, 1), some (.iload_n 1, 1, 1, 0, 0, 0), some (.ishl, 1, 0, 0, 0, 0), some (.istore 4, 2, 4, 0, 0, 0), none,
  some (.aload_n 0, 1, 0, 0, 0, 0), some (.getfield 10, 3, 11, 0, 0, 0), none, none, some (.iload_n 2, 1, 2, 0, 0, 0), some (.ifCond .eq 18, 3, 59, 0, 0, 0),
  none, none, some (.aload_n 0, 1, 0, 0, 0, 0), some (.getfield 10, 3, 11, 0, 0, 0), none, none,
  some (.getfield 129, 3, 0, 7, 0, 0), none, none, some (.iload 4, 2, 4, 0, 0, 0), none, some (.iconst (-1), 1, 0, 0, 0, -1),
  some (.ixor, 1, 0, 0, 0, 0), some (.iand, 1, 0, 0, 0, 0), some (.goto 13, 3, 69, 0, 0, 0), none, none, some (.aload_n 0, 1, 0, 0, 0, 0),
  some (.getfield 10, 3, 11, 0, 0, 0), none, none, some (.getfield 129, 3, 0, 7, 0, 0), none, none,
  some (.iload 4, 2, 4, 0, 0, 0), none, some (.ior, 1, 0, 0, 0, 0), some (.putfield 129, 3, 0, 7, 0, 0), none, none,
  some (.iload_n 3, 1, 3, 0, 0, 0), some (.ireturn, 1, 0, 0, 0, 0)
  ])
def mi_X11_of : am_MI := (yX11_of, cX11_of, 3, (some FieldType.int), [
  some (.aload_n 0, 1, 0, 0, 0, 0), some (.getfield 10, 3, 11, 0, 0, 0), none, none, some (.iconst 3, 1, 0, 0, 0, 3), some (.iload_n 1, 1, 1, 0, 0, 0),
  some (.invokevirtual 86, 3, 2, 2, 1, 0), none, none, some (.ifCond .eq 12, 3, 21, 0, 0, 0), none, none,
  some (.iload_n 2, 1, 2, 0, 0, 0), some (.ifCond .lt 8, 3, 21, 0, 0, 0), none, none, some (.iload_n 2, 1, 2, 0, 0, 0), some (.iconst 2, 1, 0, 0, 0, 2),
  some (.if_icmp .le 5, 3, 23, 0, 0, 0), none, none, some (.iconst (-1), 1, 0, 0, 0, -1), some (.ireturn, 1, 0, 0, 0, 0), some (.iload_n 2, 1, 2, 0, 0, 0),
  some (.ifCond .ne 13, 3, 37, 0, 0, 0), none, none, some (.aload_n 0, 1, 0, 0, 0, 0), some (.getfield 10, 3, 11, 0, 0, 0), none,
  none, some (.getfield 123, 3, 0, 5, 0, 0), none, none, some (.iload_n 1, 1, 1, 0, 0, 0), some (.iaload, 1, 0, 0, 0, 0),
  some (.ireturn, 1, 0, 0, 0, 0), some (.iload_n 2, 1, 2, 0, 0, 0), some (.iconst 1, 1, 0, 0, 0, 1), some (.if_icmp .ne 13, 3, 52, 0, 0, 0), none, none,
  some (.aload_n 0, 1, 0, 0, 0, 0), some (.getfield 10, 3, 11, 0, 0, 0), none, none, some (.getfield 126, 3, 0, 6, 0, 0), none,
  none, some (.iload_n 1, 1, 1, 0, 0, 0), some (.iaload, 1, 0, 0, 0, 0), some (.ireturn, 1, 0, 0, 0, 0), some (.aload_n 0, 1, 0, 0, 0, 0), some (.getfield 10, 3, 11, 0, 0, 0),
  none, none, some (.iload_n 1, 1, 1, 0, 0, 0), some (.invokevirtual 132, 3, 4, 1, 1, 0), none, none,
  some (.ifCond .eq 7, 3, 67, 0, 0, 0), none, none, some (.iconst 0, 1, 0, 0, 0, 0), some (.goto 4, 3, 68, 0, 0, 0), none,
  none, some (.iconst 1, 1, 0, 0, 0, 1), some (.ireturn, 1, 0, 0, 0, 0)
  ])
def mi_X11_follows : am_MI := (yX11_follows, cX11_follows, 4, (some FieldType.int), [
  some (.iload_n 3, 1, 3, 0, 0, 0), some (.ifCond .lt 8, 3, 9, 0, 0, 0), none, none, some (.iload_n 3, 1, 3, 0, 0, 0), some (.iconst 2, 1, 0, 0, 0, 2),
  some (.if_icmp .le 5, 3, 11, 0, 0, 0), none, none, some (.iconst (-1), 1, 0, 0, 0, -1), some (.ireturn, 1, 0, 0, 0, 0), some (.iload_n 1, 1, 1, 0, 0, 0),
  some (.invokestatic 120, 3, 111, 1, 0, 0), none, none, some (.ifCond .eq 10, 3, 25, 0, 0, 0), none, none,
  some (.iload_n 2, 1, 2, 0, 0, 0), some (.invokestatic 96, 3, 110, 1, 0, 0), none, none, some (.ifCond .ne 6, 3, 28, 0, 0, 0), none,
  none, some (.bipush (-2), 2, 0, 0, 0, -2), none, some (.ireturn, 1, 0, 0, 0, 0), some (.aload_n 0, 1, 0, 0, 0, 0), some (.getfield 28, 3, 11, 2, 0, 0),
  none, none, some (.iload_n 2, 1, 2, 0, 0, 0), some (.aload_n 0, 1, 0, 0, 0, 0), some (.getfield 10, 3, 11, 0, 0, 0), none,
  none, some (.getfield 129, 3, 0, 7, 0, 0), none, none, some (.iload_n 3, 1, 3, 0, 0, 0), some (.iconst 2, 1, 0, 0, 0, 2),
  some (.if_icmp .ne 7, 3, 49, 0, 0, 0), none, none, some (.iconst 1, 1, 0, 0, 0, 1), some (.goto 4, 3, 50, 0, 0, 0), none,
  none, some (.iconst 0, 1, 0, 0, 0, 0), some (.invokevirtual 135, 3, 40, 3, 1, 6), none, none, some (.iload_n 3, 1, 3, 0, 0, 0),
  some (.ifCond .ne 20, 3, 74, 0, 0, 0), none, none, some (.aload_n 0, 1, 0, 0, 0, 0), some (.getfield 28, 3, 11, 2, 0, 0), none,
  none, some (.iload_n 1, 1, 1, 0, 0, 0), some (.invokevirtual 139, 3, 38, 1, 1, 6), none, none, some (.ifCond .eq 7, 3, 72, 0, 0, 0),
  none, none, some (.iconst 1, 1, 0, 0, 0, 1), some (.goto 4, 3, 73, 0, 0, 0), none, none,
  some (.iconst 0, 1, 0, 0, 0, 0), some (.ireturn, 1, 0, 0, 0, 0), some (.aload_n 0, 1, 0, 0, 0, 0), some (.getfield 28, 3, 11, 2, 0, 0), none, none,
  some (.iload_n 1, 1, 1, 0, 0, 0), some (.invokevirtual 139, 3, 38, 1, 1, 6), none, none, some (.ifCond .eq 15, 3, 97, 0, 0, 0), none,
  none, some (.aload_n 0, 1, 0, 0, 0, 0), some (.getfield 28, 3, 11, 2, 0, 0), none, none, some (.getfield 141, 3, 6, 1, 0, 0),
  none, none, some (.iload_n 1, 1, 1, 0, 0, 0), some (.iaload, 1, 0, 0, 0, 0), some (.goto 5, 3, 99, 0, 0, 0), none,
  none, some (.bipush (-5), 2, 0, 0, 0, -5), none, some (.ireturn, 1, 0, 0, 0, 0)
  ])
def mi_X11_many : am_MI := (yX11_many, cX11_many, 2, (some FieldType.int), [
  some (.iload_n 1, 1, 1, 0, 0, 0), some (.invokestatic 96, 3, 110, 1, 0, 0), none, none, some (.ifCond .ne 6, 3, 10, 0, 0, 0), none,
  none, some (.bipush (-2), 2, 0, 0, 0, -2), none, some (.ireturn, 1, 0, 0, 0, 0), some (.aload_n 0, 1, 0, 0, 0, 0), some (.getfield 28, 3, 11, 2, 0, 0),
  none, none, some (.iload_n 1, 1, 1, 0, 0, 0), some (.aload_n 0, 1, 0, 0, 0, 0), some (.getfield 10, 3, 11, 0, 0, 0), none,
  none, some (.getfield 129, 3, 0, 7, 0, 0), none, none, some (.iconst 0, 1, 0, 0, 0, 0), some (.invokevirtual 135, 3, 40, 3, 1, 6),
  none, none, some (.aload_n 0, 1, 0, 0, 0, 0), some (.getfield 28, 3, 11, 2, 0, 0), none, none,
  some (.getfield 144, 3, 6, 3, 0, 0), none, none, some (.ireturn, 1, 0, 0, 0, 0)
  ])
def mi_X11_proof : am_MI := (yX11_proof, cX11_proof, 3, (some FieldType.int), [
  some (.iload_n 1, 1, 1, 0, 0, 0), some (.invokestatic 147, 3, 113, 1, 0, 0), none, none, some (.ifCond .ne 5, 3, 9, 0, 0, 0), none,
  none, some (.iconst (-1), 1, 0, 0, 0, -1), some (.ireturn, 1, 0, 0, 0, 0), some (.aload_n 0, 1, 0, 0, 0, 0), some (.getfield 10, 3, 11, 0, 0, 0), none,
  none, some (.getfield 70, 3, 0, 0, 0, 0), none, none, some (.iconst 4, 1, 0, 0, 0, 4), some (.iaload, 1, 0, 0, 0, 0),
  some (.istore_n 2, 1, 2, 0, 0, 0), some (.iload_n 2, 1, 2, 0, 0, 0), some (.bipush 12, 2, 0, 0, 0, 12), none, some (.if_icmp .lt 6, 3, 28, 0, 0, 0), none,
  none, some (.bipush (-4), 2, 0, 0, 0, -4), none, some (.ireturn, 1, 0, 0, 0, 0), some (.aload_n 0, 1, 0, 0, 0, 0), some (.getfield 10, 3, 11, 0, 0, 0),
  none, none, some (.getfield 150, 3, 0, 8, 0, 0), none, none, some (.iload_n 2, 1, 2, 0, 0, 0),
  some (.iload_n 1, 1, 1, 0, 0, 0), some (.iastore, 1, 0, 0, 0, 0), some (.aload_n 0, 1, 0, 0, 0, 0), some (.getfield 10, 3, 11, 0, 0, 0), none, none,
  some (.getfield 153, 3, 0, 9, 0, 0), none, none, some (.iload_n 2, 1, 2, 0, 0, 0), some (.iconst 0, 1, 0, 0, 0, 0), some (.iastore, 1, 0, 0, 0, 0),
  some (.aload_n 0, 1, 0, 0, 0, 0), some (.getfield 10, 3, 11, 0, 0, 0), none, none, some (.getfield 70, 3, 0, 0, 0, 0), none,
  none, some (.iconst 4, 1, 0, 0, 0, 4), some (.iload_n 2, 1, 2, 0, 0, 0), some (.iconst 1, 1, 0, 0, 0, 1), some (.iadd, 1, 0, 0, 0, 0), some (.iastore, 1, 0, 0, 0, 0),
  some (.iload_n 2, 1, 2, 0, 0, 0), some (.ireturn, 1, 0, 0, 0, 0)
  ])
def mi_X11_step : am_MI := (yX11_step, cX11_step, 10, (some FieldType.int), [
  some (.aload_n 0, 1, 0, 0, 0, 0), some (.getfield 10, 3, 11, 0, 0, 0), none, none, some (.iconst 4, 1, 0, 0, 0, 4), some (.iload_n 1, 1, 1, 0, 0, 0),
  some (.invokevirtual 86, 3, 2, 2, 1, 0), none, none, some (.ifCond .eq 15, 3, 24, 0, 0, 0), none, none,
  some (.aload_n 0, 1, 0, 0, 0, 0), some (.getfield 10, 3, 11, 0, 0, 0), none, none, some (.iconst 1, 1, 0, 0, 0, 1), some (.iload_n 2, 1, 2, 0, 0, 0),
  some (.invokevirtual 86, 3, 2, 2, 1, 0), none, none, some (.ifCond .ne 5, 3, 26, 0, 0, 0), none, none,
  some (.iconst (-1), 1, 0, 0, 0, -1), some (.ireturn, 1, 0, 0, 0, 0), some (.iload_n 3, 1, 3, 0, 0, 0), some (.ifCond .lt 22, 3, 49, 0, 0, 0), none, none,
  some (.iload_n 3, 1, 3, 0, 0, 0), some (.sipush 625, 3, 0, 0, 0, 625), none, none, some (.if_icmp .ge 15, 3, 49, 0, 0, 0), none,
  none, some (.iload 4, 2, 4, 0, 0, 0), none, some (.iconst 1, 1, 0, 0, 0, 1), some (.if_icmp .lt 9, 3, 49, 0, 0, 0), none,
  none, some (.iload 4, 2, 4, 0, 0, 0), none, some (.iconst 3, 1, 0, 0, 0, 3), some (.if_icmp .le 6, 3, 52, 0, 0, 0), none,
  none, some (.bipush (-2), 2, 0, 0, 0, -2), none, some (.ireturn, 1, 0, 0, 0, 0), some (.aload_n 0, 1, 0, 0, 0, 0), some (.getfield 10, 3, 11, 0, 0, 0),
  none, none, some (.iload_n 1, 1, 1, 0, 0, 0), some (.invokevirtual 156, 3, 11, 1, 1, 0), none, none,
  some (.ifCond .ne 14, 3, 74, 0, 0, 0), none, none, some (.aload_n 0, 1, 0, 0, 0, 0), some (.getfield 10, 3, 11, 0, 0, 0), none,
  none, some (.iload_n 1, 1, 1, 0, 0, 0), some (.invokevirtual 159, 3, 13, 1, 1, 0), none, none, some (.ifCond .eq 6, 3, 77, 0, 0, 0),
  none, none, some (.bipush (-3), 2, 0, 0, 0, -3), none, some (.ireturn, 1, 0, 0, 0, 0), some (.aload_n 0, 1, 0, 0, 0, 0),
  some (.getfield 10, 3, 11, 0, 0, 0), none, none, some (.getfield 153, 3, 0, 9, 0, 0), none, none,
  some (.iload_n 1, 1, 1, 0, 0, 0), some (.iaload, 1, 0, 0, 0, 0), some (.istore 8, 2, 8, 0, 0, 0), none, some (.iload 8, 2, 8, 0, 0, 0), none,
  some (.bipush 12, 2, 0, 0, 0, 12), none, some (.if_icmp .lt 6, 3, 98, 0, 0, 0), none, none, some (.bipush (-4), 2, 0, 0, 0, -4),
  none, some (.ireturn, 1, 0, 0, 0, 0), some (.aload_n 0, 1, 0, 0, 0, 0), some (.getfield 10, 3, 11, 0, 0, 0), none, none,
  some (.iload_n 1, 1, 1, 0, 0, 0), some (.iload 8, 2, 8, 0, 0, 0), none, some (.invokevirtual 162, 3, 7, 2, 1, 0), none, none,
  some (.istore 9, 2, 9, 0, 0, 0), none, some (.aload_n 0, 1, 0, 0, 0, 0), some (.getfield 10, 3, 11, 0, 0, 0), none, none,
  some (.getfield 165, 3, 0, 10, 0, 0), none, none, some (.iload 9, 2, 9, 0, 0, 0), none, some (.iconst 0, 1, 0, 0, 0, 0),
  some (.iadd, 1, 0, 0, 0, 0), some (.iload_n 2, 1, 2, 0, 0, 0), some (.iastore, 1, 0, 0, 0, 0), some (.aload_n 0, 1, 0, 0, 0, 0), some (.getfield 10, 3, 11, 0, 0, 0), none,
  none, some (.getfield 165, 3, 0, 10, 0, 0), none, none, some (.iload 9, 2, 9, 0, 0, 0), none,
  some (.iconst 1, 1, 0, 0, 0, 1), some (.iadd, 1, 0, 0, 0, 0), some (.iload_n 3, 1, 3, 0, 0, 0), some (.iastore, 1, 0, 0, 0, 0), some (.aload_n 0, 1, 0, 0, 0, 0), some (.getfield 10, 3, 11, 0, 0, 0),
  none, none, some (.getfield 165, 3, 0, 10, 0, 0), none, none, some (.iload 9, 2, 9, 0, 0, 0),
  none, some (.iconst 2, 1, 0, 0, 0, 2), some (.iadd, 1, 0, 0, 0, 0), some (.iload 4, 2, 4, 0, 0, 0), none, some (.iastore, 1, 0, 0, 0, 0),
  some (.aload_n 0, 1, 0, 0, 0, 0), some (.getfield 10, 3, 11, 0, 0, 0), none, none, some (.getfield 165, 3, 0, 10, 0, 0), none,
  none, some (.iload 9, 2, 9, 0, 0, 0), none, some (.iconst 3, 1, 0, 0, 0, 3), some (.iadd, 1, 0, 0, 0, 0), some (.iload 5, 2, 5, 0, 0, 0),
  none, some (.iastore, 1, 0, 0, 0, 0), some (.aload_n 0, 1, 0, 0, 0, 0), some (.getfield 10, 3, 11, 0, 0, 0), none, none,
  some (.getfield 165, 3, 0, 10, 0, 0), none, none, some (.iload 9, 2, 9, 0, 0, 0), none, some (.iconst 3, 1, 0, 0, 0, 3),
  some (.iadd, 1, 0, 0, 0, 0), some (.iconst 1, 1, 0, 0, 0, 1), some (.iadd, 1, 0, 0, 0, 0), some (.iload 6, 2, 6, 0, 0, 0), none, some (.iastore, 1, 0, 0, 0, 0),
  some (.aload_n 0, 1, 0, 0, 0, 0), some (.getfield 10, 3, 11, 0, 0, 0), none, none, some (.getfield 165, 3, 0, 10, 0, 0), none,
  none, some (.iload 9, 2, 9, 0, 0, 0), none, some (.iconst 3, 1, 0, 0, 0, 3), some (.iadd, 1, 0, 0, 0, 0), some (.iconst 2, 1, 0, 0, 0, 2),
  some (.iadd, 1, 0, 0, 0, 0), some (.iload 7, 2, 7, 0, 0, 0), none, some (.iastore, 1, 0, 0, 0, 0), some (.aload_n 0, 1, 0, 0, 0, 0), some (.getfield 10, 3, 11, 0, 0, 0),
  none, none, some (.getfield 153, 3, 0, 9, 0, 0), none, none, some (.iload_n 1, 1, 1, 0, 0, 0),
  some (.iload 8, 2, 8, 0, 0, 0), none, some (.iconst 1, 1, 0, 0, 0, 1), some (.iadd, 1, 0, 0, 0, 0), some (.iastore, 1, 0, 0, 0, 0), some (.iload 8, 2, 8, 0, 0, 0),
  none, some (.ireturn, 1, 0, 0, 0, 0)
  ])
def mi_X11_lacks : am_MI := (yX11_lacks, cX11_lacks, 4, (some FieldType.int), [
  some (.aload_n 0, 1, 0, 0, 0, 0), some (.getfield 10, 3, 11, 0, 0, 0), none, none, some (.iload_n 1, 1, 1, 0, 0, 0), some (.iload_n 2, 1, 2, 0, 0, 0),
  some (.invokevirtual 168, 3, 3, 2, 1, 0), none, none, some (.ifCond .ne 5, 3, 14, 0, 0, 0), none, none,
  some (.iconst (-1), 1, 0, 0, 0, -1), some (.ireturn, 1, 0, 0, 0, 0), some (.iload_n 3, 1, 3, 0, 0, 0), some (.invokestatic 96, 3, 110, 1, 0, 0), none, none,
  some (.ifCond .ne 6, 3, 24, 0, 0, 0), none, none, some (.bipush (-2), 2, 0, 0, 0, -2), none, some (.ireturn, 1, 0, 0, 0, 0),
  some (.aload_n 0, 1, 0, 0, 0, 0), some (.getfield 21, 3, 11, 1, 0, 0), none, none, some (.iload_n 1, 1, 1, 0, 0, 0), some (.iload_n 3, 1, 3, 0, 0, 0),
  some (.aload_n 0, 1, 0, 0, 0, 0), some (.getfield 10, 3, 11, 0, 0, 0), none, none, some (.getfield 129, 3, 0, 7, 0, 0), none,
  none, some (.invokevirtual 171, 3, 20, 3, 1, 2), none, none, some (.aload_n 0, 1, 0, 0, 0, 0), some (.getfield 21, 3, 11, 1, 0, 0),
  none, none, some (.getfield 175, 3, 2, 1, 0, 0), none, none, some (.iload_n 1, 1, 1, 0, 0, 0),
  some (.bipush 12, 2, 0, 0, 0, 12), none, some (.imul, 1, 0, 0, 0, 0), some (.iload_n 2, 1, 2, 0, 0, 0), some (.iadd, 1, 0, 0, 0, 0), some (.iaload, 1, 0, 0, 0, 0),
  some (.ireturn, 1, 0, 0, 0, 0)
  ])
def mi_X11_says : am_MI := (yX11_says, cX11_says, 5, (some FieldType.int), [
  some (.aload_n 0, 1, 0, 0, 0, 0), some (.getfield 10, 3, 11, 0, 0, 0), none, none, some (.iconst 4, 1, 0, 0, 0, 4), some (.iload_n 1, 1, 1, 0, 0, 0),
  some (.invokevirtual 86, 3, 2, 2, 1, 0), none, none, some (.ifCond .eq 20, 3, 29, 0, 0, 0), none, none,
  some (.iload_n 2, 1, 2, 0, 0, 0), some (.iconst (-1), 1, 0, 0, 0, -1), some (.if_icmp .eq 17, 3, 31, 0, 0, 0), none, none, some (.aload_n 0, 1, 0, 0, 0, 0),
  some (.getfield 10, 3, 11, 0, 0, 0), none, none, some (.iload_n 1, 1, 1, 0, 0, 0), some (.iload_n 2, 1, 2, 0, 0, 0), some (.invokevirtual 168, 3, 3, 2, 1, 0),
  none, none, some (.ifCond .ne 5, 3, 31, 0, 0, 0), none, none, some (.iconst (-1), 1, 0, 0, 0, -1),
  some (.ireturn, 1, 0, 0, 0, 0), some (.iload_n 3, 1, 3, 0, 0, 0), some (.invokestatic 96, 3, 110, 1, 0, 0), none, none, some (.ifCond .ne 6, 3, 41, 0, 0, 0),
  none, none, some (.bipush (-2), 2, 0, 0, 0, -2), none, some (.ireturn, 1, 0, 0, 0, 0), some (.iload_n 2, 1, 2, 0, 0, 0),
  some (.iconst (-1), 1, 0, 0, 0, -1), some (.if_icmp .ne 17, 3, 60, 0, 0, 0), none, none, some (.aload_n 0, 1, 0, 0, 0, 0), some (.getfield 10, 3, 11, 0, 0, 0),
  none, none, some (.getfield 153, 3, 0, 9, 0, 0), none, none, some (.iload_n 1, 1, 1, 0, 0, 0),
  some (.iaload, 1, 0, 0, 0, 0), some (.iconst 1, 1, 0, 0, 0, 1), some (.isub, 1, 0, 0, 0, 0), some (.goto 4, 3, 61, 0, 0, 0), none, none,
  some (.iload_n 2, 1, 2, 0, 0, 0), some (.istore 4, 2, 4, 0, 0, 0), none, some (.iload 4, 2, 4, 0, 0, 0), none, some (.ifCond .ge 8, 3, 73, 0, 0, 0),
  none, none, some (.bipush (-5), 2, 0, 0, 0, -5), none, some (.goto 14, 3, 84, 0, 0, 0), none,
  none, some (.aload_n 0, 1, 0, 0, 0, 0), some (.getfield 21, 3, 11, 1, 0, 0), none, none, some (.iload_n 1, 1, 1, 0, 0, 0),
  some (.iload 4, 2, 4, 0, 0, 0), none, some (.iload_n 3, 1, 3, 0, 0, 0), some (.invokevirtual 178, 3, 23, 3, 1, 2), none, none,
  some (.ireturn, 1, 0, 0, 0, 0)
  ])
def mi_X11_check : am_MI := (yX11_check, cX11_check, 3, (some FieldType.int), [
  some (.aload_n 0, 1, 0, 0, 0, 0), some (.getfield 10, 3, 11, 0, 0, 0), none, none, some (.iconst 4, 1, 0, 0, 0, 4), some (.iload_n 1, 1, 1, 0, 0, 0),
  some (.invokevirtual 86, 3, 2, 2, 1, 0), none, none, some (.ifCond .ne 5, 3, 14, 0, 0, 0), none, none,
  some (.iconst (-1), 1, 0, 0, 0, -1), some (.ireturn, 1, 0, 0, 0, 0), some (.iload_n 2, 1, 2, 0, 0, 0), some (.invokestatic 96, 3, 110, 1, 0, 0), none, none,
  some (.ifCond .ne 6, 3, 24, 0, 0, 0), none, none, some (.bipush (-2), 2, 0, 0, 0, -2), none, some (.ireturn, 1, 0, 0, 0, 0),
  some (.aload_n 0, 1, 0, 0, 0, 0), some (.getfield 21, 3, 11, 1, 0, 0), none, none, some (.iload_n 1, 1, 1, 0, 0, 0), some (.iload_n 2, 1, 2, 0, 0, 0),
  some (.aload_n 0, 1, 0, 0, 0, 0), some (.getfield 10, 3, 11, 0, 0, 0), none, none, some (.getfield 129, 3, 0, 7, 0, 0), none,
  none, some (.invokevirtual 171, 3, 20, 3, 1, 2), none, none, some (.aload_n 0, 1, 0, 0, 0, 0), some (.getfield 21, 3, 11, 1, 0, 0),
  none, none, some (.getfield 182, 3, 2, 3, 0, 0), none, none, some (.iload_n 1, 1, 1, 0, 0, 0),
  some (.baload, 1, 2, 0, 0, 0), some (.ifCond .eq 7, 3, 56, 0, 0, 0), none, none, some (.iconst 1, 1, 0, 0, 0, 1), some (.goto 4, 3, 57, 0, 0, 0),
  none, none, some (.iconst 0, 1, 0, 0, 0, 0), some (.ireturn, 1, 0, 0, 0, 0)
  ])
def mi_X11_leans : am_MI := (yX11_leans, cX11_leans, 2, (some FieldType.int), [
  some (.aload_n 0, 1, 0, 0, 0, 0), some (.getfield 10, 3, 11, 0, 0, 0), none, none, some (.iconst 4, 1, 0, 0, 0, 4), some (.iload_n 1, 1, 1, 0, 0, 0),
  some (.invokevirtual 86, 3, 2, 2, 1, 0), none, none, some (.ifCond .eq 14, 3, 23, 0, 0, 0), none, none,
  some (.aload_n 0, 1, 0, 0, 0, 0), some (.getfield 21, 3, 11, 1, 0, 0), none, none, some (.iload_n 1, 1, 1, 0, 0, 0), some (.invokevirtual 186, 3, 26, 1, 1, 2),
  none, none, some (.goto 4, 3, 24, 0, 0, 0), none, none, some (.iconst (-1), 1, 0, 0, 0, -1),
  some (.ireturn, 1, 0, 0, 0, 0)
  ])
def mi_X11_hole : am_MI := (yX11_hole, cX11_hole, 4, (some FieldType.int), [
  some (.aload_n 0, 1, 0, 0, 0, 0), some (.getfield 10, 3, 11, 0, 0, 0), none, none, some (.iconst 4, 1, 0, 0, 0, 4), some (.iload_n 1, 1, 1, 0, 0, 0),
  some (.invokevirtual 86, 3, 2, 2, 1, 0), none, none, some (.ifCond .eq 8, 3, 17, 0, 0, 0), none, none,
  some (.iload_n 2, 1, 2, 0, 0, 0), some (.iconst (-1), 1, 0, 0, 0, -1), some (.if_icmp .ge 5, 3, 19, 0, 0, 0), none, none, some (.iconst (-1), 1, 0, 0, 0, -1),
  some (.ireturn, 1, 0, 0, 0, 0), some (.iload_n 2, 1, 2, 0, 0, 0), some (.iconst (-1), 1, 0, 0, 0, -1), some (.if_icmp .ne 12, 3, 33, 0, 0, 0), none, none,
  some (.aload_n 0, 1, 0, 0, 0, 0), some (.getfield 10, 3, 11, 0, 0, 0), none, none, some (.iload_n 1, 1, 1, 0, 0, 0), some (.invokevirtual 190, 3, 14, 1, 1, 0),
  none, none, some (.ireturn, 1, 0, 0, 0, 0), some (.aload_n 0, 1, 0, 0, 0, 0), some (.getfield 10, 3, 11, 0, 0, 0), none,
  none, some (.iload_n 1, 1, 1, 0, 0, 0), some (.iload_n 2, 1, 2, 0, 0, 0), some (.invokevirtual 193, 3, 16, 2, 1, 0), none, none,
  some (.istore_n 3, 1, 3, 0, 0, 0), some (.iload_n 3, 1, 3, 0, 0, 0), some (.ifCond .ge 7, 3, 51, 0, 0, 0), none, none, some (.iconst (-1), 1, 0, 0, 0, -1),
  some (.goto 4, 3, 52, 0, 0, 0), none, none, some (.iload_n 3, 1, 3, 0, 0, 0), some (.ireturn, 1, 0, 0, 0, 0)
  ])
def mi_X11_fill : am_MI := (yX11_fill, cX11_fill, 7, (some FieldType.int), [
  some (.aload_n 0, 1, 0, 0, 0, 0), some (.getfield 10, 3, 11, 0, 0, 0), none, none, some (.iconst 4, 1, 0, 0, 0, 4), some (.iload_n 1, 1, 1, 0, 0, 0),
  some (.invokevirtual 86, 3, 2, 2, 1, 0), none, none, some (.ifCond .ne 5, 3, 14, 0, 0, 0), none, none,
  some (.iconst (-1), 1, 0, 0, 0, -1), some (.ireturn, 1, 0, 0, 0, 0), some (.aload_n 0, 1, 0, 0, 0, 0), some (.getfield 10, 3, 11, 0, 0, 0), none, none,
  some (.iload_n 1, 1, 1, 0, 0, 0), some (.iconst 0, 1, 0, 0, 0, 0), some (.invokevirtual 193, 3, 16, 2, 1, 0), none, none, some (.istore_n 3, 1, 3, 0, 0, 0),
  some (.iload_n 3, 1, 3, 0, 0, 0), some (.ifCond .ge 6, 3, 31, 0, 0, 0), none, none, some (.bipush (-3), 2, 0, 0, 0, -3), none,
  some (.ireturn, 1, 0, 0, 0, 0), some (.iload_n 3, 1, 3, 0, 0, 0), some (.bipush 10, 2, 0, 0, 0, 10), none, some (.idiv, 1, 0, 0, 0, 0), some (.istore 4, 2, 4, 0, 0, 0),
  none, some (.iload_n 3, 1, 3, 0, 0, 0), some (.bipush 10, 2, 0, 0, 0, 10), none, some (.irem, 1, 0, 0, 0, 0), some (.istore 5, 2, 5, 0, 0, 0),
  none, some (.aload_n 0, 1, 0, 0, 0, 0), some (.getfield 21, 3, 11, 1, 0, 0), none, none, some (.iload_n 1, 1, 1, 0, 0, 0),
  some (.iload 4, 2, 4, 0, 0, 0), none, some (.iload_n 2, 1, 2, 0, 0, 0), some (.invokevirtual 196, 3, 25, 3, 1, 2), none, none,
  some (.istore 6, 2, 6, 0, 0, 0), none, some (.iload 6, 2, 6, 0, 0, 0), none, some (.ifCond .lt 20, 3, 78, 0, 0, 0), none,
  none, some (.iload 6, 2, 6, 0, 0, 0), none, some (.aload_n 0, 1, 0, 0, 0, 0), some (.getfield 21, 3, 11, 1, 0, 0), none,
  none, some (.iload_n 1, 1, 1, 0, 0, 0), some (.iload 4, 2, 4, 0, 0, 0), none, some (.iload 5, 2, 5, 0, 0, 0), none,
  some (.invokevirtual 199, 3, 24, 3, 1, 2), none, none, some (.if_icmp .eq 6, 3, 81, 0, 0, 0), none, none,
  some (.bipush (-3), 2, 0, 0, 0, -3), none, some (.ireturn, 1, 0, 0, 0, 0), some (.aload_n 0, 1, 0, 0, 0, 0), some (.getfield 10, 3, 11, 0, 0, 0), none,
  none, some (.getfield 165, 3, 0, 10, 0, 0), none, none, some (.aload_n 0, 1, 0, 0, 0, 0), some (.getfield 10, 3, 11, 0, 0, 0),
  none, none, some (.iload_n 1, 1, 1, 0, 0, 0), some (.iload 4, 2, 4, 0, 0, 0), none, some (.invokevirtual 162, 3, 7, 2, 1, 0),
  none, none, some (.iconst 3, 1, 0, 0, 0, 3), some (.iadd, 1, 0, 0, 0, 0), some (.iload 5, 2, 5, 0, 0, 0), none,
  some (.iadd, 1, 0, 0, 0, 0), some (.iload_n 2, 1, 2, 0, 0, 0), some (.iastore, 1, 0, 0, 0, 0), some (.aload_n 0, 1, 0, 0, 0, 0), some (.getfield 10, 3, 11, 0, 0, 0), none,
  none, some (.iload_n 1, 1, 1, 0, 0, 0), some (.invokevirtual 190, 3, 14, 1, 1, 0), none, none, some (.ireturn, 1, 0, 0, 0, 0)
  ])
def mi_X11_act : am_MI := (yX11_act, cX11_act, 6, (some FieldType.int), [
  some (.aload_n 0, 1, 0, 0, 0, 0), some (.getfield 10, 3, 11, 0, 0, 0), none, none, some (.iconst 4, 1, 0, 0, 0, 4), some (.iload_n 1, 1, 1, 0, 0, 0),
  some (.invokevirtual 86, 3, 2, 2, 1, 0), none, none, some (.ifCond .eq 12, 3, 21, 0, 0, 0), none, none,
  some (.iload_n 2, 1, 2, 0, 0, 0), some (.ifCond .lt 8, 3, 21, 0, 0, 0), none, none, some (.iload_n 2, 1, 2, 0, 0, 0), some (.iconst 2, 1, 0, 0, 0, 2),
  some (.if_icmp .le 5, 3, 23, 0, 0, 0), none, none, some (.iconst 0, 1, 0, 0, 0, 0), some (.ireturn, 1, 0, 0, 0, 0), some (.aload_n 0, 1, 0, 0, 0, 0),
  some (.getfield 63, 3, 11, 5, 0, 0), none, none, some (.aload_n 0, 1, 0, 0, 0, 0), some (.getfield 10, 3, 11, 0, 0, 0), none,
  none, some (.getfield 150, 3, 0, 8, 0, 0), none, none, some (.iload_n 1, 1, 1, 0, 0, 0), some (.iaload, 1, 0, 0, 0, 0),
  some (.aaload, 1, 4, 0, 0, 0), some (.astore 4, 2, 4, 0, 0, 0), none, some (.aload_n 0, 1, 0, 0, 0, 0), some (.getfield 10, 3, 11, 0, 0, 0), none,
  none, some (.getfield 153, 3, 0, 9, 0, 0), none, none, some (.iload_n 1, 1, 1, 0, 0, 0), some (.iaload, 1, 0, 0, 0, 0),
  some (.istore 5, 2, 5, 0, 0, 0), none, some (.iload_n 2, 1, 2, 0, 0, 0), some (.ifCond .ne 13, 3, 64, 0, 0, 0), none, none,
  some (.aload 4, 2, 4, 0, 0, 0), none, some (.iload_n 3, 1, 3, 0, 0, 0), some (.iload_n 1, 1, 1, 0, 0, 0), some (.iload 5, 2, 5, 0, 0, 0), none,
  some (.invokevirtual 202, 3, 215, 3, 3, 0), none, none, some (.ireturn, 1, 0, 0, 0, 0), some (.iload_n 2, 1, 2, 0, 0, 0), some (.iconst 1, 1, 0, 0, 0, 1),
  some (.if_icmp .ne 15, 3, 81, 0, 0, 0), none, none, some (.aload 4, 2, 4, 0, 0, 0), none, some (.iload_n 3, 1, 3, 0, 0, 0),
  some (.iload_n 1, 1, 1, 0, 0, 0), some (.iload 5, 2, 5, 0, 0, 0), none, some (.invokevirtual 205, 3, 224, 3, 3, 0), none, none,
  some (.goto 12, 3, 90, 0, 0, 0), none, none, some (.aload 4, 2, 4, 0, 0, 0), none, some (.iload_n 3, 1, 3, 0, 0, 0),
  some (.iload_n 1, 1, 1, 0, 0, 0), some (.iload 5, 2, 5, 0, 0, 0), none, some (.invokevirtual 208, 3, 233, 3, 3, 0), none, none,
  some (.ireturn, 1, 0, 0, 0, 0)
  ])
def mi_X11_as : am_MI := (yX11_as, cX11_as, 5, (some FieldType.int), [
  some (.aload_n 0, 1, 0, 0, 0, 0), some (.getfield 10, 3, 11, 0, 0, 0), none, none, some (.iconst 4, 1, 0, 0, 0, 4), some (.iload_n 1, 1, 1, 0, 0, 0),
  some (.invokevirtual 86, 3, 2, 2, 1, 0), none, none, some (.ifCond .eq 10, 3, 19, 0, 0, 0), none, none,
  some (.iload_n 2, 1, 2, 0, 0, 0), some (.invokestatic 147, 3, 113, 1, 0, 0), none, none, some (.ifCond .ne 5, 3, 21, 0, 0, 0), none,
  none, some (.iconst (-1), 1, 0, 0, 0, -1), some (.ireturn, 1, 0, 0, 0, 0), some (.aload_n 0, 1, 0, 0, 0, 0), some (.getfield 10, 3, 11, 0, 0, 0), none,
  none, some (.getfield 150, 3, 0, 8, 0, 0), none, none, some (.iload_n 1, 1, 1, 0, 0, 0), some (.iaload, 1, 0, 0, 0, 0),
  some (.istore_n 3, 1, 3, 0, 0, 0), some (.iconst 0, 1, 0, 0, 0, 0), some (.istore 4, 2, 4, 0, 0, 0), none, some (.iload 4, 2, 4, 0, 0, 0), none,
  some (.iconst 5, 1, 0, 0, 0, 5), some (.if_icmp .ge 28, 3, 65, 0, 0, 0), none, none, some (.iload_n 3, 1, 3, 0, 0, 0), some (.iload_n 2, 1, 2, 0, 0, 0),
  some (.if_icmp .eq 23, 3, 65, 0, 0, 0), none, none, some (.iload_n 3, 1, 3, 0, 0, 0), some (.ifCond .ge 7, 3, 53, 0, 0, 0), none,
  none, some (.iload_n 3, 1, 3, 0, 0, 0), some (.goto 8, 3, 58, 0, 0, 0), none, none, some (.getstatic 211, 3, 0, 0, 0, 0),
  none, none, some (.iload_n 3, 1, 3, 0, 0, 0), some (.iaload, 1, 0, 0, 1, 0), some (.istore_n 3, 1, 3, 0, 0, 0), some (.iinc 4 1, 3, 4, 0, 0, 1),
  none, none, some (.goto (-28), 3, 34, 0, 0, 0), none, none, some (.iload_n 3, 1, 3, 0, 0, 0),
  some (.iload_n 2, 1, 2, 0, 0, 0), some (.if_icmp .ne 15, 3, 82, 0, 0, 0), none, none, some (.aload_n 0, 1, 0, 0, 0, 0), some (.getfield 10, 3, 11, 0, 0, 0),
  none, none, some (.getfield 153, 3, 0, 9, 0, 0), none, none, some (.iload_n 1, 1, 1, 0, 0, 0),
  some (.iaload, 1, 0, 0, 0, 0), some (.goto 5, 3, 84, 0, 0, 0), none, none, some (.bipush (-6), 2, 0, 0, 0, -6), none,
  some (.ireturn, 1, 0, 0, 0, 0)
  ])
def mi_X11_title : am_MI := (yX11_title, cX11_title, 5, (some FieldType.int), [
  some (.aload_n 0, 1, 0, 0, 0, 0), some (.getfield 10, 3, 11, 0, 0, 0), none, none, some (.iconst 4, 1, 0, 0, 0, 4), some (.iload_n 1, 1, 1, 0, 0, 0),
  some (.invokevirtual 86, 3, 2, 2, 1, 0), none, none, some (.ifCond .ne 5, 3, 14, 0, 0, 0), none, none,
  some (.iconst (-1), 1, 0, 0, 0, -1), some (.ireturn, 1, 0, 0, 0, 0), some (.aload_n 0, 1, 0, 0, 0, 0), some (.getfield 10, 3, 11, 0, 0, 0), none, none,
  some (.getfield 70, 3, 0, 0, 0, 0), none, none, some (.iconst 0, 1, 0, 0, 0, 0), some (.iaload, 1, 0, 0, 0, 0), some (.istore_n 2, 1, 2, 0, 0, 0),
  some (.aload_n 0, 1, 0, 0, 0, 0), some (.getfield 21, 3, 11, 1, 0, 0), none, none, some (.iload_n 1, 1, 1, 0, 0, 0), some (.iload_n 2, 1, 2, 0, 0, 0),
  some (.aload_n 0, 1, 0, 0, 0, 0), some (.getfield 10, 3, 11, 0, 0, 0), none, none, some (.getfield 129, 3, 0, 7, 0, 0), none,
  none, some (.invokevirtual 171, 3, 20, 3, 1, 2), none, none, some (.aload_n 0, 1, 0, 0, 0, 0), some (.getfield 21, 3, 11, 1, 0, 0),
  none, none, some (.getfield 182, 3, 2, 3, 0, 0), none, none, some (.iload_n 1, 1, 1, 0, 0, 0),
  some (.baload, 1, 2, 0, 0, 0), some (.ifCond .ne 6, 3, 55, 0, 0, 0), none, none, some (.bipush (-3), 2, 0, 0, 0, -3), none,
  some (.ireturn, 1, 0, 0, 0, 0), some (.aload_n 0, 1, 0, 0, 0, 0), some (.getfield 21, 3, 11, 1, 0, 0), none, none, some (.iload_n 1, 1, 1, 0, 0, 0),
  some (.aload_n 0, 1, 0, 0, 0, 0), some (.getfield 10, 3, 11, 0, 0, 0), none, none, some (.getfield 153, 3, 0, 9, 0, 0), none,
  none, some (.iload_n 1, 1, 1, 0, 0, 0), some (.iaload, 1, 0, 0, 0, 0), some (.iconst 1, 1, 0, 0, 0, 1), some (.isub, 1, 0, 0, 0, 0), some (.iload_n 2, 1, 2, 0, 0, 0),
  some (.invokevirtual 178, 3, 23, 3, 1, 2), none, none, some (.istore_n 3, 1, 3, 0, 0, 0), some (.aload_n 0, 1, 0, 0, 0, 0), some (.getfield 10, 3, 11, 0, 0, 0),
  none, none, some (.iload_n 3, 1, 3, 0, 0, 0), some (.invokevirtual 214, 3, 12, 1, 1, 0), none, none,
  some (.ifCond .eq 6, 3, 90, 0, 0, 0), none, none, some (.bipush (-3), 2, 0, 0, 0, -3), none, some (.ireturn, 1, 0, 0, 0, 0),
  some (.aload_n 0, 1, 0, 0, 0, 0), some (.getfield 10, 3, 11, 0, 0, 0), none, none, some (.getfield 70, 3, 0, 0, 0, 0), none,
  none, some (.iconst 5, 1, 0, 0, 0, 5), some (.iaload, 1, 0, 0, 0, 0), some (.istore 4, 2, 4, 0, 0, 0), none, some (.iload 4, 2, 4, 0, 0, 0),
  none, some (.bipush 10, 2, 0, 0, 0, 10), none, some (.if_icmp .lt 6, 3, 111, 0, 0, 0), none, none,
  some (.bipush (-4), 2, 0, 0, 0, -4), none, some (.ireturn, 1, 0, 0, 0, 0), some (.aload_n 0, 1, 0, 0, 0, 0), some (.getfield 10, 3, 11, 0, 0, 0), none,
  none, some (.getfield 217, 3, 0, 11, 0, 0), none, none, some (.iload 4, 2, 4, 0, 0, 0), none,
  some (.iload_n 1, 1, 1, 0, 0, 0), some (.iastore, 1, 0, 0, 0, 0), some (.aload_n 0, 1, 0, 0, 0, 0), some (.getfield 10, 3, 11, 0, 0, 0), none, none,
  some (.getfield 220, 3, 0, 12, 0, 0), none, none, some (.iload 4, 2, 4, 0, 0, 0), none, some (.iload_n 3, 1, 3, 0, 0, 0),
  some (.iastore, 1, 0, 0, 0, 0), some (.aload_n 0, 1, 0, 0, 0, 0), some (.getfield 10, 3, 11, 0, 0, 0), none, none, some (.getfield 223, 3, 0, 13, 0, 0),
  none, none, some (.iload 4, 2, 4, 0, 0, 0), none, some (.iload_n 2, 1, 2, 0, 0, 0), some (.iastore, 1, 0, 0, 0, 0),
  some (.aload_n 0, 1, 0, 0, 0, 0), some (.getfield 10, 3, 11, 0, 0, 0), none, none, some (.getfield 70, 3, 0, 0, 0, 0), none,
  none, some (.iconst 5, 1, 0, 0, 0, 5), some (.iload 4, 2, 4, 0, 0, 0), none, some (.iconst 1, 1, 0, 0, 0, 1), some (.iadd, 1, 0, 0, 0, 0),
  some (.iastore, 1, 0, 0, 0, 0), some (.iload 4, 2, 4, 0, 0, 0), none, some (.ireturn, 1, 0, 0, 0, 0)
  ])
def mi_X11_stand : am_MI := (yX11_stand, cX11_stand, 3, (some FieldType.int), [
  some (.aload_n 0, 1, 0, 0, 0, 0), some (.getfield 10, 3, 11, 0, 0, 0), none, none, some (.iconst 5, 1, 0, 0, 0, 5), some (.iload_n 1, 1, 1, 0, 0, 0),
  some (.invokevirtual 86, 3, 2, 2, 1, 0), none, none, some (.ifCond .ne 5, 3, 14, 0, 0, 0), none, none,
  some (.iconst (-1), 1, 0, 0, 0, -1), some (.ireturn, 1, 0, 0, 0, 0), some (.iload_n 2, 1, 2, 0, 0, 0), some (.invokestatic 96, 3, 110, 1, 0, 0), none, none,
  some (.ifCond .eq 16, 3, 34, 0, 0, 0), none, none, some (.iload_n 2, 1, 2, 0, 0, 0), some (.aload_n 0, 1, 0, 0, 0, 0), some (.getfield 10, 3, 11, 0, 0, 0),
  none, none, some (.getfield 223, 3, 0, 13, 0, 0), none, none, some (.iload_n 1, 1, 1, 0, 0, 0),
  some (.iaload, 1, 0, 0, 0, 0), some (.if_icmp .ge 6, 3, 37, 0, 0, 0), none, none, some (.bipush (-2), 2, 0, 0, 0, -2), none,
  some (.ireturn, 1, 0, 0, 0, 0), some (.aload_n 0, 1, 0, 0, 0, 0), some (.iload_n 1, 1, 1, 0, 0, 0), some (.aload_n 0, 1, 0, 0, 0, 0), some (.getfield 10, 3, 11, 0, 0, 0), none,
  none, some (.getfield 129, 3, 0, 7, 0, 0), none, none, some (.invokevirtual 226, 3, 115, 2, 0, 11), none,
  none, some (.ifCond .eq 5, 3, 54, 0, 0, 0), none, none, some (.iconst 1, 1, 0, 0, 0, 1), some (.ireturn, 1, 0, 0, 0, 0),
  some (.aload_n 0, 1, 0, 0, 0, 0), some (.getfield 28, 3, 11, 2, 0, 0), none, none, some (.iload_n 2, 1, 2, 0, 0, 0), some (.aload_n 0, 1, 0, 0, 0, 0),
  some (.getfield 10, 3, 11, 0, 0, 0), none, none, some (.getfield 129, 3, 0, 7, 0, 0), none, none,
  some (.iconst 0, 1, 0, 0, 0, 0), some (.invokevirtual 135, 3, 40, 3, 1, 6), none, none, some (.aload_n 0, 1, 0, 0, 0, 0), some (.getfield 28, 3, 11, 2, 0, 0),
  none, none, some (.aload_n 0, 1, 0, 0, 0, 0), some (.getfield 10, 3, 11, 0, 0, 0), none, none,
  some (.getfield 220, 3, 0, 12, 0, 0), none, none, some (.iload_n 1, 1, 1, 0, 0, 0), some (.iaload, 1, 0, 0, 0, 0), some (.invokevirtual 139, 3, 38, 1, 1, 6),
  none, none, some (.ifCond .eq 7, 3, 93, 0, 0, 0), none, none, some (.iconst 2, 1, 0, 0, 0, 2),
  some (.goto 4, 3, 94, 0, 0, 0), none, none, some (.iconst 0, 1, 0, 0, 0, 0), some (.ireturn, 1, 0, 0, 0, 0)
  ])
def mi_X11_fall : am_MI := (yX11_fall, cX11_fall, 2, (some FieldType.int), [
  some (.aload_n 0, 1, 0, 0, 0, 0), some (.getfield 10, 3, 11, 0, 0, 0), none, none, some (.iconst 3, 1, 0, 0, 0, 3), some (.iload_n 1, 1, 1, 0, 0, 0),
  some (.invokevirtual 86, 3, 2, 2, 1, 0), none, none, some (.ifCond .ne 5, 3, 14, 0, 0, 0), none, none,
  some (.iconst (-1), 1, 0, 0, 0, -1), some (.ireturn, 1, 0, 0, 0, 0), some (.aload_n 0, 1, 0, 0, 0, 0), some (.getfield 10, 3, 11, 0, 0, 0), none, none,
  some (.iload_n 1, 1, 1, 0, 0, 0), some (.invokevirtual 132, 3, 4, 1, 1, 0), none, none, some (.ifCond .ne 6, 3, 28, 0, 0, 0), none,
  none, some (.bipush (-3), 2, 0, 0, 0, -3), none, some (.ireturn, 1, 0, 0, 0, 0), some (.aload_n 0, 1, 0, 0, 0, 0), some (.aload_n 0, 1, 0, 0, 0, 0),
  some (.getfield 10, 3, 11, 0, 0, 0), none, none, some (.getfield 129, 3, 0, 7, 0, 0), none, none,
  some (.invokevirtual 229, 3, 116, 1, 0, 11), none, none, some (.aload_n 0, 1, 0, 0, 0, 0), some (.aload_n 0, 1, 0, 0, 0, 0), some (.getfield 10, 3, 11, 0, 0, 0),
  none, none, some (.getfield 129, 3, 0, 7, 0, 0), none, none, some (.iconst 1, 1, 0, 0, 0, 1),
  some (.iload_n 1, 1, 1, 0, 0, 0), some (.ishl, 1, 0, 0, 0, 0), some (.iconst (-1), 1, 0, 0, 0, -1), some (.ixor, 1, 0, 0, 0, 0), some (.iand, 1, 0, 0, 0, 0), some (.invokevirtual 229, 3, 116, 1, 0, 11),
  none, none, some (.iconst (-1), 1, 0, 0, 0, -1), some (.ixor, 1, 0, 0, 0, 0), some (.iand, 1, 0, 0, 0, 0), some (.ireturn, 1, 0, 0, 0, 0)
  ])
def mi_X11_carry : am_MI := (yX11_carry, cX11_carry, 5, (some FieldType.int), [
  some (.aload_n 0, 1, 0, 0, 0, 0), some (.getfield 10, 3, 11, 0, 0, 0), none, none, some (.iconst 5, 1, 0, 0, 0, 5), some (.iload_n 1, 1, 1, 0, 0, 0),
  some (.invokevirtual 86, 3, 2, 2, 1, 0), none, none, some (.ifCond .ne 5, 3, 14, 0, 0, 0), none, none,
  some (.iconst (-1), 1, 0, 0, 0, -1), some (.ireturn, 1, 0, 0, 0, 0), some (.iload_n 2, 1, 2, 0, 0, 0), some (.invokestatic 96, 3, 110, 1, 0, 0), none, none,
  some (.ifCond .ne 6, 3, 24, 0, 0, 0), none, none, some (.bipush (-2), 2, 0, 0, 0, -2), none, some (.ireturn, 1, 0, 0, 0, 0),
  some (.aload_n 0, 1, 0, 0, 0, 0), some (.getfield 10, 3, 11, 0, 0, 0), none, none, some (.getfield 217, 3, 0, 11, 0, 0), none,
  none, some (.iload_n 1, 1, 1, 0, 0, 0), some (.iaload, 1, 0, 0, 0, 0), some (.istore_n 3, 1, 3, 0, 0, 0), some (.aload_n 0, 1, 0, 0, 0, 0), some (.getfield 21, 3, 11, 1, 0, 0),
  none, none, some (.iload_n 3, 1, 3, 0, 0, 0), some (.iload_n 2, 1, 2, 0, 0, 0), some (.aload_n 0, 1, 0, 0, 0, 0), some (.getfield 10, 3, 11, 0, 0, 0),
  none, none, some (.getfield 129, 3, 0, 7, 0, 0), none, none, some (.invokevirtual 171, 3, 20, 3, 1, 2),
  none, none, some (.iconst 0, 1, 0, 0, 0, 0), some (.istore 4, 2, 4, 0, 0, 0), none, some (.iload 4, 2, 4, 0, 0, 0),
  none, some (.aload_n 0, 1, 0, 0, 0, 0), some (.getfield 10, 3, 11, 0, 0, 0), none, none, some (.getfield 153, 3, 0, 9, 0, 0),
  none, none, some (.iload_n 3, 1, 3, 0, 0, 0), some (.iaload, 1, 0, 0, 0, 0), some (.if_icmp .ge 30, 3, 94, 0, 0, 0), none,
  none, some (.aload_n 0, 1, 0, 0, 0, 0), some (.getfield 21, 3, 11, 1, 0, 0), none, none, some (.getfield 175, 3, 2, 1, 0, 0),
  none, none, some (.iload_n 3, 1, 3, 0, 0, 0), some (.bipush 12, 2, 0, 0, 0, 12), none, some (.imul, 1, 0, 0, 0, 0),
  some (.iload 4, 2, 4, 0, 0, 0), none, some (.iadd, 1, 0, 0, 0, 0), some (.iaload, 1, 0, 0, 0, 0), some (.ifCond .eq 6, 3, 88, 0, 0, 0), none,
  none, some (.iload 4, 2, 4, 0, 0, 0), none, some (.ireturn, 1, 0, 0, 0, 0), some (.iinc 4 1, 3, 4, 0, 0, 1), none,
  none, some (.goto (-38), 3, 53, 0, 0, 0), none, none, some (.bipush (-5), 2, 0, 0, 0, -5), none,
  some (.ireturn, 1, 0, 0, 0, 0)
  ])
def mi_X11_clash : am_MI := (yX11_clash, cX11_clash, 6, (some FieldType.int), [
  some (.aload_n 0, 1, 0, 0, 0, 0), some (.getfield 10, 3, 11, 0, 0, 0), none, none, some (.iconst 5, 1, 0, 0, 0, 5), some (.iload_n 1, 1, 1, 0, 0, 0),
  some (.invokevirtual 86, 3, 2, 2, 1, 0), none, none, some (.ifCond .eq 15, 3, 24, 0, 0, 0), none, none,
  some (.aload_n 0, 1, 0, 0, 0, 0), some (.getfield 10, 3, 11, 0, 0, 0), none, none, some (.iconst 5, 1, 0, 0, 0, 5), some (.iload_n 2, 1, 2, 0, 0, 0),
  some (.invokevirtual 86, 3, 2, 2, 1, 0), none, none, some (.ifCond .ne 5, 3, 26, 0, 0, 0), none, none,
  some (.iconst (-1), 1, 0, 0, 0, -1), some (.ireturn, 1, 0, 0, 0, 0), some (.iload_n 1, 1, 1, 0, 0, 0), some (.iload_n 2, 1, 2, 0, 0, 0), some (.if_icmp .ne 6, 3, 34, 0, 0, 0), none,
  none, some (.bipush (-2), 2, 0, 0, 0, -2), none, some (.ireturn, 1, 0, 0, 0, 0), some (.aload_n 0, 1, 0, 0, 0, 0), some (.getfield 10, 3, 11, 0, 0, 0),
  none, none, some (.getfield 220, 3, 0, 12, 0, 0), none, none, some (.iload_n 1, 1, 1, 0, 0, 0),
  some (.iaload, 1, 0, 0, 0, 0), some (.istore_n 3, 1, 3, 0, 0, 0), some (.aload_n 0, 1, 0, 0, 0, 0), some (.getfield 10, 3, 11, 0, 0, 0), none, none,
  some (.getfield 220, 3, 0, 12, 0, 0), none, none, some (.iload_n 2, 1, 2, 0, 0, 0), some (.iaload, 1, 0, 0, 0, 0), some (.istore 4, 2, 4, 0, 0, 0),
  none, some (.iload_n 3, 1, 3, 0, 0, 0), some (.bipush 125, 2, 0, 0, 0, 125), none, some (.if_icmp .ge 14, 3, 72, 0, 0, 0), none,
  none, some (.iload 4, 2, 4, 0, 0, 0), none, some (.bipush 125, 2, 0, 0, 0, 125), none, some (.if_icmp .ge 7, 3, 72, 0, 0, 0),
  none, none, some (.iconst 1, 1, 0, 0, 0, 1), some (.goto 4, 3, 73, 0, 0, 0), none, none,
  some (.iconst 0, 1, 0, 0, 0, 0), some (.istore 5, 2, 5, 0, 0, 0), none, some (.iload 5, 2, 5, 0, 0, 0), none, some (.ifCond .eq 29, 3, 106, 0, 0, 0),
  none, none, some (.iload_n 3, 1, 3, 0, 0, 0), some (.iconst 5, 1, 0, 0, 0, 5), some (.idiv, 1, 0, 0, 0, 0), some (.iconst 5, 1, 0, 0, 0, 5),
  some (.irem, 1, 0, 0, 0, 0), some (.iload 4, 2, 4, 0, 0, 0), none, some (.iconst 5, 1, 0, 0, 0, 5), some (.idiv, 1, 0, 0, 0, 0), some (.iconst 5, 1, 0, 0, 0, 5),
  some (.irem, 1, 0, 0, 0, 0), some (.if_icmp .ne 15, 3, 106, 0, 0, 0), none, none, some (.iload_n 3, 1, 3, 0, 0, 0), some (.bipush 25, 2, 0, 0, 0, 25),
  none, some (.idiv, 1, 0, 0, 0, 0), some (.iload 4, 2, 4, 0, 0, 0), none, some (.bipush 25, 2, 0, 0, 0, 25), none,
  some (.idiv, 1, 0, 0, 0, 0), some (.if_icmp .ne 6, 3, 109, 0, 0, 0), none, none, some (.bipush (-5), 2, 0, 0, 0, -5), none,
  some (.ireturn, 1, 0, 0, 0, 0), some (.aload_n 0, 1, 0, 0, 0, 0), some (.getfield 21, 3, 11, 1, 0, 0), none, none, some (.aload_n 0, 1, 0, 0, 0, 0),
  some (.getfield 10, 3, 11, 0, 0, 0), none, none, some (.getfield 217, 3, 0, 11, 0, 0), none, none,
  some (.iload_n 1, 1, 1, 0, 0, 0), some (.iaload, 1, 0, 0, 0, 0), some (.invokevirtual 186, 3, 26, 1, 1, 2), none, none, some (.aload_n 0, 1, 0, 0, 0, 0),
  some (.getfield 21, 3, 11, 1, 0, 0), none, none, some (.aload_n 0, 1, 0, 0, 0, 0), some (.getfield 10, 3, 11, 0, 0, 0), none,
  none, some (.getfield 217, 3, 0, 11, 0, 0), none, none, some (.iload_n 2, 1, 2, 0, 0, 0), some (.iaload, 1, 0, 0, 0, 0),
  some (.invokevirtual 186, 3, 26, 1, 1, 2), none, none, some (.ixor, 1, 0, 0, 0, 0), some (.ireturn, 1, 0, 0, 0, 0)
  ])
def mi_X11_every : am_MI := (yX11_every, cX11_every, 5, (some FieldType.int), [
  some (.iload_n 1, 1, 1, 0, 0, 0), some (.invokestatic 120, 3, 111, 1, 0, 0), none, none, some (.ifCond .ne 6, 3, 10, 0, 0, 0), none,
  none, some (.bipush (-2), 2, 0, 0, 0, -2), none, some (.ireturn, 1, 0, 0, 0, 0), some (.aload_n 0, 1, 0, 0, 0, 0), some (.getfield 10, 3, 11, 0, 0, 0),
  none, none, some (.getfield 129, 3, 0, 7, 0, 0), none, none, some (.istore_n 2, 1, 2, 0, 0, 0),
  some (.aload_n 0, 1, 0, 0, 0, 0), some (.iload_n 1, 1, 1, 0, 0, 0), some (.iload_n 2, 1, 2, 0, 0, 0), some (.invokevirtual 232, 3, 114, 2, 0, 11), none, none,
  some (.ifCond .ne 6, 3, 30, 0, 0, 0), none, none, some (.bipush (-5), 2, 0, 0, 0, -5), none, some (.ireturn, 1, 0, 0, 0, 0),
  some (.iconst 0, 1, 0, 0, 0, 0), some (.istore_n 3, 1, 3, 0, 0, 0), some (.iconst 0, 1, 0, 0, 0, 0), some (.istore 4, 2, 4, 0, 0, 0), none, some (.iload 4, 2, 4, 0, 0, 0),
  none, some (.aload_n 0, 1, 0, 0, 0, 0), some (.getfield 10, 3, 11, 0, 0, 0), none, none, some (.getfield 70, 3, 0, 0, 0, 0),
  none, none, some (.iconst 3, 1, 0, 0, 0, 3), some (.iaload, 1, 0, 0, 0, 0), some (.if_icmp .ge 44, 3, 90, 0, 0, 0), none,
  none, some (.aload_n 0, 1, 0, 0, 0, 0), some (.getfield 10, 3, 11, 0, 0, 0), none, none, some (.iload 4, 2, 4, 0, 0, 0),
  none, some (.invokevirtual 132, 3, 4, 1, 1, 0), none, none, some (.ifCond .eq 26, 3, 84, 0, 0, 0), none,
  none, some (.aload_n 0, 1, 0, 0, 0, 0), some (.iload_n 1, 1, 1, 0, 0, 0), some (.iload_n 2, 1, 2, 0, 0, 0), some (.iconst 1, 1, 0, 0, 0, 1), some (.iload 4, 2, 4, 0, 0, 0),
  none, some (.ishl, 1, 0, 0, 0, 0), some (.iconst (-1), 1, 0, 0, 0, -1), some (.ixor, 1, 0, 0, 0, 0), some (.iand, 1, 0, 0, 0, 0), some (.invokevirtual 232, 3, 114, 2, 0, 11),
  none, none, some (.ifCond .ne 10, 3, 84, 0, 0, 0), none, none, some (.iload_n 3, 1, 3, 0, 0, 0),
  some (.iconst 1, 1, 0, 0, 0, 1), some (.iload 4, 2, 4, 0, 0, 0), none, some (.ishl, 1, 0, 0, 0, 0), some (.ior, 1, 0, 0, 0, 0), some (.istore_n 3, 1, 3, 0, 0, 0),
  some (.iinc 4 1, 3, 4, 0, 0, 1), none, none, some (.goto (-52), 3, 35, 0, 0, 0), none, none,
  some (.iload_n 3, 1, 3, 0, 0, 0), some (.ireturn, 1, 0, 0, 0, 0)
  ])
def mi_X11_enough : am_MI := (yX11_enough, cX11_enough, 3, (some FieldType.int), [
  some (.iload_n 1, 1, 1, 0, 0, 0), some (.invokestatic 120, 3, 111, 1, 0, 0), none, none, some (.ifCond .eq 26, 3, 30, 0, 0, 0), none,
  none, some (.iload_n 2, 1, 2, 0, 0, 0), some (.aload_n 0, 1, 0, 0, 0, 0), some (.getfield 10, 3, 11, 0, 0, 0), none, none,
  some (.getfield 129, 3, 0, 7, 0, 0), none, none, some (.iconst (-1), 1, 0, 0, 0, -1), some (.ixor, 1, 0, 0, 0, 0), some (.iand, 1, 0, 0, 0, 0),
  some (.ifCond .ne 12, 3, 30, 0, 0, 0), none, none, some (.iload_n 2, 1, 2, 0, 0, 0), some (.invokestatic 235, 3, 209, 1, 0, 0), none,
  none, some (.bipush 6, 2, 0, 0, 0, 6), none, some (.if_icmp .le 6, 3, 33, 0, 0, 0), none, none,
  some (.bipush (-2), 2, 0, 0, 0, -2), none, some (.ireturn, 1, 0, 0, 0, 0), some (.aload_n 0, 1, 0, 0, 0, 0), some (.iload_n 1, 1, 1, 0, 0, 0), some (.iload_n 2, 1, 2, 0, 0, 0),
  some (.iconst 0, 1, 0, 0, 0, 0), some (.invokevirtual 240, 3, 117, 3, 0, 11), none, none, some (.ireturn, 1, 0, 0, 0, 0)
  ])
def mi_X11_could : am_MI := (yX11_could, cX11_could, 6, (some FieldType.int), [
  some (.iload_n 1, 1, 1, 0, 0, 0), some (.invokestatic 117, 3, 112, 1, 0, 0), none, none, some (.ifCond .ne 5, 3, 9, 0, 0, 0), none,
  none, some (.iconst (-1), 1, 0, 0, 0, -1), some (.ireturn, 1, 0, 0, 0, 0), some (.iload_n 2, 1, 2, 0, 0, 0), some (.invokestatic 120, 3, 111, 1, 0, 0), none,
  none, some (.ifCond .ne 6, 3, 19, 0, 0, 0), none, none, some (.bipush (-2), 2, 0, 0, 0, -2), none,
  some (.ireturn, 1, 0, 0, 0, 0), some (.iconst 0, 1, 0, 0, 0, 0), some (.istore_n 3, 1, 3, 0, 0, 0), some (.iconst 0, 1, 0, 0, 0, 0), some (.istore 4, 2, 4, 0, 0, 0), none,
  some (.iconst 0, 1, 0, 0, 0, 0), some (.istore 5, 2, 5, 0, 0, 0), none, some (.iload 5, 2, 5, 0, 0, 0), none, some (.aload_n 0, 1, 0, 0, 0, 0),
  some (.getfield 10, 3, 11, 0, 0, 0), none, none, some (.getfield 70, 3, 0, 0, 0, 0), none, none,
  some (.iconst 3, 1, 0, 0, 0, 3), some (.iaload, 1, 0, 0, 0, 0), some (.if_icmp .ge 76, 3, 114, 0, 0, 0), none, none, some (.aload_n 0, 1, 0, 0, 0, 0),
  some (.getfield 10, 3, 11, 0, 0, 0), none, none, some (.iload 5, 2, 5, 0, 0, 0), none, some (.invokevirtual 132, 3, 4, 1, 1, 0),
  none, none, some (.ifCond .eq 27, 3, 77, 0, 0, 0), none, none, some (.aload_n 0, 1, 0, 0, 0, 0),
  some (.getfield 10, 3, 11, 0, 0, 0), none, none, some (.getfield 126, 3, 0, 6, 0, 0), none, none,
  some (.iload 5, 2, 5, 0, 0, 0), none, some (.iaload, 1, 0, 0, 0, 0), some (.iload_n 1, 1, 1, 0, 0, 0), some (.if_icmp .ne 13, 3, 77, 0, 0, 0), none,
  none, some (.iload_n 3, 1, 3, 0, 0, 0), some (.iconst 1, 1, 0, 0, 0, 1), some (.iload 5, 2, 5, 0, 0, 0), none, some (.ishl, 1, 0, 0, 0, 0),
  some (.ior, 1, 0, 0, 0, 0), some (.istore_n 3, 1, 3, 0, 0, 0), some (.goto 34, 3, 108, 0, 0, 0), none, none, some (.aload_n 0, 1, 0, 0, 0, 0),
  some (.getfield 10, 3, 11, 0, 0, 0), none, none, some (.iload 5, 2, 5, 0, 0, 0), none, some (.invokevirtual 132, 3, 4, 1, 1, 0),
  none, none, some (.ifCond .eq 22, 3, 108, 0, 0, 0), none, none, some (.iload 4, 2, 4, 0, 0, 0),
  none, some (.invokestatic 235, 3, 209, 1, 0, 0), none, none, some (.bipush 6, 2, 0, 0, 0, 6), none,
  some (.if_icmp .ge 12, 3, 108, 0, 0, 0), none, none, some (.iload 4, 2, 4, 0, 0, 0), none, some (.iconst 1, 1, 0, 0, 0, 1),
  some (.iload 5, 2, 5, 0, 0, 0), none, some (.ishl, 1, 0, 0, 0, 0), some (.ior, 1, 0, 0, 0, 0), some (.istore 4, 2, 4, 0, 0, 0), none,
  some (.iinc 5 1, 3, 5, 0, 0, 1), none, none, some (.goto (-84), 3, 27, 0, 0, 0), none, none,
  some (.aload_n 0, 1, 0, 0, 0, 0), some (.iload_n 2, 1, 2, 0, 0, 0), some (.iload 4, 2, 4, 0, 0, 0), none, some (.iload_n 3, 1, 3, 0, 0, 0), some (.invokevirtual 240, 3, 117, 3, 0, 11),
  none, none, some (.ireturn, 1, 0, 0, 0, 0)
  ])
def mi_X11_tactic : am_MI := (yX11_tactic, cX11_tactic, 4, (some FieldType.int), [
  some (.aload_n 0, 1, 0, 0, 0, 0), some (.getfield 10, 3, 11, 0, 0, 0), none, none, some (.getfield 70, 3, 0, 0, 0, 0), none,
  none, some (.bipush 6, 2, 0, 0, 0, 6), none, some (.iaload, 1, 0, 0, 0, 0), some (.istore_n 1, 1, 1, 0, 0, 0), some (.iload_n 1, 1, 1, 0, 0, 0),
  some (.bipush 6, 2, 0, 0, 0, 6), none, some (.if_icmp .lt 6, 3, 20, 0, 0, 0), none, none, some (.bipush (-4), 2, 0, 0, 0, -4),
  none, some (.ireturn, 1, 0, 0, 0, 0), some (.aload_n 0, 1, 0, 0, 0, 0), some (.getfield 10, 3, 11, 0, 0, 0), none, none,
  some (.getfield 70, 3, 0, 0, 0, 0), none, none, some (.bipush 7, 2, 0, 0, 0, 7), none, some (.iaload, 1, 0, 0, 0, 0),
  some (.istore_n 2, 1, 2, 0, 0, 0), some (.aload_n 0, 1, 0, 0, 0, 0), some (.getfield 10, 3, 11, 0, 0, 0), none, none, some (.getfield 74, 3, 0, 1, 0, 0),
  none, none, some (.iload_n 2, 1, 2, 0, 0, 0), some (.invokestatic 243, 3, 62, 2, 1, 0), none, none,
  some (.istore_n 3, 1, 3, 0, 0, 0), some (.aload_n 0, 1, 0, 0, 0, 0), some (.getfield 10, 3, 11, 0, 0, 0), none, none, some (.getfield 70, 3, 0, 0, 0, 0),
  none, none, some (.bipush 7, 2, 0, 0, 0, 7), none, some (.iconst 0, 1, 0, 0, 0, 0), some (.iastore, 1, 0, 0, 0, 0),
  some (.iload_n 3, 1, 3, 0, 0, 0), some (.ifCond .lt 8, 3, 63, 0, 0, 0), none, none, some (.bipush (-10), 2, 0, 0, 0, -10), none,
  some (.iload_n 3, 1, 3, 0, 0, 0), some (.isub, 1, 0, 0, 0, 0), some (.ireturn, 1, 0, 0, 0, 0), some (.aload_n 0, 1, 0, 0, 0, 0), some (.getfield 10, 3, 11, 0, 0, 0), none,
  none, some (.getfield 74, 3, 0, 1, 0, 0), none, none, some (.iconst 0, 1, 0, 0, 0, 0), some (.aload_n 0, 1, 0, 0, 0, 0),
  some (.getfield 10, 3, 11, 0, 0, 0), none, none, some (.getfield 247, 3, 0, 15, 0, 0), none, none,
  some (.iload_n 1, 1, 1, 0, 0, 0), some (.bipush 120, 2, 0, 0, 0, 120), none, some (.imul, 1, 0, 0, 0, 0), some (.iload_n 2, 1, 2, 0, 0, 0), some (.invokestatic 250, 3, 1, 0, 2, 0),
  none, none, some (.aload_n 0, 1, 0, 0, 0, 0), some (.getfield 10, 3, 11, 0, 0, 0), none, none,
  some (.getfield 256, 3, 0, 14, 0, 0), none, none, some (.iload_n 1, 1, 1, 0, 0, 0), some (.iload_n 2, 1, 2, 0, 0, 0), some (.iastore, 1, 0, 0, 0, 0),
  some (.aload_n 0, 1, 0, 0, 0, 0), some (.getfield 10, 3, 11, 0, 0, 0), none, none, some (.getfield 70, 3, 0, 0, 0, 0), none,
  none, some (.bipush 6, 2, 0, 0, 0, 6), none, some (.iload_n 1, 1, 1, 0, 0, 0), some (.iconst 1, 1, 0, 0, 0, 1), some (.iadd, 1, 0, 0, 0, 0),
  some (.iastore, 1, 0, 0, 0, 0), some (.iload_n 1, 1, 1, 0, 0, 0), some (.ireturn, 1, 0, 0, 0, 0)
  ])
def mi_X11_run : am_MI := (yX11_run, cX11_run, 5, (some FieldType.int), [
  some (.aload_n 0, 1, 0, 0, 0, 0), some (.getfield 10, 3, 11, 0, 0, 0), none, none, some (.bipush 6, 2, 0, 0, 0, 6), none,
  some (.iload_n 1, 1, 1, 0, 0, 0), some (.invokevirtual 86, 3, 2, 2, 1, 0), none, none, some (.ifCond .eq 12, 3, 22, 0, 0, 0), none,
  none, some (.iload_n 3, 1, 3, 0, 0, 0), some (.ifCond .lt 8, 3, 22, 0, 0, 0), none, none, some (.iload_n 3, 1, 3, 0, 0, 0),
  some (.iconst 1, 1, 0, 0, 0, 1), some (.if_icmp .le 5, 3, 24, 0, 0, 0), none, none, some (.iconst (-1), 1, 0, 0, 0, -1), some (.ireturn, 1, 0, 0, 0, 0),
  some (.iload_n 2, 1, 2, 0, 0, 0), some (.iconst 1, 1, 0, 0, 0, 1), some (.if_icmp .lt 10, 3, 36, 0, 0, 0), none, none, some (.iload_n 2, 1, 2, 0, 0, 0),
  some (.sipush 200, 3, 0, 0, 0, 200), none, none, some (.if_icmp .le 6, 3, 39, 0, 0, 0), none, none,
  some (.bipush (-2), 2, 0, 0, 0, -2), none, some (.ireturn, 1, 0, 0, 0, 0), some (.aload_n 0, 1, 0, 0, 0, 0), some (.getfield 37, 3, 11, 3, 0, 0), none,
  none, some (.iload_n 1, 1, 1, 0, 0, 0), some (.iload_n 2, 1, 2, 0, 0, 0), some (.invokevirtual 259, 3, 63, 2, 1, 9), none, none,
  some (.iconst 0, 1, 0, 0, 0, 0), some (.istore 4, 2, 4, 0, 0, 0), none, some (.iload 4, 2, 4, 0, 0, 0), none, some (.sipush 750, 3, 0, 0, 0, 750),
  none, none, some (.if_icmp .ge 28, 3, 84, 0, 0, 0), none, none, some (.aload_n 0, 1, 0, 0, 0, 0),
  some (.getfield 10, 3, 11, 0, 0, 0), none, none, some (.getfield 263, 3, 0, 16, 0, 0), none, none,
  some (.iload 4, 2, 4, 0, 0, 0), none, some (.aload_n 0, 1, 0, 0, 0, 0), some (.getfield 28, 3, 11, 2, 0, 0), none, none,
  some (.iload 4, 2, 4, 0, 0, 0), none, some (.invokevirtual 139, 3, 38, 1, 1, 6), none, none, some (.bastore, 1, 2, 0, 0, 0),
  some (.iinc 4 1, 3, 4, 0, 0, 1), none, none, some (.goto (-30), 3, 51, 0, 0, 0), none, none,
  some (.aload_n 0, 1, 0, 0, 0, 0), some (.getfield 10, 3, 11, 0, 0, 0), none, none, some (.iconst 1, 1, 0, 0, 0, 1), some (.putfield 266, 3, 0, 17, 0, 0),
  none, none, some (.iload_n 3, 1, 3, 0, 0, 0), some (.ifCond .ne 13, 3, 106, 0, 0, 0), none, none,
  some (.aload_n 0, 1, 0, 0, 0, 0), some (.getfield 28, 3, 11, 2, 0, 0), none, none, some (.getfield 144, 3, 6, 3, 0, 0), none,
  none, some (.goto 10, 3, 113, 0, 0, 0), none, none, some (.aload_n 0, 1, 0, 0, 0, 0), some (.getfield 37, 3, 11, 3, 0, 0),
  none, none, some (.getfield 270, 3, 9, 2, 0, 0), none, none, some (.ireturn, 1, 0, 0, 0, 0)
  ])
def mi_X11_found : am_MI := (yX11_found, cX11_found, 2, (some FieldType.int), [
  some (.iload_n 1, 1, 1, 0, 0, 0), some (.invokestatic 120, 3, 111, 1, 0, 0), none, none, some (.ifCond .ne 6, 3, 10, 0, 0, 0), none,
  none, some (.bipush (-2), 2, 0, 0, 0, -2), none, some (.ireturn, 1, 0, 0, 0, 0), some (.aload_n 0, 1, 0, 0, 0, 0), some (.getfield 10, 3, 11, 0, 0, 0),
  none, none, some (.getfield 266, 3, 0, 17, 0, 0), none, none, some (.ifCond .ne 6, 3, 23, 0, 0, 0),
  none, none, some (.bipush (-3), 2, 0, 0, 0, -3), none, some (.ireturn, 1, 0, 0, 0, 0), some (.aload_n 0, 1, 0, 0, 0, 0),
  some (.getfield 10, 3, 11, 0, 0, 0), none, none, some (.getfield 263, 3, 0, 16, 0, 0), none, none,
  some (.iload_n 1, 1, 1, 0, 0, 0), some (.baload, 1, 2, 0, 0, 0), some (.ifCond .eq 7, 3, 39, 0, 0, 0), none, none, some (.iconst 1, 1, 0, 0, 0, 1),
  some (.goto 4, 3, 40, 0, 0, 0), none, none, some (.iconst 0, 1, 0, 0, 0, 0), some (.ireturn, 1, 0, 0, 0, 0)
  ])
def mi_X11_image : am_MI := (yX11_image, cX11_image, 1, (some FieldType.int), [
  some (.aload_n 0, 1, 0, 0, 0, 0), some (.getfield 67, 3, 11, 6, 0, 0), none, none, some (.ifnonnull 14, 3, 18, 0, 0, 0), none,
  none, some (.aload_n 0, 1, 0, 0, 0, 0), some (.new 7, 3, 0, 0, 0, 0), none, none, some (.dup, 1, 0, 0, 0, 0),
  some (.invokespecial 9, 3, 0, 0, 1, 0), none, none, some (.putfield 67, 3, 11, 6, 0, 0), none, none,
  some (.aload_n 0, 1, 0, 0, 0, 0), some (.getfield 67, 3, 11, 6, 0, 0), none, none, some (.aload_n 0, 1, 0, 0, 0, 0), some (.getfield 10, 3, 11, 0, 0, 0),
  none, none, some (.invokevirtual 273, 3, 1, 1, 1, 0), none, none, some (.aload_n 0, 1, 0, 0, 0, 0),
  some (.getfield 10, 3, 11, 0, 0, 0), none, none, some (.getfield 70, 3, 0, 0, 0, 0), none, none,
  some (.iconst 0, 1, 0, 0, 0, 0), some (.iaload, 1, 0, 0, 0, 0), some (.ireturn, 1, 0, 0, 0, 0)
  ])
def mi_X11_undo : am_MI := (yX11_undo, cX11_undo, 1, (some FieldType.int), [
  some (.aload_n 0, 1, 0, 0, 0, 0), some (.getfield 67, 3, 11, 6, 0, 0), none, none, some (.ifnonnull 6, 3, 10, 0, 0, 0), none,
  none, some (.bipush (-3), 2, 0, 0, 0, -3), none, some (.ireturn, 1, 0, 0, 0, 0), some (.aload_n 0, 1, 0, 0, 0, 0), some (.getfield 10, 3, 11, 0, 0, 0),
  none, none, some (.aload_n 0, 1, 0, 0, 0, 0), some (.getfield 67, 3, 11, 6, 0, 0), none, none,
  some (.invokevirtual 273, 3, 1, 1, 1, 0), none, none, some (.aload_n 0, 1, 0, 0, 0, 0), some (.getfield 10, 3, 11, 0, 0, 0), none,
  none, some (.getfield 70, 3, 0, 0, 0, 0), none, none, some (.iconst 0, 1, 0, 0, 0, 0), some (.iaload, 1, 0, 0, 0, 0),
  some (.ireturn, 1, 0, 0, 0, 0)
  ])
def mi_X11_count : am_MI := (yX11_count, cX11_count, 2, (some FieldType.int), [
  some (.iload_n 1, 1, 1, 0, 0, 0), some (.ifCond .lt 9, 3, 10, 0, 0, 0), none, none, some (.iload_n 1, 1, 1, 0, 0, 0), some (.bipush 8, 2, 0, 0, 0, 8),
  none, some (.if_icmp .lt 7, 3, 14, 0, 0, 0), none, none, some (.iconst (-1), 1, 0, 0, 0, -1), some (.goto 12, 3, 23, 0, 0, 0),
  none, none, some (.aload_n 0, 1, 0, 0, 0, 0), some (.getfield 10, 3, 11, 0, 0, 0), none, none,
  some (.getfield 70, 3, 0, 0, 0, 0), none, none, some (.iload_n 1, 1, 1, 0, 0, 0), some (.iaload, 1, 0, 0, 0, 0), some (.ireturn, 1, 0, 0, 0, 0)
  ])
def mi_X11_isDay : am_MI := (yX11_isDay, cX11_isDay, 1, (some FieldType.boolean), [
  some (.iload_n 0, 1, 0, 0, 0, 0), some (.ifCond .lt 14, 3, 15, 0, 0, 0), none, none, some (.iload_n 0, 1, 0, 0, 0, 0), some (.sipush 1000, 3, 0, 0, 0, 1000),
  none, none, some (.if_icmp .ge 7, 3, 15, 0, 0, 0), none, none, some (.iconst 1, 1, 0, 0, 0, 1),
  some (.goto 4, 3, 16, 0, 0, 0), none, none, some (.iconst 0, 1, 0, 0, 0, 0), some (.ireturn, 1, 0, 0, 0, 0)
  ])
def mi_X11_isFact : am_MI := (yX11_isFact, cX11_isFact, 1, (some FieldType.boolean), [
  some (.iload_n 0, 1, 0, 0, 0, 0), some (.ifCond .lt 14, 3, 15, 0, 0, 0), none, none, some (.iload_n 0, 1, 0, 0, 0, 0), some (.sipush 750, 3, 0, 0, 0, 750),
  none, none, some (.if_icmp .ge 7, 3, 15, 0, 0, 0), none, none, some (.iconst 1, 1, 0, 0, 0, 1),
  some (.goto 4, 3, 16, 0, 0, 0), none, none, some (.iconst 0, 1, 0, 0, 0, 0), some (.ireturn, 1, 0, 0, 0, 0)
  ])
def mi_X11_isPerson : am_MI := (yX11_isPerson, cX11_isPerson, 1, (some FieldType.boolean), [
  some (.iload_n 0, 1, 0, 0, 0, 0), some (.ifCond .lt 12, 3, 13, 0, 0, 0), none, none, some (.iload_n 0, 1, 0, 0, 0, 0), some (.iconst 5, 1, 0, 0, 0, 5),
  some (.if_icmp .ge 7, 3, 13, 0, 0, 0), none, none, some (.iconst 1, 1, 0, 0, 0, 1), some (.goto 4, 3, 14, 0, 0, 0), none,
  none, some (.iconst 0, 1, 0, 0, 0, 0), some (.ireturn, 1, 0, 0, 0, 0)
  ])
def mi_X11_isKind : am_MI := (yX11_isKind, cX11_isKind, 1, (some FieldType.boolean), [
  some (.iload_n 0, 1, 0, 0, 0, 0), some (.ifCond .lt 12, 3, 13, 0, 0, 0), none, none, some (.iload_n 0, 1, 0, 0, 0, 0), some (.iconst 5, 1, 0, 0, 0, 5),
  some (.if_icmp .ge 7, 3, 13, 0, 0, 0), none, none, some (.iconst 1, 1, 0, 0, 0, 1), some (.goto 4, 3, 14, 0, 0, 0), none,
  none, some (.iconst 0, 1, 0, 0, 0, 0), some (.ireturn, 1, 0, 0, 0, 0)
  ])
def mi_X11_followsToday : am_MI := (yX11_followsToday, cX11_followsToday, 3, (some FieldType.boolean), [
  some (.aload_n 0, 1, 0, 0, 0, 0), some (.getfield 28, 3, 11, 2, 0, 0), none, none, some (.aload_n 0, 1, 0, 0, 0, 0), some (.getfield 10, 3, 11, 0, 0, 0),
  none, none, some (.getfield 70, 3, 0, 0, 0, 0), none, none, some (.iconst 0, 1, 0, 0, 0, 0),
  some (.iaload, 1, 0, 0, 0, 0), some (.iload_n 2, 1, 2, 0, 0, 0), some (.iconst 0, 1, 0, 0, 0, 0), some (.invokevirtual 135, 3, 40, 3, 1, 6), none, none,
  some (.aload_n 0, 1, 0, 0, 0, 0), some (.getfield 28, 3, 11, 2, 0, 0), none, none, some (.iload_n 1, 1, 1, 0, 0, 0), some (.invokevirtual 139, 3, 38, 1, 1, 6),
  none, none, some (.ireturn, 1, 0, 0, 0, 0)
  ])
def mi_X11_standsByProof : am_MI := (yX11_standsByProof, cX11_standsByProof, 4, (some FieldType.boolean), [
  some (.aload_n 0, 1, 0, 0, 0, 0), some (.getfield 10, 3, 11, 0, 0, 0), none, none, some (.getfield 217, 3, 0, 11, 0, 0), none,
  none, some (.iload_n 1, 1, 1, 0, 0, 0), some (.iaload, 1, 0, 0, 0, 0), some (.istore_n 3, 1, 3, 0, 0, 0), some (.aload_n 0, 1, 0, 0, 0, 0), some (.getfield 21, 3, 11, 1, 0, 0),
  none, none, some (.iload_n 3, 1, 3, 0, 0, 0), some (.aload_n 0, 1, 0, 0, 0, 0), some (.getfield 10, 3, 11, 0, 0, 0), none,
  none, some (.getfield 223, 3, 0, 13, 0, 0), none, none, some (.iload_n 1, 1, 1, 0, 0, 0), some (.iaload, 1, 0, 0, 0, 0),
  some (.iload_n 2, 1, 2, 0, 0, 0), some (.invokevirtual 171, 3, 20, 3, 1, 2), none, none, some (.aload_n 0, 1, 0, 0, 0, 0), some (.getfield 21, 3, 11, 1, 0, 0),
  none, none, some (.getfield 182, 3, 2, 3, 0, 0), none, none, some (.iload_n 3, 1, 3, 0, 0, 0),
  some (.baload, 1, 2, 0, 0, 0), some (.ireturn, 1, 0, 0, 0, 0)
  ])
def mi_X11_standingToday : am_MI := (yX11_standingToday, cX11_standingToday, 4, (some FieldType.int), [
  some (.aload_n 0, 1, 0, 0, 0, 0), some (.getfield 28, 3, 11, 2, 0, 0), none, none, some (.aload_n 0, 1, 0, 0, 0, 0), some (.getfield 10, 3, 11, 0, 0, 0),
  none, none, some (.getfield 70, 3, 0, 0, 0, 0), none, none, some (.iconst 0, 1, 0, 0, 0, 0),
  some (.iaload, 1, 0, 0, 0, 0), some (.iload_n 1, 1, 1, 0, 0, 0), some (.iconst 0, 1, 0, 0, 0, 0), some (.invokevirtual 135, 3, 40, 3, 1, 6), none, none,
  some (.iconst 0, 1, 0, 0, 0, 0), some (.istore_n 2, 1, 2, 0, 0, 0), some (.iconst 0, 1, 0, 0, 0, 0), some (.istore_n 3, 1, 3, 0, 0, 0), some (.iload_n 3, 1, 3, 0, 0, 0), some (.aload_n 0, 1, 0, 0, 0, 0),
  some (.getfield 10, 3, 11, 0, 0, 0), none, none, some (.getfield 70, 3, 0, 0, 0, 0), none, none,
  some (.iconst 5, 1, 0, 0, 0, 5), some (.iaload, 1, 0, 0, 0, 0), some (.if_icmp .ge 43, 3, 75, 0, 0, 0), none, none, some (.aload_n 0, 1, 0, 0, 0, 0),
  some (.getfield 28, 3, 11, 2, 0, 0), none, none, some (.aload_n 0, 1, 0, 0, 0, 0), some (.getfield 10, 3, 11, 0, 0, 0), none,
  none, some (.getfield 220, 3, 0, 12, 0, 0), none, none, some (.iload_n 3, 1, 3, 0, 0, 0), some (.iaload, 1, 0, 0, 0, 0),
  some (.invokevirtual 139, 3, 38, 1, 1, 6), none, none, some (.ifCond .ne 12, 3, 63, 0, 0, 0), none, none,
  some (.aload_n 0, 1, 0, 0, 0, 0), some (.iload_n 3, 1, 3, 0, 0, 0), some (.iload_n 1, 1, 1, 0, 0, 0), some (.invokevirtual 226, 3, 115, 2, 0, 11), none, none,
  some (.ifCond .eq 9, 3, 69, 0, 0, 0), none, none, some (.iload_n 2, 1, 2, 0, 0, 0), some (.iconst 1, 1, 0, 0, 0, 1), some (.iload_n 3, 1, 3, 0, 0, 0),
  some (.ishl, 1, 0, 0, 0, 0), some (.ior, 1, 0, 0, 0, 0), some (.istore_n 2, 1, 2, 0, 0, 0), some (.iinc 3 1, 3, 3, 0, 0, 1), none, none,
  some (.goto (-50), 3, 22, 0, 0, 0), none, none, some (.iload_n 2, 1, 2, 0, 0, 0), some (.ireturn, 1, 0, 0, 0, 0)
  ])
def mi_X11_fewest : am_MI := (yX11_fewest, cX11_fewest, 7, (some FieldType.int), [
  some (.aload_n 0, 1, 0, 0, 0, 0), some (.iload_n 1, 1, 1, 0, 0, 0), some (.iload_n 2, 1, 2, 0, 0, 0), some (.iload_n 3, 1, 3, 0, 0, 0), some (.ior, 1, 0, 0, 0, 0), some (.invokevirtual 232, 3, 114, 2, 0, 11),
  none, none, some (.ifCond .ne 6, 3, 14, 0, 0, 0), none, none, some (.bipush (-5), 2, 0, 0, 0, -5),
  none, some (.ireturn, 1, 0, 0, 0, 0), some (.iload_n 2, 1, 2, 0, 0, 0), some (.istore 4, 2, 4, 0, 0, 0), none, some (.bipush 64, 2, 0, 0, 0, 64),
  none, some (.istore 5, 2, 5, 0, 0, 0), none, some (.iconst 0, 1, 0, 0, 0, 0), some (.istore 6, 2, 6, 0, 0, 0), none,
  some (.iload 6, 2, 6, 0, 0, 0), none, some (.iload_n 2, 1, 2, 0, 0, 0), some (.if_icmp .eq 51, 3, 78, 0, 0, 0), none, none,
  some (.iload 5, 2, 5, 0, 0, 0), none, some (.ifCond .le 46, 3, 78, 0, 0, 0), none, none, some (.iinc 5 (-1), 3, 5, 0, 0, -1),
  none, none, some (.iload 6, 2, 6, 0, 0, 0), none, some (.invokestatic 235, 3, 209, 1, 0, 0), none,
  none, some (.iload 4, 2, 4, 0, 0, 0), none, some (.invokestatic 235, 3, 209, 1, 0, 0), none, none,
  some (.if_icmp .ge 19, 3, 67, 0, 0, 0), none, none, some (.aload_n 0, 1, 0, 0, 0, 0), some (.iload_n 1, 1, 1, 0, 0, 0), some (.iload 6, 2, 6, 0, 0, 0),
  none, some (.iload_n 3, 1, 3, 0, 0, 0), some (.ior, 1, 0, 0, 0, 0), some (.invokevirtual 232, 3, 114, 2, 0, 11), none, none,
  some (.ifCond .eq 7, 3, 67, 0, 0, 0), none, none, some (.iload 6, 2, 6, 0, 0, 0), none, some (.istore 4, 2, 4, 0, 0, 0),
  none, some (.iload 6, 2, 6, 0, 0, 0), none, some (.iload_n 2, 1, 2, 0, 0, 0), some (.isub, 1, 0, 0, 0, 0), some (.iload_n 2, 1, 2, 0, 0, 0),
  some (.iand, 1, 0, 0, 0, 0), some (.istore 6, 2, 6, 0, 0, 0), none, some (.goto (-51), 3, 24, 0, 0, 0), none, none,
  some (.iload 4, 2, 4, 0, 0, 0), none, some (.ireturn, 1, 0, 0, 0, 0)
  ])
def mi_X12_init : am_MI := (yX12_init, cX12_init, 1, none, [
  some (.aload_n 0, 1, 0, 0, 0, 0), some (.invokespecial 1, 3, 0, 0, 2, 0), none, none, some (.aload_n 0, 1, 0, 0, 0, 0), some (.sipush 3228, 3, 0, 0, 0, 3228),
  none, none, some (.newarray .int, 2, 0, 0, 0, 0), none, some (.putfield 7, 3, 12, 0, 0, 0), none,
  none, some (.aload_n 0, 1, 0, 0, 0, 0), some (.sipush 3228, 3, 0, 0, 0, 3228), none, none, some (.newarray .int, 2, 0, 0, 0, 0),
  none, some (.putfield 13, 3, 12, 1, 0, 0), none, none, some (.aload_n 0, 1, 0, 0, 0, 0), some (.sipush 750, 3, 0, 0, 0, 750),
  none, none, some (.newarray .int, 2, 0, 0, 0, 0), none, some (.putfield 16, 3, 12, 5, 0, 0), none,
  none, some (.aload_n 0, 1, 0, 0, 0, 0), some (.sipush 750, 3, 0, 0, 0, 750), none, none, some (.newarray .int, 2, 0, 0, 0, 0),
  none, some (.putfield 19, 3, 12, 6, 0, 0), none, none, some (.aload_n 0, 1, 0, 0, 0, 0), some (.iconst 4, 1, 0, 0, 0, 4),
  some (.newarray .int, 2, 0, 0, 0, 0), none, some (.putfield 22, 3, 12, 7, 0, 0), none, none, some (.aload_n 0, 1, 0, 0, 0, 0),
  some (.bipush 20, 2, 0, 0, 0, 20), none, some (.newarray .int, 2, 0, 0, 0, 0), none, some (.putfield 25, 3, 12, 8, 0, 0), none,
  none, some (.aload_n 0, 1, 0, 0, 0, 0), some (.bipush 6, 2, 0, 0, 0, 6), none, some (.newarray .int, 2, 0, 0, 0, 0), none,
  some (.putfield 28, 3, 12, 9, 0, 0), none, none, some (.aload_n 0, 1, 0, 0, 0, 0), some (.sipush 750, 3, 0, 0, 0, 750), none,
  none, some (.newarray .int, 2, 0, 0, 0, 0), none, some (.putfield 31, 3, 12, 14, 0, 0), none, none,
  some (.return_, 1, 0, 0, 0, 0)
  ])
def mi_X12_in : am_MI := (yX12_in, cX12_in, 3, (some FieldType.boolean), [
  some (.iload_n 0, 1, 0, 0, 0, 0), some (.iload_n 1, 1, 1, 0, 0, 0), some (.if_icmp .lt 12, 3, 14, 0, 0, 0), none, none, some (.iload_n 0, 1, 0, 0, 0, 0),
  some (.iload_n 2, 1, 2, 0, 0, 0), some (.if_icmp .gt 7, 3, 14, 0, 0, 0), none, none, some (.iconst 1, 1, 0, 0, 0, 1), some (.goto 4, 3, 15, 0, 0, 0),
  none, none, some (.iconst 0, 1, 0, 0, 0, 0), some (.ireturn, 1, 0, 0, 0, 0)
  ])
def mi_X12_isDay : am_MI := (yX12_isDay, cX12_isDay, 1, (some FieldType.boolean), [
  some (.iload_n 0, 1, 0, 0, 0, 0), some (.iconst 0, 1, 0, 0, 0, 0), some (.sipush 999, 3, 0, 0, 0, 999), none, none, some (.invokestatic 34, 3, 119, 3, 0, 0),
  none, none, some (.ireturn, 1, 0, 0, 0, 0)
  ])
def mi_X12_isFact : am_MI := (yX12_isFact, cX12_isFact, 1, (some FieldType.boolean), [
  some (.iload_n 0, 1, 0, 0, 0, 0), some (.iconst 0, 1, 0, 0, 0, 0), some (.sipush 749, 3, 0, 0, 0, 749), none, none, some (.invokestatic 34, 3, 119, 3, 0, 0),
  none, none, some (.ireturn, 1, 0, 0, 0, 0)
  ])
def mi_X12_day : am_MI := (yX12_day, cX12_day, 2, (some FieldType.int), [
  some (.iload_n 1, 1, 1, 0, 0, 0), some (.iconst 1, 1, 0, 0, 0, 1), some (.bipush 99, 2, 0, 0, 0, 99), none, some (.invokestatic 34, 3, 119, 3, 0, 0), none,
  none, some (.ifCond .eq 17, 3, 24, 0, 0, 0), none, none, some (.aload_n 0, 1, 0, 0, 0, 0), some (.getfield 7, 3, 12, 0, 0, 0),
  none, none, some (.iconst 0, 1, 0, 0, 0, 0), some (.iaload, 1, 0, 0, 0, 0), some (.iload_n 1, 1, 1, 0, 0, 0), some (.iadd, 1, 0, 0, 0, 0),
  some (.sipush 999, 3, 0, 0, 0, 999), none, none, some (.if_icmp .le 6, 3, 27, 0, 0, 0), none, none,
  some (.bipush (-2), 2, 0, 0, 0, -2), none, some (.ireturn, 1, 0, 0, 0, 0), some (.aload_n 0, 1, 0, 0, 0, 0), some (.getfield 7, 3, 12, 0, 0, 0), none,
  none, some (.iconst 0, 1, 0, 0, 0, 0), some (.dup2, 1, 0, 0, 0, 0), some (.iaload, 1, 0, 0, 0, 0), some (.iload_n 1, 1, 1, 0, 0, 0), some (.iadd, 1, 0, 0, 0, 0),
  some (.iastore, 1, 0, 0, 0, 0), some (.aload_n 0, 1, 0, 0, 0, 0), some (.getfield 7, 3, 12, 0, 0, 0), none, none, some (.iconst 0, 1, 0, 0, 0, 0),
  some (.iaload, 1, 0, 0, 0, 0), some (.ireturn, 1, 0, 0, 0, 0)
  ])
def mi_X12_feed : am_MI := (yX12_feed, cX12_feed, 5, (some FieldType.int), [
  some (.iload_n 3, 1, 3, 0, 0, 0), some (.iconst 1, 1, 0, 0, 0, 1), some (.bipush 8, 2, 0, 0, 0, 8), none, some (.invokestatic 34, 3, 119, 3, 0, 0), none,
  none, some (.ifCond .ne 6, 3, 13, 0, 0, 0), none, none, some (.bipush (-2), 2, 0, 0, 0, -2), none,
  some (.ireturn, 1, 0, 0, 0, 0), some (.aload_n 0, 1, 0, 0, 0, 0), some (.getfield 7, 3, 12, 0, 0, 0), none, none, some (.bipush 8, 2, 0, 0, 0, 8),
  none, some (.iaload, 1, 0, 0, 0, 0), some (.iload_n 3, 1, 3, 0, 0, 0), some (.iadd, 1, 0, 0, 0, 0), some (.bipush 120, 2, 0, 0, 0, 120), none,
  some (.if_icmp .le 6, 3, 30, 0, 0, 0), none, none, some (.bipush (-4), 2, 0, 0, 0, -4), none, some (.ireturn, 1, 0, 0, 0, 0),
  some (.iload_n 3, 1, 3, 0, 0, 0), some (.iconst 1, 1, 0, 0, 0, 1), some (.isub, 1, 0, 0, 0, 0), some (.istore 4, 2, 4, 0, 0, 0), none, some (.iload 4, 2, 4, 0, 0, 0),
  none, some (.ifCond .lt 48, 3, 85, 0, 0, 0), none, none, some (.aload_n 0, 1, 0, 0, 0, 0), some (.getfield 7, 3, 12, 0, 0, 0),
  none, none, some (.sipush 2358, 3, 0, 0, 0, 2358), none, none, some (.aload_n 0, 1, 0, 0, 0, 0),
  some (.getfield 7, 3, 12, 0, 0, 0), none, none, some (.bipush 8, 2, 0, 0, 0, 8), none, some (.iaload, 1, 0, 0, 0, 0),
  some (.iadd, 1, 0, 0, 0, 0), some (.lload_n 1, 1, 1, 0, 0, 0), some (.bipush 8, 2, 0, 0, 0, 8), none, some (.iload 4, 2, 4, 0, 0, 0), none,
  some (.imul, 1, 0, 0, 0, 0), some (.lshr, 1, 0, 0, 0, 0), some (.ldc2_w 38, 3, 0, 0, 0, 255), none, none, some (.land, 1, 0, 0, 0, 0),
  some (.l2i, 1, 0, 0, 0, 0), some (.iastore, 1, 0, 0, 0, 0), some (.aload_n 0, 1, 0, 0, 0, 0), some (.getfield 7, 3, 12, 0, 0, 0), none, none,
  some (.bipush 8, 2, 0, 0, 0, 8), none, some (.dup2, 1, 0, 0, 0, 0), some (.iaload, 1, 0, 0, 0, 0), some (.iconst 1, 1, 0, 0, 0, 1), some (.iadd, 1, 0, 0, 0, 0),
  some (.iastore, 1, 0, 0, 0, 0), some (.iinc 4 (-1), 3, 4, 0, 0, -1), none, none, some (.goto (-47), 3, 35, 0, 0, 0), none,
  none, some (.aload_n 0, 1, 0, 0, 0, 0), some (.getfield 7, 3, 12, 0, 0, 0), none, none, some (.bipush 8, 2, 0, 0, 0, 8),
  none, some (.iaload, 1, 0, 0, 0, 0), some (.ireturn, 1, 0, 0, 0, 0)
  ])
def mi_X12_here : am_MI := (yX12_here, cX12_here, 1, (some FieldType.int), [
  some (.aload_n 0, 1, 0, 0, 0, 0), some (.getfield 40, 3, 12, 3, 0, 0), none, none, some (.aload_n 0, 1, 0, 0, 0, 0), some (.getfield 7, 3, 12, 0, 0, 0),
  none, none, some (.bipush 8, 2, 0, 0, 0, 8), none, some (.iaload, 1, 0, 0, 0, 0), some (.if_icmp .ge 19, 3, 30, 0, 0, 0),
  none, none, some (.aload_n 0, 1, 0, 0, 0, 0), some (.getfield 7, 3, 12, 0, 0, 0), none, none,
  some (.sipush 2358, 3, 0, 0, 0, 2358), none, none, some (.aload_n 0, 1, 0, 0, 0, 0), some (.getfield 40, 3, 12, 3, 0, 0), none,
  none, some (.iadd, 1, 0, 0, 0, 0), some (.iaload, 1, 0, 0, 0, 0), some (.goto 4, 3, 31, 0, 0, 0), none, none,
  some (.iconst (-1), 1, 0, 0, 0, -1), some (.ireturn, 1, 0, 0, 0, 0)
  ])
def mi_X12_eats : am_MI := (yX12_eats, cX12_eats, 2, none, [
  some (.aload_n 0, 1, 0, 0, 0, 0), some (.getfield 44, 3, 12, 4, 0, 0), none, none, some (.ifCond .ne 24, 3, 28, 0, 0, 0), none,
  none, some (.aload_n 0, 1, 0, 0, 0, 0), some (.invokevirtual 48, 3, 124, 0, 0, 12), none, none, some (.iload_n 1, 1, 1, 0, 0, 0),
  some (.if_icmp .ne 16, 3, 28, 0, 0, 0), none, none, some (.aload_n 0, 1, 0, 0, 0, 0), some (.dup, 1, 0, 0, 0, 0), some (.getfield 40, 3, 12, 3, 0, 0),
  none, none, some (.iconst 1, 1, 0, 0, 0, 1), some (.iadd, 1, 0, 0, 0, 0), some (.putfield 40, 3, 12, 3, 0, 0), none,
  none, some (.goto 8, 3, 33, 0, 0, 0), none, none, some (.aload_n 0, 1, 0, 0, 0, 0), some (.iconst 1, 1, 0, 0, 0, 1),
  some (.putfield 44, 3, 12, 4, 0, 0), none, none, some (.return_, 1, 0, 0, 0, 0)
  ])
def mi_X12_shapeOf : am_MI := (yX12_shapeOf, cX12_shapeOf, 1, (some FieldType.int), [
  some (.iload_n 0, 1, 0, 0, 0, 0), some (.bipush 111, 2, 0, 0, 0, 111), none, some (.if_icmp .ne 7, 3, 10, 0, 0, 0), none, none,
  some (.iconst 0, 1, 0, 0, 0, 0), some (.goto 54, 3, 61, 0, 0, 0), none, none, some (.iload_n 0, 1, 0, 0, 0, 0), some (.bipush 115, 2, 0, 0, 0, 115),
  none, some (.if_icmp .ne 7, 3, 20, 0, 0, 0), none, none, some (.iconst 1, 1, 0, 0, 0, 1), some (.goto 44, 3, 61, 0, 0, 0),
  none, none, some (.iload_n 0, 1, 0, 0, 0, 0), some (.bipush 104, 2, 0, 0, 0, 104), none, some (.if_icmp .ne 7, 3, 30, 0, 0, 0),
  none, none, some (.iconst 2, 1, 0, 0, 0, 2), some (.goto 34, 3, 61, 0, 0, 0), none, none,
  some (.iload_n 0, 1, 0, 0, 0, 0), some (.bipush 109, 2, 0, 0, 0, 109), none, some (.if_icmp .ne 7, 3, 40, 0, 0, 0), none, none,
  some (.iconst 3, 1, 0, 0, 0, 3), some (.goto 24, 3, 61, 0, 0, 0), none, none, some (.iload_n 0, 1, 0, 0, 0, 0), some (.bipush 108, 2, 0, 0, 0, 108),
  none, some (.if_icmp .ne 7, 3, 50, 0, 0, 0), none, none, some (.iconst 4, 1, 0, 0, 0, 4), some (.goto 14, 3, 61, 0, 0, 0),
  none, none, some (.iload_n 0, 1, 0, 0, 0, 0), some (.bipush 119, 2, 0, 0, 0, 119), none, some (.if_icmp .ne 7, 3, 60, 0, 0, 0),
  none, none, some (.iconst 5, 1, 0, 0, 0, 5), some (.goto 4, 3, 61, 0, 0, 0), none, none,
  some (.iconst (-1), 1, 0, 0, 0, -1), some (.ireturn, 1, 0, 0, 0, 0)
  ])
def mi_X12_argument : am_MI := (yX12_argument, cX12_argument, 2, (some FieldType.int), [
  some (.aload_n 0, 1, 0, 0, 0, 0), some (.invokevirtual 48, 3, 124, 0, 0, 12), none, none, some (.istore_n 1, 1, 1, 0, 0, 0), some (.aload_n 0, 1, 0, 0, 0, 0),
  some (.getfield 44, 3, 12, 4, 0, 0), none, none, some (.ifCond .ne 25, 3, 34, 0, 0, 0), none, none,
  some (.iload_n 1, 1, 1, 0, 0, 0), some (.bipush 97, 2, 0, 0, 0, 97), none, some (.bipush 100, 2, 0, 0, 0, 100), none, some (.invokestatic 34, 3, 119, 3, 0, 0),
  none, none, some (.ifCond .ne 21, 3, 41, 0, 0, 0), none, none, some (.iload_n 1, 1, 1, 0, 0, 0),
  some (.bipush 48, 2, 0, 0, 0, 48), none, some (.bipush 52, 2, 0, 0, 0, 52), none, some (.invokestatic 34, 3, 119, 3, 0, 0), none,
  none, some (.ifCond .ne 10, 3, 41, 0, 0, 0), none, none, some (.aload_n 0, 1, 0, 0, 0, 0), some (.iconst 1, 1, 0, 0, 0, 1),
  some (.putfield 44, 3, 12, 4, 0, 0), none, none, some (.iconst 0, 1, 0, 0, 0, 0), some (.ireturn, 1, 0, 0, 0, 0), some (.aload_n 0, 1, 0, 0, 0, 0),
  some (.dup, 1, 0, 0, 0, 0), some (.getfield 40, 3, 12, 3, 0, 0), none, none, some (.iconst 1, 1, 0, 0, 0, 1), some (.iadd, 1, 0, 0, 0, 0),
  some (.putfield 40, 3, 12, 3, 0, 0), none, none, some (.iload_n 1, 1, 1, 0, 0, 0), some (.bipush 97, 2, 0, 0, 0, 97), none,
  some (.if_icmp .lt 13, 3, 67, 0, 0, 0), none, none, some (.bipush 10, 2, 0, 0, 0, 10), none, some (.iload_n 1, 1, 1, 0, 0, 0),
  some (.iadd, 1, 0, 0, 0, 0), some (.bipush 97, 2, 0, 0, 0, 97), none, some (.isub, 1, 0, 0, 0, 0), some (.goto 7, 3, 71, 0, 0, 0), none,
  none, some (.iload_n 1, 1, 1, 0, 0, 0), some (.bipush 48, 2, 0, 0, 0, 48), none, some (.isub, 1, 0, 0, 0, 0), some (.ireturn, 1, 0, 0, 0, 0)
  ])
def mi_X12_term : am_MI := (yX12_term, cX12_term, 3, none, [
  some (.aload_n 0, 1, 0, 0, 0, 0), some (.invokevirtual 48, 3, 124, 0, 0, 12), none, none, some (.invokestatic 52, 3, 126, 1, 0, 0), none,
  none, some (.istore_n 2, 1, 2, 0, 0, 0), some (.aload_n 0, 1, 0, 0, 0, 0), some (.getfield 44, 3, 12, 4, 0, 0), none, none,
  some (.ifCond .ne 7, 3, 19, 0, 0, 0), none, none, some (.iload_n 2, 1, 2, 0, 0, 0), some (.ifCond .ge 9, 3, 25, 0, 0, 0), none,
  none, some (.aload_n 0, 1, 0, 0, 0, 0), some (.iconst 1, 1, 0, 0, 0, 1), some (.putfield 44, 3, 12, 4, 0, 0), none, none,
  some (.return_, 1, 0, 0, 0, 0), some (.aload_n 0, 1, 0, 0, 0, 0), some (.dup, 1, 0, 0, 0, 0), some (.getfield 40, 3, 12, 3, 0, 0), none, none,
  some (.iconst 1, 1, 0, 0, 0, 1), some (.iadd, 1, 0, 0, 0, 0), some (.putfield 40, 3, 12, 3, 0, 0), none, none, some (.aload_n 0, 1, 0, 0, 0, 0),
  some (.getfield 7, 3, 12, 0, 0, 0), none, none, some (.iload_n 1, 1, 1, 0, 0, 0), some (.iload_n 2, 1, 2, 0, 0, 0), some (.iastore, 1, 0, 0, 0, 0),
  some (.aload_n 0, 1, 0, 0, 0, 0), some (.bipush 40, 2, 0, 0, 0, 40), none, some (.invokevirtual 56, 3, 125, 1, 0, 12), none, none,
  some (.aload_n 0, 1, 0, 0, 0, 0), some (.getfield 7, 3, 12, 0, 0, 0), none, none, some (.iload_n 1, 1, 1, 0, 0, 0), some (.iconst 1, 1, 0, 0, 0, 1),
  some (.iadd, 1, 0, 0, 0, 0), some (.aload_n 0, 1, 0, 0, 0, 0), some (.invokevirtual 60, 3, 127, 0, 0, 12), none, none, some (.iastore, 1, 0, 0, 0, 0),
  some (.aload_n 0, 1, 0, 0, 0, 0), some (.bipush 44, 2, 0, 0, 0, 44), none, some (.invokevirtual 56, 3, 125, 1, 0, 12), none, none,
  some (.aload_n 0, 1, 0, 0, 0, 0), some (.getfield 7, 3, 12, 0, 0, 0), none, none, some (.iload_n 1, 1, 1, 0, 0, 0), some (.iconst 2, 1, 0, 0, 0, 2),
  some (.iadd, 1, 0, 0, 0, 0), some (.aload_n 0, 1, 0, 0, 0, 0), some (.invokevirtual 60, 3, 127, 0, 0, 12), none, none, some (.iastore, 1, 0, 0, 0, 0),
  some (.aload_n 0, 1, 0, 0, 0, 0), some (.bipush 44, 2, 0, 0, 0, 44), none, some (.invokevirtual 56, 3, 125, 1, 0, 12), none, none,
  some (.aload_n 0, 1, 0, 0, 0, 0), some (.getfield 7, 3, 12, 0, 0, 0), none, none, some (.iload_n 1, 1, 1, 0, 0, 0), some (.iconst 3, 1, 0, 0, 0, 3),
  some (.iadd, 1, 0, 0, 0, 0), some (.aload_n 0, 1, 0, 0, 0, 0), some (.invokevirtual 60, 3, 127, 0, 0, 12), none, none, some (.iastore, 1, 0, 0, 0, 0),
  some (.aload_n 0, 1, 0, 0, 0, 0), some (.bipush 41, 2, 0, 0, 0, 41), none, some (.invokevirtual 56, 3, 125, 1, 0, 12), none, none,
  some (.return_, 1, 0, 0, 0, 0)
  ])
def mi_X12_test : am_MI := (yX12_test, cX12_test, 3, none, [
  some (.aload_n 0, 1, 0, 0, 0, 0), some (.getfield 7, 3, 12, 0, 0, 0), none, none, some (.iload_n 1, 1, 1, 0, 0, 0), some (.aload_n 0, 1, 0, 0, 0, 0),
  some (.invokevirtual 60, 3, 127, 0, 0, 12), none, none, some (.iastore, 1, 0, 0, 0, 0), some (.aload_n 0, 1, 0, 0, 0, 0), some (.invokevirtual 48, 3, 124, 0, 0, 12),
  none, none, some (.istore_n 2, 1, 2, 0, 0, 0), some (.aload_n 0, 1, 0, 0, 0, 0), some (.getfield 44, 3, 12, 4, 0, 0), none,
  none, some (.ifCond .ne 21, 3, 40, 0, 0, 0), none, none, some (.iload_n 2, 1, 2, 0, 0, 0), some (.bipush 60, 2, 0, 0, 0, 60),
  none, some (.if_icmp .eq 21, 3, 46, 0, 0, 0), none, none, some (.iload_n 2, 1, 2, 0, 0, 0), some (.bipush 61, 2, 0, 0, 0, 61),
  none, some (.if_icmp .eq 15, 3, 46, 0, 0, 0), none, none, some (.iload_n 2, 1, 2, 0, 0, 0), some (.bipush 35, 2, 0, 0, 0, 35),
  none, some (.if_icmp .eq 9, 3, 46, 0, 0, 0), none, none, some (.aload_n 0, 1, 0, 0, 0, 0), some (.iconst 1, 1, 0, 0, 0, 1),
  some (.putfield 44, 3, 12, 4, 0, 0), none, none, some (.return_, 1, 0, 0, 0, 0), some (.aload_n 0, 1, 0, 0, 0, 0), some (.dup, 1, 0, 0, 0, 0),
  some (.getfield 40, 3, 12, 3, 0, 0), none, none, some (.iconst 1, 1, 0, 0, 0, 1), some (.iadd, 1, 0, 0, 0, 0), some (.putfield 40, 3, 12, 3, 0, 0),
  none, none, some (.aload_n 0, 1, 0, 0, 0, 0), some (.getfield 7, 3, 12, 0, 0, 0), none, none,
  some (.iload_n 1, 1, 1, 0, 0, 0), some (.iconst 1, 1, 0, 0, 0, 1), some (.iadd, 1, 0, 0, 0, 0), some (.iload_n 2, 1, 2, 0, 0, 0), some (.iastore, 1, 0, 0, 0, 0), some (.aload_n 0, 1, 0, 0, 0, 0),
  some (.getfield 7, 3, 12, 0, 0, 0), none, none, some (.iload_n 1, 1, 1, 0, 0, 0), some (.iconst 2, 1, 0, 0, 0, 2), some (.iadd, 1, 0, 0, 0, 0),
  some (.aload_n 0, 1, 0, 0, 0, 0), some (.invokevirtual 60, 3, 127, 0, 0, 12), none, none, some (.iastore, 1, 0, 0, 0, 0), some (.return_, 1, 0, 0, 0, 0)
  ])
def mi_X12_part : am_MI := (yX12_part, cX12_part, 2, none, [
  some (.aload_n 0, 1, 0, 0, 0, 0), some (.invokevirtual 48, 3, 124, 0, 0, 12), none, none, some (.invokestatic 52, 3, 126, 1, 0, 0), none,
  none, some (.ifCond .lt 42, 3, 49, 0, 0, 0), none, none, some (.aload_n 0, 1, 0, 0, 0, 0), some (.getfield 7, 3, 12, 0, 0, 0),
  none, none, some (.iload_n 1, 1, 1, 0, 0, 0), some (.iaload, 1, 0, 0, 0, 0), some (.iconst 3, 1, 0, 0, 0, 3), some (.if_icmp .ge 32, 3, 49, 0, 0, 0),
  none, none, some (.aload_n 0, 1, 0, 0, 0, 0), some (.iload_n 1, 1, 1, 0, 0, 0), some (.iconst 2, 1, 0, 0, 0, 2), some (.iadd, 1, 0, 0, 0, 0),
  some (.iconst 4, 1, 0, 0, 0, 4), some (.aload_n 0, 1, 0, 0, 0, 0), some (.getfield 7, 3, 12, 0, 0, 0), none, none, some (.iload_n 1, 1, 1, 0, 0, 0),
  some (.iaload, 1, 0, 0, 0, 0), some (.imul, 1, 0, 0, 0, 0), some (.iadd, 1, 0, 0, 0, 0), some (.invokevirtual 63, 3, 128, 1, 0, 12), none, none,
  some (.aload_n 0, 1, 0, 0, 0, 0), some (.getfield 7, 3, 12, 0, 0, 0), none, none, some (.iload_n 1, 1, 1, 0, 0, 0), some (.dup2, 1, 0, 0, 0, 0),
  some (.iaload, 1, 0, 0, 0, 0), some (.iconst 1, 1, 0, 0, 0, 1), some (.iadd, 1, 0, 0, 0, 0), some (.iastore, 1, 0, 0, 0, 0), some (.goto 68, 3, 114, 0, 0, 0), none,
  none, some (.aload_n 0, 1, 0, 0, 0, 0), some (.invokevirtual 48, 3, 124, 0, 0, 12), none, none, some (.bipush 97, 2, 0, 0, 0, 97),
  none, some (.bipush 100, 2, 0, 0, 0, 100), none, some (.invokestatic 34, 3, 119, 3, 0, 0), none, none,
  some (.ifCond .eq 49, 3, 109, 0, 0, 0), none, none, some (.aload_n 0, 1, 0, 0, 0, 0), some (.getfield 7, 3, 12, 0, 0, 0), none,
  none, some (.iload_n 1, 1, 1, 0, 0, 0), some (.iconst 1, 1, 0, 0, 0, 1), some (.iadd, 1, 0, 0, 0, 0), some (.iaload, 1, 0, 0, 0, 0), some (.iconst 4, 1, 0, 0, 0, 4),
  some (.if_icmp .ge 37, 3, 109, 0, 0, 0), none, none, some (.aload_n 0, 1, 0, 0, 0, 0), some (.iload_n 1, 1, 1, 0, 0, 0), some (.bipush 14, 2, 0, 0, 0, 14),
  none, some (.iadd, 1, 0, 0, 0, 0), some (.iconst 3, 1, 0, 0, 0, 3), some (.aload_n 0, 1, 0, 0, 0, 0), some (.getfield 7, 3, 12, 0, 0, 0), none,
  none, some (.iload_n 1, 1, 1, 0, 0, 0), some (.iconst 1, 1, 0, 0, 0, 1), some (.iadd, 1, 0, 0, 0, 0), some (.iaload, 1, 0, 0, 0, 0), some (.imul, 1, 0, 0, 0, 0),
  some (.iadd, 1, 0, 0, 0, 0), some (.invokevirtual 66, 3, 129, 1, 0, 12), none, none, some (.aload_n 0, 1, 0, 0, 0, 0), some (.getfield 7, 3, 12, 0, 0, 0),
  none, none, some (.iload_n 1, 1, 1, 0, 0, 0), some (.iconst 1, 1, 0, 0, 0, 1), some (.iadd, 1, 0, 0, 0, 0), some (.dup2, 1, 0, 0, 0, 0),
  some (.iaload, 1, 0, 0, 0, 0), some (.iconst 1, 1, 0, 0, 0, 1), some (.iadd, 1, 0, 0, 0, 0), some (.iastore, 1, 0, 0, 0, 0), some (.goto 8, 3, 114, 0, 0, 0), none,
  none, some (.aload_n 0, 1, 0, 0, 0, 0), some (.iconst 1, 1, 0, 0, 0, 1), some (.putfield 44, 3, 12, 4, 0, 0), none, none,
  some (.return_, 1, 0, 0, 0, 0)
  ])
def mi_X12_lettersIn : am_MI := (yX12_lettersIn, cX12_lettersIn, 5, (some FieldType.int), [
  some (.iconst 0, 1, 0, 0, 0, 0), some (.istore_n 3, 1, 3, 0, 0, 0), some (.iconst 0, 1, 0, 0, 0, 0), some (.istore 4, 2, 4, 0, 0, 0), none, some (.iload 4, 2, 4, 0, 0, 0),
  none, some (.iload_n 2, 1, 2, 0, 0, 0), some (.if_icmp .ge 44, 3, 52, 0, 0, 0), none, none, some (.iload_n 3, 1, 3, 0, 0, 0),
  some (.aload_n 0, 1, 0, 0, 0, 0), some (.getfield 7, 3, 12, 0, 0, 0), none, none, some (.iload_n 1, 1, 1, 0, 0, 0), some (.iload 4, 2, 4, 0, 0, 0),
  none, some (.iadd, 1, 0, 0, 0, 0), some (.iaload, 1, 0, 0, 0, 0), some (.bipush 10, 2, 0, 0, 0, 10), none, some (.if_icmp .lt 20, 3, 43, 0, 0, 0),
  none, none, some (.iconst 1, 1, 0, 0, 0, 1), some (.aload_n 0, 1, 0, 0, 0, 0), some (.getfield 7, 3, 12, 0, 0, 0), none,
  none, some (.iload_n 1, 1, 1, 0, 0, 0), some (.iload 4, 2, 4, 0, 0, 0), none, some (.iadd, 1, 0, 0, 0, 0), some (.iaload, 1, 0, 0, 0, 0),
  some (.bipush 10, 2, 0, 0, 0, 10), none, some (.isub, 1, 0, 0, 0, 0), some (.ishl, 1, 0, 0, 0, 0), some (.goto 4, 3, 44, 0, 0, 0), none,
  none, some (.iconst 0, 1, 0, 0, 0, 0), some (.ior, 1, 0, 0, 0, 0), some (.istore_n 3, 1, 3, 0, 0, 0), some (.iinc 4 1, 3, 4, 0, 0, 1), none,
  none, some (.goto (-44), 3, 5, 0, 0, 0), none, none, some (.iload_n 3, 1, 3, 0, 0, 0), some (.ireturn, 1, 0, 0, 0, 0)
  ])
def mi_X12_termLetters : am_MI := (yX12_termLetters, cX12_termLetters, 4, (some FieldType.int), [
  some (.iconst 0, 1, 0, 0, 0, 0), some (.istore_n 2, 1, 2, 0, 0, 0), some (.iconst 0, 1, 0, 0, 0, 0), some (.istore_n 3, 1, 3, 0, 0, 0), some (.iload_n 3, 1, 3, 0, 0, 0), some (.aload_n 0, 1, 0, 0, 0, 0),
  some (.getfield 7, 3, 12, 0, 0, 0), none, none, some (.iload_n 1, 1, 1, 0, 0, 0), some (.iaload, 1, 0, 0, 0, 0), some (.if_icmp .ge 24, 3, 35, 0, 0, 0),
  none, none, some (.iload_n 2, 1, 2, 0, 0, 0), some (.aload_n 0, 1, 0, 0, 0, 0), some (.iload_n 1, 1, 1, 0, 0, 0), some (.iconst 3, 1, 0, 0, 0, 3),
  some (.iadd, 1, 0, 0, 0, 0), some (.iconst 4, 1, 0, 0, 0, 4), some (.iload_n 3, 1, 3, 0, 0, 0), some (.imul, 1, 0, 0, 0, 0), some (.iadd, 1, 0, 0, 0, 0), some (.iconst 3, 1, 0, 0, 0, 3),
  some (.invokevirtual 69, 3, 131, 2, 0, 12), none, none, some (.ior, 1, 0, 0, 0, 0), some (.istore_n 2, 1, 2, 0, 0, 0), some (.iinc 3 1, 3, 3, 0, 0, 1),
  none, none, some (.goto (-28), 3, 4, 0, 0, 0), none, none, some (.iload_n 2, 1, 2, 0, 0, 0),
  some (.ireturn, 1, 0, 0, 0, 0)
  ])
def mi_X12_reads : am_MI := (yX12_reads, cX12_reads, 4, (some FieldType.int), [
  some (.sipush 1758, 3, 0, 0, 0, 1758), none, none, some (.bipush 30, 2, 0, 0, 0, 30), none, some (.aload_n 0, 1, 0, 0, 0, 0),
  some (.getfield 7, 3, 12, 0, 0, 0), none, none, some (.bipush 7, 2, 0, 0, 0, 7), none, some (.iaload, 1, 0, 0, 0, 0),
  some (.imul, 1, 0, 0, 0, 0), some (.iadd, 1, 0, 0, 0, 0), some (.istore_n 1, 1, 1, 0, 0, 0), some (.aload_n 0, 1, 0, 0, 0, 0), some (.iconst 0, 1, 0, 0, 0, 0), some (.putfield 40, 3, 12, 3, 0, 0),
  none, none, some (.aload_n 0, 1, 0, 0, 0, 0), some (.iconst 0, 1, 0, 0, 0, 0), some (.putfield 44, 3, 12, 4, 0, 0), none,
  none, some (.aload_n 0, 1, 0, 0, 0, 0), some (.getfield 7, 3, 12, 0, 0, 0), none, none, some (.iload_n 1, 1, 1, 0, 0, 0),
  some (.iconst 0, 1, 0, 0, 0, 0), some (.iastore, 1, 0, 0, 0, 0), some (.aload_n 0, 1, 0, 0, 0, 0), some (.getfield 7, 3, 12, 0, 0, 0), none, none,
  some (.iload_n 1, 1, 1, 0, 0, 0), some (.iconst 1, 1, 0, 0, 0, 1), some (.iadd, 1, 0, 0, 0, 0), some (.iconst 0, 1, 0, 0, 0, 0), some (.iastore, 1, 0, 0, 0, 0), some (.aload_n 0, 1, 0, 0, 0, 0),
  some (.iload_n 1, 1, 1, 0, 0, 0), some (.invokevirtual 73, 3, 130, 1, 0, 12), none, none, some (.aload_n 0, 1, 0, 0, 0, 0), some (.getfield 44, 3, 12, 4, 0, 0),
  none, none, some (.ifCond .ne 50, 3, 100, 0, 0, 0), none, none, some (.aload_n 0, 1, 0, 0, 0, 0),
  some (.invokevirtual 48, 3, 124, 0, 0, 12), none, none, some (.bipush 38, 2, 0, 0, 0, 38), none, some (.if_icmp .ne 41, 3, 100, 0, 0, 0),
  none, none, some (.aload_n 0, 1, 0, 0, 0, 0), some (.getfield 7, 3, 12, 0, 0, 0), none, none,
  some (.iload_n 1, 1, 1, 0, 0, 0), some (.iaload, 1, 0, 0, 0, 0), some (.aload_n 0, 1, 0, 0, 0, 0), some (.getfield 7, 3, 12, 0, 0, 0), none, none,
  some (.iload_n 1, 1, 1, 0, 0, 0), some (.iconst 1, 1, 0, 0, 0, 1), some (.iadd, 1, 0, 0, 0, 0), some (.iaload, 1, 0, 0, 0, 0), some (.iadd, 1, 0, 0, 0, 0), some (.bipush 7, 2, 0, 0, 0, 7),
  none, some (.if_icmp .ge 21, 3, 100, 0, 0, 0), none, none, some (.aload_n 0, 1, 0, 0, 0, 0), some (.dup, 1, 0, 0, 0, 0),
  some (.getfield 40, 3, 12, 3, 0, 0), none, none, some (.iconst 1, 1, 0, 0, 0, 1), some (.iadd, 1, 0, 0, 0, 0), some (.putfield 40, 3, 12, 3, 0, 0),
  none, none, some (.aload_n 0, 1, 0, 0, 0, 0), some (.iload_n 1, 1, 1, 0, 0, 0), some (.invokevirtual 73, 3, 130, 1, 0, 12), none,
  none, some (.goto (-51), 3, 46, 0, 0, 0), none, none, some (.aload_n 0, 1, 0, 0, 0, 0), some (.getfield 44, 3, 12, 4, 0, 0),
  none, none, some (.ifCond .ne 17, 3, 121, 0, 0, 0), none, none, some (.aload_n 0, 1, 0, 0, 0, 0),
  some (.getfield 7, 3, 12, 0, 0, 0), none, none, some (.iload_n 1, 1, 1, 0, 0, 0), some (.iaload, 1, 0, 0, 0, 0), some (.ifCond .ne 8, 3, 121, 0, 0, 0),
  none, none, some (.aload_n 0, 1, 0, 0, 0, 0), some (.iconst 1, 1, 0, 0, 0, 1), some (.putfield 44, 3, 12, 4, 0, 0), none,
  none, some (.aload_n 0, 1, 0, 0, 0, 0), some (.bipush 62, 2, 0, 0, 0, 62), none, some (.invokevirtual 56, 3, 125, 1, 0, 12), none,
  none, some (.aload_n 0, 1, 0, 0, 0, 0), some (.getfield 44, 3, 12, 4, 0, 0), none, none, some (.ifCond .ne 11, 3, 142, 0, 0, 0),
  none, none, some (.aload_n 0, 1, 0, 0, 0, 0), some (.iload_n 1, 1, 1, 0, 0, 0), some (.bipush 26, 2, 0, 0, 0, 26), none,
  some (.iadd, 1, 0, 0, 0, 0), some (.invokevirtual 63, 3, 128, 1, 0, 12), none, none, some (.aload_n 0, 1, 0, 0, 0, 0), some (.getfield 44, 3, 12, 4, 0, 0),
  none, none, some (.ifCond .ne 17, 3, 163, 0, 0, 0), none, none, some (.aload_n 0, 1, 0, 0, 0, 0),
  some (.getfield 40, 3, 12, 3, 0, 0), none, none, some (.aload_n 0, 1, 0, 0, 0, 0), some (.getfield 7, 3, 12, 0, 0, 0), none,
  none, some (.bipush 8, 2, 0, 0, 0, 8), none, some (.iaload, 1, 0, 0, 0, 0), some (.if_icmp .eq 8, 3, 168, 0, 0, 0), none,
  none, some (.aload_n 0, 1, 0, 0, 0, 0), some (.getfield 40, 3, 12, 3, 0, 0), none, none, some (.ireturn, 1, 0, 0, 0, 0),
  some (.aload_n 0, 1, 0, 0, 0, 0), some (.iload_n 1, 1, 1, 0, 0, 0), some (.bipush 27, 2, 0, 0, 0, 27), none, some (.iadd, 1, 0, 0, 0, 0), some (.iconst 3, 1, 0, 0, 0, 3),
  some (.invokevirtual 69, 3, 131, 2, 0, 12), none, none, some (.istore_n 2, 1, 2, 0, 0, 0), some (.iconst 0, 1, 0, 0, 0, 0), some (.istore_n 3, 1, 3, 0, 0, 0),
  some (.iload_n 3, 1, 3, 0, 0, 0), some (.aload_n 0, 1, 0, 0, 0, 0), some (.getfield 7, 3, 12, 0, 0, 0), none, none, some (.iload_n 1, 1, 1, 0, 0, 0),
  some (.iconst 1, 1, 0, 0, 0, 1), some (.iadd, 1, 0, 0, 0, 0), some (.iaload, 1, 0, 0, 0, 0), some (.if_icmp .ge 39, 3, 228, 0, 0, 0), none, none,
  some (.iload_n 2, 1, 2, 0, 0, 0), some (.aload_n 0, 1, 0, 0, 0, 0), some (.iload_n 1, 1, 1, 0, 0, 0), some (.bipush 14, 2, 0, 0, 0, 14), none, some (.iadd, 1, 0, 0, 0, 0),
  some (.iconst 3, 1, 0, 0, 0, 3), some (.iload_n 3, 1, 3, 0, 0, 0), some (.imul, 1, 0, 0, 0, 0), some (.iadd, 1, 0, 0, 0, 0), some (.iconst 1, 1, 0, 0, 0, 1), some (.invokevirtual 69, 3, 131, 2, 0, 12),
  none, none, some (.aload_n 0, 1, 0, 0, 0, 0), some (.iload_n 1, 1, 1, 0, 0, 0), some (.bipush 16, 2, 0, 0, 0, 16), none,
  some (.iadd, 1, 0, 0, 0, 0), some (.iconst 3, 1, 0, 0, 0, 3), some (.iload_n 3, 1, 3, 0, 0, 0), some (.imul, 1, 0, 0, 0, 0), some (.iadd, 1, 0, 0, 0, 0), some (.iconst 1, 1, 0, 0, 0, 1),
  some (.invokevirtual 69, 3, 131, 2, 0, 12), none, none, some (.ior, 1, 0, 0, 0, 0), some (.ior, 1, 0, 0, 0, 0), some (.istore_n 2, 1, 2, 0, 0, 0),
  some (.iinc 3 1, 3, 3, 0, 0, 1), none, none, some (.goto (-45), 3, 180, 0, 0, 0), none, none,
  some (.iload_n 2, 1, 2, 0, 0, 0), some (.aload_n 0, 1, 0, 0, 0, 0), some (.iload_n 1, 1, 1, 0, 0, 0), some (.invokevirtual 76, 3, 132, 1, 0, 12), none, none,
  some (.iconst (-1), 1, 0, 0, 0, -1), some (.ixor, 1, 0, 0, 0, 0), some (.iand, 1, 0, 0, 0, 0), some (.ifCond .eq 9, 3, 246, 0, 0, 0), none, none,
  some (.sipush 200, 3, 0, 0, 0, 200), none, none, some (.goto 4, 3, 247, 0, 0, 0), none, none,
  some (.iconst (-1), 1, 0, 0, 0, -1), some (.ireturn, 1, 0, 0, 0, 0)
  ])
def mi_X12_rule : am_MI := (yX12_rule, cX12_rule, 2, (some FieldType.int), [
  some (.aload_n 0, 1, 0, 0, 0, 0), some (.getfield 7, 3, 12, 0, 0, 0), none, none, some (.iconst 1, 1, 0, 0, 0, 1), some (.iaload, 1, 0, 0, 0, 0),
  some (.bipush 8, 2, 0, 0, 0, 8), none, some (.if_icmp .ne 6, 3, 14, 0, 0, 0), none, none, some (.bipush (-4), 2, 0, 0, 0, -4),
  none, some (.ireturn, 1, 0, 0, 0, 0), some (.aload_n 0, 1, 0, 0, 0, 0), some (.invokevirtual 79, 3, 133, 0, 0, 12), none, none,
  some (.istore_n 1, 1, 1, 0, 0, 0), some (.aload_n 0, 1, 0, 0, 0, 0), some (.getfield 7, 3, 12, 0, 0, 0), none, none, some (.bipush 8, 2, 0, 0, 0, 8),
  none, some (.iconst 0, 1, 0, 0, 0, 0), some (.iastore, 1, 0, 0, 0, 0), some (.iload_n 1, 1, 1, 0, 0, 0), some (.iconst (-1), 1, 0, 0, 0, -1), some (.if_icmp .eq 8, 3, 37, 0, 0, 0),
  none, none, some (.bipush (-10), 2, 0, 0, 0, -10), none, some (.iload_n 1, 1, 1, 0, 0, 0), some (.isub, 1, 0, 0, 0, 0),
  some (.ireturn, 1, 0, 0, 0, 0), some (.aload_n 0, 1, 0, 0, 0, 0), some (.getfield 7, 3, 12, 0, 0, 0), none, none, some (.bipush 10, 2, 0, 0, 0, 10),
  none, some (.aload_n 0, 1, 0, 0, 0, 0), some (.getfield 7, 3, 12, 0, 0, 0), none, none, some (.iconst 1, 1, 0, 0, 0, 1),
  some (.iaload, 1, 0, 0, 0, 0), some (.iadd, 1, 0, 0, 0, 0), some (.aload_n 0, 1, 0, 0, 0, 0), some (.getfield 7, 3, 12, 0, 0, 0), none, none,
  some (.bipush 7, 2, 0, 0, 0, 7), none, some (.iaload, 1, 0, 0, 0, 0), some (.iastore, 1, 0, 0, 0, 0), some (.aload_n 0, 1, 0, 0, 0, 0), some (.getfield 7, 3, 12, 0, 0, 0),
  none, none, some (.bipush 7, 2, 0, 0, 0, 7), none, some (.dup2, 1, 0, 0, 0, 0), some (.iaload, 1, 0, 0, 0, 0),
  some (.iconst 1, 1, 0, 0, 0, 1), some (.iadd, 1, 0, 0, 0, 0), some (.iastore, 1, 0, 0, 0, 0), some (.aload_n 0, 1, 0, 0, 0, 0), some (.getfield 7, 3, 12, 0, 0, 0), none,
  none, some (.iconst 1, 1, 0, 0, 0, 1), some (.dup2, 1, 0, 0, 0, 0), some (.iaload, 1, 0, 0, 0, 0), some (.iconst 1, 1, 0, 0, 0, 1), some (.iadd, 1, 0, 0, 0, 0),
  some (.iastore, 1, 0, 0, 0, 0), some (.aload_n 0, 1, 0, 0, 0, 0), some (.getfield 7, 3, 12, 0, 0, 0), none, none, some (.iconst 1, 1, 0, 0, 0, 1),
  some (.iaload, 1, 0, 0, 0, 0), some (.iconst 1, 1, 0, 0, 0, 1), some (.isub, 1, 0, 0, 0, 0), some (.ireturn, 1, 0, 0, 0, 0)
  ])
def mi_X12_isRule : am_MI := (yX12_isRule, cX12_isRule, 2, (some FieldType.boolean), [
  some (.iload_n 1, 1, 1, 0, 0, 0), some (.iconst 0, 1, 0, 0, 0, 0), some (.aload_n 0, 1, 0, 0, 0, 0), some (.getfield 7, 3, 12, 0, 0, 0), none, none,
  some (.iconst 1, 1, 0, 0, 0, 1), some (.iaload, 1, 0, 0, 0, 0), some (.iconst 1, 1, 0, 0, 0, 1), some (.isub, 1, 0, 0, 0, 0), some (.invokestatic 34, 3, 119, 3, 0, 0), none,
  none, some (.ireturn, 1, 0, 0, 0, 0)
  ])
def mi_X12_change : am_MI := (yX12_change, cX12_change, 4, (some FieldType.int), [
  some (.aload_n 0, 1, 0, 0, 0, 0), some (.iload_n 1, 1, 1, 0, 0, 0), some (.invokevirtual 82, 3, 135, 1, 0, 12), none, none, some (.ifCond .ne 5, 3, 10, 0, 0, 0),
  none, none, some (.iconst (-1), 1, 0, 0, 0, -1), some (.ireturn, 1, 0, 0, 0, 0), some (.iload_n 2, 1, 2, 0, 0, 0), some (.aload_n 0, 1, 0, 0, 0, 0),
  some (.getfield 7, 3, 12, 0, 0, 0), none, none, some (.iconst 0, 1, 0, 0, 0, 0), some (.iaload, 1, 0, 0, 0, 0), some (.sipush 999, 3, 0, 0, 0, 999),
  none, none, some (.invokestatic 34, 3, 119, 3, 0, 0), none, none, some (.ifCond .ne 6, 3, 29, 0, 0, 0),
  none, none, some (.bipush (-2), 2, 0, 0, 0, -2), none, some (.ireturn, 1, 0, 0, 0, 0), some (.aload_n 0, 1, 0, 0, 0, 0),
  some (.getfield 7, 3, 12, 0, 0, 0), none, none, some (.iconst 2, 1, 0, 0, 0, 2), some (.iaload, 1, 0, 0, 0, 0), some (.bipush 12, 2, 0, 0, 0, 12),
  none, some (.if_icmp .ne 6, 3, 43, 0, 0, 0), none, none, some (.bipush (-4), 2, 0, 0, 0, -4), none,
  some (.ireturn, 1, 0, 0, 0, 0), some (.aload_n 0, 1, 0, 0, 0, 0), some (.invokevirtual 79, 3, 133, 0, 0, 12), none, none, some (.istore_n 3, 1, 3, 0, 0, 0),
  some (.aload_n 0, 1, 0, 0, 0, 0), some (.getfield 7, 3, 12, 0, 0, 0), none, none, some (.bipush 8, 2, 0, 0, 0, 8), none,
  some (.iconst 0, 1, 0, 0, 0, 0), some (.iastore, 1, 0, 0, 0, 0), some (.iload_n 3, 1, 3, 0, 0, 0), some (.iconst (-1), 1, 0, 0, 0, -1), some (.if_icmp .eq 8, 3, 66, 0, 0, 0), none,
  none, some (.bipush (-10), 2, 0, 0, 0, -10), none, some (.iload_n 3, 1, 3, 0, 0, 0), some (.isub, 1, 0, 0, 0, 0), some (.ireturn, 1, 0, 0, 0, 0),
  some (.aload_n 0, 1, 0, 0, 0, 0), some (.getfield 7, 3, 12, 0, 0, 0), none, none, some (.bipush 18, 2, 0, 0, 0, 18), none,
  some (.aload_n 0, 1, 0, 0, 0, 0), some (.getfield 7, 3, 12, 0, 0, 0), none, none, some (.iconst 2, 1, 0, 0, 0, 2), some (.iaload, 1, 0, 0, 0, 0),
  some (.iadd, 1, 0, 0, 0, 0), some (.iload_n 1, 1, 1, 0, 0, 0), some (.iastore, 1, 0, 0, 0, 0), some (.aload_n 0, 1, 0, 0, 0, 0), some (.getfield 7, 3, 12, 0, 0, 0), none,
  none, some (.bipush 30, 2, 0, 0, 0, 30), none, some (.aload_n 0, 1, 0, 0, 0, 0), some (.getfield 7, 3, 12, 0, 0, 0), none,
  none, some (.iconst 2, 1, 0, 0, 0, 2), some (.iaload, 1, 0, 0, 0, 0), some (.iadd, 1, 0, 0, 0, 0), some (.iload_n 2, 1, 2, 0, 0, 0), some (.iastore, 1, 0, 0, 0, 0),
  some (.aload_n 0, 1, 0, 0, 0, 0), some (.getfield 7, 3, 12, 0, 0, 0), none, none, some (.bipush 42, 2, 0, 0, 0, 42), none,
  some (.aload_n 0, 1, 0, 0, 0, 0), some (.getfield 7, 3, 12, 0, 0, 0), none, none, some (.iconst 2, 1, 0, 0, 0, 2), some (.iaload, 1, 0, 0, 0, 0),
  some (.iadd, 1, 0, 0, 0, 0), some (.aload_n 0, 1, 0, 0, 0, 0), some (.getfield 7, 3, 12, 0, 0, 0), none, none, some (.bipush 7, 2, 0, 0, 0, 7),
  none, some (.iaload, 1, 0, 0, 0, 0), some (.iastore, 1, 0, 0, 0, 0), some (.aload_n 0, 1, 0, 0, 0, 0), some (.getfield 7, 3, 12, 0, 0, 0), none,
  none, some (.bipush 7, 2, 0, 0, 0, 7), none, some (.dup2, 1, 0, 0, 0, 0), some (.iaload, 1, 0, 0, 0, 0), some (.iconst 1, 1, 0, 0, 0, 1),
  some (.iadd, 1, 0, 0, 0, 0), some (.iastore, 1, 0, 0, 0, 0), some (.aload_n 0, 1, 0, 0, 0, 0), some (.getfield 7, 3, 12, 0, 0, 0), none, none,
  some (.iconst 2, 1, 0, 0, 0, 2), some (.dup2, 1, 0, 0, 0, 0), some (.iaload, 1, 0, 0, 0, 0), some (.iconst 1, 1, 0, 0, 0, 1), some (.iadd, 1, 0, 0, 0, 0), some (.iastore, 1, 0, 0, 0, 0),
  some (.aload_n 0, 1, 0, 0, 0, 0), some (.getfield 7, 3, 12, 0, 0, 0), none, none, some (.iconst 2, 1, 0, 0, 0, 2), some (.iaload, 1, 0, 0, 0, 0),
  some (.ireturn, 1, 0, 0, 0, 0)
  ])
def mi_X12_changeOn : am_MI := (yX12_changeOn, cX12_changeOn, 6, (some FieldType.int), [
  some (.bipush (-5), 2, 0, 0, 0, -5), none, some (.istore_n 3, 1, 3, 0, 0, 0), some (.iconst 0, 1, 0, 0, 0, 0), some (.istore 4, 2, 4, 0, 0, 0), none,
  some (.iload 4, 2, 4, 0, 0, 0), none, some (.aload_n 0, 1, 0, 0, 0, 0), some (.getfield 7, 3, 12, 0, 0, 0), none, none,
  some (.iconst 2, 1, 0, 0, 0, 2), some (.iaload, 1, 0, 0, 0, 0), some (.if_icmp .ge 82, 3, 96, 0, 0, 0), none, none, some (.aload_n 0, 1, 0, 0, 0, 0),
  some (.getfield 7, 3, 12, 0, 0, 0), none, none, some (.bipush 18, 2, 0, 0, 0, 18), none, some (.iload 4, 2, 4, 0, 0, 0),
  none, some (.iadd, 1, 0, 0, 0, 0), some (.iaload, 1, 0, 0, 0, 0), some (.iload_n 1, 1, 1, 0, 0, 0), some (.if_icmp .ne 21, 3, 49, 0, 0, 0), none,
  none, some (.aload_n 0, 1, 0, 0, 0, 0), some (.getfield 7, 3, 12, 0, 0, 0), none, none, some (.bipush 30, 2, 0, 0, 0, 30),
  none, some (.iload 4, 2, 4, 0, 0, 0), none, some (.iadd, 1, 0, 0, 0, 0), some (.iaload, 1, 0, 0, 0, 0), some (.iload_n 2, 1, 2, 0, 0, 0),
  some (.if_icmp .gt 7, 3, 49, 0, 0, 0), none, none, some (.iconst 1, 1, 0, 0, 0, 1), some (.goto 4, 3, 50, 0, 0, 0), none,
  none, some (.iconst 0, 1, 0, 0, 0, 0), some (.istore 5, 2, 5, 0, 0, 0), none, some (.iload 5, 2, 5, 0, 0, 0), none,
  some (.ifCond .eq 34, 3, 88, 0, 0, 0), none, none, some (.iload_n 3, 1, 3, 0, 0, 0), some (.ifCond .lt 25, 3, 83, 0, 0, 0), none,
  none, some (.aload_n 0, 1, 0, 0, 0, 0), some (.getfield 7, 3, 12, 0, 0, 0), none, none, some (.bipush 30, 2, 0, 0, 0, 30),
  none, some (.iload 4, 2, 4, 0, 0, 0), none, some (.iadd, 1, 0, 0, 0, 0), some (.iaload, 1, 0, 0, 0, 0), some (.aload_n 0, 1, 0, 0, 0, 0),
  some (.getfield 7, 3, 12, 0, 0, 0), none, none, some (.bipush 30, 2, 0, 0, 0, 30), none, some (.iload_n 3, 1, 3, 0, 0, 0),
  some (.iadd, 1, 0, 0, 0, 0), some (.iaload, 1, 0, 0, 0, 0), some (.if_icmp .lt 8, 3, 88, 0, 0, 0), none, none, some (.iload 4, 2, 4, 0, 0, 0),
  none, some (.goto 4, 3, 89, 0, 0, 0), none, none, some (.iload_n 3, 1, 3, 0, 0, 0), some (.istore_n 3, 1, 3, 0, 0, 0),
  some (.iinc 4 1, 3, 4, 0, 0, 1), none, none, some (.goto (-87), 3, 6, 0, 0, 0), none, none,
  some (.iload_n 3, 1, 3, 0, 0, 0), some (.ireturn, 1, 0, 0, 0, 0)
  ])
def mi_X12_textOn : am_MI := (yX12_textOn, cX12_textOn, 4, (some FieldType.int), [
  some (.aload_n 0, 1, 0, 0, 0, 0), some (.iload_n 1, 1, 1, 0, 0, 0), some (.iload_n 2, 1, 2, 0, 0, 0), some (.invokevirtual 86, 3, 137, 2, 0, 12), none, none,
  some (.istore_n 3, 1, 3, 0, 0, 0), some (.sipush 1758, 3, 0, 0, 0, 1758), none, none, some (.bipush 30, 2, 0, 0, 0, 30), none,
  some (.iload_n 3, 1, 3, 0, 0, 0), some (.ifCond .ge 15, 3, 28, 0, 0, 0), none, none, some (.aload_n 0, 1, 0, 0, 0, 0), some (.getfield 7, 3, 12, 0, 0, 0),
  none, none, some (.bipush 10, 2, 0, 0, 0, 10), none, some (.iload_n 1, 1, 1, 0, 0, 0), some (.iadd, 1, 0, 0, 0, 0),
  some (.iaload, 1, 0, 0, 0, 0), some (.goto 12, 3, 37, 0, 0, 0), none, none, some (.aload_n 0, 1, 0, 0, 0, 0), some (.getfield 7, 3, 12, 0, 0, 0),
  none, none, some (.bipush 42, 2, 0, 0, 0, 42), none, some (.iload_n 3, 1, 3, 0, 0, 0), some (.iadd, 1, 0, 0, 0, 0),
  some (.iaload, 1, 0, 0, 0, 0), some (.imul, 1, 0, 0, 0, 0), some (.iadd, 1, 0, 0, 0, 0), some (.ireturn, 1, 0, 0, 0, 0)
  ])
def mi_X12_told : am_MI := (yX12_told, cX12_told, 4, (some FieldType.int), [
  some (.aload_n 0, 1, 0, 0, 0, 0), some (.iload_n 1, 1, 1, 0, 0, 0), some (.invokevirtual 82, 3, 135, 1, 0, 12), none, none, some (.ifCond .eq 12, 3, 17, 0, 0, 0),
  none, none, some (.iload_n 3, 1, 3, 0, 0, 0), some (.iconst 0, 1, 0, 0, 0, 0), some (.iconst 2, 1, 0, 0, 0, 2), some (.invokestatic 34, 3, 119, 3, 0, 0),
  none, none, some (.ifCond .ne 5, 3, 19, 0, 0, 0), none, none, some (.iconst (-1), 1, 0, 0, 0, -1),
  some (.ireturn, 1, 0, 0, 0, 0), some (.iload_n 2, 1, 2, 0, 0, 0), some (.invokestatic 89, 3, 120, 1, 0, 0), none, none, some (.ifCond .ne 6, 3, 29, 0, 0, 0),
  none, none, some (.bipush (-2), 2, 0, 0, 0, -2), none, some (.ireturn, 1, 0, 0, 0, 0), some (.iload_n 3, 1, 3, 0, 0, 0),
  some (.iconst 2, 1, 0, 0, 0, 2), some (.if_icmp .ne 12, 3, 43, 0, 0, 0), none, none, some (.aload_n 0, 1, 0, 0, 0, 0), some (.iload_n 1, 1, 1, 0, 0, 0),
  some (.iload_n 2, 1, 2, 0, 0, 0), some (.invokevirtual 86, 3, 137, 2, 0, 12), none, none, some (.goto 16, 3, 56, 0, 0, 0), none,
  none, some (.aload_n 0, 1, 0, 0, 0, 0), some (.getfield 7, 3, 12, 0, 0, 0), none, none, some (.aload_n 0, 1, 0, 0, 0, 0),
  some (.iload_n 1, 1, 1, 0, 0, 0), some (.iload_n 2, 1, 2, 0, 0, 0), some (.invokevirtual 92, 3, 138, 2, 0, 12), none, none, some (.iload_n 3, 1, 3, 0, 0, 0),
  some (.iadd, 1, 0, 0, 0, 0), some (.iaload, 1, 0, 0, 0, 0), some (.ireturn, 1, 0, 0, 0, 0)
  ])
def mi_X12_paper : am_MI := (yX12_paper, cX12_paper, 3, (some FieldType.int), [
  some (.iload_n 2, 1, 2, 0, 0, 0), some (.iconst 0, 1, 0, 0, 0, 0), some (.iconst 4, 1, 0, 0, 0, 4), some (.invokestatic 34, 3, 119, 3, 0, 0), none, none,
  some (.ifCond .ne 5, 3, 11, 0, 0, 0), none, none, some (.iconst (-1), 1, 0, 0, 0, -1), some (.ireturn, 1, 0, 0, 0, 0), some (.iload_n 1, 1, 1, 0, 0, 0),
  some (.invokestatic 95, 3, 121, 1, 0, 0), none, none, some (.ifCond .ne 6, 3, 21, 0, 0, 0), none, none,
  some (.bipush (-2), 2, 0, 0, 0, -2), none, some (.ireturn, 1, 0, 0, 0, 0), some (.aload_n 0, 1, 0, 0, 0, 0), some (.getfield 7, 3, 12, 0, 0, 0), none,
  none, some (.iconst 3, 1, 0, 0, 0, 3), some (.iaload, 1, 0, 0, 0, 0), some (.bipush 20, 2, 0, 0, 0, 20), none, some (.if_icmp .ne 6, 3, 35, 0, 0, 0),
  none, none, some (.bipush (-4), 2, 0, 0, 0, -4), none, some (.ireturn, 1, 0, 0, 0, 0), some (.aload_n 0, 1, 0, 0, 0, 0),
  some (.getfield 7, 3, 12, 0, 0, 0), none, none, some (.bipush 54, 2, 0, 0, 0, 54), none, some (.aload_n 0, 1, 0, 0, 0, 0),
  some (.getfield 7, 3, 12, 0, 0, 0), none, none, some (.iconst 3, 1, 0, 0, 0, 3), some (.iaload, 1, 0, 0, 0, 0), some (.iadd, 1, 0, 0, 0, 0),
  some (.iload_n 1, 1, 1, 0, 0, 0), some (.iastore, 1, 0, 0, 0, 0), some (.aload_n 0, 1, 0, 0, 0, 0), some (.getfield 7, 3, 12, 0, 0, 0), none, none,
  some (.bipush 74, 2, 0, 0, 0, 74), none, some (.aload_n 0, 1, 0, 0, 0, 0), some (.getfield 7, 3, 12, 0, 0, 0), none, none,
  some (.iconst 3, 1, 0, 0, 0, 3), some (.iaload, 1, 0, 0, 0, 0), some (.iadd, 1, 0, 0, 0, 0), some (.iload_n 2, 1, 2, 0, 0, 0), some (.iastore, 1, 0, 0, 0, 0), some (.aload_n 0, 1, 0, 0, 0, 0),
  some (.getfield 7, 3, 12, 0, 0, 0), none, none, some (.bipush 94, 2, 0, 0, 0, 94), none, some (.aload_n 0, 1, 0, 0, 0, 0),
  some (.getfield 7, 3, 12, 0, 0, 0), none, none, some (.iconst 3, 1, 0, 0, 0, 3), some (.iaload, 1, 0, 0, 0, 0), some (.iadd, 1, 0, 0, 0, 0),
  some (.iconst 0, 1, 0, 0, 0, 0), some (.iastore, 1, 0, 0, 0, 0), some (.aload_n 0, 1, 0, 0, 0, 0), some (.getfield 7, 3, 12, 0, 0, 0), none, none,
  some (.iconst 3, 1, 0, 0, 0, 3), some (.dup2, 1, 0, 0, 0, 0), some (.iaload, 1, 0, 0, 0, 0), some (.iconst 1, 1, 0, 0, 0, 1), some (.iadd, 1, 0, 0, 0, 0), some (.iastore, 1, 0, 0, 0, 0),
  some (.aload_n 0, 1, 0, 0, 0, 0), some (.getfield 7, 3, 12, 0, 0, 0), none, none, some (.iconst 3, 1, 0, 0, 0, 3), some (.iaload, 1, 0, 0, 0, 0),
  some (.iconst 1, 1, 0, 0, 0, 1), some (.isub, 1, 0, 0, 0, 0), some (.ireturn, 1, 0, 0, 0, 0)
  ])
def mi_X12_isPaper : am_MI := (yX12_isPaper, cX12_isPaper, 2, (some FieldType.boolean), [
  some (.iload_n 1, 1, 1, 0, 0, 0), some (.iconst 0, 1, 0, 0, 0, 0), some (.aload_n 0, 1, 0, 0, 0, 0), some (.getfield 7, 3, 12, 0, 0, 0), none, none,
  some (.iconst 3, 1, 0, 0, 0, 3), some (.iaload, 1, 0, 0, 0, 0), some (.iconst 1, 1, 0, 0, 0, 1), some (.isub, 1, 0, 0, 0, 0), some (.invokestatic 34, 3, 119, 3, 0, 0), none,
  none, some (.ireturn, 1, 0, 0, 0, 0)
  ])
def mi_X12_shown : am_MI := (yX12_shown, cX12_shown, 4, (some FieldType.int), [
  some (.aload_n 0, 1, 0, 0, 0, 0), some (.iload_n 1, 1, 1, 0, 0, 0), some (.invokevirtual 98, 3, 141, 1, 0, 12), none, none, some (.ifCond .ne 5, 3, 10, 0, 0, 0),
  none, none, some (.iconst (-1), 1, 0, 0, 0, -1), some (.ireturn, 1, 0, 0, 0, 0), some (.aload_n 0, 1, 0, 0, 0, 0), some (.getfield 7, 3, 12, 0, 0, 0),
  none, none, some (.bipush 94, 2, 0, 0, 0, 94), none, some (.iload_n 1, 1, 1, 0, 0, 0), some (.iadd, 1, 0, 0, 0, 0),
  some (.iaload, 1, 0, 0, 0, 0), some (.istore_n 3, 1, 3, 0, 0, 0), some (.aload_n 0, 1, 0, 0, 0, 0), some (.getfield 7, 3, 12, 0, 0, 0), none, none,
  some (.bipush 94, 2, 0, 0, 0, 94), none, some (.iload_n 1, 1, 1, 0, 0, 0), some (.iadd, 1, 0, 0, 0, 0), some (.iload_n 2, 1, 2, 0, 0, 0), some (.ifCond .eq 7, 3, 36, 0, 0, 0),
  none, none, some (.iconst 1, 1, 0, 0, 0, 1), some (.goto 4, 3, 37, 0, 0, 0), none, none,
  some (.iconst 0, 1, 0, 0, 0, 0), some (.iastore, 1, 0, 0, 0, 0), some (.iload_n 3, 1, 3, 0, 0, 0), some (.ireturn, 1, 0, 0, 0, 0)
  ])
def mi_X12_of : am_MI := (yX12_of, cX12_of, 3, (some FieldType.int), [
  some (.aload_n 0, 1, 0, 0, 0, 0), some (.iload_n 1, 1, 1, 0, 0, 0), some (.invokevirtual 98, 3, 141, 1, 0, 12), none, none, some (.ifCond .eq 29, 3, 34, 0, 0, 0),
  none, none, some (.iload_n 2, 1, 2, 0, 0, 0), some (.iconst 0, 1, 0, 0, 0, 0), some (.iconst 2, 1, 0, 0, 0, 2), some (.invokestatic 34, 3, 119, 3, 0, 0),
  none, none, some (.ifCond .eq 20, 3, 34, 0, 0, 0), none, none, some (.aload_n 0, 1, 0, 0, 0, 0),
  some (.getfield 7, 3, 12, 0, 0, 0), none, none, some (.bipush 54, 2, 0, 0, 0, 54), none, some (.bipush 20, 2, 0, 0, 0, 20),
  none, some (.iload_n 2, 1, 2, 0, 0, 0), some (.imul, 1, 0, 0, 0, 0), some (.iadd, 1, 0, 0, 0, 0), some (.iload_n 1, 1, 1, 0, 0, 0), some (.iadd, 1, 0, 0, 0, 0),
  some (.iaload, 1, 0, 0, 0, 0), some (.goto 4, 3, 35, 0, 0, 0), none, none, some (.iconst (-1), 1, 0, 0, 0, -1), some (.ireturn, 1, 0, 0, 0, 0)
  ])
def mi_X12_sets : am_MI := (yX12_sets, cX12_sets, 2, none, [
  some (.aload_n 0, 1, 0, 0, 0, 0), some (.getfield 22, 3, 12, 7, 0, 0), none, none, some (.iconst 0, 1, 0, 0, 0, 0), some (.iload_n 1, 1, 1, 0, 0, 0),
  some (.bipush 125, 2, 0, 0, 0, 125), none, some (.idiv, 1, 0, 0, 0, 0), some (.iastore, 1, 0, 0, 0, 0), some (.aload_n 0, 1, 0, 0, 0, 0), some (.getfield 22, 3, 12, 7, 0, 0),
  none, none, some (.iconst 1, 1, 0, 0, 0, 1), some (.iload_n 1, 1, 1, 0, 0, 0), some (.bipush 25, 2, 0, 0, 0, 25), none,
  some (.idiv, 1, 0, 0, 0, 0), some (.iconst 5, 1, 0, 0, 0, 5), some (.irem, 1, 0, 0, 0, 0), some (.iastore, 1, 0, 0, 0, 0), some (.aload_n 0, 1, 0, 0, 0, 0), some (.getfield 22, 3, 12, 7, 0, 0),
  none, none, some (.iconst 2, 1, 0, 0, 0, 2), some (.iload_n 1, 1, 1, 0, 0, 0), some (.iconst 5, 1, 0, 0, 0, 5), some (.idiv, 1, 0, 0, 0, 0),
  some (.iconst 5, 1, 0, 0, 0, 5), some (.irem, 1, 0, 0, 0, 0), some (.iastore, 1, 0, 0, 0, 0), some (.aload_n 0, 1, 0, 0, 0, 0), some (.getfield 22, 3, 12, 7, 0, 0), none,
  none, some (.iconst 3, 1, 0, 0, 0, 3), some (.iload_n 1, 1, 1, 0, 0, 0), some (.iconst 5, 1, 0, 0, 0, 5), some (.irem, 1, 0, 0, 0, 0), some (.iastore, 1, 0, 0, 0, 0),
  some (.return_, 1, 0, 0, 0, 0)
  ])
def mi_X12_value : am_MI := (yX12_value, cX12_value, 2, (some FieldType.int), [
  some (.iload_n 1, 1, 1, 0, 0, 0), some (.bipush 10, 2, 0, 0, 0, 10), none, some (.if_icmp .lt 15, 3, 18, 0, 0, 0), none, none,
  some (.aload_n 0, 1, 0, 0, 0, 0), some (.getfield 22, 3, 12, 7, 0, 0), none, none, some (.iload_n 1, 1, 1, 0, 0, 0), some (.bipush 10, 2, 0, 0, 0, 10),
  none, some (.isub, 1, 0, 0, 0, 0), some (.iaload, 1, 0, 0, 0, 0), some (.goto 4, 3, 19, 0, 0, 0), none, none,
  some (.iload_n 1, 1, 1, 0, 0, 0), some (.ireturn, 1, 0, 0, 0, 0)
  ])
def mi_X12_factAt : am_MI := (yX12_factAt, cX12_factAt, 2, (some FieldType.int), [
  some (.bipush 125, 2, 0, 0, 0, 125), none, some (.aload_n 0, 1, 0, 0, 0, 0), some (.getfield 7, 3, 12, 0, 0, 0), none, none,
  some (.iload_n 1, 1, 1, 0, 0, 0), some (.iaload, 1, 0, 0, 0, 0), some (.imul, 1, 0, 0, 0, 0), some (.bipush 25, 2, 0, 0, 0, 25), none, some (.aload_n 0, 1, 0, 0, 0, 0),
  some (.aload_n 0, 1, 0, 0, 0, 0), some (.getfield 7, 3, 12, 0, 0, 0), none, none, some (.iload_n 1, 1, 1, 0, 0, 0), some (.iconst 1, 1, 0, 0, 0, 1),
  some (.iadd, 1, 0, 0, 0, 0), some (.iaload, 1, 0, 0, 0, 0), some (.invokevirtual 101, 3, 145, 1, 0, 12), none, none, some (.imul, 1, 0, 0, 0, 0),
  some (.iadd, 1, 0, 0, 0, 0), some (.iconst 5, 1, 0, 0, 0, 5), some (.aload_n 0, 1, 0, 0, 0, 0), some (.aload_n 0, 1, 0, 0, 0, 0), some (.getfield 7, 3, 12, 0, 0, 0), none,
  none, some (.iload_n 1, 1, 1, 0, 0, 0), some (.iconst 2, 1, 0, 0, 0, 2), some (.iadd, 1, 0, 0, 0, 0), some (.iaload, 1, 0, 0, 0, 0), some (.invokevirtual 101, 3, 145, 1, 0, 12),
  none, none, some (.imul, 1, 0, 0, 0, 0), some (.iadd, 1, 0, 0, 0, 0), some (.aload_n 0, 1, 0, 0, 0, 0), some (.aload_n 0, 1, 0, 0, 0, 0),
  some (.getfield 7, 3, 12, 0, 0, 0), none, none, some (.iload_n 1, 1, 1, 0, 0, 0), some (.iconst 3, 1, 0, 0, 0, 3), some (.iadd, 1, 0, 0, 0, 0),
  some (.iaload, 1, 0, 0, 0, 0), some (.invokevirtual 101, 3, 145, 1, 0, 12), none, none, some (.iadd, 1, 0, 0, 0, 0), some (.ireturn, 1, 0, 0, 0, 0)
  ])
def mi_X12_testsHold : am_MI := (yX12_testsHold, cX12_testsHold, 6, (some FieldType.boolean), [
  some (.iconst 0, 1, 0, 0, 0, 0), some (.istore_n 2, 1, 2, 0, 0, 0), some (.iload_n 2, 1, 2, 0, 0, 0), some (.aload_n 0, 1, 0, 0, 0, 0), some (.getfield 7, 3, 12, 0, 0, 0), none,
  none, some (.iload_n 1, 1, 1, 0, 0, 0), some (.iconst 1, 1, 0, 0, 0, 1), some (.iadd, 1, 0, 0, 0, 0), some (.iaload, 1, 0, 0, 0, 0), some (.if_icmp .ge 101, 3, 112, 0, 0, 0),
  none, none, some (.aload_n 0, 1, 0, 0, 0, 0), some (.aload_n 0, 1, 0, 0, 0, 0), some (.getfield 7, 3, 12, 0, 0, 0), none,
  none, some (.iload_n 1, 1, 1, 0, 0, 0), some (.bipush 14, 2, 0, 0, 0, 14), none, some (.iadd, 1, 0, 0, 0, 0), some (.iconst 3, 1, 0, 0, 0, 3),
  some (.iload_n 2, 1, 2, 0, 0, 0), some (.imul, 1, 0, 0, 0, 0), some (.iadd, 1, 0, 0, 0, 0), some (.iaload, 1, 0, 0, 0, 0), some (.invokevirtual 101, 3, 145, 1, 0, 12), none,
  none, some (.istore_n 3, 1, 3, 0, 0, 0), some (.aload_n 0, 1, 0, 0, 0, 0), some (.aload_n 0, 1, 0, 0, 0, 0), some (.getfield 7, 3, 12, 0, 0, 0), none,
  none, some (.iload_n 1, 1, 1, 0, 0, 0), some (.bipush 16, 2, 0, 0, 0, 16), none, some (.iadd, 1, 0, 0, 0, 0), some (.iconst 3, 1, 0, 0, 0, 3),
  some (.iload_n 2, 1, 2, 0, 0, 0), some (.imul, 1, 0, 0, 0, 0), some (.iadd, 1, 0, 0, 0, 0), some (.iaload, 1, 0, 0, 0, 0), some (.invokevirtual 101, 3, 145, 1, 0, 12), none,
  none, some (.istore 4, 2, 4, 0, 0, 0), none, some (.aload_n 0, 1, 0, 0, 0, 0), some (.getfield 7, 3, 12, 0, 0, 0), none,
  none, some (.iload_n 1, 1, 1, 0, 0, 0), some (.bipush 15, 2, 0, 0, 0, 15), none, some (.iadd, 1, 0, 0, 0, 0), some (.iconst 3, 1, 0, 0, 0, 3),
  some (.iload_n 2, 1, 2, 0, 0, 0), some (.imul, 1, 0, 0, 0, 0), some (.iadd, 1, 0, 0, 0, 0), some (.iaload, 1, 0, 0, 0, 0), some (.istore 5, 2, 5, 0, 0, 0), none,
  some (.iload 5, 2, 5, 0, 0, 0), none, some (.bipush 60, 2, 0, 0, 0, 60), none, some (.if_icmp .ne 12, 3, 82, 0, 0, 0), none,
  none, some (.iload_n 3, 1, 3, 0, 0, 0), some (.iload 4, 2, 4, 0, 0, 0), none, some (.if_icmp .lt 30, 3, 106, 0, 0, 0), none,
  none, some (.goto 25, 3, 104, 0, 0, 0), none, none, some (.iload 5, 2, 5, 0, 0, 0), none,
  some (.bipush 61, 2, 0, 0, 0, 61), none, some (.if_icmp .ne 12, 3, 98, 0, 0, 0), none, none, some (.iload_n 3, 1, 3, 0, 0, 0),
  some (.iload 4, 2, 4, 0, 0, 0), none, some (.if_icmp .eq 14, 3, 106, 0, 0, 0), none, none, some (.goto 9, 3, 104, 0, 0, 0),
  none, none, some (.iload_n 3, 1, 3, 0, 0, 0), some (.iload 4, 2, 4, 0, 0, 0), none, some (.if_icmp .ne 5, 3, 106, 0, 0, 0),
  none, none, some (.iconst 0, 1, 0, 0, 0, 0), some (.ireturn, 1, 0, 0, 0, 0), some (.iinc 2 1, 3, 2, 0, 0, 1), none,
  none, some (.goto (-107), 3, 2, 0, 0, 0), none, none, some (.iconst 1, 1, 0, 0, 0, 1), some (.ireturn, 1, 0, 0, 0, 0)
  ])
def mi_X12_isPlain : am_MI := (yX12_isPlain, cX12_isPlain, 3, (some FieldType.boolean), [
  some (.iconst 0, 1, 0, 0, 0, 0), some (.istore_n 2, 1, 2, 0, 0, 0), some (.iload_n 2, 1, 2, 0, 0, 0), some (.iconst 4, 1, 0, 0, 0, 4), some (.if_icmp .ge 28, 3, 32, 0, 0, 0), none,
  none, some (.iload_n 1, 1, 1, 0, 0, 0), some (.iload_n 2, 1, 2, 0, 0, 0), some (.ishr, 1, 0, 0, 0, 0), some (.iconst 1, 1, 0, 0, 0, 1), some (.iand, 1, 0, 0, 0, 0),
  some (.ifCond .ne 14, 3, 26, 0, 0, 0), none, none, some (.aload_n 0, 1, 0, 0, 0, 0), some (.getfield 22, 3, 12, 7, 0, 0), none,
  none, some (.iload_n 2, 1, 2, 0, 0, 0), some (.iaload, 1, 0, 0, 0, 0), some (.ifCond .eq 5, 3, 26, 0, 0, 0), none, none,
  some (.iconst 0, 1, 0, 0, 0, 0), some (.ireturn, 1, 0, 0, 0, 0), some (.iinc 2 1, 3, 2, 0, 0, 1), none, none, some (.goto (-27), 3, 2, 0, 0, 0),
  none, none, some (.iconst 1, 1, 0, 0, 0, 1), some (.ireturn, 1, 0, 0, 0, 0)
  ])
def mi_X12_areBelow : am_MI := (yX12_areBelow, cX12_areBelow, 5, (some FieldType.boolean), [
  some (.iconst 0, 1, 0, 0, 0, 0), some (.istore_n 3, 1, 3, 0, 0, 0), some (.iload_n 3, 1, 3, 0, 0, 0), some (.aload_n 0, 1, 0, 0, 0, 0), some (.getfield 7, 3, 12, 0, 0, 0), none,
  none, some (.iload_n 1, 1, 1, 0, 0, 0), some (.iaload, 1, 0, 0, 0, 0), some (.if_icmp .ge 40, 3, 49, 0, 0, 0), none, none,
  some (.aload_n 0, 1, 0, 0, 0, 0), some (.getfield 16, 3, 12, 5, 0, 0), none, none, some (.aload_n 0, 1, 0, 0, 0, 0), some (.iload_n 1, 1, 1, 0, 0, 0),
  some (.iconst 2, 1, 0, 0, 0, 2), some (.iadd, 1, 0, 0, 0, 0), some (.iconst 4, 1, 0, 0, 0, 4), some (.iload_n 3, 1, 3, 0, 0, 0), some (.imul, 1, 0, 0, 0, 0), some (.iadd, 1, 0, 0, 0, 0),
  some (.invokevirtual 104, 3, 146, 1, 0, 12), none, none, some (.iaload, 1, 0, 0, 0, 0), some (.istore 4, 2, 4, 0, 0, 0), none,
  some (.iload 4, 2, 4, 0, 0, 0), none, some (.ifCond .lt 9, 3, 41, 0, 0, 0), none, none, some (.iload 4, 2, 4, 0, 0, 0),
  none, some (.iload_n 2, 1, 2, 0, 0, 0), some (.if_icmp .lt 5, 3, 43, 0, 0, 0), none, none, some (.iconst 0, 1, 0, 0, 0, 0),
  some (.ireturn, 1, 0, 0, 0, 0), some (.iinc 3 1, 3, 3, 0, 0, 1), none, none, some (.goto (-44), 3, 2, 0, 0, 0), none,
  none, some (.iconst 1, 1, 0, 0, 0, 1), some (.ireturn, 1, 0, 0, 0, 0)
  ])
def mi_X12_begins : am_MI := (yX12_begins, cX12_begins, 2, none, [
  some (.iconst 0, 1, 0, 0, 0, 0), some (.istore_n 1, 1, 1, 0, 0, 0), some (.iload_n 1, 1, 1, 0, 0, 0), some (.sipush 750, 3, 0, 0, 0, 750), none, none,
  some (.if_icmp .ge 24, 3, 30, 0, 0, 0), none, none, some (.aload_n 0, 1, 0, 0, 0, 0), some (.getfield 16, 3, 12, 5, 0, 0), none,
  none, some (.iload_n 1, 1, 1, 0, 0, 0), some (.iconst (-1), 1, 0, 0, 0, -1), some (.iastore, 1, 0, 0, 0, 0), some (.aload_n 0, 1, 0, 0, 0, 0), some (.getfield 19, 3, 12, 6, 0, 0),
  none, none, some (.iload_n 1, 1, 1, 0, 0, 0), some (.ldc 107, 2, 0, 0, 0, 100000), none, some (.iastore, 1, 0, 0, 0, 0),
  some (.iinc 1 1, 3, 1, 0, 0, 1), none, none, some (.goto (-25), 3, 2, 0, 0, 0), none, none,
  some (.iconst 0, 1, 0, 0, 0, 0), some (.istore_n 1, 1, 1, 0, 0, 0), some (.iload_n 1, 1, 1, 0, 0, 0), some (.aload_n 0, 1, 0, 0, 0, 0), some (.getfield 7, 3, 12, 0, 0, 0), none,
  none, some (.iconst 3, 1, 0, 0, 0, 3), some (.iaload, 1, 0, 0, 0, 0), some (.if_icmp .ge 51, 3, 90, 0, 0, 0), none, none,
  some (.aload_n 0, 1, 0, 0, 0, 0), some (.getfield 7, 3, 12, 0, 0, 0), none, none, some (.bipush 94, 2, 0, 0, 0, 94), none,
  some (.iload_n 1, 1, 1, 0, 0, 0), some (.iadd, 1, 0, 0, 0, 0), some (.iaload, 1, 0, 0, 0, 0), some (.ifCond .ne 33, 3, 84, 0, 0, 0), none, none,
  some (.aload_n 0, 1, 0, 0, 0, 0), some (.getfield 16, 3, 12, 5, 0, 0), none, none, some (.aload_n 0, 1, 0, 0, 0, 0), some (.getfield 7, 3, 12, 0, 0, 0),
  none, none, some (.bipush 54, 2, 0, 0, 0, 54), none, some (.iload_n 1, 1, 1, 0, 0, 0), some (.iadd, 1, 0, 0, 0, 0),
  some (.iaload, 1, 0, 0, 0, 0), some (.iconst 0, 1, 0, 0, 0, 0), some (.iastore, 1, 0, 0, 0, 0), some (.aload_n 0, 1, 0, 0, 0, 0), some (.getfield 19, 3, 12, 6, 0, 0), none,
  none, some (.aload_n 0, 1, 0, 0, 0, 0), some (.getfield 7, 3, 12, 0, 0, 0), none, none, some (.bipush 54, 2, 0, 0, 0, 54),
  none, some (.iload_n 1, 1, 1, 0, 0, 0), some (.iadd, 1, 0, 0, 0, 0), some (.iaload, 1, 0, 0, 0, 0), some (.iconst 1, 1, 0, 0, 0, 1), some (.iastore, 1, 0, 0, 0, 0),
  some (.iinc 1 1, 3, 1, 0, 0, 1), none, none, some (.goto (-55), 3, 32, 0, 0, 0), none, none,
  some (.return_, 1, 0, 0, 0, 0)
  ])
def mi_X12_works : am_MI := (yX12_works, cX12_works, 8, none, [
  some (.aload_n 0, 1, 0, 0, 0, 0), some (.invokevirtual 108, 3, 150, 0, 0, 12), none, none, some (.iconst 1, 1, 0, 0, 0, 1), some (.istore_n 2, 1, 2, 0, 0, 0),
  some (.iconst 1, 1, 0, 0, 0, 1), some (.istore_n 3, 1, 3, 0, 0, 0), some (.iload_n 2, 1, 2, 0, 0, 0), some (.ifCond .eq 133, 3, 142, 0, 0, 0), none, none,
  some (.iconst 0, 1, 0, 0, 0, 0), some (.istore_n 2, 1, 2, 0, 0, 0), some (.iconst 0, 1, 0, 0, 0, 0), some (.istore 4, 2, 4, 0, 0, 0), none, some (.iload 4, 2, 4, 0, 0, 0),
  none, some (.aload_n 0, 1, 0, 0, 0, 0), some (.getfield 7, 3, 12, 0, 0, 0), none, none, some (.iconst 1, 1, 0, 0, 0, 1),
  some (.iaload, 1, 0, 0, 0, 0), some (.if_icmp .ge 111, 3, 136, 0, 0, 0), none, none, some (.aload_n 0, 1, 0, 0, 0, 0), some (.iload 4, 2, 4, 0, 0, 0),
  none, some (.iload_n 1, 1, 1, 0, 0, 0), some (.invokevirtual 92, 3, 138, 2, 0, 12), none, none, some (.istore 5, 2, 5, 0, 0, 0),
  none, some (.aload_n 0, 1, 0, 0, 0, 0), some (.iload 5, 2, 5, 0, 0, 0), none, some (.invokevirtual 76, 3, 132, 1, 0, 12), none,
  none, some (.istore 6, 2, 6, 0, 0, 0), none, some (.iconst 0, 1, 0, 0, 0, 0), some (.istore 7, 2, 7, 0, 0, 0), none,
  some (.iload 7, 2, 7, 0, 0, 0), none, some (.sipush 625, 3, 0, 0, 0, 625), none, none, some (.if_icmp .ge 77, 3, 130, 0, 0, 0),
  none, none, some (.aload_n 0, 1, 0, 0, 0, 0), some (.iload 7, 2, 7, 0, 0, 0), none, some (.invokevirtual 111, 3, 144, 1, 0, 12),
  none, none, some (.aload_n 0, 1, 0, 0, 0, 0), some (.iload 6, 2, 6, 0, 0, 0), none, some (.invokevirtual 114, 3, 148, 1, 0, 12),
  none, none, some (.ifCond .eq 56, 3, 124, 0, 0, 0), none, none, some (.aload_n 0, 1, 0, 0, 0, 0),
  some (.iload 5, 2, 5, 0, 0, 0), none, some (.iload_n 3, 1, 3, 0, 0, 0), some (.invokevirtual 117, 3, 149, 2, 0, 12), none, none,
  some (.ifCond .eq 46, 3, 124, 0, 0, 0), none, none, some (.aload_n 0, 1, 0, 0, 0, 0), some (.iload 5, 2, 5, 0, 0, 0), none,
  some (.invokevirtual 121, 3, 147, 1, 0, 12), none, none, some (.ifCond .eq 37, 3, 124, 0, 0, 0), none, none,
  some (.aload_n 0, 1, 0, 0, 0, 0), some (.getfield 16, 3, 12, 5, 0, 0), none, none, some (.aload_n 0, 1, 0, 0, 0, 0), some (.iload 5, 2, 5, 0, 0, 0),
  none, some (.bipush 26, 2, 0, 0, 0, 26), none, some (.iadd, 1, 0, 0, 0, 0), some (.invokevirtual 104, 3, 146, 1, 0, 12), none,
  none, some (.iaload, 1, 0, 0, 0, 0), some (.ifCond .ge 20, 3, 124, 0, 0, 0), none, none, some (.aload_n 0, 1, 0, 0, 0, 0),
  some (.getfield 16, 3, 12, 5, 0, 0), none, none, some (.aload_n 0, 1, 0, 0, 0, 0), some (.iload 5, 2, 5, 0, 0, 0), none,
  some (.bipush 26, 2, 0, 0, 0, 26), none, some (.iadd, 1, 0, 0, 0, 0), some (.invokevirtual 104, 3, 146, 1, 0, 12), none, none,
  some (.iload_n 3, 1, 3, 0, 0, 0), some (.iastore, 1, 0, 0, 0, 0), some (.iconst 1, 1, 0, 0, 0, 1), some (.istore_n 2, 1, 2, 0, 0, 0), some (.iinc 7 1, 3, 7, 0, 0, 1), none,
  none, some (.goto (-79), 3, 48, 0, 0, 0), none, none, some (.iinc 4 1, 3, 4, 0, 0, 1), none,
  none, some (.goto (-116), 3, 17, 0, 0, 0), none, none, some (.iinc 3 1, 3, 3, 0, 0, 1), none,
  none, some (.goto (-131), 3, 8, 0, 0, 0), none, none, some (.return_, 1, 0, 0, 0, 0)
  ])
def mi_X12_sizes : am_MI := (yX12_sizes, cX12_sizes, 9, none, [
  some (.iconst 1, 1, 0, 0, 0, 1), some (.istore_n 2, 1, 2, 0, 0, 0), some (.iload_n 2, 1, 2, 0, 0, 0), some (.ifCond .eq 175, 3, 178, 0, 0, 0), none, none,
  some (.iconst 0, 1, 0, 0, 0, 0), some (.istore_n 2, 1, 2, 0, 0, 0), some (.iconst 0, 1, 0, 0, 0, 0), some (.istore_n 3, 1, 3, 0, 0, 0), some (.iload_n 3, 1, 3, 0, 0, 0), some (.aload_n 0, 1, 0, 0, 0, 0),
  some (.getfield 7, 3, 12, 0, 0, 0), none, none, some (.iconst 1, 1, 0, 0, 0, 1), some (.iaload, 1, 0, 0, 0, 0), some (.if_icmp .ge 158, 3, 175, 0, 0, 0),
  none, none, some (.aload_n 0, 1, 0, 0, 0, 0), some (.iload_n 3, 1, 3, 0, 0, 0), some (.iload_n 1, 1, 1, 0, 0, 0), some (.invokevirtual 92, 3, 138, 2, 0, 12),
  none, none, some (.istore 4, 2, 4, 0, 0, 0), none, some (.aload_n 0, 1, 0, 0, 0, 0), some (.iload 4, 2, 4, 0, 0, 0),
  none, some (.invokevirtual 76, 3, 132, 1, 0, 12), none, none, some (.istore 5, 2, 5, 0, 0, 0), none,
  some (.iconst 0, 1, 0, 0, 0, 0), some (.istore 6, 2, 6, 0, 0, 0), none, some (.iload 6, 2, 6, 0, 0, 0), none, some (.sipush 625, 3, 0, 0, 0, 625),
  none, none, some (.if_icmp .ge 125, 3, 169, 0, 0, 0), none, none, some (.aload_n 0, 1, 0, 0, 0, 0),
  some (.iload 6, 2, 6, 0, 0, 0), none, some (.invokevirtual 111, 3, 144, 1, 0, 12), none, none, some (.aload_n 0, 1, 0, 0, 0, 0),
  some (.iload 5, 2, 5, 0, 0, 0), none, some (.invokevirtual 114, 3, 148, 1, 0, 12), none, none, some (.ifCond .eq 104, 3, 163, 0, 0, 0),
  none, none, some (.aload_n 0, 1, 0, 0, 0, 0), some (.iload 4, 2, 4, 0, 0, 0), none, some (.ldc 107, 2, 0, 0, 0, 100000),
  none, some (.invokevirtual 117, 3, 149, 2, 0, 12), none, none, some (.ifCond .eq 93, 3, 163, 0, 0, 0), none,
  none, some (.aload_n 0, 1, 0, 0, 0, 0), some (.iload 4, 2, 4, 0, 0, 0), none, some (.invokevirtual 121, 3, 147, 1, 0, 12), none,
  none, some (.ifCond .eq 84, 3, 163, 0, 0, 0), none, none, some (.iconst 1, 1, 0, 0, 0, 1), some (.istore 7, 2, 7, 0, 0, 0),
  none, some (.iconst 0, 1, 0, 0, 0, 0), some (.istore 8, 2, 8, 0, 0, 0), none, some (.iload 8, 2, 8, 0, 0, 0), none,
  some (.aload_n 0, 1, 0, 0, 0, 0), some (.getfield 7, 3, 12, 0, 0, 0), none, none, some (.iload 4, 2, 4, 0, 0, 0), none,
  some (.iaload, 1, 0, 0, 0, 0), some (.if_icmp .ge 32, 3, 129, 0, 0, 0), none, none, some (.iload 7, 2, 7, 0, 0, 0), none,
  some (.aload_n 0, 1, 0, 0, 0, 0), some (.getfield 19, 3, 12, 6, 0, 0), none, none, some (.aload_n 0, 1, 0, 0, 0, 0), some (.iload 4, 2, 4, 0, 0, 0),
  none, some (.iconst 2, 1, 0, 0, 0, 2), some (.iadd, 1, 0, 0, 0, 0), some (.iconst 4, 1, 0, 0, 0, 4), some (.iload 8, 2, 8, 0, 0, 0), none,
  some (.imul, 1, 0, 0, 0, 0), some (.iadd, 1, 0, 0, 0, 0), some (.invokevirtual 104, 3, 146, 1, 0, 12), none, none, some (.iaload, 1, 0, 0, 0, 0),
  some (.iadd, 1, 0, 0, 0, 0), some (.istore 7, 2, 7, 0, 0, 0), none, some (.iinc 8 1, 3, 8, 0, 0, 1), none, none,
  some (.goto (-38), 3, 88, 0, 0, 0), none, none, some (.aload_n 0, 1, 0, 0, 0, 0), some (.iload 4, 2, 4, 0, 0, 0), none,
  some (.bipush 26, 2, 0, 0, 0, 26), none, some (.iadd, 1, 0, 0, 0, 0), some (.invokevirtual 104, 3, 146, 1, 0, 12), none, none,
  some (.istore 8, 2, 8, 0, 0, 0), none, some (.iload 7, 2, 7, 0, 0, 0), none, some (.aload_n 0, 1, 0, 0, 0, 0), some (.getfield 19, 3, 12, 6, 0, 0),
  none, none, some (.iload 8, 2, 8, 0, 0, 0), none, some (.iaload, 1, 0, 0, 0, 0), some (.if_icmp .ge 14, 3, 163, 0, 0, 0),
  none, none, some (.aload_n 0, 1, 0, 0, 0, 0), some (.getfield 19, 3, 12, 6, 0, 0), none, none,
  some (.iload 8, 2, 8, 0, 0, 0), none, some (.iload 7, 2, 7, 0, 0, 0), none, some (.iastore, 1, 0, 0, 0, 0), some (.iconst 1, 1, 0, 0, 0, 1),
  some (.istore_n 2, 1, 2, 0, 0, 0), some (.iinc 6 1, 3, 6, 0, 0, 1), none, none, some (.goto (-127), 3, 39, 0, 0, 0), none,
  none, some (.iinc 3 1, 3, 3, 0, 0, 1), none, none, some (.goto (-162), 3, 10, 0, 0, 0), none,
  none, some (.goto (-173), 3, 2, 0, 0, 0), none, none, some (.return_, 1, 0, 0, 0, 0)
  ])
def mi_X12_followsOn : am_MI := (yX12_followsOn, cX12_followsOn, 3, (some FieldType.boolean), [
  some (.aload_n 0, 1, 0, 0, 0, 0), some (.iload_n 2, 1, 2, 0, 0, 0), some (.invokevirtual 124, 3, 151, 1, 0, 12), none, none, some (.aload_n 0, 1, 0, 0, 0, 0),
  some (.getfield 16, 3, 12, 5, 0, 0), none, none, some (.iload_n 1, 1, 1, 0, 0, 0), some (.iaload, 1, 0, 0, 0, 0), some (.ifCond .lt 7, 3, 18, 0, 0, 0),
  none, none, some (.iconst 1, 1, 0, 0, 0, 1), some (.goto 4, 3, 19, 0, 0, 0), none, none,
  some (.iconst 0, 1, 0, 0, 0, 0), some (.ireturn, 1, 0, 0, 0, 0)
  ])
def mi_X12_follows : am_MI := (yX12_follows, cX12_follows, 4, (some FieldType.int), [
  some (.iload_n 3, 1, 3, 0, 0, 0), some (.iconst 0, 1, 0, 0, 0, 0), some (.iconst 2, 1, 0, 0, 0, 2), some (.invokestatic 34, 3, 119, 3, 0, 0), none, none,
  some (.ifCond .ne 5, 3, 11, 0, 0, 0), none, none, some (.iconst (-1), 1, 0, 0, 0, -1), some (.ireturn, 1, 0, 0, 0, 0), some (.iload_n 1, 1, 1, 0, 0, 0),
  some (.invokestatic 95, 3, 121, 1, 0, 0), none, none, some (.ifCond .eq 10, 3, 25, 0, 0, 0), none, none,
  some (.iload_n 2, 1, 2, 0, 0, 0), some (.invokestatic 89, 3, 120, 1, 0, 0), none, none, some (.ifCond .ne 6, 3, 28, 0, 0, 0), none,
  none, some (.bipush (-2), 2, 0, 0, 0, -2), none, some (.ireturn, 1, 0, 0, 0, 0), some (.aload_n 0, 1, 0, 0, 0, 0), some (.iload_n 2, 1, 2, 0, 0, 0),
  some (.invokevirtual 124, 3, 151, 1, 0, 12), none, none, some (.iload_n 3, 1, 3, 0, 0, 0), some (.ifCond .eq 12, 3, 46, 0, 0, 0), none,
  none, some (.aload_n 0, 1, 0, 0, 0, 0), some (.getfield 16, 3, 12, 5, 0, 0), none, none, some (.iload_n 1, 1, 1, 0, 0, 0),
  some (.iaload, 1, 0, 0, 0, 0), some (.ifCond .ge 27, 3, 70, 0, 0, 0), none, none, some (.iload_n 3, 1, 3, 0, 0, 0), some (.ifCond .ne 20, 3, 67, 0, 0, 0),
  none, none, some (.aload_n 0, 1, 0, 0, 0, 0), some (.getfield 16, 3, 12, 5, 0, 0), none, none,
  some (.iload_n 1, 1, 1, 0, 0, 0), some (.iaload, 1, 0, 0, 0, 0), some (.ifCond .lt 7, 3, 63, 0, 0, 0), none, none, some (.iconst 1, 1, 0, 0, 0, 1),
  some (.goto 9, 3, 69, 0, 0, 0), none, none, some (.iconst 0, 1, 0, 0, 0, 0), some (.goto 5, 3, 69, 0, 0, 0), none,
  none, some (.bipush (-5), 2, 0, 0, 0, -5), none, some (.ireturn, 1, 0, 0, 0, 0), some (.iload_n 3, 1, 3, 0, 0, 0), some (.iconst 1, 1, 0, 0, 0, 1),
  some (.if_icmp .ne 10, 3, 82, 0, 0, 0), none, none, some (.aload_n 0, 1, 0, 0, 0, 0), some (.getfield 16, 3, 12, 5, 0, 0), none,
  none, some (.iload_n 1, 1, 1, 0, 0, 0), some (.iaload, 1, 0, 0, 0, 0), some (.ireturn, 1, 0, 0, 0, 0), some (.aload_n 0, 1, 0, 0, 0, 0), some (.iload_n 2, 1, 2, 0, 0, 0),
  some (.invokevirtual 127, 3, 152, 1, 0, 12), none, none, some (.aload_n 0, 1, 0, 0, 0, 0), some (.getfield 19, 3, 12, 6, 0, 0), none,
  none, some (.iload_n 1, 1, 1, 0, 0, 0), some (.iaload, 1, 0, 0, 0, 0), some (.ireturn, 1, 0, 0, 0, 0)
  ])
def mi_X12_many : am_MI := (yX12_many, cX12_many, 4, (some FieldType.int), [
  some (.iload_n 1, 1, 1, 0, 0, 0), some (.invokestatic 89, 3, 120, 1, 0, 0), none, none, some (.ifCond .ne 6, 3, 10, 0, 0, 0), none,
  none, some (.bipush (-2), 2, 0, 0, 0, -2), none, some (.ireturn, 1, 0, 0, 0, 0), some (.aload_n 0, 1, 0, 0, 0, 0), some (.iload_n 1, 1, 1, 0, 0, 0),
  some (.invokevirtual 124, 3, 151, 1, 0, 12), none, none, some (.iconst 0, 1, 0, 0, 0, 0), some (.istore_n 2, 1, 2, 0, 0, 0), some (.iconst 0, 1, 0, 0, 0, 0),
  some (.istore_n 3, 1, 3, 0, 0, 0), some (.iload_n 3, 1, 3, 0, 0, 0), some (.sipush 750, 3, 0, 0, 0, 750), none, none, some (.if_icmp .ge 26, 3, 49, 0, 0, 0),
  none, none, some (.iload_n 2, 1, 2, 0, 0, 0), some (.aload_n 0, 1, 0, 0, 0, 0), some (.getfield 16, 3, 12, 5, 0, 0), none,
  none, some (.iload_n 3, 1, 3, 0, 0, 0), some (.iaload, 1, 0, 0, 0, 0), some (.ifCond .lt 7, 3, 40, 0, 0, 0), none, none,
  some (.iconst 1, 1, 0, 0, 0, 1), some (.goto 4, 3, 41, 0, 0, 0), none, none, some (.iconst 0, 1, 0, 0, 0, 0), some (.iadd, 1, 0, 0, 0, 0),
  some (.istore_n 2, 1, 2, 0, 0, 0), some (.iinc 3 1, 3, 3, 0, 0, 1), none, none, some (.goto (-27), 3, 19, 0, 0, 0), none,
  none, some (.iload_n 2, 1, 2, 0, 0, 0), some (.ireturn, 1, 0, 0, 0, 0)
  ])
def mi_X12_isProof : am_MI := (yX12_isProof, cX12_isProof, 2, (some FieldType.boolean), [
  some (.iload_n 1, 1, 1, 0, 0, 0), some (.iconst 0, 1, 0, 0, 0, 0), some (.aload_n 0, 1, 0, 0, 0, 0), some (.getfield 7, 3, 12, 0, 0, 0), none, none,
  some (.iconst 4, 1, 0, 0, 0, 4), some (.iaload, 1, 0, 0, 0, 0), some (.iconst 1, 1, 0, 0, 0, 1), some (.isub, 1, 0, 0, 0, 0), some (.invokestatic 34, 3, 119, 3, 0, 0), none,
  none, some (.ireturn, 1, 0, 0, 0, 0)
  ])
def mi_X12_stepAt : am_MI := (yX12_stepAt, cX12_stepAt, 2, (some FieldType.int), [
  some (.sipush 138, 3, 0, 0, 0, 138), none, none, some (.bipush 72, 2, 0, 0, 0, 72), none, some (.iload_n 0, 1, 0, 0, 0, 0),
  some (.imul, 1, 0, 0, 0, 0), some (.iadd, 1, 0, 0, 0, 0), some (.bipush 6, 2, 0, 0, 0, 6), none, some (.iload_n 1, 1, 1, 0, 0, 0), some (.imul, 1, 0, 0, 0, 0),
  some (.iadd, 1, 0, 0, 0, 0), some (.ireturn, 1, 0, 0, 0, 0)
  ])
def mi_X12_proof : am_MI := (yX12_proof, cX12_proof, 2, (some FieldType.int), [
  some (.iload_n 1, 1, 1, 0, 0, 0), some (.iconst 0, 1, 0, 0, 0, 0), some (.iconst 4, 1, 0, 0, 0, 4), some (.invokestatic 34, 3, 119, 3, 0, 0), none, none,
  some (.ifCond .ne 5, 3, 11, 0, 0, 0), none, none, some (.iconst (-1), 1, 0, 0, 0, -1), some (.ireturn, 1, 0, 0, 0, 0), some (.aload_n 0, 1, 0, 0, 0, 0),
  some (.getfield 7, 3, 12, 0, 0, 0), none, none, some (.iconst 4, 1, 0, 0, 0, 4), some (.iaload, 1, 0, 0, 0, 0), some (.bipush 12, 2, 0, 0, 0, 12),
  none, some (.if_icmp .ne 6, 3, 25, 0, 0, 0), none, none, some (.bipush (-4), 2, 0, 0, 0, -4), none,
  some (.ireturn, 1, 0, 0, 0, 0), some (.aload_n 0, 1, 0, 0, 0, 0), some (.getfield 7, 3, 12, 0, 0, 0), none, none, some (.bipush 114, 2, 0, 0, 0, 114),
  none, some (.aload_n 0, 1, 0, 0, 0, 0), some (.getfield 7, 3, 12, 0, 0, 0), none, none, some (.iconst 4, 1, 0, 0, 0, 4),
  some (.iaload, 1, 0, 0, 0, 0), some (.iadd, 1, 0, 0, 0, 0), some (.iload_n 1, 1, 1, 0, 0, 0), some (.iastore, 1, 0, 0, 0, 0), some (.aload_n 0, 1, 0, 0, 0, 0), some (.getfield 7, 3, 12, 0, 0, 0),
  none, none, some (.bipush 126, 2, 0, 0, 0, 126), none, some (.aload_n 0, 1, 0, 0, 0, 0), some (.getfield 7, 3, 12, 0, 0, 0),
  none, none, some (.iconst 4, 1, 0, 0, 0, 4), some (.iaload, 1, 0, 0, 0, 0), some (.iadd, 1, 0, 0, 0, 0), some (.iconst 0, 1, 0, 0, 0, 0),
  some (.iastore, 1, 0, 0, 0, 0), some (.aload_n 0, 1, 0, 0, 0, 0), some (.getfield 7, 3, 12, 0, 0, 0), none, none, some (.iconst 4, 1, 0, 0, 0, 4),
  some (.dup2, 1, 0, 0, 0, 0), some (.iaload, 1, 0, 0, 0, 0), some (.iconst 1, 1, 0, 0, 0, 1), some (.iadd, 1, 0, 0, 0, 0), some (.iastore, 1, 0, 0, 0, 0), some (.aload_n 0, 1, 0, 0, 0, 0),
  some (.getfield 7, 3, 12, 0, 0, 0), none, none, some (.iconst 4, 1, 0, 0, 0, 4), some (.iaload, 1, 0, 0, 0, 0), some (.iconst 1, 1, 0, 0, 0, 1),
  some (.isub, 1, 0, 0, 0, 0), some (.ireturn, 1, 0, 0, 0, 0)
  ])
def mi_X12_isUsed : am_MI := (yX12_isUsed, cX12_isUsed, 5, (some FieldType.boolean), [
  some (.iconst 0, 1, 0, 0, 0, 0), some (.istore_n 2, 1, 2, 0, 0, 0), some (.iload_n 2, 1, 2, 0, 0, 0), some (.aload_n 0, 1, 0, 0, 0, 0), some (.getfield 7, 3, 12, 0, 0, 0), none,
  none, some (.iconst 5, 1, 0, 0, 0, 5), some (.iaload, 1, 0, 0, 0, 0), some (.if_icmp .ge 25, 3, 34, 0, 0, 0), none, none,
  some (.aload_n 0, 1, 0, 0, 0, 0), some (.getfield 7, 3, 12, 0, 0, 0), none, none, some (.sipush 1002, 3, 0, 0, 0, 1002), none,
  none, some (.iload_n 2, 1, 2, 0, 0, 0), some (.iadd, 1, 0, 0, 0, 0), some (.iaload, 1, 0, 0, 0, 0), some (.iload_n 1, 1, 1, 0, 0, 0), some (.if_icmp .ne 5, 3, 28, 0, 0, 0),
  none, none, some (.iconst 1, 1, 0, 0, 0, 1), some (.ireturn, 1, 0, 0, 0, 0), some (.iinc 2 1, 3, 2, 0, 0, 1), none,
  none, some (.goto (-29), 3, 2, 0, 0, 0), none, none, some (.iload_n 1, 1, 1, 0, 0, 0), some (.iconst 1, 1, 0, 0, 0, 1),
  some (.iadd, 1, 0, 0, 0, 0), some (.istore_n 2, 1, 2, 0, 0, 0), some (.iload_n 2, 1, 2, 0, 0, 0), some (.aload_n 0, 1, 0, 0, 0, 0), some (.getfield 7, 3, 12, 0, 0, 0), none,
  none, some (.iconst 4, 1, 0, 0, 0, 4), some (.iaload, 1, 0, 0, 0, 0), some (.if_icmp .ge 89, 3, 134, 0, 0, 0), none, none,
  some (.iconst 0, 1, 0, 0, 0, 0), some (.istore_n 3, 1, 3, 0, 0, 0), some (.iload_n 3, 1, 3, 0, 0, 0), some (.aload_n 0, 1, 0, 0, 0, 0), some (.getfield 7, 3, 12, 0, 0, 0), none,
  none, some (.bipush 126, 2, 0, 0, 0, 126), none, some (.iload_n 2, 1, 2, 0, 0, 0), some (.iadd, 1, 0, 0, 0, 0), some (.iaload, 1, 0, 0, 0, 0),
  some (.if_icmp .ge 68, 3, 128, 0, 0, 0), none, none, some (.aload_n 0, 1, 0, 0, 0, 0), some (.iload_n 2, 1, 2, 0, 0, 0), some (.invokevirtual 130, 3, 171, 1, 0, 12),
  none, none, some (.ifCond .eq 60, 3, 128, 0, 0, 0), none, none, some (.iconst 0, 1, 0, 0, 0, 0),
  some (.istore 4, 2, 4, 0, 0, 0), none, some (.iload 4, 2, 4, 0, 0, 0), none, some (.aload_n 0, 1, 0, 0, 0, 0), some (.getfield 7, 3, 12, 0, 0, 0),
  none, none, some (.iload_n 2, 1, 2, 0, 0, 0), some (.iload_n 3, 1, 3, 0, 0, 0), some (.invokestatic 133, 3, 157, 2, 0, 0), none,
  none, some (.iconst 2, 1, 0, 0, 0, 2), some (.iadd, 1, 0, 0, 0, 0), some (.iaload, 1, 0, 0, 0, 0), some (.if_icmp .ge 34, 3, 122, 0, 0, 0), none,
  none, some (.aload_n 0, 1, 0, 0, 0, 0), some (.getfield 7, 3, 12, 0, 0, 0), none, none, some (.iload_n 2, 1, 2, 0, 0, 0),
  some (.iload_n 3, 1, 3, 0, 0, 0), some (.invokestatic 133, 3, 157, 2, 0, 0), none, none, some (.iconst 3, 1, 0, 0, 0, 3), some (.iadd, 1, 0, 0, 0, 0),
  some (.iload 4, 2, 4, 0, 0, 0), none, some (.iadd, 1, 0, 0, 0, 0), some (.iaload, 1, 0, 0, 0, 0), some (.sipush 200, 3, 0, 0, 0, 200), none,
  none, some (.iload_n 1, 1, 1, 0, 0, 0), some (.iadd, 1, 0, 0, 0, 0), some (.if_icmp .ne 5, 3, 116, 0, 0, 0), none, none,
  some (.iconst 1, 1, 0, 0, 0, 1), some (.ireturn, 1, 0, 0, 0, 0), some (.iinc 4 1, 3, 4, 0, 0, 1), none, none, some (.goto (-45), 3, 74, 0, 0, 0),
  none, none, some (.iinc 3 1, 3, 3, 0, 0, 1), none, none, some (.goto (-75), 3, 50, 0, 0, 0),
  none, none, some (.iinc 2 1, 3, 2, 0, 0, 1), none, none, some (.goto (-93), 3, 38, 0, 0, 0),
  none, none, some (.iconst 0, 1, 0, 0, 0, 0), some (.ireturn, 1, 0, 0, 0, 0)
  ])
def mi_X12_step : am_MI := (yX12_step, cX12_step, 9, (some FieldType.int), [
  some (.aload_n 0, 1, 0, 0, 0, 0), some (.iload_n 1, 1, 1, 0, 0, 0), some (.invokevirtual 136, 3, 156, 1, 0, 12), none, none, some (.ifCond .eq 11, 3, 16, 0, 0, 0),
  none, none, some (.aload_n 0, 1, 0, 0, 0, 0), some (.iload_n 2, 1, 2, 0, 0, 0), some (.invokevirtual 82, 3, 135, 1, 0, 12), none,
  none, some (.ifCond .ne 5, 3, 18, 0, 0, 0), none, none, some (.iconst (-1), 1, 0, 0, 0, -1), some (.ireturn, 1, 0, 0, 0, 0),
  some (.iload_n 3, 1, 3, 0, 0, 0), some (.iconst 0, 1, 0, 0, 0, 0), some (.sipush 624, 3, 0, 0, 0, 624), none, none, some (.invokestatic 34, 3, 119, 3, 0, 0),
  none, none, some (.ifCond .eq 13, 3, 39, 0, 0, 0), none, none, some (.iload 4, 2, 4, 0, 0, 0),
  none, some (.iconst 1, 1, 0, 0, 0, 1), some (.iconst 3, 1, 0, 0, 0, 3), some (.invokestatic 34, 3, 119, 3, 0, 0), none, none,
  some (.ifCond .ne 6, 3, 42, 0, 0, 0), none, none, some (.bipush (-2), 2, 0, 0, 0, -2), none, some (.ireturn, 1, 0, 0, 0, 0),
  some (.aload_n 0, 1, 0, 0, 0, 0), some (.iload_n 1, 1, 1, 0, 0, 0), some (.invokevirtual 139, 3, 159, 1, 0, 12), none, none, some (.ifCond .eq 6, 3, 53, 0, 0, 0),
  none, none, some (.bipush (-3), 2, 0, 0, 0, -3), none, some (.ireturn, 1, 0, 0, 0, 0), some (.aload_n 0, 1, 0, 0, 0, 0),
  some (.getfield 7, 3, 12, 0, 0, 0), none, none, some (.bipush 126, 2, 0, 0, 0, 126), none, some (.iload_n 1, 1, 1, 0, 0, 0),
  some (.iadd, 1, 0, 0, 0, 0), some (.iaload, 1, 0, 0, 0, 0), some (.bipush 12, 2, 0, 0, 0, 12), none, some (.if_icmp .ne 6, 3, 70, 0, 0, 0), none,
  none, some (.bipush (-4), 2, 0, 0, 0, -4), none, some (.ireturn, 1, 0, 0, 0, 0), some (.iload_n 1, 1, 1, 0, 0, 0), some (.aload_n 0, 1, 0, 0, 0, 0),
  some (.getfield 7, 3, 12, 0, 0, 0), none, none, some (.bipush 126, 2, 0, 0, 0, 126), none, some (.iload_n 1, 1, 1, 0, 0, 0),
  some (.iadd, 1, 0, 0, 0, 0), some (.iaload, 1, 0, 0, 0, 0), some (.invokestatic 133, 3, 157, 2, 0, 0), none, none, some (.istore 8, 2, 8, 0, 0, 0),
  none, some (.aload_n 0, 1, 0, 0, 0, 0), some (.getfield 7, 3, 12, 0, 0, 0), none, none, some (.iload 8, 2, 8, 0, 0, 0),
  none, some (.iload_n 2, 1, 2, 0, 0, 0), some (.iastore, 1, 0, 0, 0, 0), some (.aload_n 0, 1, 0, 0, 0, 0), some (.getfield 7, 3, 12, 0, 0, 0), none,
  none, some (.iload 8, 2, 8, 0, 0, 0), none, some (.iconst 1, 1, 0, 0, 0, 1), some (.iadd, 1, 0, 0, 0, 0), some (.iload_n 3, 1, 3, 0, 0, 0),
  some (.iastore, 1, 0, 0, 0, 0), some (.aload_n 0, 1, 0, 0, 0, 0), some (.getfield 7, 3, 12, 0, 0, 0), none, none, some (.iload 8, 2, 8, 0, 0, 0),
  none, some (.iconst 2, 1, 0, 0, 0, 2), some (.iadd, 1, 0, 0, 0, 0), some (.iload 4, 2, 4, 0, 0, 0), none, some (.iastore, 1, 0, 0, 0, 0),
  some (.aload_n 0, 1, 0, 0, 0, 0), some (.getfield 7, 3, 12, 0, 0, 0), none, none, some (.iload 8, 2, 8, 0, 0, 0), none,
  some (.iconst 3, 1, 0, 0, 0, 3), some (.iadd, 1, 0, 0, 0, 0), some (.iload 5, 2, 5, 0, 0, 0), none, some (.iastore, 1, 0, 0, 0, 0), some (.aload_n 0, 1, 0, 0, 0, 0),
  some (.getfield 7, 3, 12, 0, 0, 0), none, none, some (.iload 8, 2, 8, 0, 0, 0), none, some (.iconst 4, 1, 0, 0, 0, 4),
  some (.iadd, 1, 0, 0, 0, 0), some (.iload 6, 2, 6, 0, 0, 0), none, some (.iastore, 1, 0, 0, 0, 0), some (.aload_n 0, 1, 0, 0, 0, 0), some (.getfield 7, 3, 12, 0, 0, 0),
  none, none, some (.iload 8, 2, 8, 0, 0, 0), none, some (.iconst 5, 1, 0, 0, 0, 5), some (.iadd, 1, 0, 0, 0, 0),
  some (.iload 7, 2, 7, 0, 0, 0), none, some (.iastore, 1, 0, 0, 0, 0), some (.aload_n 0, 1, 0, 0, 0, 0), some (.getfield 7, 3, 12, 0, 0, 0), none,
  none, some (.bipush 126, 2, 0, 0, 0, 126), none, some (.iload_n 1, 1, 1, 0, 0, 0), some (.iadd, 1, 0, 0, 0, 0), some (.dup2, 1, 0, 0, 0, 0),
  some (.iaload, 1, 0, 0, 0, 0), some (.iconst 1, 1, 0, 0, 0, 1), some (.iadd, 1, 0, 0, 0, 0), some (.iastore, 1, 0, 0, 0, 0), some (.aload_n 0, 1, 0, 0, 0, 0), some (.getfield 7, 3, 12, 0, 0, 0),
  none, none, some (.bipush 126, 2, 0, 0, 0, 126), none, some (.iload_n 1, 1, 1, 0, 0, 0), some (.iadd, 1, 0, 0, 0, 0),
  some (.iaload, 1, 0, 0, 0, 0), some (.iconst 1, 1, 0, 0, 0, 1), some (.isub, 1, 0, 0, 0, 0), some (.ireturn, 1, 0, 0, 0, 0)
  ])
def mi_X12_saysOn : am_MI := (yX12_saysOn, cX12_saysOn, 5, (some FieldType.int), [
  some (.iload_n 1, 1, 1, 0, 0, 0), some (.iload_n 2, 1, 2, 0, 0, 0), some (.invokestatic 133, 3, 157, 2, 0, 0), none, none, some (.istore 4, 2, 4, 0, 0, 0),
  none, some (.aload_n 0, 1, 0, 0, 0, 0), some (.aload_n 0, 1, 0, 0, 0, 0), some (.getfield 7, 3, 12, 0, 0, 0), none, none,
  some (.iload 4, 2, 4, 0, 0, 0), none, some (.iconst 1, 1, 0, 0, 0, 1), some (.iadd, 1, 0, 0, 0, 0), some (.iaload, 1, 0, 0, 0, 0), some (.invokevirtual 111, 3, 144, 1, 0, 12),
  none, none, some (.aload_n 0, 1, 0, 0, 0, 0), some (.aload_n 0, 1, 0, 0, 0, 0), some (.aload_n 0, 1, 0, 0, 0, 0), some (.getfield 7, 3, 12, 0, 0, 0),
  none, none, some (.iload 4, 2, 4, 0, 0, 0), none, some (.iaload, 1, 0, 0, 0, 0), some (.iload_n 3, 1, 3, 0, 0, 0),
  some (.invokevirtual 92, 3, 138, 2, 0, 12), none, none, some (.bipush 26, 2, 0, 0, 0, 26), none, some (.iadd, 1, 0, 0, 0, 0),
  some (.invokevirtual 104, 3, 146, 1, 0, 12), none, none, some (.ireturn, 1, 0, 0, 0, 0)
  ])
def mi_X12_termOn : am_MI := (yX12_termOn, cX12_termOn, 6, (some FieldType.int), [
  some (.iload_n 1, 1, 1, 0, 0, 0), some (.iload_n 2, 1, 2, 0, 0, 0), some (.invokestatic 133, 3, 157, 2, 0, 0), none, none, some (.istore 5, 2, 5, 0, 0, 0),
  none, some (.aload_n 0, 1, 0, 0, 0, 0), some (.aload_n 0, 1, 0, 0, 0, 0), some (.getfield 7, 3, 12, 0, 0, 0), none, none,
  some (.iload 5, 2, 5, 0, 0, 0), none, some (.iconst 1, 1, 0, 0, 0, 1), some (.iadd, 1, 0, 0, 0, 0), some (.iaload, 1, 0, 0, 0, 0), some (.invokevirtual 111, 3, 144, 1, 0, 12),
  none, none, some (.aload_n 0, 1, 0, 0, 0, 0), some (.aload_n 0, 1, 0, 0, 0, 0), some (.aload_n 0, 1, 0, 0, 0, 0), some (.getfield 7, 3, 12, 0, 0, 0),
  none, none, some (.iload 5, 2, 5, 0, 0, 0), none, some (.iaload, 1, 0, 0, 0, 0), some (.iload 4, 2, 4, 0, 0, 0),
  none, some (.invokevirtual 92, 3, 138, 2, 0, 12), none, none, some (.iconst 2, 1, 0, 0, 0, 2), some (.iadd, 1, 0, 0, 0, 0),
  some (.iconst 4, 1, 0, 0, 0, 4), some (.iload_n 3, 1, 3, 0, 0, 0), some (.imul, 1, 0, 0, 0, 0), some (.iadd, 1, 0, 0, 0, 0), some (.invokevirtual 104, 3, 146, 1, 0, 12), none,
  none, some (.ireturn, 1, 0, 0, 0, 0)
  ])
def mi_X12_isFrom : am_MI := (yX12_isFrom, cX12_isFrom, 9, (some FieldType.boolean), [
  some (.aload_n 0, 1, 0, 0, 0, 0), some (.getfield 7, 3, 12, 0, 0, 0), none, none, some (.iload_n 1, 1, 1, 0, 0, 0), some (.iload_n 2, 1, 2, 0, 0, 0),
  some (.invokestatic 133, 3, 157, 2, 0, 0), none, none, some (.iconst 3, 1, 0, 0, 0, 3), some (.iadd, 1, 0, 0, 0, 0), some (.iload_n 3, 1, 3, 0, 0, 0),
  some (.iadd, 1, 0, 0, 0, 0), some (.iaload, 1, 0, 0, 0, 0), some (.istore 5, 2, 5, 0, 0, 0), none, some (.aload_n 0, 1, 0, 0, 0, 0), some (.iload_n 1, 1, 1, 0, 0, 0),
  some (.iload_n 2, 1, 2, 0, 0, 0), some (.iload_n 3, 1, 3, 0, 0, 0), some (.iload 4, 2, 4, 0, 0, 0), none, some (.invokevirtual 142, 3, 162, 4, 0, 12), none,
  none, some (.istore 6, 2, 6, 0, 0, 0), none, some (.aload_n 0, 1, 0, 0, 0, 0), some (.getfield 7, 3, 12, 0, 0, 0), none,
  none, some (.bipush 114, 2, 0, 0, 0, 114), none, some (.iload_n 1, 1, 1, 0, 0, 0), some (.iadd, 1, 0, 0, 0, 0), some (.iaload, 1, 0, 0, 0, 0),
  some (.istore 7, 2, 7, 0, 0, 0), none, some (.iload 5, 2, 5, 0, 0, 0), none, some (.sipush 300, 3, 0, 0, 0, 300), none,
  none, some (.if_icmp .ne 21, 3, 64, 0, 0, 0), none, none, some (.iload 7, 2, 7, 0, 0, 0), none,
  some (.iconst 1, 1, 0, 0, 0, 1), some (.if_icmp .eq 9, 3, 58, 0, 0, 0), none, none, some (.iload 7, 2, 7, 0, 0, 0), none,
  some (.iconst 4, 1, 0, 0, 0, 4), some (.if_icmp .ne 7, 3, 62, 0, 0, 0), none, none, some (.iconst 1, 1, 0, 0, 0, 1), some (.goto 4, 3, 63, 0, 0, 0),
  none, none, some (.iconst 0, 1, 0, 0, 0, 0), some (.ireturn, 1, 0, 0, 0, 0), some (.aload_n 0, 1, 0, 0, 0, 0), some (.iload 5, 2, 5, 0, 0, 0),
  none, some (.invokevirtual 98, 3, 141, 1, 0, 12), none, none, some (.ifCond .eq 44, 3, 114, 0, 0, 0), none,
  none, some (.iload 5, 2, 5, 0, 0, 0), none, some (.bipush 20, 2, 0, 0, 0, 20), none, some (.if_icmp .ge 37, 3, 114, 0, 0, 0),
  none, none, some (.aload_n 0, 1, 0, 0, 0, 0), some (.getfield 7, 3, 12, 0, 0, 0), none, none,
  some (.bipush 94, 2, 0, 0, 0, 94), none, some (.iload 5, 2, 5, 0, 0, 0), none, some (.iadd, 1, 0, 0, 0, 0), some (.iaload, 1, 0, 0, 0, 0),
  some (.ifCond .ne 22, 3, 112, 0, 0, 0), none, none, some (.aload_n 0, 1, 0, 0, 0, 0), some (.getfield 7, 3, 12, 0, 0, 0), none,
  none, some (.bipush 54, 2, 0, 0, 0, 54), none, some (.iload 5, 2, 5, 0, 0, 0), none, some (.iadd, 1, 0, 0, 0, 0),
  some (.iaload, 1, 0, 0, 0, 0), some (.iload 6, 2, 6, 0, 0, 0), none, some (.if_icmp .ne 7, 3, 112, 0, 0, 0), none, none,
  some (.iconst 1, 1, 0, 0, 0, 1), some (.goto 4, 3, 113, 0, 0, 0), none, none, some (.iconst 0, 1, 0, 0, 0, 0), some (.ireturn, 1, 0, 0, 0, 0),
  some (.iload 5, 2, 5, 0, 0, 0), none, some (.bipush 100, 2, 0, 0, 0, 100), none, some (.bipush 100, 2, 0, 0, 0, 100), none,
  some (.iload_n 2, 1, 2, 0, 0, 0), some (.iadd, 1, 0, 0, 0, 0), some (.iconst 1, 1, 0, 0, 0, 1), some (.isub, 1, 0, 0, 0, 0), some (.invokestatic 34, 3, 119, 3, 0, 0), none,
  none, some (.ifCond .eq 41, 3, 168, 0, 0, 0), none, none, some (.aload_n 0, 1, 0, 0, 0, 0), some (.iload_n 1, 1, 1, 0, 0, 0),
  some (.iload 5, 2, 5, 0, 0, 0), none, some (.bipush 100, 2, 0, 0, 0, 100), none, some (.isub, 1, 0, 0, 0, 0), some (.iload 4, 2, 4, 0, 0, 0),
  none, some (.invokevirtual 146, 3, 161, 3, 0, 12), none, none, some (.iload 6, 2, 6, 0, 0, 0), none,
  some (.if_icmp .ne 22, 3, 166, 0, 0, 0), none, none, some (.aload_n 0, 1, 0, 0, 0, 0), some (.iload_n 1, 1, 1, 0, 0, 0), some (.iload 5, 2, 5, 0, 0, 0),
  none, some (.bipush 100, 2, 0, 0, 0, 100), none, some (.isub, 1, 0, 0, 0, 0), some (.iload 4, 2, 4, 0, 0, 0), none,
  some (.invokevirtual 150, 3, 164, 3, 0, 12), none, none, some (.ifCond .ne 7, 3, 166, 0, 0, 0), none, none,
  some (.iconst 1, 1, 0, 0, 0, 1), some (.goto 4, 3, 167, 0, 0, 0), none, none, some (.iconst 0, 1, 0, 0, 0, 0), some (.ireturn, 1, 0, 0, 0, 0),
  some (.iload 5, 2, 5, 0, 0, 0), none, some (.sipush 200, 3, 0, 0, 0, 200), none, none, some (.sipush 200, 3, 0, 0, 0, 200),
  none, none, some (.iload_n 1, 1, 1, 0, 0, 0), some (.iadd, 1, 0, 0, 0, 0), some (.iconst 1, 1, 0, 0, 0, 1), some (.isub, 1, 0, 0, 0, 0),
  some (.invokestatic 34, 3, 119, 3, 0, 0), none, none, some (.ifCond .eq 65, 3, 248, 0, 0, 0), none, none,
  some (.iload 7, 2, 7, 0, 0, 0), none, some (.iconst 2, 1, 0, 0, 0, 2), some (.if_icmp .eq 9, 3, 198, 0, 0, 0), none, none,
  some (.iload 7, 2, 7, 0, 0, 0), none, some (.iconst 3, 1, 0, 0, 0, 3), some (.if_icmp .ne 53, 3, 248, 0, 0, 0), none, none,
  some (.iload 5, 2, 5, 0, 0, 0), none, some (.sipush 200, 3, 0, 0, 0, 200), none, none, some (.isub, 1, 0, 0, 0, 0),
  some (.istore 8, 2, 8, 0, 0, 0), none, some (.aload_n 0, 1, 0, 0, 0, 0), some (.iload 8, 2, 8, 0, 0, 0), none, some (.iload 4, 2, 4, 0, 0, 0),
  none, some (.invokevirtual 153, 3, 166, 2, 0, 12), none, none, some (.ifCond .eq 32, 3, 246, 0, 0, 0), none,
  none, some (.aload_n 0, 1, 0, 0, 0, 0), some (.iload 8, 2, 8, 0, 0, 0), none, some (.aload_n 0, 1, 0, 0, 0, 0), some (.getfield 7, 3, 12, 0, 0, 0),
  none, none, some (.bipush 126, 2, 0, 0, 0, 126), none, some (.iload 8, 2, 8, 0, 0, 0), none,
  some (.iadd, 1, 0, 0, 0, 0), some (.iaload, 1, 0, 0, 0, 0), some (.iconst 1, 1, 0, 0, 0, 1), some (.isub, 1, 0, 0, 0, 0), some (.iload 4, 2, 4, 0, 0, 0), none,
  some (.invokevirtual 146, 3, 161, 3, 0, 12), none, none, some (.iload 6, 2, 6, 0, 0, 0), none, some (.if_icmp .ne 7, 3, 246, 0, 0, 0),
  none, none, some (.iconst 1, 1, 0, 0, 0, 1), some (.goto 4, 3, 247, 0, 0, 0), none, none,
  some (.iconst 0, 1, 0, 0, 0, 0), some (.ireturn, 1, 0, 0, 0, 0), some (.iconst 0, 1, 0, 0, 0, 0), some (.ireturn, 1, 0, 0, 0, 0)
  ])
def mi_X12_lacksOn : am_MI := (yX12_lacksOn, cX12_lacksOn, 7, (some FieldType.int), [
  some (.iload_n 1, 1, 1, 0, 0, 0), some (.iload_n 2, 1, 2, 0, 0, 0), some (.invokestatic 133, 3, 157, 2, 0, 0), none, none, some (.istore 4, 2, 4, 0, 0, 0),
  none, some (.aload_n 0, 1, 0, 0, 0, 0), some (.aload_n 0, 1, 0, 0, 0, 0), some (.getfield 7, 3, 12, 0, 0, 0), none, none,
  some (.iload 4, 2, 4, 0, 0, 0), none, some (.iaload, 1, 0, 0, 0, 0), some (.iload_n 3, 1, 3, 0, 0, 0), some (.invokevirtual 92, 3, 138, 2, 0, 12), none,
  none, some (.istore 5, 2, 5, 0, 0, 0), none, some (.aload_n 0, 1, 0, 0, 0, 0), some (.getfield 7, 3, 12, 0, 0, 0), none,
  none, some (.iload 5, 2, 5, 0, 0, 0), none, some (.iaload, 1, 0, 0, 0, 0), some (.aload_n 0, 1, 0, 0, 0, 0), some (.getfield 7, 3, 12, 0, 0, 0),
  none, none, some (.iload 4, 2, 4, 0, 0, 0), none, some (.iconst 2, 1, 0, 0, 0, 2), some (.iadd, 1, 0, 0, 0, 0),
  some (.iaload, 1, 0, 0, 0, 0), some (.if_icmp .eq 5, 3, 42, 0, 0, 0), none, none, some (.iconst 1, 1, 0, 0, 0, 1), some (.ireturn, 1, 0, 0, 0, 0),
  some (.aload_n 0, 1, 0, 0, 0, 0), some (.aload_n 0, 1, 0, 0, 0, 0), some (.getfield 7, 3, 12, 0, 0, 0), none, none, some (.iload 4, 2, 4, 0, 0, 0),
  none, some (.iconst 1, 1, 0, 0, 0, 1), some (.iadd, 1, 0, 0, 0, 0), some (.iaload, 1, 0, 0, 0, 0), some (.invokevirtual 111, 3, 144, 1, 0, 12), none,
  none, some (.aload_n 0, 1, 0, 0, 0, 0), some (.iload 5, 2, 5, 0, 0, 0), none, some (.invokevirtual 121, 3, 147, 1, 0, 12), none,
  none, some (.ifCond .ne 5, 3, 66, 0, 0, 0), none, none, some (.iconst 2, 1, 0, 0, 0, 2), some (.ireturn, 1, 0, 0, 0, 0),
  some (.iconst 0, 1, 0, 0, 0, 0), some (.istore 6, 2, 6, 0, 0, 0), none, some (.iload 6, 2, 6, 0, 0, 0), none, some (.aload_n 0, 1, 0, 0, 0, 0),
  some (.getfield 7, 3, 12, 0, 0, 0), none, none, some (.iload 4, 2, 4, 0, 0, 0), none, some (.iconst 2, 1, 0, 0, 0, 2),
  some (.iadd, 1, 0, 0, 0, 0), some (.iaload, 1, 0, 0, 0, 0), some (.if_icmp .ge 27, 3, 107, 0, 0, 0), none, none, some (.aload_n 0, 1, 0, 0, 0, 0),
  some (.iload_n 1, 1, 1, 0, 0, 0), some (.iload_n 2, 1, 2, 0, 0, 0), some (.iload 6, 2, 6, 0, 0, 0), none, some (.iload_n 3, 1, 3, 0, 0, 0), some (.invokevirtual 156, 3, 163, 4, 0, 12),
  none, none, some (.ifCond .ne 9, 3, 101, 0, 0, 0), none, none, some (.bipush 10, 2, 0, 0, 0, 10),
  none, some (.iload 6, 2, 6, 0, 0, 0), none, some (.iadd, 1, 0, 0, 0, 0), some (.ireturn, 1, 0, 0, 0, 0), some (.iinc 6 1, 3, 6, 0, 0, 1),
  none, none, some (.goto (-35), 3, 69, 0, 0, 0), none, none, some (.iconst 0, 1, 0, 0, 0, 0),
  some (.ireturn, 1, 0, 0, 0, 0)
  ])
def mi_X12_holesOf : am_MI := (yX12_holesOf, cX12_holesOf, 7, (some FieldType.int), [
  some (.aload_n 0, 1, 0, 0, 0, 0), some (.getfield 7, 3, 12, 0, 0, 0), none, none, some (.bipush 114, 2, 0, 0, 0, 114), none,
  some (.iload_n 1, 1, 1, 0, 0, 0), some (.iadd, 1, 0, 0, 0, 0), some (.iaload, 1, 0, 0, 0, 0), some (.iconst 1, 1, 0, 0, 0, 1), some (.if_icmp .eq 16, 3, 26, 0, 0, 0), none,
  none, some (.aload_n 0, 1, 0, 0, 0, 0), some (.getfield 7, 3, 12, 0, 0, 0), none, none, some (.bipush 114, 2, 0, 0, 0, 114),
  none, some (.iload_n 1, 1, 1, 0, 0, 0), some (.iadd, 1, 0, 0, 0, 0), some (.iaload, 1, 0, 0, 0, 0), some (.iconst 4, 1, 0, 0, 0, 4), some (.if_icmp .ne 7, 3, 30, 0, 0, 0),
  none, none, some (.iconst 1, 1, 0, 0, 0, 1), some (.goto 4, 3, 31, 0, 0, 0), none, none,
  some (.iconst 0, 1, 0, 0, 0, 0), some (.istore_n 3, 1, 3, 0, 0, 0), some (.iconst 0, 1, 0, 0, 0, 0), some (.istore 4, 2, 4, 0, 0, 0), none, some (.iconst 0, 1, 0, 0, 0, 0),
  some (.istore 5, 2, 5, 0, 0, 0), none, some (.iload 5, 2, 5, 0, 0, 0), none, some (.aload_n 0, 1, 0, 0, 0, 0), some (.getfield 7, 3, 12, 0, 0, 0),
  none, none, some (.bipush 126, 2, 0, 0, 0, 126), none, some (.iload_n 1, 1, 1, 0, 0, 0), some (.iadd, 1, 0, 0, 0, 0),
  some (.iaload, 1, 0, 0, 0, 0), some (.if_icmp .ge 80, 3, 129, 0, 0, 0), none, none, some (.iload_n 3, 1, 3, 0, 0, 0), some (.ifCond .eq 76, 3, 129, 0, 0, 0),
  none, none, some (.iconst 0, 1, 0, 0, 0, 0), some (.istore 6, 2, 6, 0, 0, 0), none, some (.iload 6, 2, 6, 0, 0, 0),
  none, some (.aload_n 0, 1, 0, 0, 0, 0), some (.getfield 7, 3, 12, 0, 0, 0), none, none, some (.iload_n 1, 1, 1, 0, 0, 0),
  some (.iload 5, 2, 5, 0, 0, 0), none, some (.invokestatic 133, 3, 157, 2, 0, 0), none, none, some (.iconst 2, 1, 0, 0, 0, 2),
  some (.iadd, 1, 0, 0, 0, 0), some (.iaload, 1, 0, 0, 0, 0), some (.if_icmp .ge 49, 3, 123, 0, 0, 0), none, none, some (.aload_n 0, 1, 0, 0, 0, 0),
  some (.getfield 7, 3, 12, 0, 0, 0), none, none, some (.iload_n 1, 1, 1, 0, 0, 0), some (.iload 5, 2, 5, 0, 0, 0), none,
  some (.invokestatic 133, 3, 157, 2, 0, 0), none, none, some (.iconst 3, 1, 0, 0, 0, 3), some (.iadd, 1, 0, 0, 0, 0), some (.iload 6, 2, 6, 0, 0, 0),
  none, some (.iadd, 1, 0, 0, 0, 0), some (.iaload, 1, 0, 0, 0, 0), some (.sipush 300, 3, 0, 0, 0, 300), none, none,
  some (.if_icmp .ne 21, 3, 117, 0, 0, 0), none, none, some (.iload 4, 2, 4, 0, 0, 0), none, some (.iload_n 2, 1, 2, 0, 0, 0),
  some (.if_icmp .ne 12, 3, 114, 0, 0, 0), none, none, some (.bipush 10, 2, 0, 0, 0, 10), none, some (.iload 5, 2, 5, 0, 0, 0),
  none, some (.imul, 1, 0, 0, 0, 0), some (.iload 6, 2, 6, 0, 0, 0), none, some (.iadd, 1, 0, 0, 0, 0), some (.ireturn, 1, 0, 0, 0, 0),
  some (.iinc 4 1, 3, 4, 0, 0, 1), none, none, some (.iinc 6 1, 3, 6, 0, 0, 1), none, none,
  some (.goto (-61), 3, 59, 0, 0, 0), none, none, some (.iinc 5 1, 3, 5, 0, 0, 1), none, none,
  some (.goto (-88), 3, 38, 0, 0, 0), none, none, some (.iload_n 2, 1, 2, 0, 0, 0), some (.iconst (-1), 1, 0, 0, 0, -1), some (.if_icmp .ne 8, 3, 139, 0, 0, 0),
  none, none, some (.iload 4, 2, 4, 0, 0, 0), none, some (.goto 4, 3, 140, 0, 0, 0), none,
  none, some (.iconst (-1), 1, 0, 0, 0, -1), some (.ireturn, 1, 0, 0, 0, 0)
  ])
def mi_X12_isTaken : am_MI := (yX12_isTaken, cX12_isTaken, 4, (some FieldType.boolean), [
  some (.aload_n 0, 1, 0, 0, 0, 0), some (.getfield 7, 3, 12, 0, 0, 0), none, none, some (.bipush 126, 2, 0, 0, 0, 126), none,
  some (.iload_n 1, 1, 1, 0, 0, 0), some (.iadd, 1, 0, 0, 0, 0), some (.iaload, 1, 0, 0, 0, 0), some (.ifCond .eq 25, 3, 34, 0, 0, 0), none, none,
  some (.aload_n 0, 1, 0, 0, 0, 0), some (.getfield 7, 3, 12, 0, 0, 0), none, none, some (.bipush 114, 2, 0, 0, 0, 114), none,
  some (.iload_n 1, 1, 1, 0, 0, 0), some (.iadd, 1, 0, 0, 0, 0), some (.iaload, 1, 0, 0, 0, 0), some (.iconst 4, 1, 0, 0, 0, 4), some (.if_icmp .eq 14, 3, 36, 0, 0, 0), none,
  none, some (.aload_n 0, 1, 0, 0, 0, 0), some (.iload_n 1, 1, 1, 0, 0, 0), some (.iconst (-1), 1, 0, 0, 0, -1), some (.invokevirtual 160, 3, 165, 2, 0, 12), none,
  none, some (.ifCond .le 5, 3, 36, 0, 0, 0), none, none, some (.iconst 0, 1, 0, 0, 0, 0), some (.ireturn, 1, 0, 0, 0, 0),
  some (.iconst 0, 1, 0, 0, 0, 0), some (.istore_n 3, 1, 3, 0, 0, 0), some (.iload_n 3, 1, 3, 0, 0, 0), some (.aload_n 0, 1, 0, 0, 0, 0), some (.getfield 7, 3, 12, 0, 0, 0), none,
  none, some (.bipush 126, 2, 0, 0, 0, 126), none, some (.iload_n 1, 1, 1, 0, 0, 0), some (.iadd, 1, 0, 0, 0, 0), some (.iaload, 1, 0, 0, 0, 0),
  some (.if_icmp .ge 21, 3, 69, 0, 0, 0), none, none, some (.aload_n 0, 1, 0, 0, 0, 0), some (.iload_n 1, 1, 1, 0, 0, 0), some (.iload_n 3, 1, 3, 0, 0, 0),
  some (.iload_n 2, 1, 2, 0, 0, 0), some (.invokevirtual 150, 3, 164, 3, 0, 12), none, none, some (.ifCond .eq 5, 3, 63, 0, 0, 0), none,
  none, some (.iconst 0, 1, 0, 0, 0, 0), some (.ireturn, 1, 0, 0, 0, 0), some (.iinc 3 1, 3, 3, 0, 0, 1), none, none,
  some (.goto (-28), 3, 38, 0, 0, 0), none, none, some (.iconst 1, 1, 0, 0, 0, 1), some (.ireturn, 1, 0, 0, 0, 0)
  ])
def mi_X12_isStep : am_MI := (yX12_isStep, cX12_isStep, 3, (some FieldType.boolean), [
  some (.aload_n 0, 1, 0, 0, 0, 0), some (.iload_n 1, 1, 1, 0, 0, 0), some (.invokevirtual 136, 3, 156, 1, 0, 12), none, none, some (.ifCond .eq 26, 3, 31, 0, 0, 0),
  none, none, some (.iload_n 2, 1, 2, 0, 0, 0), some (.iconst 0, 1, 0, 0, 0, 0), some (.aload_n 0, 1, 0, 0, 0, 0), some (.getfield 7, 3, 12, 0, 0, 0),
  none, none, some (.bipush 126, 2, 0, 0, 0, 126), none, some (.iload_n 1, 1, 1, 0, 0, 0), some (.iadd, 1, 0, 0, 0, 0),
  some (.iaload, 1, 0, 0, 0, 0), some (.iconst 1, 1, 0, 0, 0, 1), some (.isub, 1, 0, 0, 0, 0), some (.invokestatic 34, 3, 119, 3, 0, 0), none, none,
  some (.ifCond .eq 7, 3, 31, 0, 0, 0), none, none, some (.iconst 1, 1, 0, 0, 0, 1), some (.goto 4, 3, 32, 0, 0, 0), none,
  none, some (.iconst 0, 1, 0, 0, 0, 0), some (.ireturn, 1, 0, 0, 0, 0)
  ])
def mi_X12_lacks : am_MI := (yX12_lacks, cX12_lacks, 4, (some FieldType.int), [
  some (.aload_n 0, 1, 0, 0, 0, 0), some (.iload_n 1, 1, 1, 0, 0, 0), some (.iload_n 2, 1, 2, 0, 0, 0), some (.invokevirtual 163, 3, 167, 2, 0, 12), none, none,
  some (.ifCond .ne 7, 3, 13, 0, 0, 0), none, none, some (.iconst (-1), 1, 0, 0, 0, -1), some (.goto 22, 3, 32, 0, 0, 0), none,
  none, some (.iload_n 3, 1, 3, 0, 0, 0), some (.invokestatic 89, 3, 120, 1, 0, 0), none, none, some (.ifCond .eq 13, 3, 30, 0, 0, 0),
  none, none, some (.aload_n 0, 1, 0, 0, 0, 0), some (.iload_n 1, 1, 1, 0, 0, 0), some (.iload_n 2, 1, 2, 0, 0, 0), some (.iload_n 3, 1, 3, 0, 0, 0),
  some (.invokevirtual 150, 3, 164, 3, 0, 12), none, none, some (.goto 5, 3, 32, 0, 0, 0), none, none,
  some (.bipush (-2), 2, 0, 0, 0, -2), none, some (.ireturn, 1, 0, 0, 0, 0)
  ])
def mi_X12_says : am_MI := (yX12_says, cX12_says, 5, (some FieldType.int), [
  some (.aload_n 0, 1, 0, 0, 0, 0), some (.iload_n 1, 1, 1, 0, 0, 0), some (.invokevirtual 136, 3, 156, 1, 0, 12), none, none, some (.ifCond .eq 17, 3, 22, 0, 0, 0),
  none, none, some (.iload_n 2, 1, 2, 0, 0, 0), some (.iconst (-1), 1, 0, 0, 0, -1), some (.if_icmp .eq 14, 3, 24, 0, 0, 0), none,
  none, some (.aload_n 0, 1, 0, 0, 0, 0), some (.iload_n 1, 1, 1, 0, 0, 0), some (.iload_n 2, 1, 2, 0, 0, 0), some (.invokevirtual 163, 3, 167, 2, 0, 12), none,
  none, some (.ifCond .ne 5, 3, 24, 0, 0, 0), none, none, some (.iconst (-1), 1, 0, 0, 0, -1), some (.ireturn, 1, 0, 0, 0, 0),
  some (.iload_n 3, 1, 3, 0, 0, 0), some (.invokestatic 89, 3, 120, 1, 0, 0), none, none, some (.ifCond .ne 6, 3, 34, 0, 0, 0), none,
  none, some (.bipush (-2), 2, 0, 0, 0, -2), none, some (.ireturn, 1, 0, 0, 0, 0), some (.iload_n 2, 1, 2, 0, 0, 0), some (.iconst (-1), 1, 0, 0, 0, -1),
  some (.if_icmp .ne 17, 3, 53, 0, 0, 0), none, none, some (.aload_n 0, 1, 0, 0, 0, 0), some (.getfield 7, 3, 12, 0, 0, 0), none,
  none, some (.bipush 126, 2, 0, 0, 0, 126), none, some (.iload_n 1, 1, 1, 0, 0, 0), some (.iadd, 1, 0, 0, 0, 0), some (.iaload, 1, 0, 0, 0, 0),
  some (.iconst 1, 1, 0, 0, 0, 1), some (.isub, 1, 0, 0, 0, 0), some (.goto 4, 3, 54, 0, 0, 0), none, none, some (.iload_n 2, 1, 2, 0, 0, 0),
  some (.istore 4, 2, 4, 0, 0, 0), none, some (.iload 4, 2, 4, 0, 0, 0), none, some (.ifCond .ge 8, 3, 66, 0, 0, 0), none,
  none, some (.bipush (-5), 2, 0, 0, 0, -5), none, some (.goto 11, 3, 74, 0, 0, 0), none, none,
  some (.aload_n 0, 1, 0, 0, 0, 0), some (.iload_n 1, 1, 1, 0, 0, 0), some (.iload 4, 2, 4, 0, 0, 0), none, some (.iload_n 3, 1, 3, 0, 0, 0), some (.invokevirtual 146, 3, 161, 3, 0, 12),
  none, none, some (.ireturn, 1, 0, 0, 0, 0)
  ])
def mi_X12_check : am_MI := (yX12_check, cX12_check, 3, (some FieldType.int), [
  some (.aload_n 0, 1, 0, 0, 0, 0), some (.iload_n 1, 1, 1, 0, 0, 0), some (.invokevirtual 136, 3, 156, 1, 0, 12), none, none, some (.ifCond .ne 7, 3, 12, 0, 0, 0),
  none, none, some (.iconst (-1), 1, 0, 0, 0, -1), some (.goto 29, 3, 38, 0, 0, 0), none, none,
  some (.iload_n 2, 1, 2, 0, 0, 0), some (.invokestatic 89, 3, 120, 1, 0, 0), none, none, some (.ifCond .ne 8, 3, 24, 0, 0, 0), none,
  none, some (.bipush (-2), 2, 0, 0, 0, -2), none, some (.goto 17, 3, 38, 0, 0, 0), none, none,
  some (.aload_n 0, 1, 0, 0, 0, 0), some (.iload_n 1, 1, 1, 0, 0, 0), some (.iload_n 2, 1, 2, 0, 0, 0), some (.invokevirtual 153, 3, 166, 2, 0, 12), none, none,
  some (.ifCond .eq 7, 3, 37, 0, 0, 0), none, none, some (.iconst 1, 1, 0, 0, 0, 1), some (.goto 4, 3, 38, 0, 0, 0), none,
  none, some (.iconst 0, 1, 0, 0, 0, 0), some (.ireturn, 1, 0, 0, 0, 0)
  ])
def mi_X12_usesEnds : am_MI := (yX12_usesEnds, cX12_usesEnds, 2, (some FieldType.boolean), [
  some (.aload_n 0, 1, 0, 0, 0, 0), some (.getfield 7, 3, 12, 0, 0, 0), none, none, some (.bipush 114, 2, 0, 0, 0, 114), none,
  some (.iload_n 1, 1, 1, 0, 0, 0), some (.iadd, 1, 0, 0, 0, 0), some (.iaload, 1, 0, 0, 0, 0), some (.iconst 2, 1, 0, 0, 0, 2), some (.if_icmp .eq 16, 3, 26, 0, 0, 0), none,
  none, some (.aload_n 0, 1, 0, 0, 0, 0), some (.getfield 7, 3, 12, 0, 0, 0), none, none, some (.bipush 114, 2, 0, 0, 0, 114),
  none, some (.iload_n 1, 1, 1, 0, 0, 0), some (.iadd, 1, 0, 0, 0, 0), some (.iaload, 1, 0, 0, 0, 0), some (.iconst 3, 1, 0, 0, 0, 3), some (.if_icmp .ne 7, 3, 30, 0, 0, 0),
  none, none, some (.iconst 1, 1, 0, 0, 0, 1), some (.goto 4, 3, 31, 0, 0, 0), none, none,
  some (.iconst 0, 1, 0, 0, 0, 0), some (.ireturn, 1, 0, 0, 0, 0)
  ])
def mi_X12_leansOf : am_MI := (yX12_leansOf, cX12_leansOf, 6, (some FieldType.int), [
  some (.iconst 0, 1, 0, 0, 0, 0), some (.istore_n 2, 1, 2, 0, 0, 0), some (.iconst 0, 1, 0, 0, 0, 0), some (.istore_n 3, 1, 3, 0, 0, 0), some (.iload_n 3, 1, 3, 0, 0, 0), some (.aload_n 0, 1, 0, 0, 0, 0),
  some (.getfield 7, 3, 12, 0, 0, 0), none, none, some (.bipush 126, 2, 0, 0, 0, 126), none, some (.iload_n 1, 1, 1, 0, 0, 0),
  some (.iadd, 1, 0, 0, 0, 0), some (.iaload, 1, 0, 0, 0, 0), some (.if_icmp .ge 111, 3, 125, 0, 0, 0), none, none, some (.iconst 0, 1, 0, 0, 0, 0),
  some (.istore 4, 2, 4, 0, 0, 0), none, some (.iload 4, 2, 4, 0, 0, 0), none, some (.aload_n 0, 1, 0, 0, 0, 0), some (.getfield 7, 3, 12, 0, 0, 0),
  none, none, some (.iload_n 1, 1, 1, 0, 0, 0), some (.iload_n 3, 1, 3, 0, 0, 0), some (.invokestatic 133, 3, 157, 2, 0, 0), none,
  none, some (.iconst 2, 1, 0, 0, 0, 2), some (.iadd, 1, 0, 0, 0, 0), some (.iaload, 1, 0, 0, 0, 0), some (.if_icmp .ge 85, 3, 119, 0, 0, 0), none,
  none, some (.aload_n 0, 1, 0, 0, 0, 0), some (.getfield 7, 3, 12, 0, 0, 0), none, none, some (.iload_n 1, 1, 1, 0, 0, 0),
  some (.iload_n 3, 1, 3, 0, 0, 0), some (.invokestatic 133, 3, 157, 2, 0, 0), none, none, some (.iconst 3, 1, 0, 0, 0, 3), some (.iadd, 1, 0, 0, 0, 0),
  some (.iload 4, 2, 4, 0, 0, 0), none, some (.iadd, 1, 0, 0, 0, 0), some (.iaload, 1, 0, 0, 0, 0), some (.istore 5, 2, 5, 0, 0, 0), none,
  some (.iload_n 2, 1, 2, 0, 0, 0), some (.aload_n 0, 1, 0, 0, 0, 0), some (.iload 5, 2, 5, 0, 0, 0), none, some (.invokevirtual 98, 3, 141, 1, 0, 12), none,
  none, some (.ifCond .eq 10, 3, 71, 0, 0, 0), none, none, some (.iconst 1, 1, 0, 0, 0, 1), some (.iload 5, 2, 5, 0, 0, 0),
  none, some (.ishl, 1, 0, 0, 0, 0), some (.goto 43, 3, 111, 0, 0, 0), none, none, some (.iload 5, 2, 5, 0, 0, 0),
  none, some (.sipush 200, 3, 0, 0, 0, 200), none, none, some (.sipush 200, 3, 0, 0, 0, 200), none,
  none, some (.iload_n 1, 1, 1, 0, 0, 0), some (.iadd, 1, 0, 0, 0, 0), some (.iconst 1, 1, 0, 0, 0, 1), some (.isub, 1, 0, 0, 0, 0), some (.invokestatic 34, 3, 119, 3, 0, 0),
  none, none, some (.ifCond .eq 24, 3, 110, 0, 0, 0), none, none, some (.aload_n 0, 1, 0, 0, 0, 0),
  some (.iload_n 1, 1, 1, 0, 0, 0), some (.invokevirtual 130, 3, 171, 1, 0, 12), none, none, some (.ifCond .eq 16, 3, 110, 0, 0, 0), none,
  none, some (.aload_n 0, 1, 0, 0, 0, 0), some (.iload 5, 2, 5, 0, 0, 0), none, some (.sipush 200, 3, 0, 0, 0, 200), none,
  none, some (.isub, 1, 0, 0, 0, 0), some (.invokevirtual 166, 3, 172, 1, 0, 12), none, none, some (.goto 4, 3, 111, 0, 0, 0),
  none, none, some (.iconst 0, 1, 0, 0, 0, 0), some (.ior, 1, 0, 0, 0, 0), some (.istore_n 2, 1, 2, 0, 0, 0), some (.iinc 4 1, 3, 4, 0, 0, 1),
  none, none, some (.goto (-96), 3, 20, 0, 0, 0), none, none, some (.iinc 3 1, 3, 3, 0, 0, 1),
  none, none, some (.goto (-118), 3, 4, 0, 0, 0), none, none, some (.iload_n 2, 1, 2, 0, 0, 0),
  some (.ireturn, 1, 0, 0, 0, 0)
  ])
def mi_X12_leans : am_MI := (yX12_leans, cX12_leans, 2, (some FieldType.int), [
  some (.aload_n 0, 1, 0, 0, 0, 0), some (.iload_n 1, 1, 1, 0, 0, 0), some (.invokevirtual 136, 3, 156, 1, 0, 12), none, none, some (.ifCond .eq 11, 3, 16, 0, 0, 0),
  none, none, some (.aload_n 0, 1, 0, 0, 0, 0), some (.iload_n 1, 1, 1, 0, 0, 0), some (.invokevirtual 166, 3, 172, 1, 0, 12), none,
  none, some (.goto 4, 3, 17, 0, 0, 0), none, none, some (.iconst (-1), 1, 0, 0, 0, -1), some (.ireturn, 1, 0, 0, 0, 0)
  ])
def mi_X12_hole : am_MI := (yX12_hole, cX12_hole, 3, (some FieldType.int), [
  some (.aload_n 0, 1, 0, 0, 0, 0), some (.iload_n 1, 1, 1, 0, 0, 0), some (.invokevirtual 136, 3, 156, 1, 0, 12), none, none, some (.ifCond .eq 12, 3, 17, 0, 0, 0),
  none, none, some (.aload_n 0, 1, 0, 0, 0, 0), some (.iload_n 1, 1, 1, 0, 0, 0), some (.iload_n 2, 1, 2, 0, 0, 0), some (.invokevirtual 160, 3, 165, 2, 0, 12),
  none, none, some (.goto 4, 3, 18, 0, 0, 0), none, none, some (.iconst (-1), 1, 0, 0, 0, -1),
  some (.ireturn, 1, 0, 0, 0, 0)
  ])
def mi_X12_fill : am_MI := (yX12_fill, cX12_fill, 10, (some FieldType.int), [
  some (.aload_n 0, 1, 0, 0, 0, 0), some (.iload_n 1, 1, 1, 0, 0, 0), some (.invokevirtual 136, 3, 156, 1, 0, 12), none, none, some (.ifCond .ne 5, 3, 10, 0, 0, 0),
  none, none, some (.iconst (-1), 1, 0, 0, 0, -1), some (.ireturn, 1, 0, 0, 0, 0), some (.aload_n 0, 1, 0, 0, 0, 0), some (.iload_n 1, 1, 1, 0, 0, 0),
  some (.iconst 0, 1, 0, 0, 0, 0), some (.invokevirtual 160, 3, 165, 2, 0, 12), none, none, some (.istore_n 3, 1, 3, 0, 0, 0), some (.iload_n 3, 1, 3, 0, 0, 0),
  some (.iconst (-1), 1, 0, 0, 0, -1), some (.if_icmp .ne 6, 3, 25, 0, 0, 0), none, none, some (.bipush (-3), 2, 0, 0, 0, -3), none,
  some (.ireturn, 1, 0, 0, 0, 0), some (.iload_n 3, 1, 3, 0, 0, 0), some (.bipush 10, 2, 0, 0, 0, 10), none, some (.idiv, 1, 0, 0, 0, 0), some (.istore 4, 2, 4, 0, 0, 0),
  none, some (.iload_n 3, 1, 3, 0, 0, 0), some (.bipush 10, 2, 0, 0, 0, 10), none, some (.irem, 1, 0, 0, 0, 0), some (.istore 5, 2, 5, 0, 0, 0),
  none, some (.iload_n 1, 1, 1, 0, 0, 0), some (.iload 4, 2, 4, 0, 0, 0), none, some (.invokestatic 133, 3, 157, 2, 0, 0), none,
  none, some (.istore 6, 2, 6, 0, 0, 0), none, some (.iload 5, 2, 5, 0, 0, 0), none, some (.aload_n 0, 1, 0, 0, 0, 0),
  some (.getfield 7, 3, 12, 0, 0, 0), none, none, some (.aload_n 0, 1, 0, 0, 0, 0), some (.aload_n 0, 1, 0, 0, 0, 0), some (.getfield 7, 3, 12, 0, 0, 0),
  none, none, some (.iload 6, 2, 6, 0, 0, 0), none, some (.iaload, 1, 0, 0, 0, 0), some (.aload_n 0, 1, 0, 0, 0, 0),
  some (.getfield 7, 3, 12, 0, 0, 0), none, none, some (.iconst 0, 1, 0, 0, 0, 0), some (.iaload, 1, 0, 0, 0, 0), some (.invokevirtual 92, 3, 138, 2, 0, 12),
  none, none, some (.iaload, 1, 0, 0, 0, 0), some (.if_icmp .lt 6, 3, 75, 0, 0, 0), none, none,
  some (.bipush (-3), 2, 0, 0, 0, -3), none, some (.ireturn, 1, 0, 0, 0, 0), some (.aload_n 0, 1, 0, 0, 0, 0), some (.iload_n 1, 1, 1, 0, 0, 0), some (.iload 4, 2, 4, 0, 0, 0),
  none, some (.iload 5, 2, 5, 0, 0, 0), none, some (.aload_n 0, 1, 0, 0, 0, 0), some (.getfield 7, 3, 12, 0, 0, 0), none,
  none, some (.iconst 0, 1, 0, 0, 0, 0), some (.iaload, 1, 0, 0, 0, 0), some (.invokevirtual 142, 3, 162, 4, 0, 12), none, none,
  some (.istore 7, 2, 7, 0, 0, 0), none, some (.aload_n 0, 1, 0, 0, 0, 0), some (.iload_n 2, 1, 2, 0, 0, 0), some (.invokevirtual 98, 3, 141, 1, 0, 12), none,
  none, some (.ifCond .eq 57, 3, 154, 0, 0, 0), none, none, some (.aload_n 0, 1, 0, 0, 0, 0), some (.getfield 7, 3, 12, 0, 0, 0),
  none, none, some (.bipush 94, 2, 0, 0, 0, 94), none, some (.aload_n 0, 1, 0, 0, 0, 0), some (.iload_n 2, 1, 2, 0, 0, 0),
  some (.invokevirtual 98, 3, 141, 1, 0, 12), none, none, some (.ifCond .eq 7, 3, 118, 0, 0, 0), none, none,
  some (.iload_n 2, 1, 2, 0, 0, 0), some (.goto 4, 3, 119, 0, 0, 0), none, none, some (.iconst 0, 1, 0, 0, 0, 0), some (.iadd, 1, 0, 0, 0, 0),
  some (.iaload, 1, 0, 0, 0, 0), some (.ifCond .ne 33, 3, 154, 0, 0, 0), none, none, some (.aload_n 0, 1, 0, 0, 0, 0), some (.getfield 7, 3, 12, 0, 0, 0),
  none, none, some (.bipush 54, 2, 0, 0, 0, 54), none, some (.aload_n 0, 1, 0, 0, 0, 0), some (.iload_n 2, 1, 2, 0, 0, 0),
  some (.invokevirtual 98, 3, 141, 1, 0, 12), none, none, some (.ifCond .eq 7, 3, 142, 0, 0, 0), none, none,
  some (.iload_n 2, 1, 2, 0, 0, 0), some (.goto 4, 3, 143, 0, 0, 0), none, none, some (.iconst 0, 1, 0, 0, 0, 0), some (.iadd, 1, 0, 0, 0, 0),
  some (.iaload, 1, 0, 0, 0, 0), some (.iload 7, 2, 7, 0, 0, 0), none, some (.if_icmp .ne 7, 3, 154, 0, 0, 0), none, none,
  some (.iconst 1, 1, 0, 0, 0, 1), some (.goto 4, 3, 155, 0, 0, 0), none, none, some (.iconst 0, 1, 0, 0, 0, 0), some (.istore 8, 2, 8, 0, 0, 0),
  none, some (.iload_n 2, 1, 2, 0, 0, 0), some (.bipush 100, 2, 0, 0, 0, 100), none, some (.bipush 100, 2, 0, 0, 0, 100), none,
  some (.iload 4, 2, 4, 0, 0, 0), none, some (.iadd, 1, 0, 0, 0, 0), some (.iconst 1, 1, 0, 0, 0, 1), some (.isub, 1, 0, 0, 0, 0), some (.invokestatic 34, 3, 119, 3, 0, 0),
  none, none, some (.ifCond .eq 47, 3, 217, 0, 0, 0), none, none, some (.aload_n 0, 1, 0, 0, 0, 0),
  some (.iload_n 1, 1, 1, 0, 0, 0), some (.iload_n 2, 1, 2, 0, 0, 0), some (.bipush 100, 2, 0, 0, 0, 100), none, some (.bipush 100, 2, 0, 0, 0, 100), none,
  some (.iload 4, 2, 4, 0, 0, 0), none, some (.iadd, 1, 0, 0, 0, 0), some (.iconst 1, 1, 0, 0, 0, 1), some (.isub, 1, 0, 0, 0, 0), some (.invokestatic 34, 3, 119, 3, 0, 0),
  none, none, some (.ifCond .eq 10, 3, 198, 0, 0, 0), none, none, some (.iload_n 2, 1, 2, 0, 0, 0),
  some (.bipush 100, 2, 0, 0, 0, 100), none, some (.isub, 1, 0, 0, 0, 0), some (.goto 4, 3, 199, 0, 0, 0), none, none,
  some (.iconst 0, 1, 0, 0, 0, 0), some (.aload_n 0, 1, 0, 0, 0, 0), some (.getfield 7, 3, 12, 0, 0, 0), none, none, some (.iconst 0, 1, 0, 0, 0, 0),
  some (.iaload, 1, 0, 0, 0, 0), some (.invokevirtual 146, 3, 161, 3, 0, 12), none, none, some (.iload 7, 2, 7, 0, 0, 0), none,
  some (.if_icmp .ne 7, 3, 217, 0, 0, 0), none, none, some (.iconst 1, 1, 0, 0, 0, 1), some (.goto 4, 3, 218, 0, 0, 0), none,
  none, some (.iconst 0, 1, 0, 0, 0, 0), some (.istore 9, 2, 9, 0, 0, 0), none, some (.iload 8, 2, 8, 0, 0, 0), none,
  some (.ifCond .ne 11, 3, 233, 0, 0, 0), none, none, some (.iload 9, 2, 9, 0, 0, 0), none, some (.ifCond .ne 6, 3, 233, 0, 0, 0),
  none, none, some (.bipush (-3), 2, 0, 0, 0, -3), none, some (.ireturn, 1, 0, 0, 0, 0), some (.aload_n 0, 1, 0, 0, 0, 0),
  some (.getfield 7, 3, 12, 0, 0, 0), none, none, some (.iload 6, 2, 6, 0, 0, 0), none, some (.iconst 3, 1, 0, 0, 0, 3),
  some (.iadd, 1, 0, 0, 0, 0), some (.iload 5, 2, 5, 0, 0, 0), none, some (.iadd, 1, 0, 0, 0, 0), some (.iload_n 2, 1, 2, 0, 0, 0), some (.iastore, 1, 0, 0, 0, 0),
  some (.aload_n 0, 1, 0, 0, 0, 0), some (.iload_n 1, 1, 1, 0, 0, 0), some (.iconst (-1), 1, 0, 0, 0, -1), some (.invokevirtual 160, 3, 165, 2, 0, 12), none, none,
  some (.ireturn, 1, 0, 0, 0, 0)
  ])
def mi_X12_aboveOf : am_MI := (yX12_aboveOf, cX12_aboveOf, 1, (some FieldType.int), [
  some (.iload_n 0, 1, 0, 0, 0, 0), some (.iconst 4, 1, 0, 0, 0, 4), some (.if_icmp .ne 7, 3, 9, 0, 0, 0), none, none, some (.iconst 1, 1, 0, 0, 0, 1),
  some (.goto 4, 3, 10, 0, 0, 0), none, none, some (.iconst 0, 1, 0, 0, 0, 0), some (.ireturn, 1, 0, 0, 0, 0)
  ])
def mi_X12_leansFrom : am_MI := (yX12_leansFrom, cX12_leansFrom, 4, (some FieldType.int), [
  some (.iload_n 2, 1, 2, 0, 0, 0), some (.lookupswitch 49 #[(0, 27), (1, 39)], 27, 0, 0, 0, 0), none, none, none, none,
  none, none, none, none, none, none,
  none, none, none, none, none, none,
  none, none, none, none, none, none,
  none, none, none, none, some (.iload_n 3, 1, 3, 0, 0, 0), some (.aload_n 0, 1, 0, 0, 0, 0),
  some (.getfield 7, 3, 12, 0, 0, 0), none, none, some (.bipush 126, 2, 0, 0, 0, 126), none, some (.iload_n 1, 1, 1, 0, 0, 0),
  some (.iadd, 1, 0, 0, 0, 0), some (.iaload, 1, 0, 0, 0, 0), some (.iadd, 1, 0, 0, 0, 0), some (.ireturn, 1, 0, 0, 0, 0), some (.aload_n 0, 1, 0, 0, 0, 0), some (.iload_n 1, 1, 1, 0, 0, 0),
  some (.iconst 0, 1, 0, 0, 0, 0), some (.iload_n 3, 1, 3, 0, 0, 0), some (.iconst 2, 1, 0, 0, 0, 2), some (.imul, 1, 0, 0, 0, 0), some (.invokevirtual 169, 3, 177, 3, 0, 12), none,
  none, some (.ireturn, 1, 0, 0, 0, 0), some (.aload_n 0, 1, 0, 0, 0, 0), some (.iload_n 1, 1, 1, 0, 0, 0), some (.iload_n 2, 1, 2, 0, 0, 0), some (.invokestatic 172, 3, 176, 1, 0, 0),
  none, none, some (.iload_n 3, 1, 3, 0, 0, 0), some (.invokevirtual 169, 3, 177, 3, 0, 12), none, none,
  some (.ireturn, 1, 0, 0, 0, 0)
  ])
def mi_X12_showsFrom : am_MI := (yX12_showsFrom, cX12_showsFrom, 4, (some FieldType.int), [
  some (.iload_n 2, 1, 2, 0, 0, 0), some (.tableswitch 73 0 4 #[35, 73, 53, 73, 63], 35, 0, 0, 0, 0), none, none, none, none,
  none, none, none, none, none, none,
  none, none, none, none, none, none,
  none, none, none, none, none, none,
  none, none, none, none, none, none,
  none, none, none, none, none, none,
  some (.aload_n 0, 1, 0, 0, 0, 0), some (.iload_n 1, 1, 1, 0, 0, 0), some (.aload_n 0, 1, 0, 0, 0, 0), some (.getfield 7, 3, 12, 0, 0, 0), none, none,
  some (.bipush 114, 2, 0, 0, 0, 114), none, some (.iload_n 1, 1, 1, 0, 0, 0), some (.iadd, 1, 0, 0, 0, 0), some (.iaload, 1, 0, 0, 0, 0), some (.iload_n 3, 1, 3, 0, 0, 0),
  some (.invokevirtual 169, 3, 177, 3, 0, 12), none, none, some (.iload_n 1, 1, 1, 0, 0, 0), some (.isub, 1, 0, 0, 0, 0), some (.ireturn, 1, 0, 0, 0, 0),
  some (.aload_n 0, 1, 0, 0, 0, 0), some (.iload_n 1, 1, 1, 0, 0, 0), some (.iconst 0, 1, 0, 0, 0, 0), some (.iload_n 3, 1, 3, 0, 0, 0), some (.invokevirtual 175, 3, 178, 3, 0, 12), none,
  none, some (.iconst 5, 1, 0, 0, 0, 5), some (.ixor, 1, 0, 0, 0, 0), some (.ireturn, 1, 0, 0, 0, 0), some (.aload_n 0, 1, 0, 0, 0, 0), some (.iload_n 1, 1, 1, 0, 0, 0),
  some (.iconst 1, 1, 0, 0, 0, 1), some (.iload_n 3, 1, 3, 0, 0, 0), some (.iconst 1, 1, 0, 0, 0, 1), some (.iadd, 1, 0, 0, 0, 0), some (.invokevirtual 175, 3, 178, 3, 0, 12), none,
  none, some (.ireturn, 1, 0, 0, 0, 0), some (.aload_n 0, 1, 0, 0, 0, 0), some (.iload_n 1, 1, 1, 0, 0, 0), some (.iload_n 2, 1, 2, 0, 0, 0), some (.invokestatic 172, 3, 176, 1, 0, 0),
  none, none, some (.iload_n 3, 1, 3, 0, 0, 0), some (.invokevirtual 175, 3, 178, 3, 0, 12), none, none,
  some (.ireturn, 1, 0, 0, 0, 0)
  ])
def mi_X12_endsFrom : am_MI := (yX12_endsFrom, cX12_endsFrom, 4, (some FieldType.int), [
  some (.iload_n 2, 1, 2, 0, 0, 0), some (.tableswitch 86 0 4 #[35, 86, 86, 53, 62], 35, 0, 0, 0, 0), none, none, none, none,
  none, none, none, none, none, none,
  none, none, none, none, none, none,
  none, none, none, none, none, none,
  none, none, none, none, none, none,
  none, none, none, none, none, none,
  some (.aload_n 0, 1, 0, 0, 0, 0), some (.iload_n 1, 1, 1, 0, 0, 0), some (.aload_n 0, 1, 0, 0, 0, 0), some (.getfield 7, 3, 12, 0, 0, 0), none, none,
  some (.bipush 114, 2, 0, 0, 0, 114), none, some (.iload_n 1, 1, 1, 0, 0, 0), some (.iadd, 1, 0, 0, 0, 0), some (.iaload, 1, 0, 0, 0, 0), some (.iload_n 3, 1, 3, 0, 0, 0),
  some (.invokevirtual 175, 3, 178, 3, 0, 12), none, none, some (.iconst 2, 1, 0, 0, 0, 2), some (.imul, 1, 0, 0, 0, 0), some (.ireturn, 1, 0, 0, 0, 0),
  some (.aload_n 0, 1, 0, 0, 0, 0), some (.iload_n 1, 1, 1, 0, 0, 0), some (.iconst 0, 1, 0, 0, 0, 0), some (.iload_n 3, 1, 3, 0, 0, 0), some (.invokevirtual 178, 3, 179, 3, 0, 12), none,
  none, some (.ineg, 1, 0, 0, 0, 0), some (.ireturn, 1, 0, 0, 0, 0), some (.aload_n 0, 1, 0, 0, 0, 0), some (.iload_n 1, 1, 1, 0, 0, 0), some (.iconst 1, 1, 0, 0, 0, 1),
  some (.iload_n 3, 1, 3, 0, 0, 0), some (.invokevirtual 178, 3, 179, 3, 0, 12), none, none, some (.aload_n 0, 1, 0, 0, 0, 0), some (.iload_n 1, 1, 1, 0, 0, 0),
  some (.aload_n 0, 1, 0, 0, 0, 0), some (.getfield 7, 3, 12, 0, 0, 0), none, none, some (.bipush 114, 2, 0, 0, 0, 114), none,
  some (.iload_n 1, 1, 1, 0, 0, 0), some (.iadd, 1, 0, 0, 0, 0), some (.iaload, 1, 0, 0, 0, 0), some (.iconst 1, 1, 0, 0, 0, 1), some (.invokevirtual 169, 3, 177, 3, 0, 12), none,
  none, some (.iadd, 1, 0, 0, 0, 0), some (.ireturn, 1, 0, 0, 0, 0), some (.aload_n 0, 1, 0, 0, 0, 0), some (.iload_n 1, 1, 1, 0, 0, 0), some (.iload_n 2, 1, 2, 0, 0, 0),
  some (.invokestatic 172, 3, 176, 1, 0, 0), none, none, some (.iload_n 3, 1, 3, 0, 0, 0), some (.invokevirtual 178, 3, 179, 3, 0, 12), none,
  none, some (.ireturn, 1, 0, 0, 0, 0)
  ])
def mi_X12_act : am_MI := (yX12_act, cX12_act, 5, (some FieldType.int), [
  some (.aload_n 0, 1, 0, 0, 0, 0), some (.iload_n 1, 1, 1, 0, 0, 0), some (.invokevirtual 136, 3, 156, 1, 0, 12), none, none, some (.ifCond .eq 12, 3, 17, 0, 0, 0),
  none, none, some (.iload_n 2, 1, 2, 0, 0, 0), some (.iconst 0, 1, 0, 0, 0, 0), some (.iconst 2, 1, 0, 0, 0, 2), some (.invokestatic 34, 3, 119, 3, 0, 0),
  none, none, some (.ifCond .ne 5, 3, 19, 0, 0, 0), none, none, some (.iconst 0, 1, 0, 0, 0, 0),
  some (.ireturn, 1, 0, 0, 0, 0), some (.aload_n 0, 1, 0, 0, 0, 0), some (.getfield 7, 3, 12, 0, 0, 0), none, none, some (.bipush 114, 2, 0, 0, 0, 114),
  none, some (.iload_n 1, 1, 1, 0, 0, 0), some (.iadd, 1, 0, 0, 0, 0), some (.iaload, 1, 0, 0, 0, 0), some (.istore 4, 2, 4, 0, 0, 0), none,
  some (.iload_n 2, 1, 2, 0, 0, 0), some (.ifCond .ne 14, 3, 45, 0, 0, 0), none, none, some (.aload_n 0, 1, 0, 0, 0, 0), some (.iload_n 1, 1, 1, 0, 0, 0),
  some (.iload 4, 2, 4, 0, 0, 0), none, some (.iload_n 3, 1, 3, 0, 0, 0), some (.invokevirtual 169, 3, 177, 3, 0, 12), none, none,
  some (.goto 27, 3, 69, 0, 0, 0), none, none, some (.iload_n 2, 1, 2, 0, 0, 0), some (.iconst 1, 1, 0, 0, 0, 1), some (.if_icmp .ne 14, 3, 61, 0, 0, 0),
  none, none, some (.aload_n 0, 1, 0, 0, 0, 0), some (.iload_n 1, 1, 1, 0, 0, 0), some (.iload 4, 2, 4, 0, 0, 0), none,
  some (.iload_n 3, 1, 3, 0, 0, 0), some (.invokevirtual 175, 3, 178, 3, 0, 12), none, none, some (.goto 11, 3, 69, 0, 0, 0), none,
  none, some (.aload_n 0, 1, 0, 0, 0, 0), some (.iload_n 1, 1, 1, 0, 0, 0), some (.iload 4, 2, 4, 0, 0, 0), none, some (.iload_n 3, 1, 3, 0, 0, 0),
  some (.invokevirtual 178, 3, 179, 3, 0, 12), none, none, some (.ireturn, 1, 0, 0, 0, 0)
  ])
def mi_X12_as : am_MI := (yX12_as, cX12_as, 4, (some FieldType.int), [
  some (.aload_n 0, 1, 0, 0, 0, 0), some (.iload_n 1, 1, 1, 0, 0, 0), some (.invokevirtual 136, 3, 156, 1, 0, 12), none, none, some (.ifCond .eq 12, 3, 17, 0, 0, 0),
  none, none, some (.iload_n 2, 1, 2, 0, 0, 0), some (.iconst 0, 1, 0, 0, 0, 0), some (.iconst 4, 1, 0, 0, 0, 4), some (.invokestatic 34, 3, 119, 3, 0, 0),
  none, none, some (.ifCond .ne 5, 3, 19, 0, 0, 0), none, none, some (.iconst (-1), 1, 0, 0, 0, -1),
  some (.ireturn, 1, 0, 0, 0, 0), some (.aload_n 0, 1, 0, 0, 0, 0), some (.getfield 7, 3, 12, 0, 0, 0), none, none, some (.bipush 114, 2, 0, 0, 0, 114),
  none, some (.iload_n 1, 1, 1, 0, 0, 0), some (.iadd, 1, 0, 0, 0, 0), some (.iaload, 1, 0, 0, 0, 0), some (.istore_n 3, 1, 3, 0, 0, 0), some (.iload_n 2, 1, 2, 0, 0, 0),
  some (.ifCond .eq 18, 3, 48, 0, 0, 0), none, none, some (.iload_n 2, 1, 2, 0, 0, 0), some (.iload_n 3, 1, 3, 0, 0, 0), some (.if_icmp .eq 13, 3, 48, 0, 0, 0),
  none, none, some (.iload_n 2, 1, 2, 0, 0, 0), some (.iconst 1, 1, 0, 0, 0, 1), some (.if_icmp .ne 20, 3, 60, 0, 0, 0), none,
  none, some (.iload_n 3, 1, 3, 0, 0, 0), some (.iconst 4, 1, 0, 0, 0, 4), some (.if_icmp .ne 15, 3, 60, 0, 0, 0), none, none,
  some (.aload_n 0, 1, 0, 0, 0, 0), some (.getfield 7, 3, 12, 0, 0, 0), none, none, some (.bipush 126, 2, 0, 0, 0, 126), none,
  some (.iload_n 1, 1, 1, 0, 0, 0), some (.iadd, 1, 0, 0, 0, 0), some (.iaload, 1, 0, 0, 0, 0), some (.goto 5, 3, 62, 0, 0, 0), none, none,
  some (.bipush (-6), 2, 0, 0, 0, -6), none, some (.ireturn, 1, 0, 0, 0, 0)
  ])
def mi_X12_isTitle : am_MI := (yX12_isTitle, cX12_isTitle, 2, (some FieldType.boolean), [
  some (.iload_n 1, 1, 1, 0, 0, 0), some (.iconst 0, 1, 0, 0, 0, 0), some (.aload_n 0, 1, 0, 0, 0, 0), some (.getfield 7, 3, 12, 0, 0, 0), none, none,
  some (.iconst 5, 1, 0, 0, 0, 5), some (.iaload, 1, 0, 0, 0, 0), some (.iconst 1, 1, 0, 0, 0, 1), some (.isub, 1, 0, 0, 0, 0), some (.invokestatic 34, 3, 119, 3, 0, 0), none,
  none, some (.ireturn, 1, 0, 0, 0, 0)
  ])
def mi_X12_title : am_MI := (yX12_title, cX12_title, 4, (some FieldType.int), [
  some (.aload_n 0, 1, 0, 0, 0, 0), some (.iload_n 1, 1, 1, 0, 0, 0), some (.invokevirtual 136, 3, 156, 1, 0, 12), none, none, some (.ifCond .ne 5, 3, 10, 0, 0, 0),
  none, none, some (.iconst (-1), 1, 0, 0, 0, -1), some (.ireturn, 1, 0, 0, 0, 0), some (.aload_n 0, 1, 0, 0, 0, 0), some (.iload_n 1, 1, 1, 0, 0, 0),
  some (.aload_n 0, 1, 0, 0, 0, 0), some (.getfield 7, 3, 12, 0, 0, 0), none, none, some (.iconst 0, 1, 0, 0, 0, 0), some (.iaload, 1, 0, 0, 0, 0),
  some (.invokevirtual 153, 3, 166, 2, 0, 12), none, none, some (.ifCond .ne 6, 3, 27, 0, 0, 0), none, none,
  some (.bipush (-3), 2, 0, 0, 0, -3), none, some (.ireturn, 1, 0, 0, 0, 0), some (.aload_n 0, 1, 0, 0, 0, 0), some (.iload_n 1, 1, 1, 0, 0, 0), some (.aload_n 0, 1, 0, 0, 0, 0),
  some (.getfield 7, 3, 12, 0, 0, 0), none, none, some (.bipush 126, 2, 0, 0, 0, 126), none, some (.iload_n 1, 1, 1, 0, 0, 0),
  some (.iadd, 1, 0, 0, 0, 0), some (.iaload, 1, 0, 0, 0, 0), some (.iconst 1, 1, 0, 0, 0, 1), some (.isub, 1, 0, 0, 0, 0), some (.aload_n 0, 1, 0, 0, 0, 0), some (.getfield 7, 3, 12, 0, 0, 0),
  none, none, some (.iconst 0, 1, 0, 0, 0, 0), some (.iaload, 1, 0, 0, 0, 0), some (.invokevirtual 146, 3, 161, 3, 0, 12), none,
  none, some (.istore_n 2, 1, 2, 0, 0, 0), some (.iconst 0, 1, 0, 0, 0, 0), some (.istore_n 3, 1, 3, 0, 0, 0), some (.iload_n 3, 1, 3, 0, 0, 0), some (.aload_n 0, 1, 0, 0, 0, 0),
  some (.getfield 7, 3, 12, 0, 0, 0), none, none, some (.iconst 5, 1, 0, 0, 0, 5), some (.iaload, 1, 0, 0, 0, 0), some (.if_icmp .ge 26, 3, 85, 0, 0, 0),
  none, none, some (.aload_n 0, 1, 0, 0, 0, 0), some (.getfield 7, 3, 12, 0, 0, 0), none, none,
  some (.sipush 1022, 3, 0, 0, 0, 1022), none, none, some (.iload_n 3, 1, 3, 0, 0, 0), some (.iadd, 1, 0, 0, 0, 0), some (.iaload, 1, 0, 0, 0, 0),
  some (.iload_n 2, 1, 2, 0, 0, 0), some (.if_icmp .ne 6, 3, 79, 0, 0, 0), none, none, some (.bipush (-3), 2, 0, 0, 0, -3), none,
  some (.ireturn, 1, 0, 0, 0, 0), some (.iinc 3 1, 3, 3, 0, 0, 1), none, none, some (.goto (-30), 3, 52, 0, 0, 0), none,
  none, some (.aload_n 0, 1, 0, 0, 0, 0), some (.getfield 7, 3, 12, 0, 0, 0), none, none, some (.iconst 5, 1, 0, 0, 0, 5),
  some (.iaload, 1, 0, 0, 0, 0), some (.bipush 10, 2, 0, 0, 0, 10), none, some (.if_icmp .ne 6, 3, 99, 0, 0, 0), none, none,
  some (.bipush (-4), 2, 0, 0, 0, -4), none, some (.ireturn, 1, 0, 0, 0, 0), some (.aload_n 0, 1, 0, 0, 0, 0), some (.getfield 7, 3, 12, 0, 0, 0), none,
  none, some (.sipush 1002, 3, 0, 0, 0, 1002), none, none, some (.aload_n 0, 1, 0, 0, 0, 0), some (.getfield 7, 3, 12, 0, 0, 0),
  none, none, some (.iconst 5, 1, 0, 0, 0, 5), some (.iaload, 1, 0, 0, 0, 0), some (.iadd, 1, 0, 0, 0, 0), some (.iload_n 1, 1, 1, 0, 0, 0),
  some (.iastore, 1, 0, 0, 0, 0), some (.aload_n 0, 1, 0, 0, 0, 0), some (.getfield 7, 3, 12, 0, 0, 0), none, none, some (.sipush 1012, 3, 0, 0, 0, 1012),
  none, none, some (.aload_n 0, 1, 0, 0, 0, 0), some (.getfield 7, 3, 12, 0, 0, 0), none, none,
  some (.iconst 5, 1, 0, 0, 0, 5), some (.iaload, 1, 0, 0, 0, 0), some (.iadd, 1, 0, 0, 0, 0), some (.aload_n 0, 1, 0, 0, 0, 0), some (.getfield 7, 3, 12, 0, 0, 0), none,
  none, some (.iconst 0, 1, 0, 0, 0, 0), some (.iaload, 1, 0, 0, 0, 0), some (.iastore, 1, 0, 0, 0, 0), some (.aload_n 0, 1, 0, 0, 0, 0), some (.getfield 7, 3, 12, 0, 0, 0),
  none, none, some (.sipush 1022, 3, 0, 0, 0, 1022), none, none, some (.aload_n 0, 1, 0, 0, 0, 0),
  some (.getfield 7, 3, 12, 0, 0, 0), none, none, some (.iconst 5, 1, 0, 0, 0, 5), some (.iaload, 1, 0, 0, 0, 0), some (.iadd, 1, 0, 0, 0, 0),
  some (.iload_n 2, 1, 2, 0, 0, 0), some (.iastore, 1, 0, 0, 0, 0), some (.aload_n 0, 1, 0, 0, 0, 0), some (.getfield 7, 3, 12, 0, 0, 0), none, none,
  some (.iconst 5, 1, 0, 0, 0, 5), some (.dup2, 1, 0, 0, 0, 0), some (.iaload, 1, 0, 0, 0, 0), some (.iconst 1, 1, 0, 0, 0, 1), some (.iadd, 1, 0, 0, 0, 0), some (.iastore, 1, 0, 0, 0, 0),
  some (.aload_n 0, 1, 0, 0, 0, 0), some (.getfield 7, 3, 12, 0, 0, 0), none, none, some (.iconst 5, 1, 0, 0, 0, 5), some (.iaload, 1, 0, 0, 0, 0),
  some (.iconst 1, 1, 0, 0, 0, 1), some (.isub, 1, 0, 0, 0, 0), some (.ireturn, 1, 0, 0, 0, 0)
  ])
def mi_X12_standsOn : am_MI := (yX12_standsOn, cX12_standsOn, 3, (some FieldType.int), [
  some (.aload_n 0, 1, 0, 0, 0, 0), some (.aload_n 0, 1, 0, 0, 0, 0), some (.getfield 7, 3, 12, 0, 0, 0), none, none, some (.sipush 1002, 3, 0, 0, 0, 1002),
  none, none, some (.iload_n 1, 1, 1, 0, 0, 0), some (.iadd, 1, 0, 0, 0, 0), some (.iaload, 1, 0, 0, 0, 0), some (.aload_n 0, 1, 0, 0, 0, 0),
  some (.getfield 7, 3, 12, 0, 0, 0), none, none, some (.sipush 1012, 3, 0, 0, 0, 1012), none, none,
  some (.iload_n 1, 1, 1, 0, 0, 0), some (.iadd, 1, 0, 0, 0, 0), some (.iaload, 1, 0, 0, 0, 0), some (.invokevirtual 153, 3, 166, 2, 0, 12), none, none,
  some (.ifCond .eq 5, 3, 29, 0, 0, 0), none, none, some (.iconst 1, 1, 0, 0, 0, 1), some (.ireturn, 1, 0, 0, 0, 0), some (.aload_n 0, 1, 0, 0, 0, 0),
  some (.aload_n 0, 1, 0, 0, 0, 0), some (.getfield 7, 3, 12, 0, 0, 0), none, none, some (.sipush 1022, 3, 0, 0, 0, 1022), none,
  none, some (.iload_n 1, 1, 1, 0, 0, 0), some (.iadd, 1, 0, 0, 0, 0), some (.iaload, 1, 0, 0, 0, 0), some (.iload_n 2, 1, 2, 0, 0, 0), some (.invokevirtual 181, 3, 153, 2, 0, 12),
  none, none, some (.ifCond .eq 7, 3, 51, 0, 0, 0), none, none, some (.iconst 2, 1, 0, 0, 0, 2),
  some (.goto 4, 3, 52, 0, 0, 0), none, none, some (.iconst 0, 1, 0, 0, 0, 0), some (.ireturn, 1, 0, 0, 0, 0)
  ])
def mi_X12_stand : am_MI := (yX12_stand, cX12_stand, 3, (some FieldType.int), [
  some (.aload_n 0, 1, 0, 0, 0, 0), some (.iload_n 1, 1, 1, 0, 0, 0), some (.invokevirtual 184, 3, 182, 1, 0, 12), none, none, some (.ifCond .ne 7, 3, 12, 0, 0, 0),
  none, none, some (.iconst (-1), 1, 0, 0, 0, -1), some (.goto 46, 3, 55, 0, 0, 0), none, none,
  some (.iload_n 2, 1, 2, 0, 0, 0), some (.aload_n 0, 1, 0, 0, 0, 0), some (.getfield 7, 3, 12, 0, 0, 0), none, none, some (.sipush 1012, 3, 0, 0, 0, 1012),
  none, none, some (.aload_n 0, 1, 0, 0, 0, 0), some (.iload_n 1, 1, 1, 0, 0, 0), some (.invokevirtual 184, 3, 182, 1, 0, 12), none,
  none, some (.ifCond .eq 7, 3, 32, 0, 0, 0), none, none, some (.iload_n 1, 1, 1, 0, 0, 0), some (.goto 4, 3, 33, 0, 0, 0),
  none, none, some (.iconst 0, 1, 0, 0, 0, 0), some (.iadd, 1, 0, 0, 0, 0), some (.iaload, 1, 0, 0, 0, 0), some (.sipush 999, 3, 0, 0, 0, 999),
  none, none, some (.invokestatic 34, 3, 119, 3, 0, 0), none, none, some (.ifCond .eq 12, 3, 53, 0, 0, 0),
  none, none, some (.aload_n 0, 1, 0, 0, 0, 0), some (.iload_n 1, 1, 1, 0, 0, 0), some (.iload_n 2, 1, 2, 0, 0, 0), some (.invokevirtual 187, 3, 184, 2, 0, 12),
  none, none, some (.goto 5, 3, 55, 0, 0, 0), none, none, some (.bipush (-2), 2, 0, 0, 0, -2),
  none, some (.ireturn, 1, 0, 0, 0, 0)
  ])
def mi_X12_fall : am_MI := (yX12_fall, cX12_fall, 5, (some FieldType.int), [
  some (.aload_n 0, 1, 0, 0, 0, 0), some (.iload_n 1, 1, 1, 0, 0, 0), some (.invokevirtual 98, 3, 141, 1, 0, 12), none, none, some (.ifCond .ne 5, 3, 10, 0, 0, 0),
  none, none, some (.iconst (-1), 1, 0, 0, 0, -1), some (.ireturn, 1, 0, 0, 0, 0), some (.aload_n 0, 1, 0, 0, 0, 0), some (.getfield 7, 3, 12, 0, 0, 0),
  none, none, some (.bipush 94, 2, 0, 0, 0, 94), none, some (.iload_n 1, 1, 1, 0, 0, 0), some (.iadd, 1, 0, 0, 0, 0),
  some (.iaload, 1, 0, 0, 0, 0), some (.iconst 1, 1, 0, 0, 0, 1), some (.if_icmp .ne 6, 3, 26, 0, 0, 0), none, none, some (.bipush (-3), 2, 0, 0, 0, -3),
  none, some (.ireturn, 1, 0, 0, 0, 0), some (.iconst 0, 1, 0, 0, 0, 0), some (.istore_n 2, 1, 2, 0, 0, 0), some (.iconst 0, 1, 0, 0, 0, 0), some (.istore_n 3, 1, 3, 0, 0, 0),
  some (.iload_n 3, 1, 3, 0, 0, 0), some (.aload_n 0, 1, 0, 0, 0, 0), some (.getfield 7, 3, 12, 0, 0, 0), none, none, some (.iconst 5, 1, 0, 0, 0, 5),
  some (.iaload, 1, 0, 0, 0, 0), some (.if_icmp .ge 71, 3, 108, 0, 0, 0), none, none, some (.aload_n 0, 1, 0, 0, 0, 0), some (.iload_n 3, 1, 3, 0, 0, 0),
  some (.aload_n 0, 1, 0, 0, 0, 0), some (.getfield 7, 3, 12, 0, 0, 0), none, none, some (.iconst 0, 1, 0, 0, 0, 0), some (.iaload, 1, 0, 0, 0, 0),
  some (.invokevirtual 187, 3, 184, 2, 0, 12), none, none, some (.istore 4, 2, 4, 0, 0, 0), none, some (.aload_n 0, 1, 0, 0, 0, 0),
  some (.getfield 7, 3, 12, 0, 0, 0), none, none, some (.bipush 94, 2, 0, 0, 0, 94), none, some (.iload_n 1, 1, 1, 0, 0, 0),
  some (.iadd, 1, 0, 0, 0, 0), some (.iconst 1, 1, 0, 0, 0, 1), some (.iastore, 1, 0, 0, 0, 0), some (.iload_n 2, 1, 2, 0, 0, 0), some (.iload 4, 2, 4, 0, 0, 0), none,
  some (.ifCond .le 23, 3, 89, 0, 0, 0), none, none, some (.aload_n 0, 1, 0, 0, 0, 0), some (.iload_n 3, 1, 3, 0, 0, 0), some (.aload_n 0, 1, 0, 0, 0, 0),
  some (.getfield 7, 3, 12, 0, 0, 0), none, none, some (.iconst 0, 1, 0, 0, 0, 0), some (.iaload, 1, 0, 0, 0, 0), some (.invokevirtual 187, 3, 184, 2, 0, 12),
  none, none, some (.ifCond .ne 9, 3, 89, 0, 0, 0), none, none, some (.iconst 1, 1, 0, 0, 0, 1),
  some (.iload_n 3, 1, 3, 0, 0, 0), some (.ishl, 1, 0, 0, 0, 0), some (.goto 4, 3, 90, 0, 0, 0), none, none, some (.iconst 0, 1, 0, 0, 0, 0),
  some (.ior, 1, 0, 0, 0, 0), some (.istore_n 2, 1, 2, 0, 0, 0), some (.aload_n 0, 1, 0, 0, 0, 0), some (.getfield 7, 3, 12, 0, 0, 0), none, none,
  some (.bipush 94, 2, 0, 0, 0, 94), none, some (.iload_n 1, 1, 1, 0, 0, 0), some (.iadd, 1, 0, 0, 0, 0), some (.iconst 0, 1, 0, 0, 0, 0), some (.iastore, 1, 0, 0, 0, 0),
  some (.iinc 3 1, 3, 3, 0, 0, 1), none, none, some (.goto (-75), 3, 30, 0, 0, 0), none, none,
  some (.iload_n 2, 1, 2, 0, 0, 0), some (.ireturn, 1, 0, 0, 0, 0)
  ])
def mi_X12_carry : am_MI := (yX12_carry, cX12_carry, 5, (some FieldType.int), [
  some (.aload_n 0, 1, 0, 0, 0, 0), some (.iload_n 1, 1, 1, 0, 0, 0), some (.invokevirtual 184, 3, 182, 1, 0, 12), none, none, some (.ifCond .ne 5, 3, 10, 0, 0, 0),
  none, none, some (.iconst (-1), 1, 0, 0, 0, -1), some (.ireturn, 1, 0, 0, 0, 0), some (.iload_n 2, 1, 2, 0, 0, 0), some (.invokestatic 89, 3, 120, 1, 0, 0),
  none, none, some (.ifCond .ne 6, 3, 20, 0, 0, 0), none, none, some (.bipush (-2), 2, 0, 0, 0, -2),
  none, some (.ireturn, 1, 0, 0, 0, 0), some (.aload_n 0, 1, 0, 0, 0, 0), some (.getfield 7, 3, 12, 0, 0, 0), none, none,
  some (.sipush 1002, 3, 0, 0, 0, 1002), none, none, some (.iload_n 1, 1, 1, 0, 0, 0), some (.iadd, 1, 0, 0, 0, 0), some (.iaload, 1, 0, 0, 0, 0),
  some (.istore_n 3, 1, 3, 0, 0, 0), some (.iconst 0, 1, 0, 0, 0, 0), some (.istore 4, 2, 4, 0, 0, 0), none, some (.iload 4, 2, 4, 0, 0, 0), none,
  some (.aload_n 0, 1, 0, 0, 0, 0), some (.getfield 7, 3, 12, 0, 0, 0), none, none, some (.bipush 126, 2, 0, 0, 0, 126), none,
  some (.iload_n 3, 1, 3, 0, 0, 0), some (.iadd, 1, 0, 0, 0, 0), some (.iaload, 1, 0, 0, 0, 0), some (.if_icmp .ge 23, 3, 68, 0, 0, 0), none, none,
  some (.aload_n 0, 1, 0, 0, 0, 0), some (.iload_n 3, 1, 3, 0, 0, 0), some (.iload 4, 2, 4, 0, 0, 0), none, some (.iload_n 2, 1, 2, 0, 0, 0), some (.invokevirtual 150, 3, 164, 3, 0, 12),
  none, none, some (.ifCond .eq 6, 3, 62, 0, 0, 0), none, none, some (.iload 4, 2, 4, 0, 0, 0),
  none, some (.ireturn, 1, 0, 0, 0, 0), some (.iinc 4 1, 3, 4, 0, 0, 1), none, none, some (.goto (-31), 3, 34, 0, 0, 0),
  none, none, some (.bipush (-5), 2, 0, 0, 0, -5), none, some (.ireturn, 1, 0, 0, 0, 0)
  ])
def mi_X12_clash : am_MI := (yX12_clash, cX12_clash, 6, (some FieldType.int), [
  some (.aload_n 0, 1, 0, 0, 0, 0), some (.iload_n 1, 1, 1, 0, 0, 0), some (.invokevirtual 184, 3, 182, 1, 0, 12), none, none, some (.ifCond .eq 11, 3, 16, 0, 0, 0),
  none, none, some (.aload_n 0, 1, 0, 0, 0, 0), some (.iload_n 2, 1, 2, 0, 0, 0), some (.invokevirtual 184, 3, 182, 1, 0, 12), none,
  none, some (.ifCond .ne 5, 3, 18, 0, 0, 0), none, none, some (.iconst (-1), 1, 0, 0, 0, -1), some (.ireturn, 1, 0, 0, 0, 0),
  some (.iload_n 1, 1, 1, 0, 0, 0), some (.iload_n 2, 1, 2, 0, 0, 0), some (.if_icmp .ne 6, 3, 26, 0, 0, 0), none, none, some (.bipush (-2), 2, 0, 0, 0, -2),
  none, some (.ireturn, 1, 0, 0, 0, 0), some (.aload_n 0, 1, 0, 0, 0, 0), some (.getfield 7, 3, 12, 0, 0, 0), none, none,
  some (.sipush 1022, 3, 0, 0, 0, 1022), none, none, some (.iload_n 1, 1, 1, 0, 0, 0), some (.iadd, 1, 0, 0, 0, 0), some (.iaload, 1, 0, 0, 0, 0),
  some (.istore_n 3, 1, 3, 0, 0, 0), some (.aload_n 0, 1, 0, 0, 0, 0), some (.getfield 7, 3, 12, 0, 0, 0), none, none, some (.sipush 1022, 3, 0, 0, 0, 1022),
  none, none, some (.iload_n 2, 1, 2, 0, 0, 0), some (.iadd, 1, 0, 0, 0, 0), some (.iaload, 1, 0, 0, 0, 0), some (.istore 4, 2, 4, 0, 0, 0),
  none, some (.iload_n 3, 1, 3, 0, 0, 0), some (.bipush 125, 2, 0, 0, 0, 125), none, some (.if_icmp .ge 40, 3, 92, 0, 0, 0), none,
  none, some (.iload 4, 2, 4, 0, 0, 0), none, some (.bipush 125, 2, 0, 0, 0, 125), none, some (.if_icmp .ge 33, 3, 92, 0, 0, 0),
  none, none, some (.iload_n 3, 1, 3, 0, 0, 0), some (.iconst 5, 1, 0, 0, 0, 5), some (.idiv, 1, 0, 0, 0, 0), some (.iconst 5, 1, 0, 0, 0, 5),
  some (.irem, 1, 0, 0, 0, 0), some (.iload 4, 2, 4, 0, 0, 0), none, some (.iconst 5, 1, 0, 0, 0, 5), some (.idiv, 1, 0, 0, 0, 0), some (.iconst 5, 1, 0, 0, 0, 5),
  some (.irem, 1, 0, 0, 0, 0), some (.if_icmp .ne 19, 3, 92, 0, 0, 0), none, none, some (.iload_n 3, 1, 3, 0, 0, 0), some (.bipush 25, 2, 0, 0, 0, 25),
  none, some (.idiv, 1, 0, 0, 0, 0), some (.iload 4, 2, 4, 0, 0, 0), none, some (.bipush 25, 2, 0, 0, 0, 25), none,
  some (.idiv, 1, 0, 0, 0, 0), some (.if_icmp .eq 7, 3, 92, 0, 0, 0), none, none, some (.iconst 1, 1, 0, 0, 0, 1), some (.goto 4, 3, 93, 0, 0, 0),
  none, none, some (.iconst 0, 1, 0, 0, 0, 0), some (.istore 5, 2, 5, 0, 0, 0), none, some (.iload 5, 2, 5, 0, 0, 0),
  none, some (.ifCond .eq 35, 3, 132, 0, 0, 0), none, none, some (.aload_n 0, 1, 0, 0, 0, 0), some (.aload_n 0, 1, 0, 0, 0, 0),
  some (.getfield 7, 3, 12, 0, 0, 0), none, none, some (.sipush 1002, 3, 0, 0, 0, 1002), none, none,
  some (.iload_n 1, 1, 1, 0, 0, 0), some (.iadd, 1, 0, 0, 0, 0), some (.iaload, 1, 0, 0, 0, 0), some (.invokevirtual 166, 3, 172, 1, 0, 12), none, none,
  some (.aload_n 0, 1, 0, 0, 0, 0), some (.aload_n 0, 1, 0, 0, 0, 0), some (.getfield 7, 3, 12, 0, 0, 0), none, none, some (.sipush 1002, 3, 0, 0, 0, 1002),
  none, none, some (.iload_n 2, 1, 2, 0, 0, 0), some (.iadd, 1, 0, 0, 0, 0), some (.iaload, 1, 0, 0, 0, 0), some (.invokevirtual 166, 3, 172, 1, 0, 12),
  none, none, some (.ixor, 1, 0, 0, 0, 0), some (.goto 5, 3, 134, 0, 0, 0), none, none,
  some (.bipush (-5), 2, 0, 0, 0, -5), none, some (.ireturn, 1, 0, 0, 0, 0)
  ])
def mi_X12_every : am_MI := (yX12_every, cX12_every, 4, (some FieldType.int), [
  some (.iload_n 1, 1, 1, 0, 0, 0), some (.invokestatic 95, 3, 121, 1, 0, 0), none, none, some (.ifCond .ne 6, 3, 10, 0, 0, 0), none,
  none, some (.bipush (-2), 2, 0, 0, 0, -2), none, some (.ireturn, 1, 0, 0, 0, 0), some (.aload_n 0, 1, 0, 0, 0, 0), some (.iload_n 1, 1, 1, 0, 0, 0),
  some (.aload_n 0, 1, 0, 0, 0, 0), some (.getfield 7, 3, 12, 0, 0, 0), none, none, some (.iconst 0, 1, 0, 0, 0, 0), some (.iaload, 1, 0, 0, 0, 0),
  some (.invokevirtual 181, 3, 153, 2, 0, 12), none, none, some (.ifCond .ne 6, 3, 27, 0, 0, 0), none, none,
  some (.bipush (-5), 2, 0, 0, 0, -5), none, some (.ireturn, 1, 0, 0, 0, 0), some (.iconst 0, 1, 0, 0, 0, 0), some (.istore_n 2, 1, 2, 0, 0, 0), some (.iconst 0, 1, 0, 0, 0, 0),
  some (.istore_n 3, 1, 3, 0, 0, 0), some (.iload_n 3, 1, 3, 0, 0, 0), some (.aload_n 0, 1, 0, 0, 0, 0), some (.getfield 7, 3, 12, 0, 0, 0), none, none,
  some (.iconst 3, 1, 0, 0, 0, 3), some (.iaload, 1, 0, 0, 0, 0), some (.if_icmp .ge 65, 3, 103, 0, 0, 0), none, none, some (.aload_n 0, 1, 0, 0, 0, 0),
  some (.getfield 7, 3, 12, 0, 0, 0), none, none, some (.bipush 94, 2, 0, 0, 0, 94), none, some (.iload_n 3, 1, 3, 0, 0, 0),
  some (.iadd, 1, 0, 0, 0, 0), some (.iaload, 1, 0, 0, 0, 0), some (.ifCond .ne 47, 3, 97, 0, 0, 0), none, none, some (.aload_n 0, 1, 0, 0, 0, 0),
  some (.getfield 7, 3, 12, 0, 0, 0), none, none, some (.bipush 94, 2, 0, 0, 0, 94), none, some (.iload_n 3, 1, 3, 0, 0, 0),
  some (.iadd, 1, 0, 0, 0, 0), some (.iconst 1, 1, 0, 0, 0, 1), some (.iastore, 1, 0, 0, 0, 0), some (.iload_n 2, 1, 2, 0, 0, 0), some (.aload_n 0, 1, 0, 0, 0, 0), some (.iload_n 1, 1, 1, 0, 0, 0),
  some (.aload_n 0, 1, 0, 0, 0, 0), some (.getfield 7, 3, 12, 0, 0, 0), none, none, some (.iconst 0, 1, 0, 0, 0, 0), some (.iaload, 1, 0, 0, 0, 0),
  some (.invokevirtual 181, 3, 153, 2, 0, 12), none, none, some (.ifCond .eq 7, 3, 82, 0, 0, 0), none, none,
  some (.iconst 0, 1, 0, 0, 0, 0), some (.goto 6, 3, 85, 0, 0, 0), none, none, some (.iconst 1, 1, 0, 0, 0, 1), some (.iload_n 3, 1, 3, 0, 0, 0),
  some (.ishl, 1, 0, 0, 0, 0), some (.ior, 1, 0, 0, 0, 0), some (.istore_n 2, 1, 2, 0, 0, 0), some (.aload_n 0, 1, 0, 0, 0, 0), some (.getfield 7, 3, 12, 0, 0, 0), none,
  none, some (.bipush 94, 2, 0, 0, 0, 94), none, some (.iload_n 3, 1, 3, 0, 0, 0), some (.iadd, 1, 0, 0, 0, 0), some (.iconst 0, 1, 0, 0, 0, 0),
  some (.iastore, 1, 0, 0, 0, 0), some (.iinc 3 1, 3, 3, 0, 0, 1), none, none, some (.goto (-69), 3, 31, 0, 0, 0), none,
  none, some (.iload_n 2, 1, 2, 0, 0, 0), some (.ireturn, 1, 0, 0, 0, 0)
  ])
def mi_X12_many0 : am_MI := (yX12_many0, cX12_many0, 3, (some FieldType.int), [
  some (.iconst 0, 1, 0, 0, 0, 0), some (.istore_n 1, 1, 1, 0, 0, 0), some (.iconst 0, 1, 0, 0, 0, 0), some (.istore_n 2, 1, 2, 0, 0, 0), some (.iload_n 2, 1, 2, 0, 0, 0), some (.bipush 20, 2, 0, 0, 0, 20),
  none, some (.if_icmp .ge 17, 3, 24, 0, 0, 0), none, none, some (.iload_n 1, 1, 1, 0, 0, 0), some (.iload_n 0, 1, 0, 0, 0, 0),
  some (.iload_n 2, 1, 2, 0, 0, 0), some (.ishr, 1, 0, 0, 0, 0), some (.iconst 1, 1, 0, 0, 0, 1), some (.iand, 1, 0, 0, 0, 0), some (.iadd, 1, 0, 0, 0, 0), some (.istore_n 1, 1, 1, 0, 0, 0),
  some (.iinc 2 1, 3, 2, 0, 0, 1), none, none, some (.goto (-17), 3, 4, 0, 0, 0), none, none,
  some (.iload_n 1, 1, 1, 0, 0, 0), some (.ireturn, 1, 0, 0, 0, 0)
  ])
def mi_X12_fewest : am_MI := (yX12_fewest, cX12_fewest, 8, (some FieldType.int), [
  some (.iconst 0, 1, 0, 0, 0, 0), some (.istore 4, 2, 4, 0, 0, 0), none, some (.iload 4, 2, 4, 0, 0, 0), none, some (.bipush 20, 2, 0, 0, 0, 20),
  none, some (.if_icmp .ge 26, 3, 33, 0, 0, 0), none, none, some (.aload_n 0, 1, 0, 0, 0, 0), some (.getfield 25, 3, 12, 8, 0, 0),
  none, none, some (.iload 4, 2, 4, 0, 0, 0), none, some (.aload_n 0, 1, 0, 0, 0, 0), some (.getfield 7, 3, 12, 0, 0, 0),
  none, none, some (.bipush 94, 2, 0, 0, 0, 94), none, some (.iload 4, 2, 4, 0, 0, 0), none,
  some (.iadd, 1, 0, 0, 0, 0), some (.iaload, 1, 0, 0, 0, 0), some (.iastore, 1, 0, 0, 0, 0), some (.iinc 4 1, 3, 4, 0, 0, 1), none, none,
  some (.goto (-27), 3, 3, 0, 0, 0), none, none, some (.bipush (-5), 2, 0, 0, 0, -5), none, some (.istore 4, 2, 4, 0, 0, 0),
  none, some (.iconst 0, 1, 0, 0, 0, 0), some (.istore 5, 2, 5, 0, 0, 0), none, some (.iload 5, 2, 5, 0, 0, 0), none,
  some (.iconst 1, 1, 0, 0, 0, 1), some (.iload_n 3, 1, 3, 0, 0, 0), some (.ishl, 1, 0, 0, 0, 0), some (.if_icmp .ge 147, 3, 192, 0, 0, 0), none, none,
  some (.iconst 0, 1, 0, 0, 0, 0), some (.istore 6, 2, 6, 0, 0, 0), none, some (.iconst 0, 1, 0, 0, 0, 0), some (.istore 7, 2, 7, 0, 0, 0), none,
  some (.iload 7, 2, 7, 0, 0, 0), none, some (.iload_n 3, 1, 3, 0, 0, 0), some (.if_icmp .ge 38, 3, 95, 0, 0, 0), none, none,
  some (.iload 6, 2, 6, 0, 0, 0), none, some (.iload 5, 2, 5, 0, 0, 0), none, some (.iload 7, 2, 7, 0, 0, 0), none,
  some (.ishr, 1, 0, 0, 0, 0), some (.iconst 1, 1, 0, 0, 0, 1), some (.iand, 1, 0, 0, 0, 0), some (.iconst 1, 1, 0, 0, 0, 1), some (.if_icmp .ne 15, 3, 85, 0, 0, 0), none,
  none, some (.iconst 1, 1, 0, 0, 0, 1), some (.aload_n 0, 1, 0, 0, 0, 0), some (.getfield 28, 3, 12, 9, 0, 0), none, none,
  some (.iload 7, 2, 7, 0, 0, 0), none, some (.iaload, 1, 0, 0, 0, 0), some (.ishl, 1, 0, 0, 0, 0), some (.goto 4, 3, 86, 0, 0, 0), none,
  none, some (.iconst 0, 1, 0, 0, 0, 0), some (.ior, 1, 0, 0, 0, 0), some (.istore 6, 2, 6, 0, 0, 0), none, some (.iinc 7 1, 3, 7, 0, 0, 1),
  none, none, some (.goto (-38), 3, 54, 0, 0, 0), none, none, some (.iload 4, 2, 4, 0, 0, 0),
  none, some (.bipush (-5), 2, 0, 0, 0, -5), none, some (.if_icmp .eq 16, 3, 115, 0, 0, 0), none, none,
  some (.iload 6, 2, 6, 0, 0, 0), none, some (.invokestatic 190, 3, 190, 1, 0, 0), none, none, some (.iload 4, 2, 4, 0, 0, 0),
  none, some (.invokestatic 190, 3, 190, 1, 0, 0), none, none, some (.if_icmp .ge 74, 3, 186, 0, 0, 0), none,
  none, some (.iconst 0, 1, 0, 0, 0, 0), some (.istore 7, 2, 7, 0, 0, 0), none, some (.iload 7, 2, 7, 0, 0, 0), none,
  some (.aload_n 0, 1, 0, 0, 0, 0), some (.getfield 7, 3, 12, 0, 0, 0), none, none, some (.iconst 3, 1, 0, 0, 0, 3), some (.iaload, 1, 0, 0, 0, 0),
  some (.if_icmp .ge 37, 3, 163, 0, 0, 0), none, none, some (.aload_n 0, 1, 0, 0, 0, 0), some (.getfield 7, 3, 12, 0, 0, 0), none,
  none, some (.bipush 94, 2, 0, 0, 0, 94), none, some (.iload 7, 2, 7, 0, 0, 0), none, some (.iadd, 1, 0, 0, 0, 0),
  some (.iload_n 2, 1, 2, 0, 0, 0), some (.iload 6, 2, 6, 0, 0, 0), none, some (.ior, 1, 0, 0, 0, 0), some (.iload 7, 2, 7, 0, 0, 0), none,
  some (.ishr, 1, 0, 0, 0, 0), some (.iconst 1, 1, 0, 0, 0, 1), some (.iand, 1, 0, 0, 0, 0), some (.iconst 1, 1, 0, 0, 0, 1), some (.if_icmp .ne 7, 3, 155, 0, 0, 0), none,
  none, some (.iconst 0, 1, 0, 0, 0, 0), some (.goto 4, 3, 156, 0, 0, 0), none, none, some (.iconst 1, 1, 0, 0, 0, 1),
  some (.iastore, 1, 0, 0, 0, 0), some (.iinc 7 1, 3, 7, 0, 0, 1), none, none, some (.goto (-42), 3, 118, 0, 0, 0), none,
  none, some (.aload_n 0, 1, 0, 0, 0, 0), some (.iload_n 1, 1, 1, 0, 0, 0), some (.aload_n 0, 1, 0, 0, 0, 0), some (.getfield 7, 3, 12, 0, 0, 0), none,
  none, some (.iconst 0, 1, 0, 0, 0, 0), some (.iaload, 1, 0, 0, 0, 0), some (.invokevirtual 181, 3, 153, 2, 0, 12), none, none,
  some (.ifCond .eq 8, 3, 182, 0, 0, 0), none, none, some (.iload 6, 2, 6, 0, 0, 0), none, some (.goto 5, 3, 184, 0, 0, 0),
  none, none, some (.iload 4, 2, 4, 0, 0, 0), none, some (.istore 4, 2, 4, 0, 0, 0), none,
  some (.iinc 5 1, 3, 5, 0, 0, 1), none, none, some (.goto (-149), 3, 40, 0, 0, 0), none, none,
  some (.iconst 0, 1, 0, 0, 0, 0), some (.istore 5, 2, 5, 0, 0, 0), none, some (.iload 5, 2, 5, 0, 0, 0), none, some (.bipush 20, 2, 0, 0, 0, 20),
  none, some (.if_icmp .ge 26, 3, 225, 0, 0, 0), none, none, some (.aload_n 0, 1, 0, 0, 0, 0), some (.getfield 7, 3, 12, 0, 0, 0),
  none, none, some (.bipush 94, 2, 0, 0, 0, 94), none, some (.iload 5, 2, 5, 0, 0, 0), none,
  some (.iadd, 1, 0, 0, 0, 0), some (.aload_n 0, 1, 0, 0, 0, 0), some (.getfield 25, 3, 12, 8, 0, 0), none, none, some (.iload 5, 2, 5, 0, 0, 0),
  none, some (.iaload, 1, 0, 0, 0, 0), some (.iastore, 1, 0, 0, 0, 0), some (.iinc 5 1, 3, 5, 0, 0, 1), none, none,
  some (.goto (-27), 3, 195, 0, 0, 0), none, none, some (.iload 4, 2, 4, 0, 0, 0), none, some (.ireturn, 1, 0, 0, 0, 0)
  ])
def mi_X12_enough : am_MI := (yX12_enough, cX12_enough, 5, (some FieldType.int), [
  some (.iload_n 1, 1, 1, 0, 0, 0), some (.invokestatic 95, 3, 121, 1, 0, 0), none, none, some (.ifCond .eq 28, 3, 32, 0, 0, 0), none,
  none, some (.iload_n 2, 1, 2, 0, 0, 0), some (.ifCond .lt 24, 3, 32, 0, 0, 0), none, none, some (.iload_n 2, 1, 2, 0, 0, 0),
  some (.iconst 1, 1, 0, 0, 0, 1), some (.aload_n 0, 1, 0, 0, 0, 0), some (.getfield 7, 3, 12, 0, 0, 0), none, none, some (.iconst 3, 1, 0, 0, 0, 3),
  some (.iaload, 1, 0, 0, 0, 0), some (.ishl, 1, 0, 0, 0, 0), some (.if_icmp .ge 12, 3, 32, 0, 0, 0), none, none, some (.iload_n 2, 1, 2, 0, 0, 0),
  some (.invokestatic 190, 3, 190, 1, 0, 0), none, none, some (.bipush 6, 2, 0, 0, 0, 6), none, some (.if_icmp .le 6, 3, 35, 0, 0, 0),
  none, none, some (.bipush (-2), 2, 0, 0, 0, -2), none, some (.ireturn, 1, 0, 0, 0, 0), some (.iconst 0, 1, 0, 0, 0, 0),
  some (.istore_n 3, 1, 3, 0, 0, 0), some (.iconst 0, 1, 0, 0, 0, 0), some (.istore 4, 2, 4, 0, 0, 0), none, some (.iload 4, 2, 4, 0, 0, 0), none,
  some (.aload_n 0, 1, 0, 0, 0, 0), some (.getfield 7, 3, 12, 0, 0, 0), none, none, some (.iconst 3, 1, 0, 0, 0, 3), some (.iaload, 1, 0, 0, 0, 0),
  some (.if_icmp .ge 47, 3, 95, 0, 0, 0), none, none, some (.iload_n 2, 1, 2, 0, 0, 0), some (.iload 4, 2, 4, 0, 0, 0), none,
  some (.ishr, 1, 0, 0, 0, 0), some (.iconst 1, 1, 0, 0, 0, 1), some (.iand, 1, 0, 0, 0, 0), some (.iconst 1, 1, 0, 0, 0, 1), some (.if_icmp .ne 31, 3, 89, 0, 0, 0), none,
  none, some (.aload_n 0, 1, 0, 0, 0, 0), some (.getfield 7, 3, 12, 0, 0, 0), none, none, some (.bipush 94, 2, 0, 0, 0, 94),
  none, some (.iload 4, 2, 4, 0, 0, 0), none, some (.iadd, 1, 0, 0, 0, 0), some (.iaload, 1, 0, 0, 0, 0), some (.iconst 1, 1, 0, 0, 0, 1),
  some (.if_icmp .ne 6, 3, 78, 0, 0, 0), none, none, some (.bipush (-2), 2, 0, 0, 0, -2), none, some (.ireturn, 1, 0, 0, 0, 0),
  some (.aload_n 0, 1, 0, 0, 0, 0), some (.getfield 28, 3, 12, 9, 0, 0), none, none, some (.iload_n 3, 1, 3, 0, 0, 0), some (.iload 4, 2, 4, 0, 0, 0),
  none, some (.iastore, 1, 0, 0, 0, 0), some (.iinc 3 1, 3, 3, 0, 0, 1), none, none, some (.iinc 4 1, 3, 4, 0, 0, 1),
  none, none, some (.goto (-52), 3, 40, 0, 0, 0), none, none, some (.aload_n 0, 1, 0, 0, 0, 0),
  some (.iload_n 1, 1, 1, 0, 0, 0), some (.iconst 0, 1, 0, 0, 0, 0), some (.iload_n 3, 1, 3, 0, 0, 0), some (.invokevirtual 193, 3, 191, 3, 0, 12), none, none,
  some (.ireturn, 1, 0, 0, 0, 0)
  ])
def mi_X12_could : am_MI := (yX12_could, cX12_could, 6, (some FieldType.int), [
  some (.iload_n 1, 1, 1, 0, 0, 0), some (.iconst 0, 1, 0, 0, 0, 0), some (.iconst 4, 1, 0, 0, 0, 4), some (.invokestatic 34, 3, 119, 3, 0, 0), none, none,
  some (.ifCond .ne 5, 3, 11, 0, 0, 0), none, none, some (.iconst (-1), 1, 0, 0, 0, -1), some (.ireturn, 1, 0, 0, 0, 0), some (.iload_n 2, 1, 2, 0, 0, 0),
  some (.invokestatic 95, 3, 121, 1, 0, 0), none, none, some (.ifCond .ne 6, 3, 21, 0, 0, 0), none, none,
  some (.bipush (-2), 2, 0, 0, 0, -2), none, some (.ireturn, 1, 0, 0, 0, 0), some (.iconst 0, 1, 0, 0, 0, 0), some (.istore_n 3, 1, 3, 0, 0, 0), some (.iconst 0, 1, 0, 0, 0, 0),
  some (.istore 4, 2, 4, 0, 0, 0), none, some (.iconst 0, 1, 0, 0, 0, 0), some (.istore 5, 2, 5, 0, 0, 0), none, some (.iload 5, 2, 5, 0, 0, 0),
  none, some (.aload_n 0, 1, 0, 0, 0, 0), some (.getfield 7, 3, 12, 0, 0, 0), none, none, some (.iconst 3, 1, 0, 0, 0, 3),
  some (.iaload, 1, 0, 0, 0, 0), some (.if_icmp .ge 78, 3, 115, 0, 0, 0), none, none, some (.aload_n 0, 1, 0, 0, 0, 0), some (.getfield 7, 3, 12, 0, 0, 0),
  none, none, some (.bipush 94, 2, 0, 0, 0, 94), none, some (.iload 5, 2, 5, 0, 0, 0), none,
  some (.iadd, 1, 0, 0, 0, 0), some (.iaload, 1, 0, 0, 0, 0), some (.ifCond .ne 27, 3, 77, 0, 0, 0), none, none, some (.aload_n 0, 1, 0, 0, 0, 0),
  some (.getfield 7, 3, 12, 0, 0, 0), none, none, some (.bipush 74, 2, 0, 0, 0, 74), none, some (.iload 5, 2, 5, 0, 0, 0),
  none, some (.iadd, 1, 0, 0, 0, 0), some (.iaload, 1, 0, 0, 0, 0), some (.iload_n 1, 1, 1, 0, 0, 0), some (.if_icmp .ne 13, 3, 77, 0, 0, 0), none,
  none, some (.iload_n 3, 1, 3, 0, 0, 0), some (.iconst 1, 1, 0, 0, 0, 1), some (.iload 5, 2, 5, 0, 0, 0), none, some (.ishl, 1, 0, 0, 0, 0),
  some (.ior, 1, 0, 0, 0, 0), some (.istore_n 3, 1, 3, 0, 0, 0), some (.goto 35, 3, 109, 0, 0, 0), none, none, some (.aload_n 0, 1, 0, 0, 0, 0),
  some (.getfield 7, 3, 12, 0, 0, 0), none, none, some (.bipush 94, 2, 0, 0, 0, 94), none, some (.iload 5, 2, 5, 0, 0, 0),
  none, some (.iadd, 1, 0, 0, 0, 0), some (.iaload, 1, 0, 0, 0, 0), some (.ifCond .ne 22, 3, 109, 0, 0, 0), none, none,
  some (.iload 4, 2, 4, 0, 0, 0), none, some (.bipush 6, 2, 0, 0, 0, 6), none, some (.if_icmp .ge 15, 3, 109, 0, 0, 0), none,
  none, some (.aload_n 0, 1, 0, 0, 0, 0), some (.getfield 28, 3, 12, 9, 0, 0), none, none, some (.iload 4, 2, 4, 0, 0, 0),
  none, some (.iload 5, 2, 5, 0, 0, 0), none, some (.iastore, 1, 0, 0, 0, 0), some (.iinc 4 1, 3, 4, 0, 0, 1), none,
  none, some (.iinc 5 1, 3, 5, 0, 0, 1), none, none, some (.goto (-83), 3, 29, 0, 0, 0), none,
  none, some (.aload_n 0, 1, 0, 0, 0, 0), some (.iload_n 2, 1, 2, 0, 0, 0), some (.iload_n 3, 1, 3, 0, 0, 0), some (.iload 4, 2, 4, 0, 0, 0), none,
  some (.invokevirtual 193, 3, 191, 3, 0, 12), none, none, some (.ireturn, 1, 0, 0, 0, 0)
  ])
def mi_X12_readsTactic : am_MI := (yX12_readsTactic, cX12_readsTactic, 1, none, [
  some (.aload_n 0, 1, 0, 0, 0, 0), some (.invokevirtual 196, 3, 195, 0, 0, 12), none, none, some (.aload_n 0, 1, 0, 0, 0, 0), some (.getfield 44, 3, 12, 4, 0, 0),
  none, none, some (.ifCond .ne 29, 3, 37, 0, 0, 0), none, none, some (.aload_n 0, 1, 0, 0, 0, 0),
  some (.invokevirtual 48, 3, 124, 0, 0, 12), none, none, some (.bipush 59, 2, 0, 0, 0, 59), none, some (.if_icmp .ne 20, 3, 37, 0, 0, 0),
  none, none, some (.aload_n 0, 1, 0, 0, 0, 0), some (.dup, 1, 0, 0, 0, 0), some (.getfield 40, 3, 12, 3, 0, 0), none,
  none, some (.iconst 1, 1, 0, 0, 0, 1), some (.iadd, 1, 0, 0, 0, 0), some (.putfield 40, 3, 12, 3, 0, 0), none, none,
  some (.aload_n 0, 1, 0, 0, 0, 0), some (.invokevirtual 196, 3, 195, 0, 0, 12), none, none, some (.goto (-30), 3, 4, 0, 0, 0), none,
  none, some (.return_, 1, 0, 0, 0, 0)
  ])
def mi_X12_readsPiece : am_MI := (yX12_readsPiece, cX12_readsPiece, 1, none, [
  some (.aload_n 0, 1, 0, 0, 0, 0), some (.invokevirtual 199, 3, 196, 0, 0, 12), none, none, some (.aload_n 0, 1, 0, 0, 0, 0), some (.getfield 44, 3, 12, 4, 0, 0),
  none, none, some (.ifCond .ne 29, 3, 37, 0, 0, 0), none, none, some (.aload_n 0, 1, 0, 0, 0, 0),
  some (.invokevirtual 48, 3, 124, 0, 0, 12), none, none, some (.bipush 124, 2, 0, 0, 0, 124), none, some (.if_icmp .ne 20, 3, 37, 0, 0, 0),
  none, none, some (.aload_n 0, 1, 0, 0, 0, 0), some (.dup, 1, 0, 0, 0, 0), some (.getfield 40, 3, 12, 3, 0, 0), none,
  none, some (.iconst 1, 1, 0, 0, 0, 1), some (.iadd, 1, 0, 0, 0, 0), some (.putfield 40, 3, 12, 3, 0, 0), none, none,
  some (.aload_n 0, 1, 0, 0, 0, 0), some (.invokevirtual 199, 3, 196, 0, 0, 12), none, none, some (.goto (-30), 3, 4, 0, 0, 0), none,
  none, some (.return_, 1, 0, 0, 0, 0)
  ])
def mi_X12_readsTry : am_MI := (yX12_readsTry, cX12_readsTry, 2, none, [
  some (.aload_n 0, 1, 0, 0, 0, 0), some (.invokevirtual 48, 3, 124, 0, 0, 12), none, none, some (.istore_n 1, 1, 1, 0, 0, 0), some (.aload_n 0, 1, 0, 0, 0, 0),
  some (.getfield 44, 3, 12, 4, 0, 0), none, none, some (.ifCond .eq 4, 3, 13, 0, 0, 0), none, none,
  some (.return_, 1, 0, 0, 0, 0), some (.iload_n 1, 1, 1, 0, 0, 0), some (.bipush 48, 2, 0, 0, 0, 48), none, some (.bipush 55, 2, 0, 0, 0, 55), none,
  some (.invokestatic 34, 3, 119, 3, 0, 0), none, none, some (.ifCond .eq 16, 3, 37, 0, 0, 0), none, none,
  some (.aload_n 0, 1, 0, 0, 0, 0), some (.dup, 1, 0, 0, 0, 0), some (.getfield 40, 3, 12, 3, 0, 0), none, none, some (.iconst 1, 1, 0, 0, 0, 1),
  some (.iadd, 1, 0, 0, 0, 0), some (.putfield 40, 3, 12, 3, 0, 0), none, none, some (.goto 66, 3, 100, 0, 0, 0), none,
  none, some (.iload_n 1, 1, 1, 0, 0, 0), some (.bipush 40, 2, 0, 0, 0, 40), none, some (.if_icmp .ne 55, 3, 95, 0, 0, 0), none,
  none, some (.aload_n 0, 1, 0, 0, 0, 0), some (.getfield 202, 3, 12, 10, 0, 0), none, none, some (.bipush 6, 2, 0, 0, 0, 6),
  none, some (.if_icmp .ge 46, 3, 95, 0, 0, 0), none, none, some (.aload_n 0, 1, 0, 0, 0, 0), some (.dup, 1, 0, 0, 0, 0),
  some (.getfield 202, 3, 12, 10, 0, 0), none, none, some (.iconst 1, 1, 0, 0, 0, 1), some (.iadd, 1, 0, 0, 0, 0), some (.putfield 202, 3, 12, 10, 0, 0),
  none, none, some (.aload_n 0, 1, 0, 0, 0, 0), some (.dup, 1, 0, 0, 0, 0), some (.getfield 40, 3, 12, 3, 0, 0), none,
  none, some (.iconst 1, 1, 0, 0, 0, 1), some (.iadd, 1, 0, 0, 0, 0), some (.putfield 40, 3, 12, 3, 0, 0), none, none,
  some (.aload_n 0, 1, 0, 0, 0, 0), some (.invokevirtual 205, 3, 194, 0, 0, 12), none, none, some (.aload_n 0, 1, 0, 0, 0, 0), some (.bipush 41, 2, 0, 0, 0, 41),
  none, some (.invokevirtual 56, 3, 125, 1, 0, 12), none, none, some (.aload_n 0, 1, 0, 0, 0, 0), some (.dup, 1, 0, 0, 0, 0),
  some (.getfield 202, 3, 12, 10, 0, 0), none, none, some (.iconst 1, 1, 0, 0, 0, 1), some (.isub, 1, 0, 0, 0, 0), some (.putfield 202, 3, 12, 10, 0, 0),
  none, none, some (.goto 8, 3, 100, 0, 0, 0), none, none, some (.aload_n 0, 1, 0, 0, 0, 0),
  some (.iconst 1, 1, 0, 0, 0, 1), some (.putfield 44, 3, 12, 4, 0, 0), none, none, some (.aload_n 0, 1, 0, 0, 0, 0), some (.getfield 44, 3, 12, 4, 0, 0),
  none, none, some (.ifCond .ne 22, 3, 126, 0, 0, 0), none, none, some (.aload_n 0, 1, 0, 0, 0, 0),
  some (.invokevirtual 48, 3, 124, 0, 0, 12), none, none, some (.bipush 42, 2, 0, 0, 0, 42), none, some (.if_icmp .ne 13, 3, 126, 0, 0, 0),
  none, none, some (.aload_n 0, 1, 0, 0, 0, 0), some (.dup, 1, 0, 0, 0, 0), some (.getfield 40, 3, 12, 3, 0, 0), none,
  none, some (.iconst 1, 1, 0, 0, 0, 1), some (.iadd, 1, 0, 0, 0, 0), some (.putfield 40, 3, 12, 3, 0, 0), none, none,
  some (.return_, 1, 0, 0, 0, 0)
  ])
def mi_X12_tactic : am_MI := (yX12_tactic, cX12_tactic, 4, (some FieldType.int), [
  some (.aload_n 0, 1, 0, 0, 0, 0), some (.getfield 7, 3, 12, 0, 0, 0), none, none, some (.bipush 6, 2, 0, 0, 0, 6), none,
  some (.iaload, 1, 0, 0, 0, 0), some (.bipush 6, 2, 0, 0, 0, 6), none, some (.if_icmp .ne 6, 3, 15, 0, 0, 0), none, none,
  some (.bipush (-4), 2, 0, 0, 0, -4), none, some (.ireturn, 1, 0, 0, 0, 0), some (.aload_n 0, 1, 0, 0, 0, 0), some (.iconst 0, 1, 0, 0, 0, 0), some (.putfield 40, 3, 12, 3, 0, 0),
  none, none, some (.aload_n 0, 1, 0, 0, 0, 0), some (.iconst 0, 1, 0, 0, 0, 0), some (.putfield 202, 3, 12, 10, 0, 0), none,
  none, some (.aload_n 0, 1, 0, 0, 0, 0), some (.iconst 0, 1, 0, 0, 0, 0), some (.putfield 44, 3, 12, 4, 0, 0), none, none,
  some (.aload_n 0, 1, 0, 0, 0, 0), some (.invokevirtual 205, 3, 194, 0, 0, 12), none, none, some (.aload_n 0, 1, 0, 0, 0, 0), some (.getfield 44, 3, 12, 4, 0, 0),
  none, none, some (.ifCond .ne 21, 3, 59, 0, 0, 0), none, none, some (.aload_n 0, 1, 0, 0, 0, 0),
  some (.getfield 40, 3, 12, 3, 0, 0), none, none, some (.aload_n 0, 1, 0, 0, 0, 0), some (.getfield 7, 3, 12, 0, 0, 0), none,
  none, some (.bipush 8, 2, 0, 0, 0, 8), none, some (.iaload, 1, 0, 0, 0, 0), some (.if_icmp .ne 7, 3, 59, 0, 0, 0), none,
  none, some (.iconst 1, 1, 0, 0, 0, 1), some (.goto 4, 3, 60, 0, 0, 0), none, none, some (.iconst 0, 1, 0, 0, 0, 0),
  some (.istore_n 1, 1, 1, 0, 0, 0), some (.aload_n 0, 1, 0, 0, 0, 0), some (.getfield 7, 3, 12, 0, 0, 0), none, none, some (.bipush 8, 2, 0, 0, 0, 8),
  none, some (.iaload, 1, 0, 0, 0, 0), some (.istore_n 2, 1, 2, 0, 0, 0), some (.aload_n 0, 1, 0, 0, 0, 0), some (.getfield 7, 3, 12, 0, 0, 0), none,
  none, some (.bipush 8, 2, 0, 0, 0, 8), none, some (.iconst 0, 1, 0, 0, 0, 0), some (.iastore, 1, 0, 0, 0, 0), some (.iload_n 1, 1, 1, 0, 0, 0),
  some (.ifCond .ne 11, 3, 89, 0, 0, 0), none, none, some (.bipush (-10), 2, 0, 0, 0, -10), none, some (.aload_n 0, 1, 0, 0, 0, 0),
  some (.getfield 40, 3, 12, 3, 0, 0), none, none, some (.isub, 1, 0, 0, 0, 0), some (.ireturn, 1, 0, 0, 0, 0), some (.iconst 0, 1, 0, 0, 0, 0),
  some (.istore_n 3, 1, 3, 0, 0, 0), some (.iload_n 3, 1, 3, 0, 0, 0), some (.iload_n 2, 1, 2, 0, 0, 0), some (.if_icmp .ge 40, 3, 133, 0, 0, 0), none, none,
  some (.aload_n 0, 1, 0, 0, 0, 0), some (.getfield 7, 3, 12, 0, 0, 0), none, none, some (.sipush 1038, 3, 0, 0, 0, 1038), none,
  none, some (.bipush 120, 2, 0, 0, 0, 120), none, some (.aload_n 0, 1, 0, 0, 0, 0), some (.getfield 7, 3, 12, 0, 0, 0), none,
  none, some (.bipush 6, 2, 0, 0, 0, 6), none, some (.iaload, 1, 0, 0, 0, 0), some (.imul, 1, 0, 0, 0, 0), some (.iadd, 1, 0, 0, 0, 0),
  some (.iload_n 3, 1, 3, 0, 0, 0), some (.iadd, 1, 0, 0, 0, 0), some (.aload_n 0, 1, 0, 0, 0, 0), some (.getfield 7, 3, 12, 0, 0, 0), none, none,
  some (.sipush 2358, 3, 0, 0, 0, 2358), none, none, some (.iload_n 3, 1, 3, 0, 0, 0), some (.iadd, 1, 0, 0, 0, 0), some (.iaload, 1, 0, 0, 0, 0),
  some (.iastore, 1, 0, 0, 0, 0), some (.iinc 3 1, 3, 3, 0, 0, 1), none, none, some (.goto (-39), 3, 91, 0, 0, 0), none,
  none, some (.aload_n 0, 1, 0, 0, 0, 0), some (.getfield 7, 3, 12, 0, 0, 0), none, none, some (.sipush 1032, 3, 0, 0, 0, 1032),
  none, none, some (.aload_n 0, 1, 0, 0, 0, 0), some (.getfield 7, 3, 12, 0, 0, 0), none, none,
  some (.bipush 6, 2, 0, 0, 0, 6), none, some (.iaload, 1, 0, 0, 0, 0), some (.iadd, 1, 0, 0, 0, 0), some (.iload_n 2, 1, 2, 0, 0, 0), some (.iastore, 1, 0, 0, 0, 0),
  some (.aload_n 0, 1, 0, 0, 0, 0), some (.getfield 7, 3, 12, 0, 0, 0), none, none, some (.bipush 6, 2, 0, 0, 0, 6), none,
  some (.dup2, 1, 0, 0, 0, 0), some (.iaload, 1, 0, 0, 0, 0), some (.iconst 1, 1, 0, 0, 0, 1), some (.iadd, 1, 0, 0, 0, 0), some (.iastore, 1, 0, 0, 0, 0), some (.aload_n 0, 1, 0, 0, 0, 0),
  some (.getfield 7, 3, 12, 0, 0, 0), none, none, some (.bipush 6, 2, 0, 0, 0, 6), none, some (.iaload, 1, 0, 0, 0, 0),
  some (.iconst 1, 1, 0, 0, 0, 1), some (.isub, 1, 0, 0, 0, 0), some (.ireturn, 1, 0, 0, 0, 0)
  ])
def mi_X12_byteAt : am_MI := (yX12_byteAt, cX12_byteAt, 2, (some FieldType.int), [
  some (.iload_n 1, 1, 1, 0, 0, 0), some (.aload_n 0, 1, 0, 0, 0, 0), some (.getfield 7, 3, 12, 0, 0, 0), none, none, some (.sipush 1032, 3, 0, 0, 0, 1032),
  none, none, some (.aload_n 0, 1, 0, 0, 0, 0), some (.getfield 208, 3, 12, 11, 0, 0), none, none,
  some (.iadd, 1, 0, 0, 0, 0), some (.iaload, 1, 0, 0, 0, 0), some (.if_icmp .ge 24, 3, 38, 0, 0, 0), none, none, some (.aload_n 0, 1, 0, 0, 0, 0),
  some (.getfield 7, 3, 12, 0, 0, 0), none, none, some (.sipush 1038, 3, 0, 0, 0, 1038), none, none,
  some (.bipush 120, 2, 0, 0, 0, 120), none, some (.aload_n 0, 1, 0, 0, 0, 0), some (.getfield 208, 3, 12, 11, 0, 0), none, none,
  some (.imul, 1, 0, 0, 0, 0), some (.iadd, 1, 0, 0, 0, 0), some (.iload_n 1, 1, 1, 0, 0, 0), some (.iadd, 1, 0, 0, 0, 0), some (.iaload, 1, 0, 0, 0, 0), some (.goto 4, 3, 39, 0, 0, 0),
  none, none, some (.iconst (-1), 1, 0, 0, 0, -1), some (.ireturn, 1, 0, 0, 0, 0)
  ])
def mi_X12_runs : am_MI := (yX12_runs, cX12_runs, 7, (some FieldType.boolean), [
  some (.aload_n 0, 1, 0, 0, 0, 0), some (.iload_n 1, 1, 1, 0, 0, 0), some (.invokevirtual 82, 3, 135, 1, 0, 12), none, none, some (.ifCond .eq 14, 3, 19, 0, 0, 0),
  none, none, some (.aload_n 0, 1, 0, 0, 0, 0), some (.getfield 211, 3, 12, 13, 0, 0), none, none,
  some (.aload_n 0, 1, 0, 0, 0, 0), some (.getfield 214, 3, 12, 12, 0, 0), none, none, some (.if_icmp .ne 5, 3, 21, 0, 0, 0), none,
  none, some (.iconst 0, 1, 0, 0, 0, 0), some (.ireturn, 1, 0, 0, 0, 0), some (.aload_n 0, 1, 0, 0, 0, 0), some (.dup, 1, 0, 0, 0, 0), some (.getfield 211, 3, 12, 13, 0, 0),
  none, none, some (.iconst 1, 1, 0, 0, 0, 1), some (.iadd, 1, 0, 0, 0, 0), some (.putfield 211, 3, 12, 13, 0, 0), none,
  none, some (.aload_n 0, 1, 0, 0, 0, 0), some (.iload_n 1, 1, 1, 0, 0, 0), some (.aload_n 0, 1, 0, 0, 0, 0), some (.getfield 7, 3, 12, 0, 0, 0), none,
  none, some (.iconst 0, 1, 0, 0, 0, 0), some (.iaload, 1, 0, 0, 0, 0), some (.invokevirtual 92, 3, 138, 2, 0, 12), none, none,
  some (.istore_n 2, 1, 2, 0, 0, 0), some (.aload_n 0, 1, 0, 0, 0, 0), some (.iload_n 2, 1, 2, 0, 0, 0), some (.invokevirtual 76, 3, 132, 1, 0, 12), none, none,
  some (.istore_n 3, 1, 3, 0, 0, 0), some (.iconst 0, 1, 0, 0, 0, 0), some (.istore 4, 2, 4, 0, 0, 0), none, some (.iload 4, 2, 4, 0, 0, 0), none,
  some (.sipush 750, 3, 0, 0, 0, 750), none, none, some (.if_icmp .ge 17, 3, 74, 0, 0, 0), none, none,
  some (.aload_n 0, 1, 0, 0, 0, 0), some (.getfield 31, 3, 12, 14, 0, 0), none, none, some (.iload 4, 2, 4, 0, 0, 0), none,
  some (.iconst 0, 1, 0, 0, 0, 0), some (.iastore, 1, 0, 0, 0, 0), some (.iinc 4 1, 3, 4, 0, 0, 1), none, none, some (.goto (-19), 3, 52, 0, 0, 0),
  none, none, some (.iconst 0, 1, 0, 0, 0, 0), some (.istore 4, 2, 4, 0, 0, 0), none, some (.iload 4, 2, 4, 0, 0, 0),
  none, some (.sipush 625, 3, 0, 0, 0, 625), none, none, some (.if_icmp .ge 121, 3, 203, 0, 0, 0), none,
  none, some (.aload_n 0, 1, 0, 0, 0, 0), some (.iload 4, 2, 4, 0, 0, 0), none, some (.invokevirtual 111, 3, 144, 1, 0, 12), none,
  none, some (.aload_n 0, 1, 0, 0, 0, 0), some (.iload_n 3, 1, 3, 0, 0, 0), some (.invokevirtual 114, 3, 148, 1, 0, 12), none, none,
  some (.ifCond .eq 15, 3, 111, 0, 0, 0), none, none, some (.aload_n 0, 1, 0, 0, 0, 0), some (.iload_n 2, 1, 2, 0, 0, 0), some (.invokevirtual 121, 3, 147, 1, 0, 12),
  none, none, some (.ifCond .eq 7, 3, 111, 0, 0, 0), none, none, some (.iconst 1, 1, 0, 0, 0, 1),
  some (.goto 4, 3, 112, 0, 0, 0), none, none, some (.iconst 0, 1, 0, 0, 0, 0), some (.istore 5, 2, 5, 0, 0, 0), none,
  some (.iconst 0, 1, 0, 0, 0, 0), some (.istore 6, 2, 6, 0, 0, 0), none, some (.iload 6, 2, 6, 0, 0, 0), none, some (.aload_n 0, 1, 0, 0, 0, 0),
  some (.getfield 7, 3, 12, 0, 0, 0), none, none, some (.iload_n 2, 1, 2, 0, 0, 0), some (.iaload, 1, 0, 0, 0, 0), some (.if_icmp .ge 46, 3, 171, 0, 0, 0),
  none, none, some (.iload 5, 2, 5, 0, 0, 0), none, some (.ifCond .eq 41, 3, 171, 0, 0, 0), none,
  none, some (.aload_n 0, 1, 0, 0, 0, 0), some (.getfield 7, 3, 12, 0, 0, 0), none, none, some (.sipush 2478, 3, 0, 0, 0, 2478),
  none, none, some (.aload_n 0, 1, 0, 0, 0, 0), some (.iload_n 2, 1, 2, 0, 0, 0), some (.iconst 2, 1, 0, 0, 0, 2), some (.iadd, 1, 0, 0, 0, 0),
  some (.iconst 4, 1, 0, 0, 0, 4), some (.iload 6, 2, 6, 0, 0, 0), none, some (.imul, 1, 0, 0, 0, 0), some (.iadd, 1, 0, 0, 0, 0), some (.invokevirtual 104, 3, 146, 1, 0, 12),
  none, none, some (.iadd, 1, 0, 0, 0, 0), some (.iaload, 1, 0, 0, 0, 0), some (.iconst 1, 1, 0, 0, 0, 1), some (.if_icmp .ne 7, 3, 162, 0, 0, 0),
  none, none, some (.iconst 1, 1, 0, 0, 0, 1), some (.goto 4, 3, 163, 0, 0, 0), none, none,
  some (.iconst 0, 1, 0, 0, 0, 0), some (.istore 5, 2, 5, 0, 0, 0), none, some (.iinc 6 1, 3, 6, 0, 0, 1), none, none,
  some (.goto (-51), 3, 117, 0, 0, 0), none, none, some (.aload_n 0, 1, 0, 0, 0, 0), some (.getfield 31, 3, 12, 14, 0, 0), none,
  none, some (.aload_n 0, 1, 0, 0, 0, 0), some (.iload_n 2, 1, 2, 0, 0, 0), some (.bipush 26, 2, 0, 0, 0, 26), none, some (.iadd, 1, 0, 0, 0, 0),
  some (.invokevirtual 104, 3, 146, 1, 0, 12), none, none, some (.dup2, 1, 0, 0, 0, 0), some (.iaload, 1, 0, 0, 0, 0), some (.iload 5, 2, 5, 0, 0, 0),
  none, some (.ifCond .eq 7, 3, 194, 0, 0, 0), none, none, some (.iconst 1, 1, 0, 0, 0, 1), some (.goto 4, 3, 195, 0, 0, 0),
  none, none, some (.iconst 0, 1, 0, 0, 0, 0), some (.ior, 1, 0, 0, 0, 0), some (.iastore, 1, 0, 0, 0, 0), some (.iinc 4 1, 3, 4, 0, 0, 1),
  none, none, some (.goto (-123), 3, 77, 0, 0, 0), none, none, some (.iconst 0, 1, 0, 0, 0, 0),
  some (.istore 4, 2, 4, 0, 0, 0), none, some (.iconst 0, 1, 0, 0, 0, 0), some (.istore 5, 2, 5, 0, 0, 0), none, some (.iload 5, 2, 5, 0, 0, 0),
  none, some (.sipush 750, 3, 0, 0, 0, 750), none, none, some (.if_icmp .ge 67, 3, 281, 0, 0, 0), none,
  none, some (.iload 4, 2, 4, 0, 0, 0), none, some (.ifCond .ne 28, 3, 247, 0, 0, 0), none, none,
  some (.aload_n 0, 1, 0, 0, 0, 0), some (.getfield 31, 3, 12, 14, 0, 0), none, none, some (.iload 5, 2, 5, 0, 0, 0), none,
  some (.iaload, 1, 0, 0, 0, 0), some (.iconst 1, 1, 0, 0, 0, 1), some (.if_icmp .ne 21, 3, 251, 0, 0, 0), none, none, some (.aload_n 0, 1, 0, 0, 0, 0),
  some (.getfield 7, 3, 12, 0, 0, 0), none, none, some (.sipush 2478, 3, 0, 0, 0, 2478), none, none,
  some (.iload 5, 2, 5, 0, 0, 0), none, some (.iadd, 1, 0, 0, 0, 0), some (.iaload, 1, 0, 0, 0, 0), some (.ifCond .ne 7, 3, 251, 0, 0, 0), none,
  none, some (.iconst 1, 1, 0, 0, 0, 1), some (.goto 4, 3, 252, 0, 0, 0), none, none, some (.iconst 0, 1, 0, 0, 0, 0),
  some (.istore 4, 2, 4, 0, 0, 0), none, some (.aload_n 0, 1, 0, 0, 0, 0), some (.getfield 7, 3, 12, 0, 0, 0), none, none,
  some (.sipush 2478, 3, 0, 0, 0, 2478), none, none, some (.iload 5, 2, 5, 0, 0, 0), none, some (.iadd, 1, 0, 0, 0, 0),
  some (.dup2, 1, 0, 0, 0, 0), some (.iaload, 1, 0, 0, 0, 0), some (.aload_n 0, 1, 0, 0, 0, 0), some (.getfield 31, 3, 12, 14, 0, 0), none, none,
  some (.iload 5, 2, 5, 0, 0, 0), none, some (.iaload, 1, 0, 0, 0, 0), some (.ior, 1, 0, 0, 0, 0), some (.iastore, 1, 0, 0, 0, 0), some (.iinc 5 1, 3, 5, 0, 0, 1),
  none, none, some (.goto (-69), 3, 209, 0, 0, 0), none, none, some (.iload 4, 2, 4, 0, 0, 0),
  none, some (.ireturn, 1, 0, 0, 0, 0)
  ])
def mi_X12_behindTry : am_MI := (yX12_behindTry, cX12_behindTry, 4, (some FieldType.int), [
  some (.iload_n 1, 1, 1, 0, 0, 0), some (.istore_n 2, 1, 2, 0, 0, 0), some (.iconst 0, 1, 0, 0, 0, 0), some (.istore_n 3, 1, 3, 0, 0, 0), some (.iload_n 2, 1, 2, 0, 0, 0), some (.iload_n 1, 1, 1, 0, 0, 0),
  some (.if_icmp .eq 7, 3, 13, 0, 0, 0), none, none, some (.iload_n 3, 1, 3, 0, 0, 0), some (.ifCond .le 41, 3, 51, 0, 0, 0), none,
  none, some (.iload_n 3, 1, 3, 0, 0, 0), some (.aload_n 0, 1, 0, 0, 0, 0), some (.iload_n 2, 1, 2, 0, 0, 0), some (.invokevirtual 217, 3, 198, 1, 0, 12), none,
  none, some (.bipush 40, 2, 0, 0, 0, 40), none, some (.if_icmp .ne 7, 3, 28, 0, 0, 0), none, none,
  some (.iconst 1, 1, 0, 0, 0, 1), some (.goto 18, 3, 43, 0, 0, 0), none, none, some (.aload_n 0, 1, 0, 0, 0, 0), some (.iload_n 2, 1, 2, 0, 0, 0),
  some (.invokevirtual 217, 3, 198, 1, 0, 12), none, none, some (.bipush 41, 2, 0, 0, 0, 41), none, some (.if_icmp .ne 7, 3, 42, 0, 0, 0),
  none, none, some (.iconst (-1), 1, 0, 0, 0, -1), some (.goto 4, 3, 43, 0, 0, 0), none, none,
  some (.iconst 0, 1, 0, 0, 0, 0), some (.iadd, 1, 0, 0, 0, 0), some (.istore_n 3, 1, 3, 0, 0, 0), some (.iinc 2 1, 3, 2, 0, 0, 1), none, none,
  some (.goto (-44), 3, 4, 0, 0, 0), none, none, some (.aload_n 0, 1, 0, 0, 0, 0), some (.iload_n 2, 1, 2, 0, 0, 0), some (.invokevirtual 217, 3, 198, 1, 0, 12),
  none, none, some (.bipush 42, 2, 0, 0, 0, 42), none, some (.if_icmp .ne 9, 3, 67, 0, 0, 0), none,
  none, some (.iload_n 2, 1, 2, 0, 0, 0), some (.iconst 1, 1, 0, 0, 0, 1), some (.iadd, 1, 0, 0, 0, 0), some (.goto 4, 3, 68, 0, 0, 0), none,
  none, some (.iload_n 2, 1, 2, 0, 0, 0), some (.ireturn, 1, 0, 0, 0, 0)
  ])
def mi_X12_runsTry : am_MI := (yX12_runsTry, cX12_runsTry, 5, (some FieldType.boolean), [
  some (.aload_n 0, 1, 0, 0, 0, 0), some (.aload_n 0, 1, 0, 0, 0, 0), some (.iload_n 1, 1, 1, 0, 0, 0), some (.invokevirtual 220, 3, 200, 1, 0, 12), none, none,
  some (.iconst 1, 1, 0, 0, 0, 1), some (.isub, 1, 0, 0, 0, 0), some (.invokevirtual 217, 3, 198, 1, 0, 12), none, none, some (.bipush 42, 2, 0, 0, 0, 42),
  none, some (.if_icmp .ne 7, 3, 20, 0, 0, 0), none, none, some (.iconst 1, 1, 0, 0, 0, 1), some (.goto 4, 3, 21, 0, 0, 0),
  none, none, some (.iconst 0, 1, 0, 0, 0, 0), some (.istore_n 2, 1, 2, 0, 0, 0), some (.aload_n 0, 1, 0, 0, 0, 0), some (.iload_n 1, 1, 1, 0, 0, 0),
  some (.invokevirtual 223, 3, 202, 1, 0, 12), none, none, some (.istore_n 3, 1, 3, 0, 0, 0), some (.iload_n 3, 1, 3, 0, 0, 0), some (.ifCond .eq 11, 3, 40, 0, 0, 0),
  none, none, some (.iload_n 2, 1, 2, 0, 0, 0), some (.ifCond .eq 7, 3, 40, 0, 0, 0), none, none,
  some (.iconst 1, 1, 0, 0, 0, 1), some (.goto 4, 3, 41, 0, 0, 0), none, none, some (.iconst 0, 1, 0, 0, 0, 0), some (.istore 4, 2, 4, 0, 0, 0),
  none, some (.iload 4, 2, 4, 0, 0, 0), none, some (.ifCond .eq 13, 3, 58, 0, 0, 0), none, none,
  some (.aload_n 0, 1, 0, 0, 0, 0), some (.iload_n 1, 1, 1, 0, 0, 0), some (.invokevirtual 223, 3, 202, 1, 0, 12), none, none, some (.istore 4, 2, 4, 0, 0, 0),
  none, some (.goto (-12), 3, 43, 0, 0, 0), none, none, some (.iload_n 3, 1, 3, 0, 0, 0), some (.ireturn, 1, 0, 0, 0, 0)
  ])
def mi_X12_runsOnce : am_MI := (yX12_runsOnce, cX12_runsOnce, 2, (some FieldType.boolean), [
  some (.aload_n 0, 1, 0, 0, 0, 0), some (.iload_n 1, 1, 1, 0, 0, 0), some (.invokevirtual 217, 3, 198, 1, 0, 12), none, none, some (.bipush 40, 2, 0, 0, 0, 40),
  none, some (.if_icmp .ne 13, 3, 20, 0, 0, 0), none, none, some (.aload_n 0, 1, 0, 0, 0, 0), some (.iload_n 1, 1, 1, 0, 0, 0),
  some (.iconst 1, 1, 0, 0, 0, 1), some (.iadd, 1, 0, 0, 0, 0), some (.invokevirtual 226, 3, 203, 1, 0, 12), none, none, some (.goto 15, 3, 32, 0, 0, 0),
  none, none, some (.aload_n 0, 1, 0, 0, 0, 0), some (.aload_n 0, 1, 0, 0, 0, 0), some (.iload_n 1, 1, 1, 0, 0, 0), some (.invokevirtual 217, 3, 198, 1, 0, 12),
  none, none, some (.bipush 48, 2, 0, 0, 0, 48), none, some (.isub, 1, 0, 0, 0, 0), some (.invokevirtual 229, 3, 199, 1, 0, 12),
  none, none, some (.ireturn, 1, 0, 0, 0, 0)
  ])
def mi_X12_runsTactic : am_MI := (yX12_runsTactic, cX12_runsTactic, 6, (some FieldType.boolean), [
  some (.iconst 0, 1, 0, 0, 0, 0), some (.istore_n 2, 1, 2, 0, 0, 0), some (.iconst 0, 1, 0, 0, 0, 0), some (.istore_n 3, 1, 3, 0, 0, 0), some (.iload_n 1, 1, 1, 0, 0, 0), some (.istore 4, 2, 4, 0, 0, 0),
  none, some (.iconst 1, 1, 0, 0, 0, 1), some (.istore 5, 2, 5, 0, 0, 0), none, some (.iload 5, 2, 5, 0, 0, 0), none,
  some (.ifCond .eq 96, 3, 108, 0, 0, 0), none, none, some (.iload_n 3, 1, 3, 0, 0, 0), some (.ifCond .ne 12, 3, 28, 0, 0, 0), none,
  none, some (.aload_n 0, 1, 0, 0, 0, 0), some (.iload 4, 2, 4, 0, 0, 0), none, some (.invokevirtual 232, 3, 201, 1, 0, 12), none,
  none, some (.ifCond .ne 7, 3, 32, 0, 0, 0), none, none, some (.iload_n 3, 1, 3, 0, 0, 0), some (.ifCond .eq 7, 3, 36, 0, 0, 0),
  none, none, some (.iconst 1, 1, 0, 0, 0, 1), some (.goto 4, 3, 37, 0, 0, 0), none, none,
  some (.iconst 0, 1, 0, 0, 0, 0), some (.istore_n 3, 1, 3, 0, 0, 0), some (.aload_n 0, 1, 0, 0, 0, 0), some (.iload 4, 2, 4, 0, 0, 0), none, some (.invokevirtual 220, 3, 200, 1, 0, 12),
  none, none, some (.istore 4, 2, 4, 0, 0, 0), none, some (.aload_n 0, 1, 0, 0, 0, 0), some (.iload 4, 2, 4, 0, 0, 0),
  none, some (.invokevirtual 217, 3, 198, 1, 0, 12), none, none, some (.bipush 124, 2, 0, 0, 0, 124), none,
  some (.if_icmp .eq 19, 3, 73, 0, 0, 0), none, none, some (.iload_n 2, 1, 2, 0, 0, 0), some (.ifCond .ne 7, 3, 65, 0, 0, 0), none,
  none, some (.iload_n 3, 1, 3, 0, 0, 0), some (.ifCond .eq 7, 3, 69, 0, 0, 0), none, none, some (.iconst 1, 1, 0, 0, 0, 1),
  some (.goto 4, 3, 70, 0, 0, 0), none, none, some (.iconst 0, 1, 0, 0, 0, 0), some (.istore_n 2, 1, 2, 0, 0, 0), some (.iconst 0, 1, 0, 0, 0, 0),
  some (.istore_n 3, 1, 3, 0, 0, 0), some (.aload_n 0, 1, 0, 0, 0, 0), some (.iload 4, 2, 4, 0, 0, 0), none, some (.invokevirtual 217, 3, 198, 1, 0, 12), none,
  none, some (.bipush 124, 2, 0, 0, 0, 124), none, some (.if_icmp .eq 14, 3, 95, 0, 0, 0), none, none,
  some (.aload_n 0, 1, 0, 0, 0, 0), some (.iload 4, 2, 4, 0, 0, 0), none, some (.invokevirtual 217, 3, 198, 1, 0, 12), none, none,
  some (.bipush 59, 2, 0, 0, 0, 59), none, some (.if_icmp .ne 7, 3, 99, 0, 0, 0), none, none, some (.iconst 1, 1, 0, 0, 0, 1),
  some (.goto 4, 3, 100, 0, 0, 0), none, none, some (.iconst 0, 1, 0, 0, 0, 0), some (.istore 5, 2, 5, 0, 0, 0), none,
  some (.iinc 4 1, 3, 4, 0, 0, 1), none, none, some (.goto (-95), 3, 10, 0, 0, 0), none, none,
  some (.iload_n 2, 1, 2, 0, 0, 0), some (.ireturn, 1, 0, 0, 0, 0)
  ])
def mi_X12_run : am_MI := (yX12_run, cX12_run, 6, (some FieldType.int), [
  some (.iload_n 1, 1, 1, 0, 0, 0), some (.iconst 0, 1, 0, 0, 0, 0), some (.aload_n 0, 1, 0, 0, 0, 0), some (.getfield 7, 3, 12, 0, 0, 0), none, none,
  some (.bipush 6, 2, 0, 0, 0, 6), none, some (.iaload, 1, 0, 0, 0, 0), some (.iconst 1, 1, 0, 0, 0, 1), some (.isub, 1, 0, 0, 0, 0), some (.invokestatic 34, 3, 119, 3, 0, 0),
  none, none, some (.ifCond .eq 12, 3, 26, 0, 0, 0), none, none, some (.iload_n 3, 1, 3, 0, 0, 0),
  some (.iconst 0, 1, 0, 0, 0, 0), some (.iconst 1, 1, 0, 0, 0, 1), some (.invokestatic 34, 3, 119, 3, 0, 0), none, none, some (.ifCond .ne 5, 3, 28, 0, 0, 0),
  none, none, some (.iconst (-1), 1, 0, 0, 0, -1), some (.ireturn, 1, 0, 0, 0, 0), some (.iload_n 2, 1, 2, 0, 0, 0), some (.iconst 1, 1, 0, 0, 0, 1),
  some (.sipush 200, 3, 0, 0, 0, 200), none, none, some (.invokestatic 34, 3, 119, 3, 0, 0), none, none,
  some (.ifCond .ne 6, 3, 42, 0, 0, 0), none, none, some (.bipush (-2), 2, 0, 0, 0, -2), none, some (.ireturn, 1, 0, 0, 0, 0),
  some (.iconst 0, 1, 0, 0, 0, 0), some (.istore 4, 2, 4, 0, 0, 0), none, some (.iload 4, 2, 4, 0, 0, 0), none, some (.sipush 750, 3, 0, 0, 0, 750),
  none, none, some (.if_icmp .ge 21, 3, 71, 0, 0, 0), none, none, some (.aload_n 0, 1, 0, 0, 0, 0),
  some (.getfield 7, 3, 12, 0, 0, 0), none, none, some (.sipush 2478, 3, 0, 0, 0, 2478), none, none,
  some (.iload 4, 2, 4, 0, 0, 0), none, some (.iadd, 1, 0, 0, 0, 0), some (.iconst 0, 1, 0, 0, 0, 0), some (.iastore, 1, 0, 0, 0, 0), some (.iinc 4 1, 3, 4, 0, 0, 1),
  none, none, some (.goto (-23), 3, 45, 0, 0, 0), none, none, some (.iconst 0, 1, 0, 0, 0, 0),
  some (.istore 4, 2, 4, 0, 0, 0), none, some (.iload 4, 2, 4, 0, 0, 0), none, some (.aload_n 0, 1, 0, 0, 0, 0), some (.getfield 7, 3, 12, 0, 0, 0),
  none, none, some (.iconst 3, 1, 0, 0, 0, 3), some (.iaload, 1, 0, 0, 0, 0), some (.if_icmp .ge 43, 3, 125, 0, 0, 0), none,
  none, some (.aload_n 0, 1, 0, 0, 0, 0), some (.getfield 7, 3, 12, 0, 0, 0), none, none, some (.sipush 2478, 3, 0, 0, 0, 2478),
  none, none, some (.aload_n 0, 1, 0, 0, 0, 0), some (.getfield 7, 3, 12, 0, 0, 0), none, none,
  some (.bipush 54, 2, 0, 0, 0, 54), none, some (.iload 4, 2, 4, 0, 0, 0), none, some (.iadd, 1, 0, 0, 0, 0), some (.iaload, 1, 0, 0, 0, 0),
  some (.iadd, 1, 0, 0, 0, 0), some (.dup2, 1, 0, 0, 0, 0), some (.iaload, 1, 0, 0, 0, 0), some (.iconst 1, 1, 0, 0, 0, 1), some (.aload_n 0, 1, 0, 0, 0, 0), some (.getfield 7, 3, 12, 0, 0, 0),
  none, none, some (.bipush 94, 2, 0, 0, 0, 94), none, some (.iload 4, 2, 4, 0, 0, 0), none,
  some (.iadd, 1, 0, 0, 0, 0), some (.iaload, 1, 0, 0, 0, 0), some (.isub, 1, 0, 0, 0, 0), some (.ior, 1, 0, 0, 0, 0), some (.iastore, 1, 0, 0, 0, 0), some (.iinc 4 1, 3, 4, 0, 0, 1),
  none, none, some (.goto (-48), 3, 74, 0, 0, 0), none, none, some (.aload_n 0, 1, 0, 0, 0, 0),
  some (.iload_n 1, 1, 1, 0, 0, 0), some (.putfield 208, 3, 12, 11, 0, 0), none, none, some (.aload_n 0, 1, 0, 0, 0, 0), some (.iload_n 2, 1, 2, 0, 0, 0),
  some (.putfield 214, 3, 12, 12, 0, 0), none, none, some (.aload_n 0, 1, 0, 0, 0, 0), some (.iconst 0, 1, 0, 0, 0, 0), some (.putfield 211, 3, 12, 13, 0, 0),
  none, none, some (.aload_n 0, 1, 0, 0, 0, 0), some (.iconst 0, 1, 0, 0, 0, 0), some (.invokevirtual 226, 3, 203, 1, 0, 12), none,
  none, some (.pop, 1, 0, 0, 0, 0), some (.aload_n 0, 1, 0, 0, 0, 0), some (.getfield 7, 3, 12, 0, 0, 0), none, none,
  some (.bipush 9, 2, 0, 0, 0, 9), none, some (.iconst 1, 1, 0, 0, 0, 1), some (.iastore, 1, 0, 0, 0, 0), some (.iconst 0, 1, 0, 0, 0, 0), some (.istore 4, 2, 4, 0, 0, 0),
  none, some (.iconst 0, 1, 0, 0, 0, 0), some (.istore 5, 2, 5, 0, 0, 0), none, some (.iload 5, 2, 5, 0, 0, 0), none,
  some (.sipush 750, 3, 0, 0, 0, 750), none, none, some (.if_icmp .ge 25, 3, 190, 0, 0, 0), none, none,
  some (.iload 4, 2, 4, 0, 0, 0), none, some (.aload_n 0, 1, 0, 0, 0, 0), some (.getfield 7, 3, 12, 0, 0, 0), none, none,
  some (.sipush 2478, 3, 0, 0, 0, 2478), none, none, some (.iload 5, 2, 5, 0, 0, 0), none, some (.iadd, 1, 0, 0, 0, 0),
  some (.iaload, 1, 0, 0, 0, 0), some (.iadd, 1, 0, 0, 0, 0), some (.istore 4, 2, 4, 0, 0, 0), none, some (.iinc 5 1, 3, 5, 0, 0, 1), none,
  none, some (.goto (-27), 3, 160, 0, 0, 0), none, none, some (.iload_n 3, 1, 3, 0, 0, 0), some (.ifCond .ne 8, 3, 199, 0, 0, 0),
  none, none, some (.iload 4, 2, 4, 0, 0, 0), none, some (.goto 7, 3, 203, 0, 0, 0), none,
  none, some (.aload_n 0, 1, 0, 0, 0, 0), some (.getfield 211, 3, 12, 13, 0, 0), none, none, some (.ireturn, 1, 0, 0, 0, 0)
  ])
def mi_X12_found : am_MI := (yX12_found, cX12_found, 2, (some FieldType.int), [
  some (.iload_n 1, 1, 1, 0, 0, 0), some (.invokestatic 95, 3, 121, 1, 0, 0), none, none, some (.ifCond .ne 8, 3, 12, 0, 0, 0), none,
  none, some (.bipush (-2), 2, 0, 0, 0, -2), none, some (.goto 28, 3, 37, 0, 0, 0), none, none,
  some (.aload_n 0, 1, 0, 0, 0, 0), some (.getfield 7, 3, 12, 0, 0, 0), none, none, some (.bipush 9, 2, 0, 0, 0, 9), none,
  some (.iaload, 1, 0, 0, 0, 0), some (.ifCond .ne 8, 3, 27, 0, 0, 0), none, none, some (.bipush (-3), 2, 0, 0, 0, -3), none,
  some (.goto 13, 3, 37, 0, 0, 0), none, none, some (.aload_n 0, 1, 0, 0, 0, 0), some (.getfield 7, 3, 12, 0, 0, 0), none,
  none, some (.sipush 2478, 3, 0, 0, 0, 2478), none, none, some (.iload_n 1, 1, 1, 0, 0, 0), some (.iadd, 1, 0, 0, 0, 0),
  some (.iaload, 1, 0, 0, 0, 0), some (.ireturn, 1, 0, 0, 0, 0)
  ])
def mi_X12_image : am_MI := (yX12_image, cX12_image, 2, (some FieldType.int), [
  some (.iconst 0, 1, 0, 0, 0, 0), some (.istore_n 1, 1, 1, 0, 0, 0), some (.iload_n 1, 1, 1, 0, 0, 0), some (.sipush 3228, 3, 0, 0, 0, 3228), none, none,
  some (.if_icmp .ge 21, 3, 27, 0, 0, 0), none, none, some (.aload_n 0, 1, 0, 0, 0, 0), some (.getfield 13, 3, 12, 1, 0, 0), none,
  none, some (.iload_n 1, 1, 1, 0, 0, 0), some (.aload_n 0, 1, 0, 0, 0, 0), some (.getfield 7, 3, 12, 0, 0, 0), none, none,
  some (.iload_n 1, 1, 1, 0, 0, 0), some (.iaload, 1, 0, 0, 0, 0), some (.iastore, 1, 0, 0, 0, 0), some (.iinc 1 1, 3, 1, 0, 0, 1), none, none,
  some (.goto (-22), 3, 2, 0, 0, 0), none, none, some (.aload_n 0, 1, 0, 0, 0, 0), some (.iconst 1, 1, 0, 0, 0, 1), some (.putfield 235, 3, 12, 2, 0, 0),
  none, none, some (.aload_n 0, 1, 0, 0, 0, 0), some (.getfield 7, 3, 12, 0, 0, 0), none, none,
  some (.iconst 0, 1, 0, 0, 0, 0), some (.iaload, 1, 0, 0, 0, 0), some (.ireturn, 1, 0, 0, 0, 0)
  ])
def mi_X12_undo : am_MI := (yX12_undo, cX12_undo, 2, (some FieldType.int), [
  some (.aload_n 0, 1, 0, 0, 0, 0), some (.getfield 235, 3, 12, 2, 0, 0), none, none, some (.ifCond .ne 6, 3, 10, 0, 0, 0), none,
  none, some (.bipush (-3), 2, 0, 0, 0, -3), none, some (.ireturn, 1, 0, 0, 0, 0), some (.iconst 0, 1, 0, 0, 0, 0), some (.istore_n 1, 1, 1, 0, 0, 0),
  some (.iload_n 1, 1, 1, 0, 0, 0), some (.sipush 3228, 3, 0, 0, 0, 3228), none, none, some (.if_icmp .ge 21, 3, 37, 0, 0, 0), none,
  none, some (.aload_n 0, 1, 0, 0, 0, 0), some (.getfield 7, 3, 12, 0, 0, 0), none, none, some (.iload_n 1, 1, 1, 0, 0, 0),
  some (.aload_n 0, 1, 0, 0, 0, 0), some (.getfield 13, 3, 12, 1, 0, 0), none, none, some (.iload_n 1, 1, 1, 0, 0, 0), some (.iaload, 1, 0, 0, 0, 0),
  some (.iastore, 1, 0, 0, 0, 0), some (.iinc 1 1, 3, 1, 0, 0, 1), none, none, some (.goto (-22), 3, 12, 0, 0, 0), none,
  none, some (.aload_n 0, 1, 0, 0, 0, 0), some (.getfield 7, 3, 12, 0, 0, 0), none, none, some (.iconst 0, 1, 0, 0, 0, 0),
  some (.iaload, 1, 0, 0, 0, 0), some (.ireturn, 1, 0, 0, 0, 0)
  ])
def mi_X12_count : am_MI := (yX12_count, cX12_count, 2, (some FieldType.int), [
  some (.iload_n 1, 1, 1, 0, 0, 0), some (.iconst 0, 1, 0, 0, 0, 0), some (.bipush 6, 2, 0, 0, 0, 6), none, some (.invokestatic 34, 3, 119, 3, 0, 0), none,
  none, some (.ifCond .eq 12, 3, 19, 0, 0, 0), none, none, some (.aload_n 0, 1, 0, 0, 0, 0), some (.getfield 7, 3, 12, 0, 0, 0),
  none, none, some (.iload_n 1, 1, 1, 0, 0, 0), some (.iaload, 1, 0, 0, 0, 0), some (.goto 20, 3, 36, 0, 0, 0), none,
  none, some (.iload_n 1, 1, 1, 0, 0, 0), some (.bipush 7, 2, 0, 0, 0, 7), none, some (.if_icmp .ne 13, 3, 35, 0, 0, 0), none,
  none, some (.aload_n 0, 1, 0, 0, 0, 0), some (.getfield 7, 3, 12, 0, 0, 0), none, none, some (.bipush 8, 2, 0, 0, 0, 8),
  none, some (.iaload, 1, 0, 0, 0, 0), some (.goto 4, 3, 36, 0, 0, 0), none, none, some (.iconst (-1), 1, 0, 0, 0, -1),
  some (.ireturn, 1, 0, 0, 0, 0)
  ])
def mi_J6_bitCount_0f7a4 : am_MI := (yJ6_bitCount_0f7a4, cJ6_bitCount_0f7a4, 1, (some FieldType.int), [
  some (.iload_n 0, 1, 0, 0, 0, 0), some (.iload_n 0, 1, 0, 0, 0, 0), some (.iconst 1, 1, 0, 0, 0, 1), some (.iushr, 1, 0, 0, 0, 0), some (.ldc_w 265, 3, 0, 0, 0, 1431655765), none,
  none, some (.iand, 1, 0, 0, 0, 0), some (.isub, 1, 0, 0, 0, 0), some (.istore_n 0, 1, 0, 0, 0, 0), some (.iload_n 0, 1, 0, 0, 0, 0), some (.ldc_w 266, 3, 0, 0, 0, 858993459),
  none, none, some (.iand, 1, 0, 0, 0, 0), some (.iload_n 0, 1, 0, 0, 0, 0), some (.iconst 2, 1, 0, 0, 0, 2), some (.iushr, 1, 0, 0, 0, 0),
  some (.ldc_w 266, 3, 0, 0, 0, 858993459), none, none, some (.iand, 1, 0, 0, 0, 0), some (.iadd, 1, 0, 0, 0, 0), some (.istore_n 0, 1, 0, 0, 0, 0),
  some (.iload_n 0, 1, 0, 0, 0, 0), some (.iload_n 0, 1, 0, 0, 0, 0), some (.iconst 4, 1, 0, 0, 0, 4), some (.iushr, 1, 0, 0, 0, 0), some (.iadd, 1, 0, 0, 0, 0), some (.ldc_w 267, 3, 0, 0, 0, 252645135),
  none, none, some (.iand, 1, 0, 0, 0, 0), some (.istore_n 0, 1, 0, 0, 0, 0), some (.iload_n 0, 1, 0, 0, 0, 0), some (.iload_n 0, 1, 0, 0, 0, 0),
  some (.bipush 8, 2, 0, 0, 0, 8), none, some (.iushr, 1, 0, 0, 0, 0), some (.iadd, 1, 0, 0, 0, 0), some (.istore_n 0, 1, 0, 0, 0, 0), some (.iload_n 0, 1, 0, 0, 0, 0),
  some (.iload_n 0, 1, 0, 0, 0, 0), some (.bipush 16, 2, 0, 0, 0, 16), none, some (.iushr, 1, 0, 0, 0, 0), some (.iadd, 1, 0, 0, 0, 0), some (.istore_n 0, 1, 0, 0, 0, 0),
  some (.iload_n 0, 1, 0, 0, 0, 0), some (.bipush 63, 2, 0, 0, 0, 63), none, some (.iand, 1, 0, 0, 0, 0), some (.ireturn, 1, 0, 0, 0, 0)
  ])
def mi_J9_max_7cf53 : am_MI := (yJ9_max_7cf53, cJ9_max_7cf53, 2, (some FieldType.int), [
  some (.iload_n 0, 1, 0, 0, 0, 0), some (.iload_n 1, 1, 1, 0, 0, 0), some (.if_icmp .lt 7, 3, 9, 0, 0, 0), none, none, some (.iload_n 0, 1, 0, 0, 0, 0),
  some (.goto 4, 3, 10, 0, 0, 0), none, none, some (.iload_n 1, 1, 1, 0, 0, 0), some (.ireturn, 1, 0, 0, 0, 0)
  ])
def mi_J9_min_7cf53 : am_MI := (yJ9_min_7cf53, cJ9_min_7cf53, 2, (some FieldType.int), [
  some (.iload_n 0, 1, 0, 0, 0, 0), some (.iload_n 1, 1, 1, 0, 0, 0), some (.if_icmp .gt 7, 3, 9, 0, 0, 0), none, none, some (.iload_n 0, 1, 0, 0, 0, 0),
  some (.goto 4, 3, 10, 0, 0, 0), none, none, some (.iload_n 1, 1, 1, 0, 0, 0), some (.ireturn, 1, 0, 0, 0, 0)
  ])
def mi_J0_length_8abf5 : am_MI := (yJ0_length_8abf5, cJ0_length_8abf5, 1, (some FieldType.int), [
  ])
def mi_J0_charAt_5068e : am_MI := (yJ0_charAt_5068e, cJ0_charAt_5068e, 2, (some FieldType.char), [
  ])
def mi_J7_fill_53178 : am_MI := (yJ7_fill_53178, cJ7_fill_53178, 4, none, [
  some (.iconst 0, 1, 0, 0, 0, 0), some (.istore_n 2, 1, 2, 0, 0, 0), some (.aload_n 0, 1, 0, 0, 0, 0), some (.arraylength, 1, 0, 0, 0, 0), some (.istore_n 3, 1, 3, 0, 0, 0), some (.iload_n 2, 1, 2, 0, 0, 0),
  some (.iload_n 3, 1, 3, 0, 0, 0), some (.if_icmp .ge 13, 3, 20, 0, 0, 0), none, none, some (.aload_n 0, 1, 0, 0, 0, 0), some (.iload_n 2, 1, 2, 0, 0, 0),
  some (.iload_n 1, 1, 1, 0, 0, 0), some (.iastore, 1, 0, 0, 0, 0), some (.iinc 2 1, 3, 2, 0, 0, 1), none, none, some (.goto (-12), 3, 5, 0, 0, 0),
  none, none, some (.return_, 1, 0, 0, 0, 0)
  ])
def am_tabl : List am_MI := [mi_X0_init, mi_X0_become, mi_X0_has, mi_X0_hasStep, mi_X0_isTrue, mi_X0_changeOn, mi_X0_textOn, mi_X0_rowOf, mi_X0_takesHoles, mi_X0_takesEnds, mi_X0_endIn, mi_X0_isTitled, mi_X0_isTitleOf, mi_X0_isUsed, mi_X0_holesOf, mi_X0_countSources, mi_X0_placeOfHole, mi_X1_init, mi_X1_actEnds, mi_X2_init, mi_X2_weigh, mi_X2_lackOf, mi_X2_gives, mi_X2_factOfStep, mi_X2_factOfTerm, mi_X2_saidBy, mi_X2_papersUnder, mi_X2_papersUnderStep, mi_X3_init, mi_X3_actLeans, mi_X3_actShows, mi_X3_actEnds, mi_X4_init, mi_X4_actShows, mi_X4_actEnds, mi_X5_init, mi_X5_actLeans, mi_X6_init, mi_X6_has, mi_X6_begin, mi_X6_spread, mi_X6_bringLeast, mi_X6_useIn, mi_X6_useOnce, mi_X6_settleFrom, mi_X6_bind, mi_X6_bindArg, mi_X6_complete, mi_X6_conclude, mi_X6_arrive, mi_X7_init, mi_X7_read, mi_X7_readParts, mi_X7_readPart, mi_X7_readTerm, mi_X7_readTest, mi_X7_readArg, mi_X7_placeIn, mi_X7_skip, mi_X8_init, mi_X8_actShows, mi_X9_init, mi_X9_faultOf, mi_X9_play, mi_X9_signAt, mi_X9_playPieces, mi_X9_playTry, mi_X9_endOfTry, mi_X10_init, mi_X10_newValues, mi_X10_putLetters, mi_X10_hasInTerms, mi_X10_factOf, mi_X10_testsHold, mi_X10_become, mi_X11_init, mi_X11_day, mi_X11_feed, mi_X11_rule, mi_X11_change, mi_X11_told, mi_X11_paper, mi_X11_shown, mi_X11_of, mi_X11_follows, mi_X11_many, mi_X11_proof, mi_X11_step, mi_X11_lacks, mi_X11_says, mi_X11_check, mi_X11_leans, mi_X11_hole, mi_X11_fill, mi_X11_act, mi_X11_as, mi_X11_title, mi_X11_stand, mi_X11_fall, mi_X11_carry, mi_X11_clash, mi_X11_every, mi_X11_enough, mi_X11_could, mi_X11_tactic, mi_X11_run, mi_X11_found, mi_X11_image, mi_X11_undo, mi_X11_count, mi_X11_isDay, mi_X11_isFact, mi_X11_isPerson, mi_X11_isKind, mi_X11_followsToday, mi_X11_standsByProof, mi_X11_standingToday, mi_X11_fewest, mi_X12_init, mi_X12_in, mi_X12_isDay, mi_X12_isFact, mi_X12_day, mi_X12_feed, mi_X12_here, mi_X12_eats, mi_X12_shapeOf, mi_X12_argument, mi_X12_term, mi_X12_test, mi_X12_part, mi_X12_lettersIn, mi_X12_termLetters, mi_X12_reads, mi_X12_rule, mi_X12_isRule, mi_X12_change, mi_X12_changeOn, mi_X12_textOn, mi_X12_told, mi_X12_paper, mi_X12_isPaper, mi_X12_shown, mi_X12_of, mi_X12_sets, mi_X12_value, mi_X12_factAt, mi_X12_testsHold, mi_X12_isPlain, mi_X12_areBelow, mi_X12_begins, mi_X12_works, mi_X12_sizes, mi_X12_followsOn, mi_X12_follows, mi_X12_many, mi_X12_isProof, mi_X12_stepAt, mi_X12_proof, mi_X12_isUsed, mi_X12_step, mi_X12_saysOn, mi_X12_termOn, mi_X12_isFrom, mi_X12_lacksOn, mi_X12_holesOf, mi_X12_isTaken, mi_X12_isStep, mi_X12_lacks, mi_X12_says, mi_X12_check, mi_X12_usesEnds, mi_X12_leansOf, mi_X12_leans, mi_X12_hole, mi_X12_fill, mi_X12_aboveOf, mi_X12_leansFrom, mi_X12_showsFrom, mi_X12_endsFrom, mi_X12_act, mi_X12_as, mi_X12_isTitle, mi_X12_title, mi_X12_standsOn, mi_X12_stand, mi_X12_fall, mi_X12_carry, mi_X12_clash, mi_X12_every, mi_X12_many0, mi_X12_fewest, mi_X12_enough, mi_X12_could, mi_X12_readsTactic, mi_X12_readsPiece, mi_X12_readsTry, mi_X12_tactic, mi_X12_byteAt, mi_X12_runs, mi_X12_behindTry, mi_X12_runsTry, mi_X12_runsOnce, mi_X12_runsTactic, mi_X12_run, mi_X12_found, mi_X12_image, mi_X12_undo, mi_X12_count, mi_J6_bitCount_0f7a4, mi_J9_max_7cf53, mi_J9_min_7cf53, mi_J0_length_8abf5, mi_J0_charAt_5068e, mi_J7_fill_53178, mi_X0_init, mi_X3_actLeans, mi_X0_init, mi_X3_actLeans, mi_X5_actLeans, mi_X5_actLeans, mi_X0_init, mi_X0_init, mi_X3_actLeans, mi_X0_init, mi_X3_actShows, mi_X0_init, mi_X3_actShows, mi_X4_actShows, mi_X3_actShows, mi_X0_init, mi_X0_init, mi_X8_actShows, mi_X0_init, mi_X1_actEnds, mi_X0_init, mi_X3_actEnds, mi_X4_actEnds, mi_X3_actEnds, mi_X0_init, mi_X0_init, mi_X3_actEnds]
def am_tab (n : Nat) : am_MI := (am_nth am_tabl n).getD mi_X0_init
