theorem az_k0 : az_chk 0 = true := by
  unfold az_chk
  refine List.all_eq_true.mpr fun k hk => ?_
  have hk := List.mem_range.mp hk
  have hl : (az_pg 0).length = 911 := by decide +kernel
  rw [hl] at hk
  by_cases h0 : k < 48
  · exact List.all_eq_true.mp az_kL0 k (List.mem_range'_1.mpr ⟨by omega, by omega⟩)
  by_cases h48 : k < 96
  · exact List.all_eq_true.mp az_kL48 k (List.mem_range'_1.mpr ⟨by omega, by omega⟩)
  by_cases h96 : k < 144
  · exact List.all_eq_true.mp az_kL96 k (List.mem_range'_1.mpr ⟨by omega, by omega⟩)
  by_cases h144 : k < 192
  · exact List.all_eq_true.mp az_kL144 k (List.mem_range'_1.mpr ⟨by omega, by omega⟩)
  by_cases h192 : k < 240
  · exact List.all_eq_true.mp az_kL192 k (List.mem_range'_1.mpr ⟨by omega, by omega⟩)
  by_cases h240 : k < 288
  · exact List.all_eq_true.mp az_kL240 k (List.mem_range'_1.mpr ⟨by omega, by omega⟩)
  by_cases h288 : k < 336
  · exact List.all_eq_true.mp az_kL288 k (List.mem_range'_1.mpr ⟨by omega, by omega⟩)
  by_cases h336 : k < 384
  · exact List.all_eq_true.mp az_kL336 k (List.mem_range'_1.mpr ⟨by omega, by omega⟩)
  by_cases h384 : k < 432
  · exact List.all_eq_true.mp az_kL384 k (List.mem_range'_1.mpr ⟨by omega, by omega⟩)
  by_cases h432 : k < 480
  · exact List.all_eq_true.mp az_kL432 k (List.mem_range'_1.mpr ⟨by omega, by omega⟩)
  by_cases h480 : k < 528
  · exact List.all_eq_true.mp az_kL480 k (List.mem_range'_1.mpr ⟨by omega, by omega⟩)
  by_cases h528 : k < 576
  · exact List.all_eq_true.mp az_kL528 k (List.mem_range'_1.mpr ⟨by omega, by omega⟩)
  by_cases h576 : k < 624
  · exact List.all_eq_true.mp az_kL576 k (List.mem_range'_1.mpr ⟨by omega, by omega⟩)
  by_cases h624 : k < 672
  · exact List.all_eq_true.mp az_kL624 k (List.mem_range'_1.mpr ⟨by omega, by omega⟩)
  by_cases h672 : k < 720
  · exact List.all_eq_true.mp az_kL672 k (List.mem_range'_1.mpr ⟨by omega, by omega⟩)
  by_cases h720 : k < 768
  · exact List.all_eq_true.mp az_kL720 k (List.mem_range'_1.mpr ⟨by omega, by omega⟩)
  by_cases h768 : k < 816
  · exact List.all_eq_true.mp az_kL768 k (List.mem_range'_1.mpr ⟨by omega, by omega⟩)
  by_cases h816 : k < 864
  · exact List.all_eq_true.mp az_kL816 k (List.mem_range'_1.mpr ⟨by omega, by omega⟩)
  exact List.all_eq_true.mp az_kL864 k (List.mem_range'_1.mpr ⟨by omega, by omega⟩)
theorem az_allok : az_all := by
  intro y hy
  match y, hy with
  | 0, _ => exact ⟨az_k0, fun h => absurd h (Nat.lt_irrefl 0)⟩
  | 1, _ => exact ⟨az_k1, fun _ => az_o1⟩
  | 2, _ => exact ⟨az_k2, fun _ => az_o2⟩
  | 3, _ => exact ⟨az_k3, fun _ => az_o3⟩
  | 4, _ => exact ⟨az_k4, fun _ => az_o4⟩
  | 5, _ => exact ⟨az_k5, fun _ => az_o5⟩
  | 6, _ => exact ⟨az_k6, fun _ => az_o6⟩
  | 7, _ => exact ⟨az_k7, fun _ => az_o7⟩
  | 8, _ => exact ⟨az_k8, fun _ => az_o8⟩
  | 9, _ => exact ⟨az_k9, fun _ => az_o9⟩
  | 10, _ => exact ⟨az_k10, fun _ => az_o10⟩
  | 11, _ => exact ⟨az_k11, fun _ => az_o11⟩
  | 12, _ => exact ⟨az_k12, fun _ => az_o12⟩
  | 13, _ => exact ⟨az_k13, fun _ => az_o13⟩
  | 14, _ => exact ⟨az_k14, fun _ => az_o14⟩
  | 15, _ => exact ⟨az_k15, fun _ => az_o15⟩
  | 16, _ => exact ⟨az_k16, fun _ => az_o16⟩
  | 17, _ => exact ⟨az_k17, fun _ => az_o17⟩
  | 18, _ => exact ⟨az_k18, fun _ => az_o18⟩
  | 19, _ => exact ⟨az_k19, fun _ => az_o19⟩
  | 20, _ => exact ⟨az_k20, fun _ => az_o20⟩
  | 21, _ => exact ⟨az_k21, fun _ => az_o21⟩
  | 22, _ => exact ⟨az_k22, fun _ => az_o22⟩
  | 23, _ => exact ⟨az_k23, fun _ => az_o23⟩
  | 24, _ => exact ⟨az_k24, fun _ => az_o24⟩
  | 25, _ => exact ⟨az_k25, fun _ => az_o25⟩
  | 26, _ => exact ⟨az_k26, fun _ => az_o26⟩
  | 27, _ => exact ⟨az_k27, fun _ => az_o27⟩
  | 28, _ => exact ⟨az_k28, fun _ => az_o28⟩
  | 29, _ => exact ⟨az_k29, fun _ => az_o29⟩
  | 30, _ => exact ⟨az_k30, fun _ => az_o30⟩
  | 31, _ => exact ⟨az_k31, fun _ => az_o31⟩
  | 32, _ => exact ⟨az_k32, fun _ => az_o32⟩
  | 33, _ => exact ⟨az_k33, fun _ => az_o33⟩
  | 34, _ => exact ⟨az_k34, fun _ => az_o34⟩
  | 35, _ => exact ⟨az_k35, fun _ => az_o35⟩
  | 36, _ => exact ⟨az_k36, fun _ => az_o36⟩
  | 37, _ => exact ⟨az_k37, fun _ => az_o37⟩
  | 38, _ => exact ⟨az_k38, fun _ => az_o38⟩
  | 39, _ => exact ⟨az_k39, fun _ => az_o39⟩
  | 40, _ => exact ⟨az_k40, fun _ => az_o40⟩
  | 41, _ => exact ⟨az_k41, fun _ => az_o41⟩
  | 42, _ => exact ⟨az_k42, fun _ => az_o42⟩
  | 43, _ => exact ⟨az_k43, fun _ => az_o43⟩
  | 44, _ => exact ⟨az_k44, fun _ => az_o44⟩
  | 45, _ => exact ⟨az_k45, fun _ => az_o45⟩
  | 46, _ => exact ⟨az_k46, fun _ => az_o46⟩
  | 47, _ => exact ⟨az_k47, fun _ => az_o47⟩
  | 48, _ => exact ⟨az_k48, fun _ => az_o48⟩
  | 49, _ => exact ⟨az_k49, fun _ => az_o49⟩
  | 50, _ => exact ⟨az_k50, fun _ => az_o50⟩
  | 51, _ => exact ⟨az_k51, fun _ => az_o51⟩
  | 52, _ => exact ⟨az_k52, fun _ => az_o52⟩
  | 53, _ => exact ⟨az_k53, fun _ => az_o53⟩
  | 54, _ => exact ⟨az_k54, fun _ => az_o54⟩
  | 55, _ => exact ⟨az_k55, fun _ => az_o55⟩
  | 56, _ => exact ⟨az_k56, fun _ => az_o56⟩
  | 57, _ => exact ⟨az_k57, fun _ => az_o57⟩
  | 58, _ => exact ⟨az_k58, fun _ => az_o58⟩
  | 59, _ => exact ⟨az_k59, fun _ => az_o59⟩
  | 60, _ => exact ⟨az_k60, fun _ => az_o60⟩
  | 61, _ => exact ⟨az_k61, fun _ => az_o61⟩
  | 62, _ => exact ⟨az_k62, fun _ => az_o62⟩
  | 63, _ => exact ⟨az_k63, fun _ => az_o63⟩
  | 64, _ => exact ⟨az_k64, fun _ => az_o64⟩
  | 65, _ => exact ⟨az_k65, fun _ => az_o65⟩
  | 66, _ => exact ⟨az_k66, fun _ => az_o66⟩
  | 67, _ => exact ⟨az_k67, fun _ => az_o67⟩
  | 68, _ => exact ⟨az_k68, fun _ => az_o68⟩
  | 69, _ => exact ⟨az_k69, fun _ => az_o69⟩
  | 70, _ => exact ⟨az_k70, fun _ => az_o70⟩
  | 71, _ => exact ⟨az_k71, fun _ => az_o71⟩
  | 72, _ => exact ⟨az_k72, fun _ => az_o72⟩
  | 73, _ => exact ⟨az_k73, fun _ => az_o73⟩
  | 74, _ => exact ⟨az_k74, fun _ => az_o74⟩
  | 75, _ => exact ⟨az_k75, fun _ => az_o75⟩
  | 76, _ => exact ⟨az_k76, fun _ => az_o76⟩
  | 77, _ => exact ⟨az_k77, fun _ => az_o77⟩
  | 78, _ => exact ⟨az_k78, fun _ => az_o78⟩
  | 79, _ => exact ⟨az_k79, fun _ => az_o79⟩
  | 80, _ => exact ⟨az_k80, fun _ => az_o80⟩
  | 81, _ => exact ⟨az_k81, fun _ => az_o81⟩
  | 82, _ => exact ⟨az_k82, fun _ => az_o82⟩
  | 83, _ => exact ⟨az_k83, fun _ => az_o83⟩
  | 84, _ => exact ⟨az_k84, fun _ => az_o84⟩
  | 85, _ => exact ⟨az_k85, fun _ => az_o85⟩
  | 86, _ => exact ⟨az_k86, fun _ => az_o86⟩
  | 87, _ => exact ⟨az_k87, fun _ => az_o87⟩
  | 88, _ => exact ⟨az_k88, fun _ => az_o88⟩
  | 89, _ => exact ⟨az_k89, fun _ => az_o89⟩
  | 90, _ => exact ⟨az_k90, fun _ => az_o90⟩
  | 91, _ => exact ⟨az_k91, fun _ => az_o91⟩
  | 92, _ => exact ⟨az_k92, fun _ => az_o92⟩
  | 93, _ => exact ⟨az_k93, fun _ => az_o93⟩
  | 94, _ => exact ⟨az_k94, fun _ => az_o94⟩
  | 95, _ => exact ⟨az_k95, fun _ => az_o95⟩
  | 96, _ => exact ⟨az_k96, fun _ => az_o96⟩
  | 97, _ => exact ⟨az_k97, fun _ => az_o97⟩
  | 98, _ => exact ⟨az_k98, fun _ => az_o98⟩
  | 99, _ => exact ⟨az_k99, fun _ => az_o99⟩
  | 100, _ => exact ⟨az_k100, fun _ => az_o100⟩
  | 101, _ => exact ⟨az_k101, fun _ => az_o101⟩
  | 102, _ => exact ⟨az_k102, fun _ => az_o102⟩
  | 103, _ => exact ⟨az_k103, fun _ => az_o103⟩
  | 104, _ => exact ⟨az_k104, fun _ => az_o104⟩
  | 105, _ => exact ⟨az_k105, fun _ => az_o105⟩
  | 106, _ => exact ⟨az_k106, fun _ => az_o106⟩
  | 107, _ => exact ⟨az_k107, fun _ => az_o107⟩
  | 108, _ => exact ⟨az_k108, fun _ => az_o108⟩
  | 109, _ => exact ⟨az_k109, fun _ => az_o109⟩
  | 110, _ => exact ⟨az_k110, fun _ => az_o110⟩
  | 111, _ => exact ⟨az_k111, fun _ => az_o111⟩
  | 112, _ => exact ⟨az_k112, fun _ => az_o112⟩
  | 113, _ => exact ⟨az_k113, fun _ => az_o113⟩
  | 114, _ => exact ⟨az_k114, fun _ => az_o114⟩
  | 115, _ => exact ⟨az_k115, fun _ => az_o115⟩
  | 116, _ => exact ⟨az_k116, fun _ => az_o116⟩
  | 117, _ => exact ⟨az_k117, fun _ => az_o117⟩
  | 118, _ => exact ⟨az_k118, fun _ => az_o118⟩
  | 119, _ => exact ⟨az_k119, fun _ => az_o119⟩
  | 120, _ => exact ⟨az_k120, fun _ => az_o120⟩
  | 121, _ => exact ⟨az_k121, fun _ => az_o121⟩
  | 122, _ => exact ⟨az_k122, fun _ => az_o122⟩
  | 123, _ => exact ⟨az_k123, fun _ => az_o123⟩
  | 124, _ => exact ⟨az_k124, fun _ => az_o124⟩
  | 125, _ => exact ⟨az_k125, fun _ => az_o125⟩
  | 126, _ => exact ⟨az_k126, fun _ => az_o126⟩
  | 127, _ => exact ⟨az_k127, fun _ => az_o127⟩
  | 128, _ => exact ⟨az_k128, fun _ => az_o128⟩
  | 129, _ => exact ⟨az_k129, fun _ => az_o129⟩
  | 130, _ => exact ⟨az_k130, fun _ => az_o130⟩
  | 131, _ => exact ⟨az_k131, fun _ => az_o131⟩
  | 132, _ => exact ⟨az_k132, fun _ => az_o132⟩
  | 133, _ => exact ⟨az_k133, fun _ => az_o133⟩
  | 134, _ => exact ⟨az_k134, fun _ => az_o134⟩
  | 135, _ => exact ⟨az_k135, fun _ => az_o135⟩
  | 136, _ => exact ⟨az_k136, fun _ => az_o136⟩
  | 137, _ => exact ⟨az_k137, fun _ => az_o137⟩
  | 138, _ => exact ⟨az_k138, fun _ => az_o138⟩
  | 139, _ => exact ⟨az_k139, fun _ => az_o139⟩
  | 140, _ => exact ⟨az_k140, fun _ => az_o140⟩
  | 141, _ => exact ⟨az_k141, fun _ => az_o141⟩
  | 142, _ => exact ⟨az_k142, fun _ => az_o142⟩
  | 143, _ => exact ⟨az_k143, fun _ => az_o143⟩
  | 144, _ => exact ⟨az_k144, fun _ => az_o144⟩
  | 145, _ => exact ⟨az_k145, fun _ => az_o145⟩
  | 146, _ => exact ⟨az_k146, fun _ => az_o146⟩
  | 147, _ => exact ⟨az_k147, fun _ => az_o147⟩
  | 148, _ => exact ⟨az_k148, fun _ => az_o148⟩
  | 149, _ => exact ⟨az_k149, fun _ => az_o149⟩
  | 150, _ => exact ⟨az_k150, fun _ => az_o150⟩
  | 151, _ => exact ⟨az_k151, fun _ => az_o151⟩
  | 152, _ => exact ⟨az_k152, fun _ => az_o152⟩
  | 153, _ => exact ⟨az_k153, fun _ => az_o153⟩
  | 154, _ => exact ⟨az_k154, fun _ => az_o154⟩
  | 155, _ => exact ⟨az_k155, fun _ => az_o155⟩
  | 156, _ => exact ⟨az_k156, fun _ => az_o156⟩
  | 157, _ => exact ⟨az_k157, fun _ => az_o157⟩
  | 158, _ => exact ⟨az_k158, fun _ => az_o158⟩
  | 159, _ => exact ⟨az_k159, fun _ => az_o159⟩
  | 160, _ => exact ⟨az_k160, fun _ => az_o160⟩
  | 161, _ => exact ⟨az_k161, fun _ => az_o161⟩
  | 162, _ => exact ⟨az_k162, fun _ => az_o162⟩
  | 163, _ => exact ⟨az_k163, fun _ => az_o163⟩
  | 164, _ => exact ⟨az_k164, fun _ => az_o164⟩
  | 165, _ => exact ⟨az_k165, fun _ => az_o165⟩
  | 166, _ => exact ⟨az_k166, fun _ => az_o166⟩
  | 167, _ => exact ⟨az_k167, fun _ => az_o167⟩
  | 168, _ => exact ⟨az_k168, fun _ => az_o168⟩
  | 169, _ => exact ⟨az_k169, fun _ => az_o169⟩
  | 170, _ => exact ⟨az_k170, fun _ => az_o170⟩
  | 171, _ => exact ⟨az_k171, fun _ => az_o171⟩
  | 172, _ => exact ⟨az_k172, fun _ => az_o172⟩
  | 173, _ => exact ⟨az_k173, fun _ => az_o173⟩
  | 174, _ => exact ⟨az_k174, fun _ => az_o174⟩
  | 175, _ => exact ⟨az_k175, fun _ => az_o175⟩
  | 176, _ => exact ⟨az_k176, fun _ => az_o176⟩
  | 177, _ => exact ⟨az_k177, fun _ => az_o177⟩
  | 178, _ => exact ⟨az_k178, fun _ => az_o178⟩
  | 179, _ => exact ⟨az_k179, fun _ => az_o179⟩
  | 180, _ => exact ⟨az_k180, fun _ => az_o180⟩
  | 181, _ => exact ⟨az_k181, fun _ => az_o181⟩
  | 182, _ => exact ⟨az_k182, fun _ => az_o182⟩
  | 183, _ => exact ⟨az_k183, fun _ => az_o183⟩
  | 184, _ => exact ⟨az_k184, fun _ => az_o184⟩
  | 185, _ => exact ⟨az_k185, fun _ => az_o185⟩
  | 186, _ => exact ⟨az_k186, fun _ => az_o186⟩
  | 187, _ => exact ⟨az_k187, fun _ => az_o187⟩
  | 188, _ => exact ⟨az_k188, fun _ => az_o188⟩
  | 189, _ => exact ⟨az_k189, fun _ => az_o189⟩
  | n + 190, h => exact absurd h (by omega)
theorem az_aot : Cond.arrayOver (.object RX4) ∈ lw_tbl := List.mem_of_getElem? (i := 82) (by decide +kernel)
theorem az_aoc : Cond.arrayOver (.object RX0) ∈ lw_tbl := List.mem_of_getElem? (i := 84) (by decide +kernel)
theorem az_nestin : ∀ q ∈ az_nest, Cond.methodLinkNest q.1 q.2.1 q.2.2.1 q.2.2.2 ∈ lw_tbl := by
  intro q hq
  simp only [az_nest, List.mem_cons, List.not_mem_nil, or_false] at hq
  rcases hq with rfl | rfl | rfl | rfl | rfl | rfl | rfl | rfl | rfl | rfl
  · exact List.mem_of_getElem? (i := 217) (by decide +kernel)
  · exact List.mem_of_getElem? (i := 284) (by decide +kernel)
  · exact List.mem_of_getElem? (i := 416) (by decide +kernel)
  · exact List.mem_of_getElem? (i := 428) (by decide +kernel)
  · exact List.mem_of_getElem? (i := 488) (by decide +kernel)
  · exact List.mem_of_getElem? (i := 537) (by decide +kernel)
  · exact List.mem_of_getElem? (i := 539) (by decide +kernel)
  · exact List.mem_of_getElem? (i := 556) (by decide +kernel)
  · exact List.mem_of_getElem? (i := 584) (by decide +kernel)
  · exact List.mem_of_getElem? (i := 585) (by decide +kernel)
