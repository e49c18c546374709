/-! ===== every method passes the check ===== -/
theorem pchg0 : ∀ q ∈ pg0, okQ prog q = true := List.forall_mem_cons.mpr ⟨pchk0, List.forall_mem_cons.mpr ⟨pchk1, List.forall_mem_cons.mpr ⟨pchk2, List.forall_mem_cons.mpr ⟨pchk3, List.forall_mem_cons.mpr ⟨pchk4, List.forall_mem_cons.mpr ⟨pchk5, List.forall_mem_cons.mpr ⟨pchk6, List.forall_mem_cons.mpr ⟨pchk7, List.forall_mem_cons.mpr ⟨pchk8, List.forall_mem_cons.mpr ⟨pchk9, List.forall_mem_cons.mpr ⟨pchk10, List.forall_mem_cons.mpr ⟨pchk11, List.forall_mem_cons.mpr ⟨pchk12, List.forall_mem_cons.mpr ⟨pchk13, List.forall_mem_cons.mpr ⟨pchk14, List.forall_mem_cons.mpr ⟨pchk15, List.forall_mem_cons.mpr ⟨pchk16, List.forall_mem_cons.mpr ⟨pchk17, List.forall_mem_cons.mpr ⟨pchk18, List.forall_mem_cons.mpr ⟨pchk19, fun _ h => absurd h List.not_mem_nil⟩⟩⟩⟩⟩⟩⟩⟩⟩⟩⟩⟩⟩⟩⟩⟩⟩⟩⟩⟩
theorem pchg1 : ∀ q ∈ pg1, okQ prog q = true := List.forall_mem_cons.mpr ⟨pchk20, List.forall_mem_cons.mpr ⟨pchk21, List.forall_mem_cons.mpr ⟨pchk22, List.forall_mem_cons.mpr ⟨pchk23, List.forall_mem_cons.mpr ⟨pchk24, List.forall_mem_cons.mpr ⟨pchk25, List.forall_mem_cons.mpr ⟨pchk26, List.forall_mem_cons.mpr ⟨pchk27, List.forall_mem_cons.mpr ⟨pchk28, List.forall_mem_cons.mpr ⟨pchk29, List.forall_mem_cons.mpr ⟨pchk30, List.forall_mem_cons.mpr ⟨pchk31, List.forall_mem_cons.mpr ⟨pchk32, List.forall_mem_cons.mpr ⟨pchk33, List.forall_mem_cons.mpr ⟨pchk34, List.forall_mem_cons.mpr ⟨pchk35, List.forall_mem_cons.mpr ⟨pchk36, List.forall_mem_cons.mpr ⟨pchk37, List.forall_mem_cons.mpr ⟨pchk38, List.forall_mem_cons.mpr ⟨pchk39, fun _ h => absurd h List.not_mem_nil⟩⟩⟩⟩⟩⟩⟩⟩⟩⟩⟩⟩⟩⟩⟩⟩⟩⟩⟩⟩
theorem pchg2 : ∀ q ∈ pg2, okQ prog q = true := List.forall_mem_cons.mpr ⟨pchk40, List.forall_mem_cons.mpr ⟨pchk41, List.forall_mem_cons.mpr ⟨pchk42, List.forall_mem_cons.mpr ⟨pchk43, List.forall_mem_cons.mpr ⟨pchk44, List.forall_mem_cons.mpr ⟨pchk45, List.forall_mem_cons.mpr ⟨pchk46, List.forall_mem_cons.mpr ⟨pchk47, List.forall_mem_cons.mpr ⟨pchk48, List.forall_mem_cons.mpr ⟨pchk49, List.forall_mem_cons.mpr ⟨pchk50, List.forall_mem_cons.mpr ⟨pchk51, List.forall_mem_cons.mpr ⟨pchk52, List.forall_mem_cons.mpr ⟨pchk53, List.forall_mem_cons.mpr ⟨pchk54, List.forall_mem_cons.mpr ⟨pchk55, List.forall_mem_cons.mpr ⟨pchk56, List.forall_mem_cons.mpr ⟨pchk57, List.forall_mem_cons.mpr ⟨pchk58, List.forall_mem_cons.mpr ⟨pchk59, fun _ h => absurd h List.not_mem_nil⟩⟩⟩⟩⟩⟩⟩⟩⟩⟩⟩⟩⟩⟩⟩⟩⟩⟩⟩⟩
theorem pchg3 : ∀ q ∈ pg3, okQ prog q = true := List.forall_mem_cons.mpr ⟨pchk60, List.forall_mem_cons.mpr ⟨pchk61, List.forall_mem_cons.mpr ⟨pchk62, List.forall_mem_cons.mpr ⟨pchk63, List.forall_mem_cons.mpr ⟨pchk64, List.forall_mem_cons.mpr ⟨pchk65, List.forall_mem_cons.mpr ⟨pchk66, List.forall_mem_cons.mpr ⟨pchk67, List.forall_mem_cons.mpr ⟨pchk68, List.forall_mem_cons.mpr ⟨pchk69, List.forall_mem_cons.mpr ⟨pchk70, List.forall_mem_cons.mpr ⟨pchk71, List.forall_mem_cons.mpr ⟨pchk72, List.forall_mem_cons.mpr ⟨pchk73, List.forall_mem_cons.mpr ⟨pchk74, List.forall_mem_cons.mpr ⟨pchk75, List.forall_mem_cons.mpr ⟨pchk76, List.forall_mem_cons.mpr ⟨pchk77, List.forall_mem_cons.mpr ⟨pchk78, List.forall_mem_cons.mpr ⟨pchk79, fun _ h => absurd h List.not_mem_nil⟩⟩⟩⟩⟩⟩⟩⟩⟩⟩⟩⟩⟩⟩⟩⟩⟩⟩⟩⟩
theorem pchg4 : ∀ q ∈ pg4, okQ prog q = true := List.forall_mem_cons.mpr ⟨pchk80, List.forall_mem_cons.mpr ⟨pchk81, List.forall_mem_cons.mpr ⟨pchk82, List.forall_mem_cons.mpr ⟨pchk83, List.forall_mem_cons.mpr ⟨pchk84, List.forall_mem_cons.mpr ⟨pchk85, List.forall_mem_cons.mpr ⟨pchk86, List.forall_mem_cons.mpr ⟨pchk87, List.forall_mem_cons.mpr ⟨pchk88, List.forall_mem_cons.mpr ⟨pchk89, List.forall_mem_cons.mpr ⟨pchk90, List.forall_mem_cons.mpr ⟨pchk91, List.forall_mem_cons.mpr ⟨pchk92, List.forall_mem_cons.mpr ⟨pchk93, List.forall_mem_cons.mpr ⟨pchk94, List.forall_mem_cons.mpr ⟨pchk95, List.forall_mem_cons.mpr ⟨pchk96, List.forall_mem_cons.mpr ⟨pchk97, List.forall_mem_cons.mpr ⟨pchk98, List.forall_mem_cons.mpr ⟨pchk99, fun _ h => absurd h List.not_mem_nil⟩⟩⟩⟩⟩⟩⟩⟩⟩⟩⟩⟩⟩⟩⟩⟩⟩⟩⟩⟩
theorem pchg5 : ∀ q ∈ pg5, okQ prog q = true := List.forall_mem_cons.mpr ⟨pchk100, List.forall_mem_cons.mpr ⟨pchk101, List.forall_mem_cons.mpr ⟨pchk102, List.forall_mem_cons.mpr ⟨pchk103, List.forall_mem_cons.mpr ⟨pchk104, List.forall_mem_cons.mpr ⟨pchk105, List.forall_mem_cons.mpr ⟨pchk106, List.forall_mem_cons.mpr ⟨pchk107, List.forall_mem_cons.mpr ⟨pchk108, List.forall_mem_cons.mpr ⟨pchk109, List.forall_mem_cons.mpr ⟨pchk110, List.forall_mem_cons.mpr ⟨pchk111, List.forall_mem_cons.mpr ⟨pchk112, List.forall_mem_cons.mpr ⟨pchk113, List.forall_mem_cons.mpr ⟨pchk114, List.forall_mem_cons.mpr ⟨pchk115, List.forall_mem_cons.mpr ⟨pchk116, List.forall_mem_cons.mpr ⟨pchk117, List.forall_mem_cons.mpr ⟨pchk118, List.forall_mem_cons.mpr ⟨pchk119, fun _ h => absurd h List.not_mem_nil⟩⟩⟩⟩⟩⟩⟩⟩⟩⟩⟩⟩⟩⟩⟩⟩⟩⟩⟩⟩
theorem pchg6 : ∀ q ∈ pg6, okQ prog q = true := List.forall_mem_cons.mpr ⟨pchk120, List.forall_mem_cons.mpr ⟨pchk121, List.forall_mem_cons.mpr ⟨pchk122, List.forall_mem_cons.mpr ⟨pchk123, List.forall_mem_cons.mpr ⟨pchk124, List.forall_mem_cons.mpr ⟨pchk125, List.forall_mem_cons.mpr ⟨pchk126, List.forall_mem_cons.mpr ⟨pchk127, List.forall_mem_cons.mpr ⟨pchk128, List.forall_mem_cons.mpr ⟨pchk129, List.forall_mem_cons.mpr ⟨pchk130, List.forall_mem_cons.mpr ⟨pchk131, List.forall_mem_cons.mpr ⟨pchk132, List.forall_mem_cons.mpr ⟨pchk133, List.forall_mem_cons.mpr ⟨pchk134, List.forall_mem_cons.mpr ⟨pchk135, List.forall_mem_cons.mpr ⟨pchk136, List.forall_mem_cons.mpr ⟨pchk137, List.forall_mem_cons.mpr ⟨pchk138, List.forall_mem_cons.mpr ⟨pchk139, fun _ h => absurd h List.not_mem_nil⟩⟩⟩⟩⟩⟩⟩⟩⟩⟩⟩⟩⟩⟩⟩⟩⟩⟩⟩⟩
theorem pchg7 : ∀ q ∈ pg7, okQ prog q = true := List.forall_mem_cons.mpr ⟨pchk140, List.forall_mem_cons.mpr ⟨pchk141, List.forall_mem_cons.mpr ⟨pchk142, List.forall_mem_cons.mpr ⟨pchk143, List.forall_mem_cons.mpr ⟨pchk144, List.forall_mem_cons.mpr ⟨pchk145, List.forall_mem_cons.mpr ⟨pchk146, List.forall_mem_cons.mpr ⟨pchk147, List.forall_mem_cons.mpr ⟨pchk148, List.forall_mem_cons.mpr ⟨pchk149, List.forall_mem_cons.mpr ⟨pchk150, List.forall_mem_cons.mpr ⟨pchk151, List.forall_mem_cons.mpr ⟨pchk152, List.forall_mem_cons.mpr ⟨pchk153, List.forall_mem_cons.mpr ⟨pchk154, List.forall_mem_cons.mpr ⟨pchk155, List.forall_mem_cons.mpr ⟨pchk156, List.forall_mem_cons.mpr ⟨pchk157, List.forall_mem_cons.mpr ⟨pchk158, List.forall_mem_cons.mpr ⟨pchk159, fun _ h => absurd h List.not_mem_nil⟩⟩⟩⟩⟩⟩⟩⟩⟩⟩⟩⟩⟩⟩⟩⟩⟩⟩⟩⟩
theorem pchg8 : ∀ q ∈ pg8, okQ prog q = true := List.forall_mem_cons.mpr ⟨pchk160, List.forall_mem_cons.mpr ⟨pchk161, List.forall_mem_cons.mpr ⟨pchk162, List.forall_mem_cons.mpr ⟨pchk163, List.forall_mem_cons.mpr ⟨pchk164, List.forall_mem_cons.mpr ⟨pchk165, List.forall_mem_cons.mpr ⟨pchk166, List.forall_mem_cons.mpr ⟨pchk167, List.forall_mem_cons.mpr ⟨pchk168, List.forall_mem_cons.mpr ⟨pchk169, List.forall_mem_cons.mpr ⟨pchk170, List.forall_mem_cons.mpr ⟨pchk171, List.forall_mem_cons.mpr ⟨pchk172, List.forall_mem_cons.mpr ⟨pchk173, List.forall_mem_cons.mpr ⟨pchk174, List.forall_mem_cons.mpr ⟨pchk175, List.forall_mem_cons.mpr ⟨pchk176, List.forall_mem_cons.mpr ⟨pchk177, List.forall_mem_cons.mpr ⟨pchk178, List.forall_mem_cons.mpr ⟨pchk179, fun _ h => absurd h List.not_mem_nil⟩⟩⟩⟩⟩⟩⟩⟩⟩⟩⟩⟩⟩⟩⟩⟩⟩⟩⟩⟩
theorem pchg9 : ∀ q ∈ pg9, okQ prog q = true := List.forall_mem_cons.mpr ⟨pchk180, List.forall_mem_cons.mpr ⟨pchk181, List.forall_mem_cons.mpr ⟨pchk182, List.forall_mem_cons.mpr ⟨pchk183, List.forall_mem_cons.mpr ⟨pchk184, List.forall_mem_cons.mpr ⟨pchk185, List.forall_mem_cons.mpr ⟨pchk186, List.forall_mem_cons.mpr ⟨pchk187, List.forall_mem_cons.mpr ⟨pchk188, List.forall_mem_cons.mpr ⟨pchk189, List.forall_mem_cons.mpr ⟨pchk190, List.forall_mem_cons.mpr ⟨pchk191, List.forall_mem_cons.mpr ⟨pchk192, List.forall_mem_cons.mpr ⟨pchk193, List.forall_mem_cons.mpr ⟨pchk194, List.forall_mem_cons.mpr ⟨pchk195, List.forall_mem_cons.mpr ⟨pchk196, List.forall_mem_cons.mpr ⟨pchk197, List.forall_mem_cons.mpr ⟨pchk198, List.forall_mem_cons.mpr ⟨pchk199, fun _ h => absurd h List.not_mem_nil⟩⟩⟩⟩⟩⟩⟩⟩⟩⟩⟩⟩⟩⟩⟩⟩⟩⟩⟩⟩
theorem pchg10 : ∀ q ∈ pg10, okQ prog q = true := List.forall_mem_cons.mpr ⟨pchk200, List.forall_mem_cons.mpr ⟨pchk201, List.forall_mem_cons.mpr ⟨pchk202, List.forall_mem_cons.mpr ⟨pchk203, List.forall_mem_cons.mpr ⟨pchk204, List.forall_mem_cons.mpr ⟨pchk205, List.forall_mem_cons.mpr ⟨pchk206, List.forall_mem_cons.mpr ⟨pchk207, List.forall_mem_cons.mpr ⟨pchk208, List.forall_mem_cons.mpr ⟨pchk209, List.forall_mem_cons.mpr ⟨pchk210, List.forall_mem_cons.mpr ⟨pchk211, List.forall_mem_cons.mpr ⟨pchk212, List.forall_mem_cons.mpr ⟨pchk213, List.forall_mem_cons.mpr ⟨pchk214, List.forall_mem_cons.mpr ⟨pchk215, List.forall_mem_cons.mpr ⟨pchk216, List.forall_mem_cons.mpr ⟨pchk217, List.forall_mem_cons.mpr ⟨pchk218, List.forall_mem_cons.mpr ⟨pchk219, fun _ h => absurd h List.not_mem_nil⟩⟩⟩⟩⟩⟩⟩⟩⟩⟩⟩⟩⟩⟩⟩⟩⟩⟩⟩⟩
theorem pchg11 : ∀ q ∈ pg11, okQ prog q = true := List.forall_mem_cons.mpr ⟨pchk220, List.forall_mem_cons.mpr ⟨pchk221, List.forall_mem_cons.mpr ⟨pchk222, List.forall_mem_cons.mpr ⟨pchk223, List.forall_mem_cons.mpr ⟨pchk224, List.forall_mem_cons.mpr ⟨pchk225, List.forall_mem_cons.mpr ⟨pchk226, List.forall_mem_cons.mpr ⟨pchk227, List.forall_mem_cons.mpr ⟨pchk228, List.forall_mem_cons.mpr ⟨pchk229, List.forall_mem_cons.mpr ⟨pchk230, List.forall_mem_cons.mpr ⟨pchk231, List.forall_mem_cons.mpr ⟨pchk232, List.forall_mem_cons.mpr ⟨pchk233, List.forall_mem_cons.mpr ⟨pchk234, List.forall_mem_cons.mpr ⟨pchk235, List.forall_mem_cons.mpr ⟨pchk236, List.forall_mem_cons.mpr ⟨pchk237, List.forall_mem_cons.mpr ⟨pchk238, List.forall_mem_cons.mpr ⟨pchk239, fun _ h => absurd h List.not_mem_nil⟩⟩⟩⟩⟩⟩⟩⟩⟩⟩⟩⟩⟩⟩⟩⟩⟩⟩⟩⟩
theorem pchg12 : ∀ q ∈ pg12, okQ prog q = true := List.forall_mem_cons.mpr ⟨pchk240, List.forall_mem_cons.mpr ⟨pchk241, List.forall_mem_cons.mpr ⟨pchk242, List.forall_mem_cons.mpr ⟨pchk243, List.forall_mem_cons.mpr ⟨pchk244, List.forall_mem_cons.mpr ⟨pchk245, List.forall_mem_cons.mpr ⟨pchk246, List.forall_mem_cons.mpr ⟨pchk247, List.forall_mem_cons.mpr ⟨pchk248, List.forall_mem_cons.mpr ⟨pchk249, List.forall_mem_cons.mpr ⟨pchk250, List.forall_mem_cons.mpr ⟨pchk251, List.forall_mem_cons.mpr ⟨pchk252, List.forall_mem_cons.mpr ⟨pchk253, List.forall_mem_cons.mpr ⟨pchk254, List.forall_mem_cons.mpr ⟨pchk255, List.forall_mem_cons.mpr ⟨pchk256, List.forall_mem_cons.mpr ⟨pchk257, List.forall_mem_cons.mpr ⟨pchk258, List.forall_mem_cons.mpr ⟨pchk259, fun _ h => absurd h List.not_mem_nil⟩⟩⟩⟩⟩⟩⟩⟩⟩⟩⟩⟩⟩⟩⟩⟩⟩⟩⟩⟩
theorem pchg13 : ∀ q ∈ pg13, okQ prog q = true := List.forall_mem_cons.mpr ⟨pchk260, List.forall_mem_cons.mpr ⟨pchk261, List.forall_mem_cons.mpr ⟨pchk262, List.forall_mem_cons.mpr ⟨pchk263, List.forall_mem_cons.mpr ⟨pchk264, List.forall_mem_cons.mpr ⟨pchk265, List.forall_mem_cons.mpr ⟨pchk266, List.forall_mem_cons.mpr ⟨pchk267, List.forall_mem_cons.mpr ⟨pchk268, List.forall_mem_cons.mpr ⟨pchk269, List.forall_mem_cons.mpr ⟨pchk270, List.forall_mem_cons.mpr ⟨pchk271, List.forall_mem_cons.mpr ⟨pchk272, List.forall_mem_cons.mpr ⟨pchk273, List.forall_mem_cons.mpr ⟨pchk274, List.forall_mem_cons.mpr ⟨pchk275, List.forall_mem_cons.mpr ⟨pchk276, List.forall_mem_cons.mpr ⟨pchk277, List.forall_mem_cons.mpr ⟨pchk278, List.forall_mem_cons.mpr ⟨pchk279, fun _ h => absurd h List.not_mem_nil⟩⟩⟩⟩⟩⟩⟩⟩⟩⟩⟩⟩⟩⟩⟩⟩⟩⟩⟩⟩
theorem pchg14 : ∀ q ∈ pg14, okQ prog q = true := List.forall_mem_cons.mpr ⟨pchk280, List.forall_mem_cons.mpr ⟨pchk281, List.forall_mem_cons.mpr ⟨pchk282, List.forall_mem_cons.mpr ⟨pchk283, List.forall_mem_cons.mpr ⟨pchk284, List.forall_mem_cons.mpr ⟨pchk285, List.forall_mem_cons.mpr ⟨pchk286, List.forall_mem_cons.mpr ⟨pchk287, List.forall_mem_cons.mpr ⟨pchk288, List.forall_mem_cons.mpr ⟨pchk289, List.forall_mem_cons.mpr ⟨pchk290, List.forall_mem_cons.mpr ⟨pchk291, List.forall_mem_cons.mpr ⟨pchk292, List.forall_mem_cons.mpr ⟨pchk293, List.forall_mem_cons.mpr ⟨pchk294, List.forall_mem_cons.mpr ⟨pchk295, List.forall_mem_cons.mpr ⟨pchk296, List.forall_mem_cons.mpr ⟨pchk297, List.forall_mem_cons.mpr ⟨pchk298, List.forall_mem_cons.mpr ⟨pchk299, fun _ h => absurd h List.not_mem_nil⟩⟩⟩⟩⟩⟩⟩⟩⟩⟩⟩⟩⟩⟩⟩⟩⟩⟩⟩⟩
theorem pchg15 : ∀ q ∈ pg15, okQ prog q = true := List.forall_mem_cons.mpr ⟨pchk300, List.forall_mem_cons.mpr ⟨pchk301, List.forall_mem_cons.mpr ⟨pchk302, List.forall_mem_cons.mpr ⟨pchk303, List.forall_mem_cons.mpr ⟨pchk304, List.forall_mem_cons.mpr ⟨pchk305, List.forall_mem_cons.mpr ⟨pchk306, List.forall_mem_cons.mpr ⟨pchk307, List.forall_mem_cons.mpr ⟨pchk308, List.forall_mem_cons.mpr ⟨pchk309, fun _ h => absurd h List.not_mem_nil⟩⟩⟩⟩⟩⟩⟩⟩⟩⟩
theorem okAll_ok : okAll := by
  intro μ q h
  have hm : q ∈ prog := List.mem_of_getElem? h
  simp only [prog, List.mem_append] at hm
  rcases hm with hm | hm | hm | hm | hm | hm | hm | hm | hm | hm | hm | hm | hm | hm | hm | hm
  · exact pchg0 q hm
  · exact pchg1 q hm
  · exact pchg2 q hm
  · exact pchg3 q hm
  · exact pchg4 q hm
  · exact pchg5 q hm
  · exact pchg6 q hm
  · exact pchg7 q hm
  · exact pchg8 q hm
  · exact pchg9 q hm
  · exact pchg10 q hm
  · exact pchg11 q hm
  · exact pchg12 q hm
  · exact pchg13 q hm
  · exact pchg14 q hm
  · exact pchg15 q hm
theorem pI0 : Cond.instantiable "RowAuditor$Books" 10 ∈ lw_tbl := List.mem_of_getElem? (i := 169) (by decide +kernel)
theorem pI1 : Cond.instantiable "RowAuditor$Clause" 4 ∈ lw_tbl := List.mem_of_getElem? (i := 781) (by decide +kernel)
theorem pI2 : Cond.instantiable "RowAuditor$Facts" 5 ∈ lw_tbl := List.mem_of_getElem? (i := 258) (by decide +kernel)
theorem pI3 : Cond.instantiable "RowAuditor$Fitter" 10 ∈ lw_tbl := List.mem_of_getElem? (i := 447) (by decide +kernel)
theorem pI4 : Cond.instantiable "RowAuditor$Flow" 12 ∈ lw_tbl := List.mem_of_getElem? (i := 382) (by decide +kernel)
theorem pI5 : Cond.instantiable "RowAuditor$Laws" 5 ∈ lw_tbl := List.mem_of_getElem? (i := 282) (by decide +kernel)
theorem pI6 : Cond.instantiable "RowAuditor$Parser" 7 ∈ lw_tbl := List.mem_of_getElem? (i := 353) (by decide +kernel)
theorem pI7 : Cond.instantiable "RowAuditor$Readings" 4 ∈ lw_tbl := List.mem_of_getElem? (i := 333) (by decide +kernel)
theorem pI8 : Cond.instantiable "RowAuditor$Rounder" 5 ∈ lw_tbl := List.mem_of_getElem? (i := 425) (by decide +kernel)
theorem pI9 : Cond.instantiable "RowAuditor$Text" 3 ∈ lw_tbl := List.mem_of_getElem? (i := 729) (by decide +kernel)
theorem pI10 : Cond.instantiable "RowAuditor$View" 10 ∈ lw_tbl := List.mem_of_getElem? (i := 215) (by decide +kernel)
theorem pI11 : Cond.instantiable "RowAuditor" 20 ∈ lw_tbl := List.mem_of_getElem? (i := 161) (by decide +kernel)
theorem pI12 : Cond.instantiable "RowAuditorModel" 87 ∈ lw_tbl := List.mem_of_getElem? (i := 1541) (by decide +kernel)
theorem pI13 : Cond.instantiable "java/util/ArrayList" 3 ∈ lw_tbl := List.mem_of_getElem? (i := 288) (by decide +kernel)
theorem pI_all : ∀ (k : Nat) (r : vw_C), pcl[k]? = some r → Cond.instantiable r.1 r.2.2 ∈ lw_tbl := by
  intro k r hr
  match k, hr with
  | 0, hr => cases hr; exact pI0
  | 1, hr => cases hr; exact pI1
  | 2, hr => cases hr; exact pI2
  | 3, hr => cases hr; exact pI3
  | 4, hr => cases hr; exact pI4
  | 5, hr => cases hr; exact pI5
  | 6, hr => cases hr; exact pI6
  | 7, hr => cases hr; exact pI7
  | 8, hr => cases hr; exact pI8
  | 9, hr => cases hr; exact pI9
  | 10, hr => cases hr; exact pI10
  | 11, hr => cases hr; exact pI11
  | 12, hr => cases hr; exact pI12
  | 13, hr => cases hr; exact pI13
  | k + 14, hr => simp [pcl] at hr
theorem pm_ai : Cond.arrayClass FieldType.int ∈ lw_tbl := List.mem_of_getElem? (i := 213) (by decide +kernel)
theorem pm_al : Cond.arrayClass FieldType.long ∈ lw_tbl := List.mem_of_getElem? (i := 280) (by decide +kernel)
theorem pm_az : Cond.arrayClass FieldType.boolean ∈ lw_tbl := List.mem_of_getElem? (i := 380) (by decide +kernel)
theorem pm_ab : Cond.arrayClass FieldType.byte ∈ lw_tbl := List.mem_of_getElem? (i := 1025) (by decide +kernel)
theorem pm_ao : Cond.arrayOver (FieldType.object "java/lang/Object") ∈ lw_tbl := List.mem_of_getElem? (i := 858) (by decide +kernel)
theorem pm_ls : Cond.laysStatic "java/util/ArrayList" "DEFAULTCAPACITY_EMPTY_ELEMENTDATA" "[Ljava/lang/Object;" ∈ lw_tbl := List.mem_of_getElem? (i := 300) (by decide +kernel)
theorem pm_li : Cond.initialized "java/util/ArrayList" ∈ lw_tbl := List.mem_of_getElem? (i := 140) (by decide +kernel)
theorem pm_ss : Cond.laysStatic "java/lang/String" "COMPACT_STRINGS" "Z" ∈ lw_tbl := List.mem_of_getElem? (i := 914) (by decide +kernel)
theorem pm_si : Cond.initialized "java/lang/String" ∈ lw_tbl := List.mem_of_getElem? (i := 153) (by decide +kernel)
theorem pm_sr : Cond.stringRef "RowAuditor$Parser" 141 "ksdhwvoepqant" ∈ lw_tbl := List.mem_of_getElem? (i := 900) (by decide +kernel)
/-! THE CLAIM OUT OF ONE WALK OF THE LAW'S BODY. Your part is whole_start (and what it stands on); all else here is the same for every law, but numbers. -/
def R_law : String := "RowAuditorLaw"
def lw_P (b : Addr) (xs : List Int32) (args : Array Value) (s : State) : Prop := args = #[.ref b] ∧ s.IntsAt b xs ∧ xs.length ≤ 5120 ∧ (Jvm.Cond.and given_1 narrow_1).before args s = true
def lw_Q (_ : Array Value) (s : State) (o : Outcome) (t : State) : Prop := o = .returned (some (.int 1)) ∧ Framed s o t [] 600000 7302250
def lw_Z (below : List Frame) (a : Array Value) (s : State) : State → Prop := fun t => ∃ o, t.status = .running ∧ Ended t below o ∧ lw_Q a s o t
/-- the law's own end, with 1 on the stack, nothing written that was there before, its room as the claim has it -/
theorem lw_ret {p : Program} {l : Launch} {e : Env} {s : State} {m : MethodId} {below : List Frame} {meth : Method} {c : Code} {b : Nat} (hx : p.tables.exec = Jvm.exec) (hb : c.code = code) (hr : meth.sig.returnType = ret) (hlocks : meth.locks = false) {pc : Nat} {H : Heap} {ls : Array Slot} (hdg : decode code pc = .ok (.ireturn, 1)) : W p l e room_1 s m #[Value.ref b] below meth c H [] 600000 7302250 (lw_Z below #[Value.ref b] s) (F0 m pc ls [.int 1]) := by
  intro T hT X
  obtain ⟨fs, hret, hrun, hended, hW, hframe⟩ := X.leave (v := some (.int 1)) (hlocks := hlocks) (fun h => by rw [hr] at h; cases h)
  have hmeth' : T.vm.method? m = some meth := X.method'
  refine ⟨T.setFrames fs, ?_, .returned (some (.int 1)), hrun, hended, rfl, ⟨_, rfl⟩, hW, hframe⟩
  jvm_step X.here [X.here.top, hx, hb, hdg, hmeth', hr, ret, narrow_b1]
  (try refine ⟨rfl, ?_⟩); (try refine ⟨rfl, ?_⟩)
  first | (intro acts; rw [hret _ acts rfl rfl rfl]) | rw [hret _ _ rfl rfl rfl]
  exact Steps.refl _
/-- what holds at the law's entry: the machine, the code, the tables' words (any of lw_tbl by 'hts w (by decide +kernel)'), the script of L ints xs at the cell b, what the Statement gives of the start (any of its parts by flat_of_before) -/
def lw_At (p : Program) (s : State) (m : MethodId) (meth : Method) (c : Code) (b L : Nat) (xs : Nat → Int32) : Prop :=
  p.tables.exec = Jvm.exec ∧ c.code = code ∧ meth.sig.returnType = ret ∧ c.maxLocals = 4 ∧ s.vm.findClass R_law = some m.cls ∧ (∀ w ∈ lw_tbl, w.before #[Value.ref b] s = true) ∧ va_X b L xs s s.heap ∧ b < s.heap.size ∧ meth.locks = false ∧ (Jvm.Cond.and given_1 narrow_1).before #[Value.ref b] s = true
/-- THE PURE CLAIM: on every script of at most 5120 ints the pure machine's run of the law ends with 1, within the room -/
def pclaim : Prop := ∀ (n : Nat) (xs : Nat → Int32), n ≤ 5120 → ∃ (f : Nat) (hf : PH), pex prog (n, xs) f 1000 309 0 (pent [.float 0] 4) [] [] = some (some (.int 1), hf) ∧ hf.length ≤ 600000 ∧ psl hf ≤ 7302250
theorem wg_sub {w : Cond} (h : w ∈ wg) : w ∈ lw_tbl := (List.mem_filter.mp h).1
set_option maxHeartbeats 4000000 in
theorem law_start (hc : pclaim) {p : Program} {e : Env} {s : State} {m : MethodId} {below : List Frame} {meth : Method} {c : Code} (l : Launch) {b L : Nat} {xs : Nat → Int32} (hL : L ≤ 5120) (C0 : lw_At p s m meth c b L xs) : W p l e room_1 s m #[Value.ref b] below meth c s.heap [] 0 0 (lw_Z below #[Value.ref b] s) (entryFrame m ([Value.ref b] : List Value).toArray 4) := by
  obtain ⟨hx, hb, hr, hml, hown, hts, hX, hbl, hlocks, hgv⟩ := C0
  have hA : ∀ a : Nat, a < s.heap.size → ¬ pAb s.heap.size a := fun a h z => by
    have z : s.heap.size ≤ a := z
    omega
  -- the classes
  have hk : ∀ k : Nat, ∃ x : ClassId × (Nat → Nat), ∀ r, pcl[k]? = some r → u_Kn s r.1 r.2.1 r.2.2 x.1 x.2 := by
    intro k
    cases hr : pcl[k]? with
    | none => exact ⟨(0, fun _ => 0), fun r h => by cases h⟩
    | some r =>
      obtain ⟨cC, iS, h⟩ := u_known (C := r.1) (T := r.2.1) (N := r.2.2) (n := r.2.2) hts (fun w hw => wg_sub ((pcl_ok k r hr).1 w hw)) (hts _ (pI_all k r hr))
      exact ⟨(cC, iS), fun r' h' => by cases h'; exact h⟩
  let D : va_G := (fun k => (Classical.choose (hk k)).1, fun k => (Classical.choose (hk k)).2)
  have hD : ∀ (k : Nat) (r : vw_C), pcl[k]? = some r → u_Kn s r.1 r.2.1 r.2.2 (D.1 k) (D.2 k) := fun k r h => Classical.choose_spec (hk k) r h
  -- the array classes
  obtain ⟨c0, k0, m0, a0, b0, d0⟩ := Cond.arrayClass_spec (hts _ pm_ai)
  obtain ⟨c1, k1, m1, a1, b1, d1⟩ := Cond.arrayClass_spec (hts _ pm_al)
  obtain ⟨c2, k2, m2, a2, b2, d2⟩ := Cond.arrayClass_spec (hts _ pm_az)
  obtain ⟨c3, k3, m3, a3, b3, d3⟩ := Cond.arrayClass_spec (hts _ pm_ab)
  obtain ⟨m4, c4, k4, e4, f4, b4, d4, a4⟩ := Cond.arrayOver_spec (hts _ pm_ao)
  let dA : Nat → ClassId := fun t => match t with
    | 0 => c0
    | 1 => c1
    | 2 => c2
    | 3 => c3
    | _ => c4
  have hK : va_K D pcl (ptys dA) s := by
    refine ⟨hD, fun k q h => ?_⟩
    match k, h with
    | 0, h => cases h; exact ⟨fun n z => ⟨fun k h => (by cases h), k0, b0, m0, d0⟩, a0⟩
    | 1, h => cases h; exact ⟨fun n z => ⟨fun k h => (by cases h), k1, b1, m1, d1⟩, a1⟩
    | 2, h => cases h; exact ⟨fun n z => ⟨fun k h => (by cases h), k2, b2, m2, d2⟩, a2⟩
    | 3, h => cases h; exact ⟨fun n z => ⟨fun k h => (by cases h), k3, b3, m3, d3⟩, a3⟩
    | 4, h => cases h; exact ⟨fun n z => ⟨fun k h => (by cases h), k4, b4, m4, d4⟩, k4, m4, b4, d4, e4, a4⟩
    | k + 5, h => simp [ptys] at h
  have hKf : Kf D dA s := by
    refine ⟨hK, fun w hw hn => ?_, va_AO.of (hts _ pm_ao)⟩
    have h1 := hts w hw
    cases w <;> first | exact va_Nw.of rfl h1 | (simp [isNW] at hn)
  -- the cells that were there before
  have hs := flat_of_before _ hgv
  obtain ⟨tE, hev, hT⟩ := va_Tof (tm := .static "java/util/ArrayList" "DEFAULTCAPACITY_EMPTY_ELEMENTDATA" "[Ljava/lang/Object;") (ty := .object "java/lang/Object") (N := 0) (f := fun _ => .null) (A := pAb s.heap.size) (by decide) (hs _ (by decide +kernel)) (va_eqt (hs (.eq (.length (.static "java/util/ArrayList" "DEFAULTCAPACITY_EMPTY_ELEMENTDATA" "[Ljava/lang/Object;")) (.int 0)) (by decide +kernel))) (fun j h => absurd h (Nat.not_lt_zero j)) hA
  have hZ := va_Zof (v := .ref tE) (hts _ pm_ls) (hts _ pm_li) hev hA
  have hZ2 := va_Zof (v := .int 1) (hts _ pm_ss) (hts _ pm_si) (va_eqi (hs (.eq (.static "java/lang/String" "COMPACT_STRINGS" "Z") (.int 1)) (by decide +kernel))) hA
  have hstr : ∃ adK adV : Nat → Nat, vk_S 1 [13] [pbyt] adK adV (pAb s.heap.size) s s.heap ∧ ∀ i : Nat, i < 1 → (Term.string "RowAuditor$Parser" 141).eval #[Value.ref b] s none [] s = some (.ref (adK i)) := by
    refine vk_Sof (args := #[Value.ref b]) (tm := fun _ => .string "RowAuditor$Parser" 141) ?_ ?_ ?_ ?_ ?_ ?_ ?_ hA
    · intro i hi
      rw [show i = 0 by omega]
      decide
    · intro i hi
      exact hs _ (by decide +kernel)
    · intro i hi
      exact hs _ (by decide +kernel)
    · intro i hi
      exact hs _ (by decide +kernel)
    · intro i hi
      rw [show i = 0 by omega]
      exact hs _ (by decide +kernel)
    · intro i hi j hj
      rw [show i = 0 by omega] at hj ⊢
      have hj : j < 13 := hj
      have key : ∀ j, j < 13 → (Cond.eq (.elem (.field (.string "RowAuditor$Parser" 141) "java/lang/String" "value" "[B") (.int (Int32.ofNat j))) (.int (pbyt.getD j 0))).before #[Value.ref b] s = true := by
        intro j hj
        match j, hj with
        | 0, hj => exact hs _ (by decide +kernel)
        | 1, hj => exact hs _ (by decide +kernel)
        | 2, hj => exact hs _ (by decide +kernel)
        | 3, hj => exact hs _ (by decide +kernel)
        | 4, hj => exact hs _ (by decide +kernel)
        | 5, hj => exact hs _ (by decide +kernel)
        | 6, hj => exact hs _ (by decide +kernel)
        | 7, hj => exact hs _ (by decide +kernel)
        | 8, hj => exact hs _ (by decide +kernel)
        | 9, hj => exact hs _ (by decide +kernel)
        | 10, hj => exact hs _ (by decide +kernel)
        | 11, hj => exact hs _ (by decide +kernel)
        | 12, hj => exact hs _ (by decide +kernel)
        | j + 13, hj => omega
      exact key j hj
    · intro i j hi hj hne
      omega
  obtain ⟨adK, adV, hvk, hsev⟩ := hstr
  obtain ⟨o1, o2, o3, o4⟩ := hvk.1 0 (by decide)
  obtain ⟨mi, hmi⟩ := va_Mi.of (hs (.isRef (.mirror "[Ljava/lang/Object;")) (by decide +kernel))
  let sp : Nat → Nat := fun k => match k with
    | 0 => b
    | 1 => tE
    | 2 => adK 0
    | 3 => adV 0
    | _ => mi
  have ltE : tE < s.heap.size := by
    obtain ⟨cell, g1, -⟩ := hT
    exact (Array.getElem?_eq_some_iff.mp g1).1
  have ltK : adK 0 < s.heap.size := by
    obtain ⟨cell, g1, -⟩ := o1
    exact (Array.getElem?_eq_some_iff.mp g1).1
  have ltV : adV 0 < s.heap.size := by
    obtain ⟨cell, g1, -⟩ := o4
    exact (Array.getElem?_eq_some_iff.mp g1).1
  have hSf : Sf s.heap.size sp (L, xs) s s.heap := by
    refine ⟨fun k hk4 => ?_, hX, hZ, hT, hZ2, vk_R.of (hts _ pm_sr) (hsev 0 (by decide)), o1, o2, o3, o4, hmi⟩
    match k, hk4 with
    | 0, _ => exact hbl
    | 1, _ => exact ltE
    | 2, _ => exact ltK
    | 3, _ => exact ltV
    | k + 4, hk4 => omega
  obtain ⟨f, hf, hrun, hz1, hz2⟩ := hc L xs hL
  have hq : prog[309]? = some pm309 := rfl
  have C : Cx p room_1 s m #[Value.ref b] meth c s.heap.size sp D dA (L, xs) pm309 1000 [] hf := by
    refine ⟨hx, hb, hml, hown, fun w hw => hts w (wg_sub hw), fun z => absurd z (by decide), hKf, hSf, rfl, ?_, ?_, by decide, by decide⟩
    · show hf.length ≤ 0 + 600000
      omega
    · show psl hf ≤ 0 + 7302250
      omega
  rw [lg_entry_eq]
  have key := psound (base := s.heap.size) (sp := sp) (D := D) (dA := dA) (sc := (L, xs)) okAll_ok l f p e room_1 s m #[Value.ref b] below meth c (lw_Z below #[Value.ref b] s) pm309 309 1000 0 (0, .new 7, [11, 1028, 1029, 1001]) (pent [.float 0] 4) [] [] [] hf (some (.int 1)) _ s.heap [] hq C hrun rfl (pL.entry (as := [.float 0]) (n := 4) rfl) (fun k q h => by simp [pws] at h) va_S.rf (Nat.le_refl _) (Nat.le_refl _) ?_
  · exact key
  · intro i' e' L' S' ls' H' locs' hi' hst hP' hS'
    have hok := okQ_at (okAll_ok 309 _ hq) hi'
    obtain ⟨pc, ins, ex⟩ := e'
    unfold okI at hok
    simp only [Bool.and_eq_true] at hok
    have hrt : (pm309).2.2.2.1 = some .boolean := rfl
    rw [hrt] at hst
    have fin : ins = .ireturn ∧ S' = [.int 1] := by
      cases ins with
      | ireturn =>
        have hst : piret (some .boolean) S' = some (.inr (.inr (some (.int 1)))) := hst
        unfold piret at hst
        split at hst
        · rename_i h1 _; cases h1
        · split at hst
          · cases hst; exact ⟨rfl, rfl⟩
          · cases hst
        · rename_i h1 _; cases h1
        · cases hst
      | lreturn =>
        have hst : plret (some .boolean) S' = some (.inr (.inr (some (.int 1)))) := hst
        unfold plret at hst
        split at hst <;> cases hst
      | areturn =>
        have hst : paret (some .boolean) S' = some (.inr (.inr (some (.int 1)))) := hst
        unfold paret at hst
        split at hst <;> cases hst
      | return_ => cases hst
      | _ =>
        simp only [stp, pldc, pldcL, pld1, pld2, plda, pst1, pstl, psta, pial, plal, pbal, paal, pias, plas, pbas, paas, plen, pb1, pb2, pb2n, pl2, pl2n, ptab, pgets, pgetf, pputf, pcast, pnew, pnewa, panew, pif, pinvV, pinvS, pinvI, pcopy, pclone, pgetC, pmath] at hst
        first
        | (cases hst; done)
        | ((repeat' split at hst) <;> cases hst)
    obtain ⟨rfl, rfl⟩ := fin
    obtain ⟨hdg, -⟩ := okD_spec hok.1 rfl
    refine va_forget (fun q hq => hS'.2.2 q hq) ?_
    refine W.widen (k := 600000) (n := 7302250) (by have h9 : ([] : PH).length = 0 := rfl; omega) (by have h9 : psl ([] : PH) = 0 := rfl; omega) ?_
    exact lw_ret hx hb hr hlocks hdg
