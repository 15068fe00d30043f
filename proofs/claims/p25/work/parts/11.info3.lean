def mX7_remove : MI := (yX7_remove, cX7_remove, 3, (Option.some Jvm.ClassFile.FieldType.int), 4, 82)
theorem okX7_remove : MOK mX7_remove 1 := ⟨by decide +kernel, ⟨by decide +kernel, by decide +kernel⟩, by decide +kernel, tb_in 549 (by decide +kernel) (by decide +kernel), tb_in 21 (by decide +kernel) (by decide +kernel)⟩
theorem ivX7_remove : Cond.instanceMethod mX7_remove.1 ∈ tbG := tb_in 547 (by decide +kernel) (by decide +kernel)
theorem seX7_remove : Cond.selects mX7_remove.1.cls mX7_remove.1 mX7_remove.1 ∈ tbG := tb_in 548 (by decide +kernel) (by decide +kernel)
def mX7_chainCost : MI := (yX7_chainCost, cX7_chainCost, 3, (Option.some Jvm.ClassFile.FieldType.int), 7, 160)
theorem okX7_chainCost : MOK mX7_chainCost 1 := ⟨by decide +kernel, ⟨by decide +kernel, by decide +kernel⟩, by decide +kernel, tb_in 695 (by decide +kernel) (by decide +kernel), tb_in 21 (by decide +kernel) (by decide +kernel)⟩
theorem ivX7_chainCost : Cond.instanceMethod mX7_chainCost.1 ∈ tbG := tb_in 693 (by decide +kernel) (by decide +kernel)
theorem seX7_chainCost : Cond.selects mX7_chainCost.1.cls mX7_chainCost.1 mX7_chainCost.1 ∈ tbG := tb_in 694 (by decide +kernel) (by decide +kernel)
def mX7_chain : MI := (yX7_chain, cX7_chain, 3, (Option.some Jvm.ClassFile.FieldType.int), 7, 160)
theorem okX7_chain : MOK mX7_chain 1 := ⟨by decide +kernel, ⟨by decide +kernel, by decide +kernel⟩, by decide +kernel, tb_in 561 (by decide +kernel) (by decide +kernel), tb_in 21 (by decide +kernel) (by decide +kernel)⟩
theorem ivX7_chain : Cond.instanceMethod mX7_chain.1 ∈ tbG := tb_in 559 (by decide +kernel) (by decide +kernel)
theorem seX7_chain : Cond.selects mX7_chain.1.cls mX7_chain.1 mX7_chain.1 ∈ tbG := tb_in 560 (by decide +kernel) (by decide +kernel)
def mX7_improve : MI := (yX7_improve, cX7_improve, 1, (Option.some Jvm.ClassFile.FieldType.int), 6, 134)
theorem okX7_improve : MOK mX7_improve 0 := ⟨by decide +kernel, ⟨by decide +kernel, by decide +kernel⟩, by decide +kernel, tb_in 598 (by decide +kernel) (by decide +kernel), tb_in 21 (by decide +kernel) (by decide +kernel)⟩
theorem ivX7_improve : Cond.instanceMethod mX7_improve.1 ∈ tbG := tb_in 596 (by decide +kernel) (by decide +kernel)
theorem seX7_improve : Cond.selects mX7_improve.1.cls mX7_improve.1 mX7_improve.1 ∈ tbG := tb_in 597 (by decide +kernel) (by decide +kernel)
def mX7_undo : MI := (yX7_undo, cX7_undo, 1, (Option.some Jvm.ClassFile.FieldType.int), 4, 82)
theorem okX7_undo : MOK mX7_undo 0 := ⟨by decide +kernel, ⟨by decide +kernel, by decide +kernel⟩, by decide +kernel, tb_in 606 (by decide +kernel) (by decide +kernel), tb_in 21 (by decide +kernel) (by decide +kernel)⟩
theorem ivX7_undo : Cond.instanceMethod mX7_undo.1 ∈ tbG := tb_in 604 (by decide +kernel) (by decide +kernel)
theorem seX7_undo : Cond.selects mX7_undo.1.cls mX7_undo.1 mX7_undo.1 ∈ tbG := tb_in 605 (by decide +kernel) (by decide +kernel)
def mX7_isPlace : MI := (yX7_isPlace, cX7_isPlace, 2, (Option.some Jvm.ClassFile.FieldType.boolean), 0, 0)
theorem okX7_isPlace : MOK mX7_isPlace 2 := ⟨by decide +kernel, ⟨by decide +kernel, by decide +kernel⟩, by decide +kernel, tb_in 338 (by decide +kernel) (by decide +kernel), tb_in 21 (by decide +kernel) (by decide +kernel)⟩
theorem ssX7_isPlace : Cond.static mX7_isPlace.1 ∈ tbG := tb_in 337 (by decide +kernel) (by decide +kernel)
def mX7_isLoad : MI := (yX7_isLoad, cX7_isLoad, 1, (Option.some Jvm.ClassFile.FieldType.boolean), 0, 0)
theorem okX7_isLoad : MOK mX7_isLoad 1 := ⟨by decide +kernel, ⟨by decide +kernel, by decide +kernel⟩, by decide +kernel, tb_in 341 (by decide +kernel) (by decide +kernel), tb_in 21 (by decide +kernel) (by decide +kernel)⟩
theorem ssX7_isLoad : Cond.static mX7_isLoad.1 ∈ tbG := tb_in 340 (by decide +kernel) (by decide +kernel)
def mX7_isLimit : MI := (yX7_isLimit, cX7_isLimit, 1, (Option.some Jvm.ClassFile.FieldType.boolean), 0, 0)
theorem okX7_isLimit : MOK mX7_isLimit 1 := ⟨by decide +kernel, ⟨by decide +kernel, by decide +kernel⟩, by decide +kernel, tb_in 362 (by decide +kernel) (by decide +kernel), tb_in 21 (by decide +kernel) (by decide +kernel)⟩
theorem ssX7_isLimit : Cond.static mX7_isLimit.1 ∈ tbG := tb_in 361 (by decide +kernel) (by decide +kernel)
def mX7_isWindow : MI := (yX7_isWindow, cX7_isWindow, 2, (Option.some Jvm.ClassFile.FieldType.boolean), 0, 0)
theorem okX7_isWindow : MOK mX7_isWindow 2 := ⟨by decide +kernel, ⟨by decide +kernel, by decide +kernel⟩, by decide +kernel, tb_in 344 (by decide +kernel) (by decide +kernel), tb_in 21 (by decide +kernel) (by decide +kernel)⟩
theorem ssX7_isWindow : Cond.static mX7_isWindow.1 ∈ tbG := tb_in 343 (by decide +kernel) (by decide +kernel)
def mX7_isVehicle : MI := (yX7_isVehicle, cX7_isVehicle, 2, (Option.some Jvm.ClassFile.FieldType.boolean), 0, 0)
theorem okX7_isVehicle : MOK mX7_isVehicle 1 := ⟨by decide +kernel, ⟨by decide +kernel, by decide +kernel⟩, by decide +kernel, tb_in 453 (by decide +kernel) (by decide +kernel), tb_in 21 (by decide +kernel) (by decide +kernel)⟩
theorem ivX7_isVehicle : Cond.instanceMethod mX7_isVehicle.1 ∈ tbG := tb_in 452 (by decide +kernel) (by decide +kernel)
theorem seX7_isVehicle : Cond.selects mX7_isVehicle.1.cls mX7_isVehicle.1 mX7_isVehicle.1 ∈ tbG := tb_in 8 (by decide +kernel) (by decide +kernel)
def mX7_isRequest : MI := (yX7_isRequest, cX7_isRequest, 2, (Option.some Jvm.ClassFile.FieldType.boolean), 0, 0)
theorem okX7_isRequest : MOK mX7_isRequest 1 := ⟨by decide +kernel, ⟨by decide +kernel, by decide +kernel⟩, by decide +kernel, tb_in 378 (by decide +kernel) (by decide +kernel), tb_in 21 (by decide +kernel) (by decide +kernel)⟩
theorem ivX7_isRequest : Cond.instanceMethod mX7_isRequest.1 ∈ tbG := tb_in 377 (by decide +kernel) (by decide +kernel)
theorem seX7_isRequest : Cond.selects mX7_isRequest.1.cls mX7_isRequest.1 mX7_isRequest.1 ∈ tbG := tb_in 0 (by decide +kernel) (by decide +kernel)
def mX7_isOpen : MI := (yX7_isOpen, cX7_isOpen, 2, (Option.some Jvm.ClassFile.FieldType.boolean), 0, 0)
theorem okX7_isOpen : MOK mX7_isOpen 1 := ⟨by decide +kernel, ⟨by decide +kernel, by decide +kernel⟩, by decide +kernel, tb_in 386 (by decide +kernel) (by decide +kernel), tb_in 21 (by decide +kernel) (by decide +kernel)⟩
theorem ivX7_isOpen : Cond.instanceMethod mX7_isOpen.1 ∈ tbG := tb_in 385 (by decide +kernel) (by decide +kernel)
theorem seX7_isOpen : Cond.selects mX7_isOpen.1.cls mX7_isOpen.1 mX7_isOpen.1 ∈ tbG := tb_in 2 (by decide +kernel) (by decide +kernel)
def mX7_openRequests : MI := (yX7_openRequests, cX7_openRequests, 3, (Option.some Jvm.ClassFile.FieldType.int), 1, 21)
theorem okX7_openRequests : MOK mX7_openRequests 0 := ⟨by decide +kernel, ⟨by decide +kernel, by decide +kernel⟩, by decide +kernel, tb_in 433 (by decide +kernel) (by decide +kernel), tb_in 21 (by decide +kernel) (by decide +kernel)⟩
theorem ivX7_openRequests : Cond.instanceMethod mX7_openRequests.1 ∈ tbG := tb_in 432 (by decide +kernel) (by decide +kernel)
theorem seX7_openRequests : Cond.selects mX7_openRequests.1.cls mX7_openRequests.1 mX7_openRequests.1 ∈ tbG := tb_in 7 (by decide +kernel) (by decide +kernel)
def mX7_routeStillFits : MI := (yX7_routeStillFits, cX7_routeStillFits, 2, (Option.some Jvm.ClassFile.FieldType.boolean), 2, 49)
theorem okX7_routeStillFits : MOK mX7_routeStillFits 1 := ⟨by decide +kernel, ⟨by decide +kernel, by decide +kernel⟩, by decide +kernel, tb_in 382 (by decide +kernel) (by decide +kernel), tb_in 21 (by decide +kernel) (by decide +kernel)⟩
theorem ivX7_routeStillFits : Cond.instanceMethod mX7_routeStillFits.1 ∈ tbG := tb_in 381 (by decide +kernel) (by decide +kernel)
theorem seX7_routeStillFits : Cond.selects mX7_routeStillFits.1.cls mX7_routeStillFits.1 mX7_routeStillFits.1 ∈ tbG := tb_in 1 (by decide +kernel) (by decide +kernel)
def mX7_allRoutesStillFit : MI := (yX7_allRoutesStillFit, cX7_allRoutesStillFit, 2, (Option.some Jvm.ClassFile.FieldType.boolean), 2, 49)
theorem okX7_allRoutesStillFit : MOK mX7_allRoutesStillFit 0 := ⟨by decide +kernel, ⟨by decide +kernel, by decide +kernel⟩, by decide +kernel, tb_in 425 (by decide +kernel) (by decide +kernel), tb_in 21 (by decide +kernel) (by decide +kernel)⟩
theorem ivX7_allRoutesStillFit : Cond.instanceMethod mX7_allRoutesStillFit.1 ∈ tbG := tb_in 424 (by decide +kernel) (by decide +kernel)
theorem seX7_allRoutesStillFit : Cond.selects mX7_allRoutesStillFit.1.cls mX7_allRoutesStillFit.1 mX7_allRoutesStillFit.1 ∈ tbG := tb_in 6 (by decide +kernel) (by decide +kernel)
def mX7_openRequestError : MI := (yX7_openRequestError, cX7_openRequestError, 2, (Option.some Jvm.ClassFile.FieldType.int), 1, 21)
theorem okX7_openRequestError : MOK mX7_openRequestError 1 := ⟨by decide +kernel, ⟨by decide +kernel, by decide +kernel⟩, by decide +kernel, tb_in 500 (by decide +kernel) (by decide +kernel), tb_in 21 (by decide +kernel) (by decide +kernel)⟩
theorem ivX7_openRequestError : Cond.instanceMethod mX7_openRequestError.1 ∈ tbG := tb_in 499 (by decide +kernel) (by decide +kernel)
theorem seX7_openRequestError : Cond.selects mX7_openRequestError.1.cls mX7_openRequestError.1 mX7_openRequestError.1 ∈ tbG := tb_in 11 (by decide +kernel) (by decide +kernel)
def mX7_openRequestError_ : MI := (yX7_openRequestError_, cX7_openRequestError_, 3, (Option.some Jvm.ClassFile.FieldType.int), 2, 42)
theorem okX7_openRequestError_ : MOK mX7_openRequestError_ 2 := ⟨by decide +kernel, ⟨by decide +kernel, by decide +kernel⟩, by decide +kernel, tb_in 496 (by decide +kernel) (by decide +kernel), tb_in 21 (by decide +kernel) (by decide +kernel)⟩
theorem ivX7_openRequestError_ : Cond.instanceMethod mX7_openRequestError_.1 ∈ tbG := tb_in 495 (by decide +kernel) (by decide +kernel)
theorem seX7_openRequestError_ : Cond.selects mX7_openRequestError_.1.cls mX7_openRequestError_.1 mX7_openRequestError_.1 ∈ tbG := tb_in 10 (by decide +kernel) (by decide +kernel)
def mX7_insertionError : MI := (yX7_insertionError, cX7_insertionError, 6, (Option.some Jvm.ClassFile.FieldType.int), 3, 63)
theorem okX7_insertionError : MOK mX7_insertionError 4 := ⟨by decide +kernel, ⟨by decide +kernel, by decide +kernel⟩, by decide +kernel, tb_in 467 (by decide +kernel) (by decide +kernel), tb_in 21 (by decide +kernel) (by decide +kernel)⟩
theorem ivX7_insertionError : Cond.instanceMethod mX7_insertionError.1 ∈ tbG := tb_in 466 (by decide +kernel) (by decide +kernel)
theorem seX7_insertionError : Cond.selects mX7_insertionError.1.cls mX7_insertionError.1 mX7_insertionError.1 ∈ tbG := tb_in 9 (by decide +kernel) (by decide +kernel)
def mX7_carryOutInsertion : MI := (yX7_carryOutInsertion, cX7_carryOutInsertion, 2, (Option.some Jvm.ClassFile.FieldType.boolean), 4, 82)
theorem okX7_carryOutInsertion : MOK mX7_carryOutInsertion 1 := ⟨by decide +kernel, ⟨by decide +kernel, by decide +kernel⟩, by decide +kernel, tb_in 526 (by decide +kernel) (by decide +kernel), tb_in 21 (by decide +kernel) (by decide +kernel)⟩
theorem ivX7_carryOutInsertion : Cond.instanceMethod mX7_carryOutInsertion.1 ∈ tbG := tb_in 525 (by decide +kernel) (by decide +kernel)
theorem seX7_carryOutInsertion : Cond.selects mX7_carryOutInsertion.1.cls mX7_carryOutInsertion.1 mX7_carryOutInsertion.1 ∈ tbG := tb_in 12 (by decide +kernel) (by decide +kernel)
def mL_cell : MI := (yL_cell, cL_cell, 2, (Option.some Jvm.ClassFile.FieldType.int), 0, 0)
set_option maxRecDepth 100000 in
theorem okL_cell : MOK mL_cell 2 := ⟨by decide +kernel, ⟨by decide +kernel, by decide +kernel⟩, by decide +kernel, tb_in 613 (by decide +kernel) (by decide +kernel), tb_in 20 (by decide +kernel) (by decide +kernel)⟩
theorem ssL_cell : Cond.static mL_cell.1 ∈ tbG := tb_in 612 (by decide +kernel) (by decide +kernel)
def mL_low : MI := (yL_low, cL_low, 2, (Option.some Jvm.ClassFile.FieldType.int), 0, 0)
set_option maxRecDepth 100000 in
theorem okL_low : MOK mL_low 2 := ⟨by decide +kernel, ⟨by decide +kernel, by decide +kernel⟩, by decide +kernel, tb_in 617 (by decide +kernel) (by decide +kernel), tb_in 20 (by decide +kernel) (by decide +kernel)⟩
theorem ssL_low : Cond.static mL_low.1 ∈ tbG := tb_in 616 (by decide +kernel) (by decide +kernel)
def mL_size : MI := (yL_size, cL_size, 1, (Option.some Jvm.ClassFile.FieldType.int), 0, 0)
set_option maxRecDepth 100000 in
theorem okL_size : MOK mL_size 1 := ⟨by decide +kernel, ⟨by decide +kernel, by decide +kernel⟩, by decide +kernel, tb_in 653 (by decide +kernel) (by decide +kernel), tb_in 20 (by decide +kernel) (by decide +kernel)⟩
theorem ssL_size : Cond.static mL_size.1 ∈ tbG := tb_in 652 (by decide +kernel) (by decide +kernel)
def mL_far : MI := (yL_far, cL_far, 3, (Option.some Jvm.ClassFile.FieldType.int), 1, 20)
set_option maxRecDepth 100000 in
theorem okL_far : MOK mL_far 3 := ⟨by decide +kernel, ⟨by decide +kernel, by decide +kernel⟩, by decide +kernel, tb_in 650 (by decide +kernel) (by decide +kernel), tb_in 20 (by decide +kernel) (by decide +kernel)⟩
theorem ssL_far : Cond.static mL_far.1 ∈ tbG := tb_in 649 (by decide +kernel) (by decide +kernel)
def mL_at : MI := (yL_at, cL_at, 3, (Option.some Jvm.ClassFile.FieldType.int), 3, 74)
set_option maxRecDepth 100000 in
theorem okL_at : MOK mL_at 3 := ⟨by decide +kernel, ⟨by decide +kernel, by decide +kernel⟩, by decide +kernel, tb_in 627 (by decide +kernel) (by decide +kernel), tb_in 20 (by decide +kernel) (by decide +kernel)⟩
theorem ssL_at : Cond.static mL_at.1 ∈ tbG := tb_in 626 (by decide +kernel) (by decide +kernel)
def mL_route : MI := (yL_route, cL_route, 24, (Option.some Jvm.ClassFile.FieldType.boolean), 4, 96)
set_option maxRecDepth 100000 in
theorem okL_route : MOK mL_route 3 := ⟨by decide +kernel, ⟨by decide +kernel, by decide +kernel⟩, by decide +kernel, tb_in 624 rfl (by decide +kernel), tb_in 20 (by decide +kernel) (by decide +kernel)⟩
theorem ssL_route : Cond.static mL_route.1 ∈ tbG := tb_in 623 (by decide +kernel) (by decide +kernel)
def mL_plan : MI := (yL_plan, cL_plan, 7, (Option.some Jvm.ClassFile.FieldType.boolean), 5, 139)
set_option maxRecDepth 100000 in
theorem okL_plan : MOK mL_plan 2 := ⟨by decide +kernel, ⟨by decide +kernel, by decide +kernel⟩, by decide +kernel, tb_in 621 (by decide +kernel) (by decide +kernel), tb_in 20 (by decide +kernel) (by decide +kernel)⟩
theorem ssL_plan : Cond.static mL_plan.1 ∈ tbG := tb_in 620 (by decide +kernel) (by decide +kernel)
def mL_best : MI := (yL_best, cL_best, 9, (Option.some Jvm.ClassFile.FieldType.int), 5, 113)
set_option maxRecDepth 100000 in
theorem okL_best : MOK mL_best 3 := ⟨by decide +kernel, ⟨by decide +kernel, by decide +kernel⟩, by decide +kernel, tb_in 679 (by decide +kernel) (by decide +kernel), tb_in 20 (by decide +kernel) (by decide +kernel)⟩
theorem ssL_best : Cond.static mL_best.1 ∈ tbG := tb_in 678 (by decide +kernel) (by decide +kernel)
def mL_print : MI := (yL_print, cL_print, 5, (Option.some Jvm.ClassFile.FieldType.long), 3, 74)
set_option maxRecDepth 100000 in
theorem okL_print : MOK mL_print 1 := ⟨by decide +kernel, ⟨by decide +kernel, by decide +kernel⟩, by decide +kernel, tb_in 668 (by decide +kernel) (by decide +kernel), tb_in 20 (by decide +kernel) (by decide +kernel)⟩
theorem ssL_print : Cond.static mL_print.1 ∈ tbG := tb_in 667 (by decide +kernel) (by decide +kernel)
def mL_puts : MI := (yL_puts, cL_puts, 15, (Option.some Jvm.ClassFile.FieldType.boolean), 6, 141)
set_option maxRecDepth 100000 in
theorem okL_puts : MOK mL_puts 3 := ⟨by decide +kernel, ⟨by decide +kernel, by decide +kernel⟩, by decide +kernel, tb_in 675 rfl (by decide +kernel), tb_in 20 (by decide +kernel) (by decide +kernel)⟩
theorem ssL_puts : Cond.static mL_puts.1 ∈ tbG := tb_in 674 (by decide +kernel) (by decide +kernel)
def mL_chains : MI := (yL_chains, cL_chains, 13, (Option.some Jvm.ClassFile.FieldType.boolean), 8, 182)
set_option maxRecDepth 100000 in
theorem okL_chains : MOK mL_chains 2 := ⟨by decide +kernel, ⟨by decide +kernel, by decide +kernel⟩, by decide +kernel, tb_in 691 rfl (by decide +kernel), tb_in 20 (by decide +kernel) (by decide +kernel)⟩
theorem ssL_chains : Cond.static mL_chains.1 ∈ tbG := tb_in 690 (by decide +kernel) (by decide +kernel)
def mL_errors : MI := (yL_errors, cL_errors, 6, (Option.some Jvm.ClassFile.FieldType.boolean), 8, 182)
set_option maxRecDepth 100000 in
theorem okL_errors : MOK mL_errors 1 := ⟨by decide +kernel, ⟨by decide +kernel, by decide +kernel⟩, by decide +kernel, tb_in 698 rfl (by decide +kernel), tb_in 20 (by decide +kernel) (by decide +kernel)⟩
theorem ssL_errors : Cond.static mL_errors.1 ∈ tbG := tb_in 697 (by decide +kernel) (by decide +kernel)
