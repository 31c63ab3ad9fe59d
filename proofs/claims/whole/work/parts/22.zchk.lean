def zchk (M : xM) : Bool := xmok zcl zTT M && (List.range (xcd M).length).all fun pc => match (xcd M)[pc]? with
  | some (some xi) => decide (decode (xbc M) pc = .ok (xi.1, xi.2.1)) && xok zcl zTT zBs (xnm M).cls (decide (2 ≤ xkd M)) xi && xokc zG zE zTT zprog M pc xi
  | _ => true
theorem zk0 : [zM0, zM1, zM2, zM3, zM4, zM5, zM6, zM7, zM8, zM9, zM10, zM11].all zchk = true := by decide +kernel
theorem zk1 : [zM12, zM13, zM14, zM15, zM16, zM17, zM18, zM19, zM20, zM21, zM22, zM23].all zchk = true := by decide +kernel
theorem zk2 : [zM24, zM25, zM26, zM27, zM28, zM29, zM30, zM31, zM32, zM33, zM34, zM35].all zchk = true := by decide +kernel
theorem zk3 : [zM36, zM37, zM38, zM39, zM40, zM41, zM42, zM43, zM44, zM45, zM46, zM47].all zchk = true := by decide +kernel
theorem zk4 : [zM48, zM49, zM50, zM51, zM52, zM53, zM54, zM55, zM56, zM57, zM58, zM59].all zchk = true := by decide +kernel
theorem zk5 : [zM60, zM61, zM62, zM63, zM64, zM65, zM66, zM67, zM68, zM69, zM70, zM71].all zchk = true := by decide +kernel
theorem zk6 : [zM72, zM73, zM74, zM75, zM76, zM77, zM78, zM79, zM80, zM81, zM82, zM83].all zchk = true := by decide +kernel
theorem zk7 : [zM84, zM85, zM86, zM87, zM88, zM89, zM90, zM91, zM92, zM93, zM94, zM95].all zchk = true := by decide +kernel
theorem zk8 : [zM96, zM97, zM98, zM99, zM100, zM101, zM102, zM103, zM104, zM105, zM106, zM107].all zchk = true := by decide +kernel
theorem zk9 : [zM108, zM109, zM110, zM111, zM112, zM113, zM114, zM115, zM116, zM117, zM118, zM119].all zchk = true := by decide +kernel
theorem zk10 : [zM120, zM121, zM122, zM123, zM124, zM125, zM126, zM127, zM128, zM129, zM130, zM131].all zchk = true := by decide +kernel
theorem zk11 : [zM132, zM133, zM134, zM135, zM136, zM137, zM138, zM139, zM140, zM141, zM142, zM143].all zchk = true := by decide +kernel
theorem zk12 : [zM144, zM145, zM146, zM147, zM148, zM149, zM150, zM151, zM152, zM153, zM154, zM155].all zchk = true := by decide +kernel
theorem zk13 : [zM156, zM157, zM158, zM159, zM160, zM161, zM162, zM163, zM164, zM165, zM166, zM167].all zchk = true := by decide +kernel
theorem zk14 : [zM168, zM169, zM170, zM171, zM172, zM173, zM174, zM175, zM176, zM177, zM178, zM179].all zchk = true := by decide +kernel
theorem zk15 : [zM180, zM181, zM182, zM183, zM184, zM185, zM186, zM187, zM188, zM189, zM190, zM191].all zchk = true := by decide +kernel
theorem zk16 : [zM192, zM193, zM194, zM195, zM196, zM197, zM198, zM199, zM200, zM201, zM202, zM203].all zchk = true := by decide +kernel
theorem zk17 : [zM204, zM205, zM206, zM207, zM208, zM209, zM210, zM211, zM212, zM213, zM214, zM215].all zchk = true := by decide +kernel
theorem zk18 : [zM216, zM217, zM218, zM219, zM220, zM221, zM222, zM223, zM224, zM225, zM226, zM227].all zchk = true := by decide +kernel
theorem zk19 : [zM228, zM229, zM230, zM231, zM232, zM233, zM234, zM235, zM236, zM237, zM238, zM239].all zchk = true := by decide +kernel
theorem zk20 : [zM240, zM241, zM242, zM243, zM244, zM245, zM246, zM247, zM248, zM249, zM250, zM251].all zchk = true := by decide +kernel
theorem zk21 : [zM252, zM253, zM254, zM255, zM256, zM257].all zchk = true := by decide +kernel
