/** The boundaries that promises 12 to 16 name. */
public final class RunBoundaryTest {
    public static void main(String[] args) {
        promise12FromEveryPlace();
        promise12NoProgram();
        promise13StepsAtTheEdge();
        promise13StepsAgainstTheEnd();
        promise13NoProgram();
        promise13NotBeyondARetractedEnd();
        promise14AtTheLastAndBehindIt();
        promise14JumpBehindTheEnd();
        promise15AtTheLastAndBehindIt();
        promise15NoProgram();
        promise16TargetsAroundTheFollowing();
        promise16BnzNotTaken();
        promise16BehindTheEnd();
        promise16OtherKindsAreNotCounted();
        promise16SetBackByAcceptedChangesAlone();
        promise16RestartKeepsIt();
        promise16ManyJumps();
        Check.end("RunBoundaryTest");
    }

    private static void promise12FromEveryPlace() {
        for (int place = 0; place <= 24; place++) {
            BundleAssembler x = Check.counting(24);
            x.run(place);
            x.restart();
            Check.due("12: place, from " + place, x.place(), 0);
            Check.due("12: over, from " + place, x.over(), 0);
            Check.due("12: registers stay", x.register(0), place);
            Check.due("12: the whole program again", x.run(400), 24);
        }
        BundleAssembler x = Check.midRun();
        String before = Check.stateOf(x);
        x.restart();
        Check.due("12: only the place changes", Check.stateOf(x), before.replace("place 3 over 0", "place 0 over 0"));
        x.restart();
        Check.due("12: once more", Check.stateOf(x), before.replace("place 3 over 0", "place 0 over 0"));
        x = Check.overRun();
        before = Check.stateOf(x);
        x.restart();
        Check.due("12: only the place and over", Check.stateOf(x), before.replace("place 5 over 1", "place 0 over 0"));
    }

    private static void promise12NoProgram() {
        Check.leavesAlone("12: new", BundleAssembler::new, BundleAssembler::restart);
        Check.leavesAlone("12: emptied", Check::emptied, BundleAssembler::restart);
    }

    private static void promise13StepsAtTheEdge() {
        BundleAssembler x = new BundleAssembler();
        x.emit(Check.ADDI, 0, 0, 1);
        x.emit(Check.JUMP, 0, 0, 0);
        Check.due("13: run -1", x.run(-1), -1);
        Check.due("13: run 0", x.run(0), 0);
        Check.due("13: nothing yet", x.register(0), 0);
        Check.due("13: run 1", x.run(1), 1);
        Check.due("13: one step", x.register(0), 1);
        Check.due("13: place", x.place(), 1);
        Check.due("13: run 401", x.run(401), -1);
        Check.due("13: place after", x.place(), 1);
        Check.due("13: run 400", x.run(400), 400);
        Check.due("13: 400 steps more", x.register(0), 201);
        Check.due("13: place", x.place(), 1);
        Check.due("13: run 399", x.run(399), 399);
        Check.due("13: 399 steps more", x.register(0), 400);
        Check.due("13: place", x.place(), 0);
        Check.due("13: run lowest", x.run(Check.LOW), -1);
        Check.due("13: run highest", x.run(Check.HIGH), -1);
    }

    private static void promise13StepsAgainstTheEnd() {
        for (int count = 1; count <= 24; count++) {
            for (int steps = count - 1; steps <= count + 1; steps++) {
                BundleAssembler x = Check.counting(count);
                int due = steps > count ? count : steps;
                String what = "13: " + steps + " steps of " + count;
                Check.due(what, x.run(steps), due);
                Check.due(what + ": carried out", x.register(0), due);
                Check.due(what + ": place", x.place(), due);
                Check.due(what + ": the rest", x.run(400), count - due);
                Check.due(what + ": when over", x.run(1), 0);
                Check.due(what + ": in all", x.register(0), count);
            }
        }
    }

    private static void promise13NoProgram() {
        BundleAssembler x = new BundleAssembler();
        Check.due("13: run -1 of none", x.run(-1), -1);
        Check.due("13: run 0 of none", x.run(0), 0);
        Check.due("13: run 400 of none", x.run(400), 0);
        Check.due("13: run 401 of none", x.run(401), -1);
        BundleAssembler over = Check.overRun();
        Check.due("13: run -1 when over", over.run(-1), -1);
        Check.due("13: run 0 when over", over.run(0), 0);
        Check.due("13: run 400 when over", over.run(400), 0);
        Check.due("13: run 401 when over", over.run(401), -1);
    }

    private static void promise13NotBeyondARetractedEnd() {
        BundleAssembler x = Check.counting(24);
        for (int left = 23; left >= 0; left--) {
            x.retract();
            x.setRegister(0, 0);
            Check.due("13: of the " + left + " left", x.run(400), left);
            Check.due("13: carried out", x.register(0), left);
        }
    }

    private static void promise14AtTheLastAndBehindIt() {
        for (int count : new int[] {1, 2, 23, 24}) {
            BundleAssembler x = Check.counting(count);
            x.run(count - 1);
            Check.due("14: at the last of " + count, x.place(), count - 1);
            x.run(1);
            Check.due("14: behind the last of " + count, x.place(), count);
            x.run(1);
            Check.due("14: and no further than " + count, x.place(), count);
        }
        Check.due("14: of none", new BundleAssembler().place(), 0);
        Check.due("14: of none any more", Check.emptied().place(), 0);
    }

    private static void promise14JumpBehindTheEnd() {
        for (int b : new int[] {2, 3, 4, 24}) {
            BundleAssembler x = new BundleAssembler();
            x.emit(Check.JUMP, 0, 0, b);
            x.emit(Check.ADD, 0, 0, 0);
            x.emit(Check.ADD, 0, 0, 0);
            x.run(1);
            Check.due("14: after a jump to " + b + " of 3", x.place(), b == 2 ? 2 : 3);
            Check.due("15: after a jump to " + b + " of 3", x.over(), b == 2 ? 0 : 1);
            x.emit(Check.ADD, 0, 0, 0);
            Check.due("14: the place is 0 when there is more", x.place(), 0);
        }
    }

    private static void promise15AtTheLastAndBehindIt() {
        for (int count : new int[] {1, 2, 23, 24}) {
            BundleAssembler x = Check.counting(count);
            for (int done = 0; done < count; done++) {
                Check.due("15: " + done + " of " + count, x.over(), 0);
                x.run(1);
            }
            Check.due("15: all of " + count, x.over(), 1);
            x.restart();
            Check.due("15: from the start", x.over(), 0);
        }
    }

    private static void promise15NoProgram() {
        BundleAssembler x = new BundleAssembler();
        Check.due("15: none", x.over(), 1);
        x.restart();
        Check.due("15: none, started again", x.over(), 1);
        x.emit(Check.ADD, 0, 0, 0);
        Check.due("15: one", x.over(), 0);
        x.retract();
        Check.due("15: none left", x.over(), 1);
        x.emit(Check.ADD, 0, 0, 0);
        x.clear();
        Check.due("15: cleared", x.over(), 1);
    }

    /** The branch is operation 2 of 5: to itself, to the following one, and to those around. */
    private static void promise16TargetsAroundTheFollowing() {
        for (int kind = Check.BNZ; kind <= Check.JUMP; kind++) {
            for (int b = 0; b <= 5; b++) {
                BundleAssembler x = Check.counting(2);
                x.emit(kind, 0, 0, b);
                x.emit(Check.ADD, 1, 1, 1);
                x.emit(Check.ADD, 1, 1, 1);
                x.run(2);
                Check.due("16: before it", x.jumps(), 0);
                x.run(1);
                Check.due("16: kind " + kind + " from 2 to " + b, x.jumps(), b == 3 ? 0 : 1);
                Check.due("16: place", x.place(), b);
            }
        }
    }

    private static void promise16BnzNotTaken() {
        for (int b = 0; b <= 24; b++) {
            BundleAssembler x = new BundleAssembler();
            x.emit(Check.ADD, 0, 0, 0);
            x.emit(Check.BNZ, 0, 1, b);
            x.emit(Check.ADD, 0, 0, 0);
            x.run(2);
            Check.due("16: BNZ to " + b + " on 0", x.jumps(), 0);
            Check.due("16: place", x.place(), 2);
        }
    }

    /** Behind the last operation the end is the following one; before it, it is not. */
    private static void promise16BehindTheEnd() {
        for (int kind = Check.BNZ; kind <= Check.JUMP; kind++) {
            for (int b : new int[] {2, 3, 24}) {
                BundleAssembler x = Check.counting(1);
                x.emit(kind, 0, 0, b);
                x.run(400);
                Check.due("16: kind " + kind + ", the last, to " + b + " of 2", x.jumps(), 0);
                x.emit(Check.ADD, 1, 1, 1);
                x.run(400);
                Check.due("16: kind " + kind + ", last but one, to " + b + " of 3", x.jumps(), b == 2 ? 0 : 1);
                x.retract();
                x.run(400);
                Check.due("16: kind " + kind + ", the last again", x.jumps(), 0);
            }
        }
        BundleAssembler full = Check.counting(23);
        full.emit(Check.JUMP, 0, 0, 24);
        full.run(400);
        Check.due("16: the last of 24 to 24", full.jumps(), 0);
        full.retract();
        full.emit(Check.JUMP, 0, 0, 23);
        Check.due("16: run", full.run(400), 400);
        Check.due("16: the last of 24 to itself", full.jumps(), 377);
    }

    private static void promise16OtherKindsAreNotCounted() {
        BundleAssembler x = new BundleAssembler();
        for (int kind = Check.ADD; kind <= Check.STORE; kind++) {
            x.emit(kind, 1, 1, 5);
        }
        Check.due("16: run", x.run(400), 9);
        Check.due("16: no branch", x.jumps(), 0);
    }

    private static void promise16SetBackByAcceptedChangesAlone() {
        BundleAssembler x = Check.fullRun();
        Check.due("16: at first", x.jumps(), 3);
        x.emit(Check.ADD, 0, 0, 0);
        Check.due("16: after a refused emit", x.jumps(), 3);
        x.setRegister(0, 0);
        x.setCell(0, 0);
        x.run(0);
        x.run(401);
        Check.due("16: after calls that change no program", x.jumps(), 3);
        x.retract();
        Check.due("16: after retract", x.jumps(), 0);
        x.run(1);
        Check.due("16: counted anew", x.jumps(), 1);
        x.emit(Check.ADD, 0, 0, 0);
        Check.due("16: after emit", x.jumps(), 0);
        x.run(1);
        Check.due("16: counted anew", x.jumps(), 1);
        x.clear();
        Check.due("16: after clear", x.jumps(), 0);
        x.emit(Check.JUMP, 0, 0, 0);
        x.run(2);
        Check.due("16: counted anew", x.jumps(), 2);
        x.retract();
        Check.due("16: after retract of the only one", x.jumps(), 0);
        x.retract();
        Check.due("16: after a refused retract", x.jumps(), 0);
    }

    private static void promise16RestartKeepsIt() {
        BundleAssembler x = new BundleAssembler();
        x.emit(Check.JUMP, 0, 0, 2);
        x.emit(Check.ADD, 0, 0, 0);
        for (int round = 1; round <= 5; round++) {
            x.run(400);
            Check.due("16: round", x.jumps(), round);
            x.restart();
            Check.due("16: round started again", x.jumps(), round);
        }
    }

    /** 400 calls of 400 steps: near the most that an object's 512 calls allow. */
    private static void promise16ManyJumps() {
        BundleAssembler x = new BundleAssembler();
        x.emit(Check.JUMP, 0, 0, 0);
        for (int call = 1; call <= 400; call++) {
            x.run(400);
        }
        Check.due("16: many", x.jumps(), 160000);
    }
}
