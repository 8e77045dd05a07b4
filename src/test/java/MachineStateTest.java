/** Promise 10. */
public final class MachineStateTest {
    public static void main(String[] args) {
        everyStep();
        SizedTermination x = new SizedTermination(6);
        editEndsTheRun(x, "node");
        editEndsTheRun(x, "function");
        editEndsTheRun(x, "clear");
        editEndsTheRun(x, "compile");
        finishedActivationsDoNotCount();
        keptAfterABadEnd();
        Due.end();
    }

    /** "at a pause this does not count the waiting activation" */
    private static void everyStep() {
        SizedTermination x = new SizedTermination(6);
        expect(x, "status 0 calls 0 depth 0");
        Programs.declare(x, "N>N", Programs.HALF);
        expect(x, "status 0 calls 0 depth 0");
        x.compile();
        Programs.putNat(x, 0, 6);
        expect(x, "status 0 calls 0 depth 0");
        x.start(0);
        expect(x, "status 1 calls 0 depth 0");
        for (int i = 1; i <= 3; i++) {
            x.run(1);
            expect(x, "status 1 calls " + i + " depth " + i);
        }
        x.run(1);
        expect(x, "status 2 calls 4 depth 0");
        x.start(0);
        expect(x, "status 1 calls 0 depth 0");
        x.run(3);
        expect(x, "status 1 calls 3 depth 3");
        x.compile();
        expect(x, "status 0 calls 0 depth 0");
    }

    /** "calls and depth keep their values then", until the next start. */
    private static void keptAfterABadEnd() {
        SizedTermination x = Programs.one("N>N", Programs.LOOP);
        x.compile();
        int[] fuels = {1, 2, 15, 16, 17, 100000};
        for (int fuel : fuels) {
            x.start(fuel);
            int reached = Math.min(fuel, 16);
            x.run(200);
            String end = "status " + (fuel <= 16 ? 3 : 5) + " calls " + reached + " depth " + reached;
            expect(x, end);
            x.run(1);
            Due.same("refused", x.node(8, 0), false);
            Programs.putNat(x, 0, 2);
            expect(x, end);
        }
        x.start(5);
        expect(x, "status 1 calls 0 depth 0");
        x.clearProgram();
        Programs.declare(x, "N>N", "succ v0");
        Programs.declare(x, "N>N", "call0 call0 v0");
        x.compile();
        Programs.putNat(x, 0, 5);
        x.start(0);
        x.run(3);
        expect(x, "status 4 calls 3 depth 2");
        x.compile();
        expect(x, "status 0 calls 0 depth 0");
    }

    private static void expect(SizedTermination x, String want) {
        for (int i = 0; i < 3; i++) {
            Due.same("machine", Programs.machine(x), want);
        }
    }

    /** "(0 after RESET or compile)" */
    private static void editEndsTheRun(SizedTermination x, String edit) {
        x.clearProgram();
        Programs.declare(x, "N>N", Programs.LOOP);
        x.compile();
        x.start(5);
        x.run(2);
        expect(x, "status 1 calls 2 depth 2");
        edit(x, edit);
        expect(x, "status 0 calls 0 depth 0");
        Due.same("run after " + edit, x.run(1), SizedTermination.ST_IDLE);

        x.clearProgram();
        Programs.declare(x, "N>N", Programs.LOOP);
        x.compile();
        x.start(5);
        x.run(200);
        expect(x, "status 3 calls 5 depth 5");
        edit(x, edit);
        expect(x, "status 0 calls 0 depth 0");
        Due.same("run after " + edit, x.run(1), SizedTermination.ST_IDLE);
    }

    private static void edit(SizedTermination x, String edit) {
        switch (edit) {
            case "compile":
                x.compile();
                break;
            case "node":
                x.node(SizedTermination.K_ZERO, 0);
                break;
            case "function":
                x.function(1, 0, 0);
                break;
            default:
                x.clearProgram();
        }
    }

    /** Calls go on growing while the depth goes up and down. */
    private static void finishedActivationsDoNotCount() {
        SizedTermination x = new SizedTermination(3);
        Programs.declare(x, "N>N", "caseN v0 zero caseN call0 v1 call0 v1 zero");
        x.compile();
        Programs.putNat(x, 0, 2);
        x.start(0);
        int[] depths = {1, 2, 2, 1, 2, 2, 0};
        for (int i = 0; i < depths.length; i++) {
            x.run(1);
            expect(x, "status " + (i == 6 ? 2 : 1) + " calls " + (i + 1) + " depth " + depths[i]);
        }
    }
}
