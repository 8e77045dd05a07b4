/** Promise 6. */
public final class ReadingTest {
    public static void main(String[] args) {
        sinceTheLastEdit();
        everyCode();
        refusedEditsKeepTheCheck();
        lastCompileCounts();
        Due.end();
    }

    /** "CODE_NOT_COMPILED if none"; "-1 if none or after an edit"; "0 unless the code is CODE_OK" */
    private static void sinceTheLastEdit() {
        SizedTermination x = new SizedTermination(6);
        expect(x, "code 0 fault -1 bound 0");
        x.compile();
        expect(x, "code 7 fault -1 bound 0");
        x.function(1, 0, 0);
        expect(x, "code 0 fault -1 bound 0");
        x.compile();
        expect(x, "code 2 fault 0 bound 0");
        x.node(SizedTermination.K_VAR, 0);
        expect(x, "code 0 fault -1 bound 0");
        x.compile();
        expect(x, "code 1 fault -1 bound 1");
        x.function(1, 0, 0);
        expect(x, "code 0 fault -1 bound 0");
        Programs.append(x, "v1");
        Due.same("compile", x.compile(), SizedTermination.CODE_SCOPE);
        expect(x, "code 3 fault 1 bound 0");
        x.clearProgram();
        expect(x, "code 0 fault -1 bound 0");
    }

    private static void everyCode() {
        String[] bodies = {"v0", "succ", "v1", "call2", "nil", "call1 call0 v0"};
        for (int i = 0; i < bodies.length; i++) {
            SizedTermination x = Programs.one("N>N", Programs.HALF);
            Programs.declare(x, "N>N", bodies[i]);
            Due.same("compile", x.compile(), i + 1);
            String want = i == 0 ? "code 1 fault -1 bound 1" : "code " + (i + 1) + " fault 1 bound 0";
            expect(x, want);
            if (i == 0 || i == 5) {
                readingInARun(x, want);
            }
            x.clearProgram();
            Programs.declare(x, "N>N", Programs.HALF);
            x.compile();
            readingInARun(x, "code 1 fault -1 bound 7");
        }
    }

    /** "the last compile since the last successful edit": a refused edit is none. */
    private static void refusedEditsKeepTheCheck() {
        String[] bodies = {Programs.HALF, "succ", "v1", "call1", "nil", Programs.LOOP};
        String[] want = {"code 1 fault -1 bound 7", "code 2 fault 0 bound 0", "code 3 fault 0 bound 0",
            "code 4 fault 0 bound 0", "code 5 fault 0 bound 0", "code 6 fault 0 bound 0"};
        for (int i = 0; i < bodies.length; i++) {
            SizedTermination x = Programs.one("N>N", bodies[i]);
            x.compile();
            Due.same("refused node", x.node(8, 0), false);
            expect(x, want[i]);
            Due.same("refused function", x.function(0, 0, 0), -1);
            expect(x, want[i]);
            Due.same("refused input", x.input(3, 0, 0), false);
            expect(x, want[i]);
            Due.same("node", x.node(0, 0), true);
            expect(x, "code 0 fault -1 bound 0");
        }
    }

    /** A later compile of the same program says the same; of a mended one, what holds now. */
    private static void lastCompileCounts() {
        SizedTermination x = Programs.one("N>N", "succ");
        x.compile();
        x.compile();
        expect(x, "code 2 fault 0 bound 0");
        Programs.append(x, "v0");
        x.compile();
        expect(x, "code 1 fault -1 bound 1");
        Programs.append(x, "v0");
        x.compile();
        expect(x, "code 2 fault 0 bound 0");
    }

    private static void expect(SizedTermination x, String want) {
        String machine = Programs.machine(x);
        for (int i = 0; i < 3; i++) {
            Due.same("check", Programs.check(x), want);
        }
        Due.same("machine untouched", Programs.machine(x), machine);
    }

    /** Neither inputs nor a run change the check, and reading it does not change the run. */
    private static void readingInARun(SizedTermination x, String want) {
        Programs.putNat(x, 0, 6);
        expect(x, want);
        Due.same("start", x.start(4), true);
        expect(x, want);
        for (int i = 1; i <= 6; i++) {
            int status = x.run(1);
            expect(x, want);
            Due.same("status", x.getStatus(), status);
        }
        Due.same("compile again", x.compile(), x.getCode());
        expect(x, want);
    }
}
