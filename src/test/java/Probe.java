/** Brings to light all that an object holds, also what no getter shows; the object is used up. */
final class Probe {
    private Probe() {
    }

    static String everything(SizedTermination x) {
        return steps(x) + again(x) + program(x) + slots(x) + " cap " + cap(x);
    }

    /** What is to be seen now, and at each step of the run that is under way. */
    static String steps(SizedTermination x) {
        StringBuilder seen = new StringBuilder(Programs.all(x));
        for (int i = 0; i < 60 && x.getStatus() == SizedTermination.ST_READY; i++) {
            seen.append(", run ").append(x.run(1)).append(' ').append(Programs.machine(x));
        }
        return seen.append(", then ").append(Programs.all(x)).toString();
    }

    /** Whether a run can be started without checking again, and where it goes. */
    static String again(SizedTermination x) {
        return "; start " + x.start(20) + " " + steps(x);
    }

    /** The program, by its check, its runs, and the room that it leaves. */
    static String program(SizedTermination x) {
        StringBuilder seen = new StringBuilder("; compile " + x.compile() + again(x));
        seen.append("; node ").append(x.node(SizedTermination.K_ZERO, 0));
        x.compile();
        seen.append(' ').append(Programs.check(x));
        int functions = 0;
        for (int i = 0; i < 10 && x.function(1, 0, 0) >= 0; i++) {
            functions++;
        }
        int nodes = 0;
        for (int i = 0; i < 100 && x.node(SizedTermination.K_ZERO, 0); i++) {
            nodes++;
        }
        return seen.append("; room ").append(functions).append(' ').append(nodes).append("; ").toString();
    }

    static String slots(SizedTermination x) {
        String types = "";
        StringBuilder held = new StringBuilder();
        for (int slot = 0; slot < 3; slot++) {
            String natural = Programs.slot(x, types + "N", slot);
            boolean isList = natural.equals("other types");
            types += isList ? "L" : "N";
            held.append(slot == 0 ? "" : " ");
            held.append(isList ? Programs.slot(x, types, slot) : natural);
        }
        return held.toString();
    }

    /** The greatest natural that a slot takes. */
    static int cap(SizedTermination x) {
        int cap = 0;
        for (int value = 1; value <= 20; value++) {
            cap = x.input(0, SizedTermination.IN_NAT, value) ? value : cap;
        }
        return cap;
    }
}
