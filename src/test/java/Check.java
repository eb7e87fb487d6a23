/** Counts and prints the answers that are not as due. */
final class Check {
    interface Call {
        void make();
    }

    private int wrong = 0;
    private int made = 0;

    void is(String what, long got, long due) {
        made++;
        if (got != due) {
            complain(what + " answered " + got + ", due is " + due);
        }
    }

    /** The exception must be of this very class, and thrown by the program itself, not by the library or the machine. */
    void fails(String what, Class<? extends RuntimeException> due, Call call) {
        made++;
        try {
            call.make();
        } catch (RuntimeException e) {
            if (e.getClass() != due) {
                complain(what + " threw " + e + ", due is " + due.getName());
            } else if (!e.getStackTrace()[0].getClassName().startsWith("BeltRows")) {
                complain(what + " let the library throw");
            }
            return;
        }
        complain(what + " threw nothing, due is " + due.getName());
    }

    void edgeIs(BeltRows x, int i, int second, int kind, int item, int where) {
        is("edge(" + i + ", 0)", x.edge(i, 0), second);
        is("edge(" + i + ", 1)", x.edge(i, 1), kind);
        is("edge(" + i + ", 2)", x.edge(i, 2), item);
        is("edge(" + i + ", 3)", x.edge(i, 3), where);
    }

    void toldIs(BeltRows x, int item, int... due) {
        for (int what = 0; what < due.length; what++) {
            is("second " + x.count(5) + ": told(" + item + ", " + what + ")", x.told(item, what), due[what]);
        }
    }

    void knownIs(BeltRows x, int belt, int... due) {
        for (int what = 0; what < due.length; what++) {
            is("second " + x.count(5) + ": known(" + belt + ", " + what + ")", x.known(belt, what), due[what]);
        }
    }

    void countIs(BeltRows x, int... due) {
        for (int what = 0; what < due.length; what++) {
            is("second " + x.count(5) + ": count(" + what + ")", x.count(what), due[what]);
        }
    }

    void complain(String text) {
        wrong++;
        System.out.println(text);
    }

    void end() {
        System.out.println(made + " checks, " + wrong + " wrong");
        if (wrong != 0) {
            System.exit(1);
        }
    }
}
