/** Counts and prints the answers that are not as due. */
final class Check {
    interface Call {
        void make();
    }

    private int wrong = 0;
    private int made = 0;

    void is(String what, long got, long due) {
        made++;
        if (got != due) {
            complain(what + " answered " + got + ", due is " + due);
        }
    }

    /** The exception must be of this very class, and thrown by the program itself, not by the library or the machine. */
    void fails(String what, Class<? extends RuntimeException> due, Call call) {
        made++;
        try {
            call.make();
        } catch (RuntimeException e) {
            if (e.getClass() != due) {
                complain(what + " threw " + e + ", due is " + due.getName());
            } else if (!e.getStackTrace()[0].getClassName().startsWith("BeltRows")) {
                complain(what + " let the library throw");
            }
            return;
        }
        complain(what + " threw nothing, due is " + due.getName());
    }

    void complain(String text) {
        wrong++;
        System.out.println(text);
    }

    void end() {
        System.out.println(made + " checks, " + wrong + " wrong");
        if (wrong != 0) {
            System.exit(1);
        }
    }
}
