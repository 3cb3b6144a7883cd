import java.util.function.LongSupplier;

/** Compares answers with the ones that are due, and prints those that are not. */
final class Check {
    private int made;
    private int wrong;
    private String about = "";

    void about(String what) {
        about = what;
    }

    void due(String call, long got, long want) {
        made++;
        if (got != want) {
            wrong++;
            if (wrong <= 50) {
                System.out.println(about + ": " + call + " answered " + got + ", due is " + want);
            }
        }
    }

    /** A call that answers something and changes neither the valley nor the STATUS. */
    void asks(OneNote x, String call, LongSupplier made, long want) {
        leaves(x, call, made, want, 3);
    }

    void bad(OneNote x, String call, LongSupplier made) {
        leaves(x, call, made, OneNote.BAD, 0);
    }

    void no(OneNote x, String call, LongSupplier made) {
        leaves(x, call, made, OneNote.NO, 1);
    }

    void full(OneNote x, String call, LongSupplier made) {
        leaves(x, call, made, OneNote.FULL, 2);
    }

    /** A call after which all is as it was, but for the one STATUS (3: none) that has one more. */
    void leaves(OneNote x, String call, LongSupplier asked, long want, int reason) {
        long before = x.digest();
        int[] counted = {x.status(0), x.status(1), x.status(2)};
        due(call, asked.getAsLong(), want);
        for (int s = 0; s < 3; s++) {
            due(call + ", then status(" + s + ")", x.status(s), counted[s] + (s == reason ? 1 : 0));
        }
        due(call + ", then digest()", x.digest(), before);
    }

    /** Ends the test with exit code 1, if an answer was wrong or none was looked at. */
    void end() {
        System.out.println(made + " answers looked at, " + wrong + " not as due");
        if (wrong != 0 || made == 0) {
            System.exit(1);
        }
    }
}
