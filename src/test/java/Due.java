import java.util.Arrays;

/** Compares answers with what is due, and ends the test with exit code 1 if one was wrong. */
final class Due {
    private int wrong = 0;
    private int seen = 0;
    private String about = "";

    void about(String what) {
        about = what;
    }

    /** Runs the tests one after the other and ends; one that is cut short by an exception doesn't hold up the others. */
    void run(Runnable... tests) {
        for (Runnable test : tests) {
            try {
                test.run();
            } catch (RuntimeException thrown) {
                wrong++;
                System.out.println(about + ": cut short by " + thrown + " at " + thrown.getStackTrace()[0]);
            }
        }
        end();
    }

    void is(String call, long got, long due) {
        seen++;
        if (got != due) {
            wrong++;
            System.out.println(about + ": " + call + " answered " + got + ", due is " + due);
        }
    }

    void are(String what, long[] got, long... due) {
        seen++;
        if (!Arrays.equals(got, due)) {
            wrong++;
            System.out.println(about + ": " + what + " is " + Arrays.toString(got) + ", due is " + Arrays.toString(due));
        }
    }

    void same(String what, String got, String due) {
        seen++;
        if (!got.equals(due)) {
            wrong++;
            System.out.println(about + ": " + what + " is " + got + ", due is " + due);
        }
    }

    int wrongSoFar() {
        return wrong;
    }

    void end() {
        System.out.println(seen + " answers, " + wrong + " not as due");
        if (wrong != 0 || seen == 0) {
            System.exit(1);
        }
    }
}
