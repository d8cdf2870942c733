import java.util.List;

/** What the tests of the project share: counts what is wrong, and prints it. */
final class Check {
    private final String name;
    private String part = "";
    private int done;
    private int wrong;

    Check(String name) {
        this.name = name;
    }

    void part(String title) {
        part = title;
    }

    void is(String call, long got, long want) {
        done++;
        if (got != want) {
            wrong++;
            System.out.println(name + ", " + part + ": " + call + " answered " + got + ", due is " + want);
        }
    }

    void isDouble(String call, double got, double want) {
        is(call + " is " + got + " and not " + want, got == want ? 1 : 0, 1);
    }

    void holds(String what, boolean got) {
        is(what, got ? 1 : 0, 1);
    }

    /** The call throws just this class of exception, and changes nothing of the object. */
    void throwing(PhiHall x, String call, Class<? extends RuntimeException> due, Runnable body) {
        long before = x.digest();
        String got = "nothing";
        try {
            body.run();
        } catch (RuntimeException e) {
            got = e.getClass().getName();
        }
        done++;
        if (!got.equals(due.getName())) {
            wrong++;
            System.out.println(name + ", " + part + ": " + call + " threw " + got + ", due is " + due.getName());
        }
        is(call + " leaves the digest", x.digest(), before);
    }

    /** Two pictures of objects in the same state. */
    void same(String what, List<Long> got, List<Long> want) {
        done++;
        int k = 0;
        while (k < Math.min(got.size(), want.size()) && got.get(k).equals(want.get(k))) {
            k++;
        }
        if (k < got.size() || k < want.size()) {
            wrong++;
            System.out.println(name + ", " + part + ": " + what + ": another answer " + k + " of " + want.size());
        }
    }

    void finish() {
        System.out.println(name + ": " + done + " checks, " + wrong + " wrong");
        if (wrong != 0) {
            System.exit(1);
        }
    }
}
