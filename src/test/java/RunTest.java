import java.io.IOException;

/** .ci/run runs every test of the project and every one under ../shared/tests, and fails if one fails. */
public final class RunTest {
    private static final Check CHECK = new Check("RunTest");

    public static void main(String[] args) throws IOException, InterruptedException {
        if (System.getenv(Checkout.INSIDE) != null) {
            // The run around this one asks it of the same .ci/run.
            return;
        }
        String right = ending(0);
        String wrong = ending(1);
        dueCode("all pass", 0, right, right, right, right);
        dueCode("the first of the project fails", 1, wrong, right, right, right);
        dueCode("the last of the project fails", 1, right, wrong, right, right);
        dueCode("the first shared one fails", 1, right, right, wrong, right);
        dueCode("the last shared one fails", 1, right, right, right, wrong);
        dueCode("a shared one does not compile", 1, right, right, "int", right);
        dueCode("one of the project does not compile", 1, right, "int", right, right);
        dueCode("there are no shared ones", 1, right, right, null, null);
        CHECK.end();
    }

    private static String ending(int code) {
        return "System.out.println(new DuelRound().count(0)); System.exit(" + code + ");";
    }

    private static void dueCode(String name, int code, String own, String lastOwn, String shared, String lastShared)
            throws IOException, InterruptedException {
        Checkout checkout = new Checkout();
        checkout.copy(".ci");
        checkout.copy("src/main");
        put(checkout, true, "AnyTest", own);
        put(checkout, true, "OtherTest", lastOwn);
        put(checkout, false, "AnyRuns", shared);
        put(checkout, false, "OtherRuns", lastShared);
        int got = checkout.run(".ci/run");
        CHECK.due(".ci/run, if " + name, got, code);
        if (code == 0) {
            for (String test : new String[] {"AnyTest", "OtherTest", "AnyRuns", "OtherRuns"}) {
                CHECK.due(".ci/run tells " + test, checkout.output().contains("passed: " + test), true);
            }
        }
        checkout.delete();
    }

    private static void put(Checkout checkout, boolean isOwn, String name, String body) throws IOException {
        if (body != null) {
            Checkout.write((isOwn ? checkout.file("src/test/java") : checkout.shared().resolve("tests"))
                    .resolve(name + ".java"),
                    "public final class " + name + " { public static void main(String[] a) { " + body + " } }\n");
        }
    }
}
