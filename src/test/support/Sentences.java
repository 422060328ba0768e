import java.io.IOException;
import java.nio.file.Files;
import java.nio.file.Path;
import java.util.ArrayList;
import java.util.List;

/** Tests that each bear the sentence of the document for which they stand. */
public final class Sentences {
    public static final int BAD_ARG = -1;
    public static final int FULL = -2;
    public static final int TOO_FEW = -3;
    public static final int NONE = -4;
    public static final int BAD_LOOP = -5;
    public static final int OVER = 0;
    public static final int MAY_SEND = 1;
    public static final int HELD = 2;
    public static final int MAY_RECEIVE = 3;
    public static final int WAITS = 4;

    private static final List<String> CONTINUATIONS = continuations();
    private static final String DOCUMENT = document();

    private static String heading = "";
    private static String sentence = "";
    private static int sentences = 0;
    private static int tests = 0;
    private static int faults = 0;

    private Sentences() {
    }

    private static String document() {
        try {
            return Files.readString(Path.of("../shared/DOC.md"));
        } catch (IOException e) {
            throw new IllegalStateException("the document can't be read", e);
        }
    }

    public static void under(String newHeading) {
        heading = newHeading;
    }

    /** Tests one sentence, or the part of one that names a case, in the document's own words. */
    public static void sentence(String words, Runnable test) {
        sentence = words;
        sentences++;
        if (!sectionOf(heading).contains(words)) {
            fault("these words do not stand there in the document");
        }
        int before = tests;
        try {
            test.run();
        } catch (RuntimeException | StackOverflowError e) {
            fault("thrown: " + e);
        }
        if (tests == before) {
            fault("nothing was tested");
        }
    }

    private static String sectionOf(String title) {
        int from = DOCUMENT.indexOf("\n## " + title + "\n");
        if (from < 0) {
            return "";
        }
        int to = DOCUMENT.indexOf("\n## ", from + 1);
        return DOCUMENT.substring(from, to < 0 ? DOCUMENT.length() : to);
    }

    public static void tested() {
        tests++;
    }

    public static void fault(String what) {
        faults++;
        System.out.println(heading + ", \"" + sentence + "\": " + what);
    }

    /** The call is refused with the code, and the continuations do not show that it was made. */
    public static void refused(String scene, String call, int code) {
        Calls.after(scene).due(call, code);
        if (code >= 0) {
            throw new IllegalArgumentException("not a code of a refusal: " + code);
        }
        alike(scene, scene.isEmpty() ? "!" + call : scene + ", !" + call);
    }

    /** Each continuation answers the same after the one scene and after the other. */
    public static void alike(String scene, String otherScene) {
        for (String continuation : CONTINUATIONS) {
            Calls one = Calls.after(scene);
            Calls other = Calls.after(otherScene);
            String told = other.told();
            for (String call : Calls.split(continuation)) {
                int want = one.answer(call);
                int got = other.answer(call);
                tested();
                if (got != want) {
                    fault(told + " | then " + other.told().substring(told.length()) + ": answered " + got
                        + ", due as after " + scene + " is " + want);
                    return;
                }
            }
            if (one.made() > Calls.PROMISED_CALLS || other.made() > Calls.PROMISED_CALLS) {
                throw new IllegalStateException("more calls than the document promises anything about");
            }
        }
    }

    private static List<String> continuations() {
        String look = "sent, canFinish";
        for (int p = 0; p < 3; p++) {
            look += ", got " + p + ", state " + p + ", partner " + p;
            look += ", onWay " + p + " 0, onWay " + p + " 1, onWay " + p + " 2";
        }
        String run = look;
        for (int round = 0; round < 8; round++) {
            for (int role = 0; role < 3; role++) {
                run += ", send " + role + " " + round % 2 + " " + (100 + 10 * round + role);
                run += ", receive " + (role + round) % 3;
            }
            run += ", " + look;
        }
        List<String> all = new ArrayList<>();
        all.add(run);
        all.add("restart, " + run);
        all.add("discard, 21x end, discard");
        all.add("21x end, discard, " + run);
        all.add("protocol, " + run);
        all.add("20x choose 1, protocol, " + run);
        all.add("message 0 1 3, loop 0, loop 1, protocol, " + run);
        return all;
    }

    public static void report() {
        System.out.println(sentences + " sentences, " + tests + " answers looked at, "
            + (faults == 0 ? "all as due" : faults + " faults"));
        if (faults != 0) {
            System.exit(1);
        }
    }
}
