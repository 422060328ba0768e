import java.util.Arrays;

/**
 * Compares the program with the model. The calls come from a fixed sequence, so that every time the
 * same ones are made.
 */
public final class ModelTest {
    private static final int OBJECTS = 1500;
    private static final int CALLS = 512;

    private static long seed = 20261115;
    private static int wrong = 0;
    private static final int[] finishAnswers = new int[2];
    private static final int[] stateAnswers = new int[5];
    private static int badLoops = 0;

    private final ProtocolRoles x = new ProtocolRoles();
    private final Model model = new Model();
    private final StringBuilder story = new StringBuilder();
    private int calls = 0;

    private static int below(int n) {
        seed = seed * 6364136223846793005L + 1442695040888963407L;
        return (int) ((seed >>> 33) % n);
    }

    private static boolean rarely() {
        return below(40) == 0;
    }

    private static int someRole() {
        return rarely() ? below(8) - 3 : below(3);
    }

    private static int someMark() {
        return rarely() ? below(6) - 2 : below(2);
    }

    private void same(String call, int got, int want) {
        calls++;
        story.append(call).append(" = ").append(got).append('\n');
        if (got != want) {
            wrong++;
            if (wrong == 1) {
                System.out.print(story);
            }
            System.out.println(call + " answered " + got + ", due is " + want);
        }
    }

    private void end() {
        same("end()", x.end(), model.end());
    }

    private void message(int p, int q, int l) {
        same("message(" + p + ", " + q + ", " + l + ")", x.message(p, q, l), model.message(p, q, l));
    }

    private void choose(int p) {
        same("choose(" + p + ")", x.choose(p), model.choose(p));
    }

    private void loop(int t) {
        same("loop(" + t + ")", x.loop(t), model.loop(t));
    }

    private void again(int t) {
        same("again(" + t + ")", x.again(t), model.again(t));
    }

    /** Builds a random protocol of about the given size; around has bit t set inside a loop t. */
    private void build(int size, int around) {
        int what = below(10);
        if (size <= 1) {
            if (around != 0 && below(3) != 0) {
                again(around == 3 || rarely() ? below(2) : around - 1);
            } else {
                end();
            }
        } else if (what < 5 || size == 2) {
            build(size - 1, around);
            int p = someRole();
            message(p, rarely() ? p : (p + 1 + below(2)) % 3, rarely() ? below(9) - 2 : below(4));
        } else if (what < 8) {
            int left = 1 + below(size - 2);
            build(left, around);
            build(size - 1 - left, around);
            choose(someRole());
        } else {
            int t = below(2);
            build(size - 1, around | 1 << t);
            loop(t);
        }
    }

    private void buildSomething() {
        int what = below(12);
        if (what == 0) {
            same("discard()", x.discard(), model.discard());
        } else if (what < 3) {
            end();
        } else if (what < 5) {
            message(someRole(), someRole(), below(4));
        } else if (what < 7) {
            choose(someRole());
        } else if (what < 9) {
            loop(someMark());
        } else {
            again(someMark());
        }
    }

    private void beginProtocol() {
        int answer = x.protocol();
        badLoops += answer == ProtocolRoles.BAD_LOOP ? 1 : 0;
        same("protocol()", answer, model.protocol());
    }

    private void send(int role) {
        int pick = someMark();
        int value = below(1000) - 500;
        String call = "send(" + role + ", " + pick + ", " + value + ")";
        same(call, x.send(role, pick, value), model.send(role, pick, value));
    }

    /** One role runs ahead of the others, so that its sendings come to be held. */
    private void runAhead() {
        int role = someRole();
        for (int i = 0; i < 10; i++) {
            send(role);
        }
        same("state(" + role + ")", x.state(role), model.state(role));
    }

    private void act() {
        int role = someRole();
        if (below(2) == 0) {
            send(role);
        } else {
            same("receive(" + role + ")", x.receive(role), model.receive(role));
        }
    }

    private void ask() {
        int p = someRole();
        int q = someRole();
        int what = below(6);
        if (what == 0) {
            same("got(" + p + ")", x.got(p), model.got(p));
        } else if (what == 1) {
            same("partner(" + p + ")", x.partner(p), model.partner(p));
        } else if (what == 2) {
            same("onWay(" + p + ", " + q + ")", x.onWay(p, q), model.onWay(p, q));
        } else if (what == 3) {
            same("sent()", x.sent(), model.sent());
        } else {
            int answer = x.state(p);
            if (answer >= 0) {
                stateAnswers[answer]++;
            }
            same("state(" + p + ")", answer, model.state(p));
        }
    }

    private void askCanFinish() {
        int want = model.canFinish();
        finishAnswers[want]++;
        same("canFinish()", x.canFinish(), want);
    }

    private void useObject(int sizes) {
        while (calls < CALLS - 60) {
            if (rarely()) {
                buildSomething();
            } else if (below(90) == 0) {
                same("discard()", x.discard(), model.discard());
                build(1 + below(sizes), 0);
                beginProtocol();
                askCanFinish();
            } else if (below(150) == 0) {
                x.restart();
                model.restart();
                calls++;
                story.append("restart()\n");
            } else if (below(120) == 0) {
                beginProtocol();
            } else if (below(60) == 0) {
                askCanFinish();
            } else if (below(60) == 0) {
                runAhead();
            } else if (below(3) == 0) {
                act();
            } else {
                ask();
            }
        }
    }

    public static void main(String[] args) {
        for (int i = 0; i < OBJECTS && wrong == 0; i++) {
            new ModelTest().useObject(i % 2 == 0 ? 7 : 21);
        }
        System.out.println("canFinish compared: " + finishAnswers[0] + " times 0, " + finishAnswers[1] + " times 1");
        System.out.println("states compared: " + Arrays.toString(stateAnswers)
            + ", bad loops: " + badLoops);
        boolean enough = finishAnswers[0] > 100 && finishAnswers[1] > 100 && badLoops > 100;
        for (int n : stateAnswers) {
            enough &= n > 100;
        }
        System.out.println(wrong != 0 ? "not as the model" : enough ? "all as the model" : "too little compared");
        if (wrong != 0 || !enough) {
            System.exit(1);
        }
    }
}
