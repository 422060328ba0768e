import java.util.ArrayList;
import java.util.List;

/** Every protocol of up to four terms, and every run of it of up to six actions, compared with the model. */
public final class SmallProtocols {
    private static final int TERMS = 4;
    private static final int ACTIONS = 6;
    private static final List<String> LOOK = look();

    private static int protocols = 0;
    private static int badLoops = 0;
    private static int runs = 0;
    private static int wrong = 0;

    private final Calls x = Calls.after("");
    private final Model model = new Model();

    private static List<String> look() {
        List<String> calls = new ArrayList<>(List.of("sent"));
        for (int p = 0; p < 3; p++) {
            calls.addAll(List.of("state " + p, "partner " + p, "got " + p));
            for (int q = 0; q < 3; q++) {
                calls.add("onWay " + p + " " + q);
            }
        }
        return calls;
    }

    private static List<String> pushes(int onStack) {
        List<String> calls = new ArrayList<>(List.of("end", "again 0", "again 1"));
        if (onStack >= 1) {
            calls.addAll(List.of("loop 0", "loop 1", "message 0 1 0", "message 0 2 1", "message 1 0 2",
                "message 1 2 3", "message 2 0 3", "message 2 1 2"));
        }
        if (onStack >= 2) {
            calls.addAll(List.of("choose 0", "choose 1", "choose 2"));
        }
        return calls;
    }

    private static int onStackAfter(String push, int onStack) {
        if (push.startsWith("choose")) {
            return onStack - 1;
        }
        return push.startsWith("end") || push.startsWith("again") ? onStack + 1 : onStack;
    }

    private static void everyProtocol(List<String> made, int onStack) {
        if (onStack == 1) {
            tryProtocol(made);
        }
        for (String push : pushes(onStack)) {
            int then = onStackAfter(push, onStack);
            // Each term on the stack beyond the first one needs a choose to come.
            if (made.size() + then <= TERMS && wrong == 0) {
                made.add(push);
                everyProtocol(made, then);
                made.remove(made.size() - 1);
            }
        }
    }

    private static void tryProtocol(List<String> made) {
        protocols++;
        List<String> calls = new ArrayList<>(made);
        calls.add("protocol");
        if (new SmallProtocols().sameFor(calls) == ProtocolRoles.BAD_LOOP) {
            badLoops++;
        } else {
            everyRun(calls, 0);
        }
    }

    private static void everyRun(List<String> calls, int actions) {
        runs++;
        SmallProtocols run = new SmallProtocols();
        run.sameFor(calls);
        run.sameFor(LOOK);
        List<String> next = run.actionsThatCanBeDone(100 + actions);
        run.sameFor(run.actionsThatCannot());
        run.sameFor(LOOK);
        run.sameFor(List.of("canFinish"));
        for (int i = 0; i < next.size() && actions < ACTIONS && wrong == 0; i++) {
            calls.add(next.get(i));
            everyRun(calls, actions + 1);
            calls.remove(calls.size() - 1);
        }
    }

    private List<String> actionsThatCanBeDone(int value) {
        List<String> calls = new ArrayList<>();
        for (int role = 0; role < 3; role++) {
            int state = model.state(role);
            if (state == ProtocolRoles.MAY_RECEIVE) {
                calls.add("receive " + role);
            } else if (state == ProtocolRoles.MAY_SEND && model.isPicking(role)) {
                calls.add("send " + role + " 0 " + value);
                calls.add("send " + role + " 1 " + value);
            } else if (state == ProtocolRoles.MAY_SEND) {
                calls.add("send " + role + " 7 " + value);
            }
        }
        return calls;
    }

    private List<String> actionsThatCannot() {
        List<String> calls = new ArrayList<>();
        for (int role = 0; role < 3; role++) {
            int state = model.state(role);
            if (state != ProtocolRoles.MAY_RECEIVE) {
                calls.add("receive " + role);
            }
            if (state != ProtocolRoles.MAY_SEND || model.isPicking(role)) {
                calls.add("send " + role + " 2 99");
            }
        }
        return calls;
    }

    /** Makes the calls on the object and the model; answers what the last one answered. */
    private int sameFor(List<String> calls) {
        int want = 0;
        for (String call : calls) {
            want = model.answer(call);
            int got = x.answer(call);
            if (got != want) {
                wrong++;
                System.out.println(x.told() + ": answered " + got + ", due is " + want);
            }
        }
        return want;
    }

    public static void main(String[] args) {
        everyProtocol(new ArrayList<>(), 0);
        System.out.println(protocols + " protocols, " + badLoops + " of them with a bad loop, " + runs + " runs, "
            + (wrong == 0 ? "all as the model" : "not as the model"));
        if (wrong != 0) {
            System.exit(1);
        }
    }
}
