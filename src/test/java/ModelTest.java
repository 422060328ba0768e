import java.util.ArrayDeque;
import java.util.ArrayList;
import java.util.Arrays;
import java.util.HashSet;
import java.util.List;
import java.util.Set;

/**
 * Compares the program with a model that does what the document's words say: it writes the path down,
 * looks through it for each role's next action, and tries all further actions for canFinish.
 * The calls come from a fixed sequence, so that every time the same ones are made.
 */
public final class ModelTest {
    private enum Kind { END, MESSAGE, CHOOSE, LOOP, AGAIN }

    private static final class Term {
        static int terms = 0;
        final int id = terms++;
        final Kind kind;
        final int p;
        final int q;
        final int number;
        final Term g;
        final Term h;

        Term(Kind kind, int p, int q, int number, Term g, Term h) {
            this.kind = kind;
            this.p = p;
            this.q = q;
            this.number = number;
            this.g = g;
            this.h = h;
        }
    }

    /** A place in the protocol, with the loops 0 and 1 that are nearest around it. */
    private record Place(Term term, Place loop0, Place loop1) {
        Place at(Term next) {
            return new Place(next, loop0, loop1);
        }

        Place intoLoop() {
            return term.number == 0 ? new Place(term.g, this, loop1) : new Place(term.g, loop0, this);
        }
    }

    private static final class Step {
        final Term origin;
        final int from;
        final int to;
        final int label;
        boolean sent;
        boolean received;
        int value;

        Step(Term origin, int from, int to, int label) {
            this.origin = origin;
            this.from = from;
            this.to = to;
            this.label = label;
        }

        Step copy() {
            Step c = new Step(origin, from, to, label);
            c.sent = sent;
            c.received = received;
            c.value = value;
            return c;
        }
    }

    private static final class Run {
        // Longer than any stretch of the path in which a role that is not over can be idle.
        static final int FAR = 60;
        final List<Step> path = new ArrayList<>();
        final int[] got = new int[3];
        Place walk;
        int sent;

        Run(Term protocol) {
            walk = new Place(protocol, null, null);
            skipLoops();
        }

        Run copy() {
            Run c = new Run(walk.term);
            c.walk = walk;
            for (Step s : path) {
                if (!s.received) {
                    c.path.add(s.copy());
                }
            }
            return c;
        }

        void skipLoops() {
            while (walk.term.kind == Kind.LOOP || walk.term.kind == Kind.AGAIN) {
                Place loop = walk;
                if (walk.term.kind == Kind.AGAIN) {
                    loop = walk.term.number == 0 ? walk.loop0 : walk.loop1;
                }
                walk = loop.intoLoop();
            }
        }

        void walkOn() {
            Term m = walk.term;
            path.add(new Step(m, m.p, m.q, m.number));
            walk = walk.at(m.g);
            skipLoops();
        }

        Step nextStep(int role) {
            for (Step s : path) {
                if (s.from == role && !s.sent || s.to == role && !s.received) {
                    return s;
                }
            }
            for (int i = 0; i < FAR && walk.term.kind == Kind.MESSAGE; i++) {
                walkOn();
                Step s = path.get(path.size() - 1);
                if (s.from == role || s.to == role) {
                    return s;
                }
            }
            return null;
        }

        boolean standsAtChoose() {
            return walk.term.kind == Kind.CHOOSE;
        }

        boolean isPicking(int role) {
            return nextStep(role) == null && standsAtChoose() && walk.term.p == role;
        }

        int onWay(int p, int q) {
            int n = 0;
            for (Step s : path) {
                n += s.from == p && s.to == q && s.sent && !s.received ? 1 : 0;
            }
            return n;
        }

        static int lesser(int p) {
            return p == 0 ? 1 : 0;
        }

        int partner(int role) {
            Step s = nextStep(role);
            if (s != null) {
                return s.from == role ? s.to : s.from;
            }
            if (!standsAtChoose()) {
                return ProtocolRoles.NONE;
            }
            return walk.term.p == role ? lesser(role) : walk.term.p;
        }

        int state(int role) {
            Step s = nextStep(role);
            boolean picking = isPicking(role);
            if (s == null && !picking) {
                return standsAtChoose() ? ProtocolRoles.WAITS : ProtocolRoles.OVER;
            }
            if (picking || s.from == role) {
                return onWay(role, partner(role)) < 4 ? ProtocolRoles.MAY_SEND : ProtocolRoles.HELD;
            }
            return s.sent ? ProtocolRoles.MAY_RECEIVE : ProtocolRoles.WAITS;
        }

        int send(int role, int pick, int value) {
            if (state(role) != ProtocolRoles.MAY_SEND) {
                return ProtocolRoles.NONE;
            }
            if (isPicking(role)) {
                if (pick != 0 && pick != 1) {
                    return ProtocolRoles.BAD_ARG;
                }
                Term c = walk.term;
                path.add(new Step(c, role, lesser(role), pick));
                path.add(new Step(c, role, 3 - role - lesser(role), pick));
                walk = walk.at(pick == 0 ? c.g : c.h);
                skipLoops();
            }
            Step s = nextStep(role);
            s.sent = true;
            s.value = value;
            sent++;
            return s.label;
        }

        int receive(int role) {
            if (state(role) != ProtocolRoles.MAY_RECEIVE) {
                return ProtocolRoles.NONE;
            }
            Step s = nextStep(role);
            s.received = true;
            got[role] = s.value;
            return s.label;
        }

        boolean finished() {
            for (int role = 0; role < 3; role++) {
                if (state(role) != ProtocolRoles.OVER) {
                    return false;
                }
            }
            return path.stream().noneMatch(s -> s.sent && !s.received);
        }

        /** Equal for two runs from which the same can come. */
        String key() {
            int touched = 0;
            for (int i = 0; i < path.size(); i++) {
                touched = path.get(i).sent ? i + 1 : touched;
            }
            StringBuilder key = new StringBuilder();
            for (int i = 0; i < path.size() && i <= touched; i++) {
                Step s = path.get(i);
                if (!s.received) {
                    key.append(s.origin.id).append(':').append(s.to).append(s.label);
                    key.append(i < touched ? s.sent ? "s " : "u " : "");
                }
            }
            if (path.size() <= touched) {
                key.append(walk.term.id);
                Term m = walk.term;
                key.append(m.kind == Kind.MESSAGE ? ":" + m.q + m.number : "");
            }
            return key.toString();
        }

        /** -1 if there are more runs to try than limit. */
        int canFinish(int limit) {
            Set<String> seen = new HashSet<>();
            ArrayDeque<Run> open = new ArrayDeque<>();
            open.add(copy());
            while (!open.isEmpty()) {
                Run run = open.removeLast();
                if (!seen.add(run.key())) {
                    continue;
                }
                if (run.finished()) {
                    return 1;
                }
                if (seen.size() > limit) {
                    return -1;
                }
                for (int act = 0; act < 9; act++) {
                    Run after = run.copy();
                    int role = act % 3;
                    int answer = act < 6 ? after.send(role, act / 3, 0) : after.receive(role);
                    if (answer >= 0) {
                        open.add(after);
                    }
                }
            }
            return 0;
        }
    }

    private static final class Model {
        final List<Term> stack = new ArrayList<>();
        int made;
        Term protocol = new Term(Kind.END, 0, 0, 0, null, null);
        Run run = new Run(protocol);

        static boolean noRole(int r) {
            return r < 0 || r > 2;
        }

        int push(Kind kind, int p, int q, int number, int parts) {
            if (made == 20) {
                return ProtocolRoles.FULL;
            }
            if (stack.size() < parts) {
                return ProtocolRoles.TOO_FEW;
            }
            Term h = parts == 2 ? stack.remove(stack.size() - 1) : null;
            Term g = parts >= 1 ? stack.remove(stack.size() - 1) : null;
            stack.add(new Term(kind, p, q, number, g, h));
            made++;
            return stack.size();
        }

        int message(int p, int q, int l) {
            boolean bad = noRole(p) || noRole(q) || p == q || l < 0 || l > 3;
            return bad ? ProtocolRoles.BAD_ARG : push(Kind.MESSAGE, p, q, l, 1);
        }

        int choose(int p) {
            return noRole(p) ? ProtocolRoles.BAD_ARG : push(Kind.CHOOSE, p, 0, 0, 2);
        }

        int loop(int t) {
            return t < 0 || t > 1 ? ProtocolRoles.BAD_ARG : push(Kind.LOOP, 0, 0, t, 1);
        }

        int again(int t) {
            return t < 0 || t > 1 ? ProtocolRoles.BAD_ARG : push(Kind.AGAIN, 0, 0, t, 0);
        }

        int discard() {
            int n = stack.size();
            stack.clear();
            made = 0;
            return n;
        }

        /** For t = 0 and 1: 0 no loop t around, 1 one with nothing between, 2 one with an action between. */
        static boolean wellLooped(Term term, int around0, int around1) {
            switch (term.kind) {
                case END:
                    return true;
                case AGAIN:
                    return (term.number == 0 ? around0 : around1) == 2;
                case LOOP:
                    return term.number == 0 ? wellLooped(term.g, 1, around1) : wellLooped(term.g, around0, 1);
                default:
                    int then0 = around0 == 0 ? 0 : 2;
                    int then1 = around1 == 0 ? 0 : 2;
                    return wellLooped(term.g, then0, then1)
                        && (term.h == null || wellLooped(term.h, then0, then1));
            }
        }

        int protocol() {
            if (stack.size() != 1) {
                return ProtocolRoles.TOO_FEW;
            }
            if (!wellLooped(stack.get(0), 0, 0)) {
                return ProtocolRoles.BAD_LOOP;
            }
            protocol = stack.get(0);
            int n = made;
            discard();
            restart();
            return n;
        }

        void restart() {
            run = new Run(protocol);
        }

        int send(int role, int pick, int value) {
            return noRole(role) ? ProtocolRoles.BAD_ARG : run.send(role, pick, value);
        }

        int receive(int role) {
            return noRole(role) ? ProtocolRoles.BAD_ARG : run.receive(role);
        }

        int got(int role) {
            return noRole(role) ? ProtocolRoles.BAD_ARG : run.got[role];
        }

        int state(int role) {
            return noRole(role) ? ProtocolRoles.BAD_ARG : run.state(role);
        }

        int partner(int role) {
            return noRole(role) ? ProtocolRoles.BAD_ARG : run.partner(role);
        }

        int onWay(int p, int q) {
            return noRole(p) || noRole(q) ? ProtocolRoles.BAD_ARG : run.onWay(p, q);
        }
    }

    private static final int OBJECTS = 1500;
    private static final int CALLS = 512;
    private static final int SEARCH_LIMIT = 1500;

    private static long seed = 20261115;
    private static int wrong = 0;
    private static final int[] finishAnswers = new int[3];
    private static final int[] stateAnswers = new int[5];
    private static int badLoops = 0;

    private final ProtocolRoles x = new ProtocolRoles();
    private final Model model = new Model();
    private final StringBuilder story = new StringBuilder();
    private int calls = 0;

    private static int below(int n) {
        seed = seed * 6364136223846793005L + 1442695040888963407L;
        return (int) ((seed >>> 33) % n);
    }

    private static boolean rarely() {
        return below(40) == 0;
    }

    private static int someRole() {
        return rarely() ? below(8) - 3 : below(3);
    }

    private static int someMark() {
        return rarely() ? below(6) - 2 : below(2);
    }

    private void same(String call, int got, int want) {
        calls++;
        story.append(call).append(" = ").append(got).append('\n');
        if (got != want) {
            wrong++;
            if (wrong == 1) {
                System.out.print(story);
            }
            System.out.println(call + " answered " + got + ", due is " + want);
        }
    }

    private void end() {
        same("end()", x.end(), model.push(Kind.END, 0, 0, 0, 0));
    }

    private void message(int p, int q, int l) {
        same("message(" + p + ", " + q + ", " + l + ")", x.message(p, q, l), model.message(p, q, l));
    }

    private void choose(int p) {
        same("choose(" + p + ")", x.choose(p), model.choose(p));
    }

    private void loop(int t) {
        same("loop(" + t + ")", x.loop(t), model.loop(t));
    }

    private void again(int t) {
        same("again(" + t + ")", x.again(t), model.again(t));
    }

    /** Builds a random protocol of about the given size; around has bit t set inside a loop t. */
    private void build(int size, int around) {
        int what = below(10);
        if (size <= 1) {
            if (around != 0 && below(3) != 0) {
                again(around == 3 || rarely() ? below(2) : around - 1);
            } else {
                end();
            }
        } else if (what < 5 || size == 2) {
            build(size - 1, around);
            int p = someRole();
            message(p, rarely() ? p : (p + 1 + below(2)) % 3, rarely() ? below(9) - 2 : below(4));
        } else if (what < 8) {
            int left = 1 + below(size - 2);
            build(left, around);
            build(size - 1 - left, around);
            choose(someRole());
        } else {
            int t = below(2);
            build(size - 1, around | 1 << t);
            loop(t);
        }
    }

    private void buildSomething() {
        int what = below(12);
        if (what == 0) {
            same("discard()", x.discard(), model.discard());
        } else if (what < 3) {
            end();
        } else if (what < 5) {
            message(someRole(), someRole(), below(4));
        } else if (what < 7) {
            choose(someRole());
        } else if (what < 9) {
            loop(someMark());
        } else {
            again(someMark());
        }
    }

    private void beginProtocol() {
        int answer = x.protocol();
        badLoops += answer == ProtocolRoles.BAD_LOOP ? 1 : 0;
        same("protocol()", answer, model.protocol());
    }

    private void send(int role) {
        int pick = someMark();
        int value = below(1000) - 500;
        String call = "send(" + role + ", " + pick + ", " + value + ")";
        same(call, x.send(role, pick, value), model.send(role, pick, value));
    }

    /** One role runs ahead of the others, so that its sendings come to be held. */
    private void runAhead() {
        int role = someRole();
        for (int i = 0; i < 10; i++) {
            send(role);
        }
        same("state(" + role + ")", x.state(role), model.state(role));
    }

    private void act() {
        int role = someRole();
        if (below(2) == 0) {
            send(role);
        } else {
            same("receive(" + role + ")", x.receive(role), model.receive(role));
        }
    }

    private void ask() {
        int p = someRole();
        int q = someRole();
        int what = below(6);
        if (what == 0) {
            same("got(" + p + ")", x.got(p), model.got(p));
        } else if (what == 1) {
            same("partner(" + p + ")", x.partner(p), model.partner(p));
        } else if (what == 2) {
            same("onWay(" + p + ", " + q + ")", x.onWay(p, q), model.onWay(p, q));
        } else if (what == 3) {
            same("sent()", x.sent(), model.run.sent);
        } else {
            int answer = x.state(p);
            if (answer >= 0) {
                stateAnswers[answer]++;
            }
            same("state(" + p + ")", answer, model.state(p));
        }
    }

    private void askCanFinish() {
        int want = model.run.canFinish(SEARCH_LIMIT);
        finishAnswers[want + 1]++;
        if (want >= 0) {
            same("canFinish()", x.canFinish(), want);
        }
    }

    private void useObject(int sizes) {
        while (calls < CALLS - 60) {
            if (rarely()) {
                buildSomething();
            } else if (below(90) == 0) {
                same("discard()", x.discard(), model.discard());
                build(1 + below(sizes), 0);
                beginProtocol();
                askCanFinish();
            } else if (below(150) == 0) {
                x.restart();
                model.restart();
                calls++;
                story.append("restart()\n");
            } else if (below(120) == 0) {
                beginProtocol();
            } else if (below(60) == 0) {
                askCanFinish();
            } else if (below(60) == 0) {
                runAhead();
            } else if (below(3) == 0) {
                act();
            } else {
                ask();
            }
        }
    }

    public static void main(String[] args) {
        for (int i = 0; i < OBJECTS && wrong == 0; i++) {
            new ModelTest().useObject(i % 2 == 0 ? 7 : 21);
        }
        System.out.println("canFinish compared: " + finishAnswers[1] + " times 0, " + finishAnswers[2]
            + " times 1, too long to try " + finishAnswers[0] + " times");
        System.out.println("states compared: " + Arrays.toString(stateAnswers)
            + ", bad loops: " + badLoops);
        boolean enough = finishAnswers[1] > 100 && finishAnswers[2] > 100 && badLoops > 100;
        for (int n : stateAnswers) {
            enough &= n > 100;
        }
        System.out.println(wrong != 0 ? "not as the model" : enough ? "all as the model" : "too little compared");
        if (wrong != 0 || !enough) {
            System.exit(1);
        }
    }
}
