import java.util.ArrayDeque;
import java.util.ArrayList;
import java.util.HashSet;
import java.util.List;
import java.util.Set;

/**
 * Does what the document's words say: it writes the path down, looks through it for each role's next
 * action, and tries all further actions for canFinish.
 */
public final class Model {
    private enum Kind { END, MESSAGE, CHOOSE, LOOP, AGAIN }

    private static final class Term {
        static int terms = 0;
        final int id = terms++;
        final Kind kind;
        final int p;
        final int q;
        final int number;
        final Term g;
        final Term h;

        Term(Kind kind, int p, int q, int number, Term g, Term h) {
            this.kind = kind;
            this.p = p;
            this.q = q;
            this.number = number;
            this.g = g;
            this.h = h;
        }
    }

    /** A place in the protocol, with the loops 0 and 1 that are nearest around it. */
    private record Place(Term term, Place loop0, Place loop1) {
        Place at(Term next) {
            return new Place(next, loop0, loop1);
        }

        Place intoLoop() {
            return term.number == 0 ? new Place(term.g, this, loop1) : new Place(term.g, loop0, this);
        }
    }

    private static final class Step {
        final Term origin;
        final int from;
        final int to;
        final int label;
        boolean sent;
        boolean received;
        int value;

        Step(Term origin, int from, int to, int label) {
            this.origin = origin;
            this.from = from;
            this.to = to;
            this.label = label;
        }

        Step copy() {
            Step c = new Step(origin, from, to, label);
            c.sent = sent;
            c.received = received;
            c.value = value;
            return c;
        }
    }

    private static final class Run {
        // Longer than any stretch of the path in which a role that is not over can be idle.
        static final int FAR = 60;
        static final int SEARCH_LIMIT = 100000;
        final List<Step> path = new ArrayList<>();
        final int[] got = new int[3];
        Place walk;
        int sent;

        Run(Term protocol) {
            walk = new Place(protocol, null, null);
            skipLoops();
        }

        Run copy() {
            Run c = new Run(walk.term);
            c.walk = walk;
            for (Step s : path) {
                if (!s.received) {
                    c.path.add(s.copy());
                }
            }
            return c;
        }

        void skipLoops() {
            while (walk.term.kind == Kind.LOOP || walk.term.kind == Kind.AGAIN) {
                Place loop = walk;
                if (walk.term.kind == Kind.AGAIN) {
                    loop = walk.term.number == 0 ? walk.loop0 : walk.loop1;
                }
                walk = loop.intoLoop();
            }
        }

        void walkOn() {
            Term m = walk.term;
            path.add(new Step(m, m.p, m.q, m.number));
            walk = walk.at(m.g);
            skipLoops();
        }

        Step nextStep(int role) {
            for (Step s : path) {
                if (s.from == role && !s.sent || s.to == role && !s.received) {
                    return s;
                }
            }
            for (int i = 0; i < FAR && walk.term.kind == Kind.MESSAGE; i++) {
                walkOn();
                Step s = path.get(path.size() - 1);
                if (s.from == role || s.to == role) {
                    return s;
                }
            }
            return null;
        }

        boolean standsAtChoose() {
            return walk.term.kind == Kind.CHOOSE;
        }

        boolean isPicking(int role) {
            return nextStep(role) == null && standsAtChoose() && walk.term.p == role;
        }

        int onWay(int p, int q) {
            int n = 0;
            for (Step s : path) {
                n += s.from == p && s.to == q && s.sent && !s.received ? 1 : 0;
            }
            return n;
        }

        static int lesser(int p) {
            return p == 0 ? 1 : 0;
        }

        int partner(int role) {
            Step s = nextStep(role);
            if (s != null) {
                return s.from == role ? s.to : s.from;
            }
            if (!standsAtChoose()) {
                return ProtocolRoles.NONE;
            }
            return walk.term.p == role ? lesser(role) : walk.term.p;
        }

        int state(int role) {
            Step s = nextStep(role);
            boolean picking = isPicking(role);
            if (s == null && !picking) {
                return standsAtChoose() ? ProtocolRoles.WAITS : ProtocolRoles.OVER;
            }
            if (picking || s.from == role) {
                return onWay(role, partner(role)) < 4 ? ProtocolRoles.MAY_SEND : ProtocolRoles.HELD;
            }
            return s.sent ? ProtocolRoles.MAY_RECEIVE : ProtocolRoles.WAITS;
        }

        int send(int role, int pick, int value) {
            if (state(role) != ProtocolRoles.MAY_SEND) {
                return ProtocolRoles.NONE;
            }
            if (isPicking(role)) {
                if (pick != 0 && pick != 1) {
                    return ProtocolRoles.BAD_ARG;
                }
                Term c = walk.term;
                path.add(new Step(c, role, lesser(role), pick));
                path.add(new Step(c, role, 3 - role - lesser(role), pick));
                walk = walk.at(pick == 0 ? c.g : c.h);
                skipLoops();
            }
            Step s = nextStep(role);
            s.sent = true;
            s.value = value;
            sent++;
            return s.label;
        }

        int receive(int role) {
            if (state(role) != ProtocolRoles.MAY_RECEIVE) {
                return ProtocolRoles.NONE;
            }
            Step s = nextStep(role);
            s.received = true;
            got[role] = s.value;
            return s.label;
        }

        boolean finished() {
            for (int role = 0; role < 3; role++) {
                if (state(role) != ProtocolRoles.OVER) {
                    return false;
                }
            }
            return path.stream().noneMatch(s -> s.sent && !s.received);
        }

        /** Equal for two runs from which the same can come. */
        String key() {
            int touched = 0;
            for (int i = 0; i < path.size(); i++) {
                touched = path.get(i).sent ? i + 1 : touched;
            }
            StringBuilder key = new StringBuilder();
            for (int i = 0; i < path.size() && i <= touched; i++) {
                Step s = path.get(i);
                if (!s.received) {
                    key.append(s.origin.id).append(':').append(s.to).append(s.label);
                    key.append(i < touched ? s.sent ? "s " : "u " : "");
                }
            }
            if (path.size() <= touched) {
                key.append(walk.term.id);
                Term m = walk.term;
                key.append(m.kind == Kind.MESSAGE ? ":" + m.q + m.number : "");
            }
            return key.toString();
        }

        int canFinish() {
            Set<String> seen = new HashSet<>();
            ArrayDeque<Run> open = new ArrayDeque<>();
            open.add(copy());
            while (!open.isEmpty()) {
                Run run = open.removeLast();
                if (!seen.add(run.key())) {
                    continue;
                }
                if (run.finished()) {
                    return 1;
                }
                if (seen.size() > SEARCH_LIMIT) {
                    throw new IllegalStateException("too many runs to try");
                }
                for (int act = 0; act < 9; act++) {
                    Run after = run.copy();
                    int role = act % 3;
                    int answer = act < 6 ? after.send(role, act / 3, 0) : after.receive(role);
                    if (answer >= 0) {
                        open.add(after);
                    }
                }
            }
            return 0;
        }
    }

    private final List<Term> stack = new ArrayList<>();
    private int made;
    private Term protocol = new Term(Kind.END, 0, 0, 0, null, null);
    private Run run = new Run(protocol);

    private static boolean noRole(int r) {
        return r < 0 || r > 2;
    }

    /** The answer that is due to a call told as text, as in Calls. */
    int answer(String call) {
        String[] w = call.split(" ");
        int[] a = new int[3];
        for (int i = 1; i < w.length; i++) {
            a[i - 1] = Integer.parseInt(w[i]);
        }
        switch (w[0]) {
            case "end": return end();
            case "message": return message(a[0], a[1], a[2]);
            case "choose": return choose(a[0]);
            case "loop": return loop(a[0]);
            case "again": return again(a[0]);
            case "discard": return discard();
            case "protocol": return protocol();
            case "send": return send(a[0], a[1], a[2]);
            case "receive": return receive(a[0]);
            case "got": return got(a[0]);
            case "state": return state(a[0]);
            case "partner": return partner(a[0]);
            case "onWay": return onWay(a[0], a[1]);
            case "sent": return sent();
            case "canFinish": return canFinish();
            default: throw new IllegalArgumentException("no such call: " + call);
        }
    }

    int end() {
        return push(Kind.END, 0, 0, 0, 0);
    }

    private int push(Kind kind, int p, int q, int number, int parts) {
        if (made == 20) {
            return ProtocolRoles.FULL;
        }
        if (stack.size() < parts) {
            return ProtocolRoles.TOO_FEW;
        }
        Term h = parts == 2 ? stack.remove(stack.size() - 1) : null;
        Term g = parts >= 1 ? stack.remove(stack.size() - 1) : null;
        stack.add(new Term(kind, p, q, number, g, h));
        made++;
        return stack.size();
    }

    int message(int p, int q, int l) {
        boolean bad = noRole(p) || noRole(q) || p == q || l < 0 || l > 3;
        return bad ? ProtocolRoles.BAD_ARG : push(Kind.MESSAGE, p, q, l, 1);
    }

    int choose(int p) {
        return noRole(p) ? ProtocolRoles.BAD_ARG : push(Kind.CHOOSE, p, 0, 0, 2);
    }

    int loop(int t) {
        return t < 0 || t > 1 ? ProtocolRoles.BAD_ARG : push(Kind.LOOP, 0, 0, t, 1);
    }

    int again(int t) {
        return t < 0 || t > 1 ? ProtocolRoles.BAD_ARG : push(Kind.AGAIN, 0, 0, t, 0);
    }

    int discard() {
        int n = stack.size();
        stack.clear();
        made = 0;
        return n;
    }

    /** For t = 0 and 1: 0 no loop t around, 1 one with nothing between, 2 one with an action between. */
    private static boolean wellLooped(Term term, int around0, int around1) {
        switch (term.kind) {
            case END:
                return true;
            case AGAIN:
                return (term.number == 0 ? around0 : around1) == 2;
            case LOOP:
                return term.number == 0 ? wellLooped(term.g, 1, around1) : wellLooped(term.g, around0, 1);
            default:
                int then0 = around0 == 0 ? 0 : 2;
                int then1 = around1 == 0 ? 0 : 2;
                return wellLooped(term.g, then0, then1)
                    && (term.h == null || wellLooped(term.h, then0, then1));
        }
    }

    int protocol() {
        if (stack.size() != 1) {
            return ProtocolRoles.TOO_FEW;
        }
        if (!wellLooped(stack.get(0), 0, 0)) {
            return ProtocolRoles.BAD_LOOP;
        }
        protocol = stack.get(0);
        int n = made;
        discard();
        restart();
        return n;
    }

    void restart() {
        run = new Run(protocol);
    }

    int send(int role, int pick, int value) {
        return noRole(role) ? ProtocolRoles.BAD_ARG : run.send(role, pick, value);
    }

    int receive(int role) {
        return noRole(role) ? ProtocolRoles.BAD_ARG : run.receive(role);
    }

    int got(int role) {
        return noRole(role) ? ProtocolRoles.BAD_ARG : run.got[role];
    }

    int state(int role) {
        return noRole(role) ? ProtocolRoles.BAD_ARG : run.state(role);
    }

    int partner(int role) {
        return noRole(role) ? ProtocolRoles.BAD_ARG : run.partner(role);
    }

    int onWay(int p, int q) {
        return noRole(p) || noRole(q) ? ProtocolRoles.BAD_ARG : run.onWay(p, q);
    }

    int sent() {
        return run.sent;
    }

    int canFinish() {
        return run.canFinish();
    }

    boolean isPicking(int role) {
        return run.isPicking(role);
    }
}
