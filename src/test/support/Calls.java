import java.util.ArrayList;
import java.util.List;

/**
 * A new object and the calls made on it, told as text, so that a test reads like the document:
 * "message 0 1 3" is one call, "4x send 0 0 5" are four, and a comma stands between calls.
 */
public final class Calls {
    public static final int PROMISED_CALLS = 512;

    private final ProtocolRoles x = new ProtocolRoles();
    private final StringBuilder story = new StringBuilder();
    private int made = 0;

    /** The object after these calls; one with "!" before it must be refused, all others must not. */
    public static Calls after(String scene) {
        Calls calls = new Calls();
        for (String call : split(scene)) {
            boolean refusal = call.startsWith("!");
            String plain = refusal ? call.substring(1) : call;
            int answer = calls.answer(plain);
            if (refusal != answer < 0) {
                Sentences.fault(calls.told() + ": answered " + answer + (refusal ? ", not refused" : ", refused"));
            }
        }
        return calls;
    }

    public static List<String> split(String text) {
        List<String> calls = new ArrayList<>();
        for (String part : text.isBlank() ? new String[0] : text.split(",")) {
            String call = part.strip();
            int times = 1;
            if (call.matches("\\d+x .*")) {
                int x = call.indexOf('x');
                times = Integer.parseInt(call.substring(0, x));
                call = call.substring(x + 2);
            }
            for (int i = 0; i < times; i++) {
                calls.add(call);
            }
        }
        return calls;
    }

    public int answer(String call) {
        made++;
        story.append(made == 1 ? "" : ", ").append(call);
        String[] w = call.split(" ");
        int[] a = new int[3];
        for (int i = 1; i < w.length; i++) {
            a[i - 1] = Integer.parseInt(w[i]);
        }
        switch (w[0] + "/" + (w.length - 1)) {
            case "end/0": return x.end();
            case "message/3": return x.message(a[0], a[1], a[2]);
            case "choose/1": return x.choose(a[0]);
            case "loop/1": return x.loop(a[0]);
            case "again/1": return x.again(a[0]);
            case "discard/0": return x.discard();
            case "protocol/0": return x.protocol();
            case "restart/0": x.restart(); return 0;
            case "send/3": return x.send(a[0], a[1], a[2]);
            case "receive/1": return x.receive(a[0]);
            case "got/1": return x.got(a[0]);
            case "state/1": return x.state(a[0]);
            case "partner/1": return x.partner(a[0]);
            case "onWay/2": return x.onWay(a[0], a[1]);
            case "sent/0": return x.sent();
            case "canFinish/0": return x.canFinish();
            default: throw new IllegalArgumentException("no such call: " + call);
        }
    }

    /** Makes the calls, which must answer these numbers, one for each call or one for all. */
    public Calls due(String text, int... wants) {
        List<String> calls = split(text);
        if (wants.length != 1 && wants.length != calls.size()) {
            throw new IllegalArgumentException(calls.size() + " calls, " + wants.length + " answers: " + text);
        }
        for (int i = 0; i < calls.size(); i++) {
            int want = wants[wants.length == 1 ? 0 : i];
            int got = answer(calls.get(i));
            Sentences.tested();
            if (got != want) {
                Sentences.fault(told() + ": answered " + got + ", due is " + want);
            }
        }
        return this;
    }

    public Calls states(int state0, int state1, int state2) {
        return due("state 0, state 1, state 2", state0, state1, state2);
    }

    public Calls partners(int partner0, int partner1, int partner2) {
        return due("partner 0, partner 1, partner 2", partner0, partner1, partner2);
    }

    public int made() {
        return made;
    }

    public String told() {
        return story.length() == 0 ? "a new object" : story.toString();
    }
}
