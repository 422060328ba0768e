/** The boundary cases of promises 1 to 8, sentence by sentence. */
public final class BuildingBoundaries {
    private static final int BAD_ARG = Sentences.BAD_ARG;
    private static final int FULL = Sentences.FULL;
    private static final int TOO_FEW = Sentences.TOO_FEW;
    private static final int NONE = Sentences.NONE;
    private static final int BAD_LOOP = Sentences.BAD_LOOP;
    private static final int OVER = Sentences.OVER;
    private static final int MAY_SEND = Sentences.MAY_SEND;
    private static final int MAY_RECEIVE = Sentences.MAY_RECEIVE;
    private static final int WAITS = Sentences.WAITS;

    private static final int[] NO_ROLES = {-1, 3, Integer.MIN_VALUE, Integer.MAX_VALUE};
    private static final int[] NO_LABELS = {-1, 4, Integer.MIN_VALUE, Integer.MAX_VALUE};
    private static final int[] NO_MARKS = {-1, 2, Integer.MIN_VALUE, Integer.MAX_VALUE};
    private static final String[] TERM_CALLS = {"end", "message 0 1 0", "choose 0", "loop 0", "again 0"};

    private static void newObject() {
        Sentences.under("Promise 1: A new object");
        Sentences.sentence("The protocol is end", () -> {
            Calls.after("").states(OVER, OVER, OVER).partners(NONE, NONE, NONE)
                .due("sent, canFinish, got 0, got 1, got 2", 0, 1, 0, 0, 0)
                .due("send 0 0 0, send 1 1 1, send 2 0 0, receive 0, receive 1, receive 2", NONE);
            Sentences.alike("end, protocol", "");
            Sentences.alike("", "restart");
        });
        Sentences.sentence("the stack is empty", () -> {
            Calls.after("").due("discard", 0);
            Sentences.refused("", "protocol", TOO_FEW);
            Sentences.refused("", "message 0 1 0", TOO_FEW);
            Sentences.refused("", "loop 0", TOO_FEW);
            Sentences.refused("", "choose 0", TOO_FEW);
            Calls.after("").due("end", 1);
            Calls.after("").due("again 1", 1);
            Calls.after("").due("20x end, end", upTo(20, FULL));
        });
    }

    /** 1, 2, .. last, and then the code. */
    private static int[] upTo(int last, int code) {
        int[] answers = new int[last + 1];
        for (int i = 0; i < last; i++) {
            answers[i] = i + 1;
        }
        answers[last] = code;
        return answers;
    }

    private static void end() {
        Sentences.under("Promise 2: end");
        Sentences.sentence("Pushes end.", () -> {
            Calls.after("end, protocol").states(OVER, OVER, OVER).due("canFinish", 1);
            Calls.after("again 0, message 0 1 2, loop 0, end").due("discard", 2);
        });
        Sentences.sentence("FULL if 20 terms were made", () -> {
            Calls.after("19x end").due("end", 20);
            Sentences.refused("20x end", "end", FULL);
            Calls.after("end, 18x message 0 1 0").due("end", 2);
            Sentences.refused("end, 19x message 0 1 0", "end", FULL);
            Sentences.refused("10x end, 9x choose 0, loop 0", "end", FULL);
            Calls.after("10x end, 9x choose 0").due("end", 2);
            Sentences.refused("10x again 0, 10x loop 1", "end", FULL);
            Calls.after("20x end").due("5x end", FULL).due("discard", 20);
        });
        Sentences.sentence("since the stack was last emptied by a call of discard or protocol.", () -> {
            Calls.after("20x end, discard").due("20x end, end", upTo(20, FULL));
            Calls.after("19x end, discard, discard").due("20x end, end", upTo(20, FULL));
            Calls.after("end, 19x message 0 1 0, protocol").due("20x end, end", upTo(20, FULL));
            Calls.after("end, protocol").due("20x end, end", upTo(20, FULL));
            Calls.after("20x end, discard, 20x end, discard").due("20x end, end", upTo(20, FULL));
            Sentences.refused("20x end, !protocol", "end", FULL);
            Sentences.refused("again 0, 19x message 0 1 0, !protocol", "end", FULL);
            Sentences.refused("20x end, restart", "end", FULL);
            Sentences.refused("end, message 0 1 0, protocol, 20x end, send 0 0 0, receive 1", "end", FULL);
        });
        Sentences.sentence("Otherwise the number on the stack.", () -> {
            Calls.after("").due("20x end, end", upTo(20, FULL));
            Calls.after("2x end, choose 0").due("end", 2);
            Calls.after("end, loop 0, message 0 1 0").due("end", 2);
            Calls.after("3x end, discard").due("end", 1);
            Calls.after("end, protocol").due("end", 1);
        });
    }

    private static void messageArguments() {
        Sentences.under("Promise 3: message");
        Sentences.sentence("p or q is no role", () -> {
            for (int bad : NO_ROLES) {
                Sentences.refused("end", "message " + bad + " 1 0", BAD_ARG);
                Sentences.refused("end", "message 1 " + bad + " 0", BAD_ARG);
                Sentences.refused("end", "message " + bad + " " + bad + " 0", BAD_ARG);
            }
            for (int p = 0; p < 3; p++) {
                Calls.after("end").due("message " + p + " " + (p + 1) % 3 + " 0", 1);
                Calls.after("end").due("message " + p + " " + (p + 2) % 3 + " 0", 1);
            }
        });
        Sentences.sentence("p = q", () -> {
            for (int p = 0; p < 3; p++) {
                Sentences.refused("end", "message " + p + " " + p + " 0", BAD_ARG);
                Sentences.refused("end", "message " + p + " " + p + " 3", BAD_ARG);
            }
        });
        Sentences.sentence("l not 0 to 3 answers BAD_ARG", () -> {
            for (int bad : NO_LABELS) {
                Sentences.refused("end", "message 0 1 " + bad, BAD_ARG);
                Sentences.refused("2x end", "message 2 0 " + bad, BAD_ARG);
            }
            for (int label = 0; label < 4; label++) {
                Calls.after("end").due("message 0 1 " + label, 1)
                    .due("protocol, send 0 0 0, receive 1", 2, label, label);
            }
        });
    }

    private static void message() {
        Sentences.under("Promise 3: message");
        Sentences.sentence("Takes G off and pushes message p q l.", () -> {
            Calls.after("end, end, message 0 1 2").due("discard", 2);
            Calls.after("end, again 0, message 1 2 3, choose 0, loop 0, protocol, send 0 1 0, send 0 1 0")
                .due("receive 1, receive 2, send 1 0 0, receive 2, state 0", 1, 1, 3, 3, MAY_SEND);
            Calls.after("end, message 2 1 3, protocol").states(OVER, WAITS, MAY_SEND)
                .due("send 2 0 0, receive 1", 3).states(OVER, OVER, OVER);
        });
        Sentences.sentence("FULL as for end", () -> {
            Calls.after("19x end").due("message 0 1 0", 19);
            Sentences.refused("20x end", "message 0 1 0", FULL);
            Calls.after("end, 18x message 0 1 0").due("message 0 1 0", 1);
            Sentences.refused("end, 19x message 0 1 0", "message 0 1 0", FULL);
            Calls.after("20x end, discard, end").due("message 0 1 0", 1);
            Calls.after("end, 19x loop 0, protocol, end").due("19x message 0 1 0", 1).due("message 0 1 0", FULL);
        });
        Sentences.sentence("an empty stack answers TOO_FEW", () -> {
            Sentences.refused("", "message 0 1 0", TOO_FEW);
            Sentences.refused("end, discard", "message 0 1 0", TOO_FEW);
            Sentences.refused("end, protocol", "message 0 1 0", TOO_FEW);
            Sentences.refused("20x end, discard", "message 0 1 0", TOO_FEW);
            Calls.after("end").due("message 0 1 0", 1);
        });
        // FULL and TOO_FEW can't meet here, nor in loop: where the stack is empty no term has been made.
        Sentences.sentence("Tested in this order", () -> {
            String[] bad = {"message 3 1 0", "message 0 -1 0", "message 1 1 0", "message 0 1 4", "message 0 1 -1"};
            for (String call : bad) {
                Sentences.refused("", call, BAD_ARG);
                Sentences.refused("end, 19x message 0 1 0", call, BAD_ARG);
                Sentences.refused("20x end", call, BAD_ARG);
            }
        });
        Sentences.sentence("Otherwise the number on the stack.", () -> {
            Calls.after("end").due("message 0 1 0, message 1 2 1, message 2 0 3", 1);
            Calls.after("19x end").due("message 0 1 0", 19);
            Calls.after("3x end, choose 0").due("message 0 1 0", 2);
        });
    }

    private static void choose() {
        Sentences.under("Promise 4: choose");
        Sentences.sentence("Takes G and, on top of it, H off and pushes choose p.", () -> {
            String labels = "end, end, message 1 2 2, end, message 1 2 3, choose 0";
            Calls.after(labels).due("discard", 2);
            String scene = labels + ", message 0 1 1, choose 0, protocol";
            Calls.after(scene + ", send 0 0 0, send 0 0 0").states(OVER, MAY_RECEIVE, MAY_RECEIVE);
            Calls.after("end, message 1 2 2, end, message 1 2 3, choose 0, protocol")
                .due("send 0 0 0, send 0 0 0, receive 1, send 1 0 0, receive 2, receive 2", 0, 0, 0, 2, 0, 2);
            Calls.after("end, message 1 2 2, end, message 1 2 3, choose 0, protocol")
                .due("send 0 1 0, send 0 1 0, receive 1, send 1 0 0, receive 2, receive 2", 1, 1, 1, 3, 1, 3);
            for (int p = 0; p < 3; p++) {
                Calls.after("end, end, choose " + p + ", protocol")
                    .states(p == 0 ? MAY_SEND : WAITS, p == 1 ? MAY_SEND : WAITS, p == 2 ? MAY_SEND : WAITS);
            }
        });
        Sentences.sentence("p is no role answers BAD_ARG", () -> {
            for (int bad : NO_ROLES) {
                Sentences.refused("end, end", "choose " + bad, BAD_ARG);
            }
            for (int p = 0; p < 3; p++) {
                Calls.after("end, end").due("choose " + p, 1);
            }
        });
        Sentences.sentence("FULL as for end", () -> {
            Calls.after("19x end").due("choose 1", 18);
            Sentences.refused("20x end", "choose 1", FULL);
            Calls.after("2x end, 17x message 0 1 0").due("choose 2", 1);
            Sentences.refused("2x end, 18x message 0 1 0", "choose 2", FULL);
            Calls.after("20x end, discard, 2x end").due("choose 0", 1);
            Calls.after("end, 19x loop 0, protocol, 10x end").due("9x choose 0", 9, 8, 7, 6, 5, 4, 3, 2, 1);
        });
        Sentences.sentence("fewer than two answers TOO_FEW", () -> {
            Sentences.refused("", "choose 0", TOO_FEW);
            Sentences.refused("end", "choose 0", TOO_FEW);
            Sentences.refused("2x end, choose 1", "choose 0", TOO_FEW);
            Sentences.refused("2x end, discard, end", "choose 0", TOO_FEW);
            Sentences.refused("end, protocol, end", "choose 0", TOO_FEW);
            Calls.after("2x end").due("choose 0", 1);
            Calls.after("end, again 0").due("choose 0", 1);
        });
        Sentences.sentence("Tested in this order", () -> {
            for (int bad : NO_ROLES) {
                Sentences.refused("", "choose " + bad, BAD_ARG);
                Sentences.refused("end", "choose " + bad, BAD_ARG);
                Sentences.refused("20x end", "choose " + bad, BAD_ARG);
                Sentences.refused("end, 19x message 0 1 0", "choose " + bad, BAD_ARG);
            }
            Sentences.refused("end, 19x message 0 1 0", "choose 0", FULL);
            Sentences.refused("10x end, 9x choose 0, loop 0", "choose 0", FULL);
        });
        Sentences.sentence("Otherwise the number on the stack.", () -> {
            Calls.after("4x end").due("choose 0, choose 1, choose 2", 3, 2, 1);
            Calls.after("19x end").due("choose 0", 18);
        });
    }

    private static void loop() {
        Sentences.under("Promise 5: loop");
        Sentences.sentence("Takes G off and pushes loop t.", () -> {
            Calls.after("end, end, loop 0").due("discard", 2);
            Calls.after("end, again 1, message 0 1 2, loop 1, choose 0, protocol, send 0 1 0, send 0 1 0")
                .due("send 0 0 0, send 0 0 0, send 0 0 0", 2).due("send 0 0 0", NONE);
            Calls.after("again 0, message 0 1 2").due("loop 1, protocol, loop 0, protocol", 1, BAD_LOOP, 1, 4);
            Calls.after("again 1, message 0 1 2").due("loop 0, protocol, loop 1, protocol", 1, BAD_LOOP, 1, 4);
        });
        Sentences.sentence("t not 0 or 1 answers BAD_ARG", () -> {
            for (int bad : NO_MARKS) {
                Sentences.refused("end", "loop " + bad, BAD_ARG);
            }
            Calls.after("end").due("loop 0, loop 1", 1);
        });
        Sentences.sentence("FULL as for end", () -> {
            Calls.after("19x end").due("loop 0", 19);
            Sentences.refused("20x end", "loop 0", FULL);
            Calls.after("end, 18x loop 1").due("loop 1", 1);
            Sentences.refused("end, 19x loop 1", "loop 1", FULL);
            Calls.after("20x end, discard, end").due("loop 1", 1);
            Calls.after("end, 19x loop 0, protocol, end").due("19x loop 1", 1).due("loop 0", FULL);
        });
        Sentences.sentence("an empty stack answers TOO_FEW", () -> {
            Sentences.refused("", "loop 0", TOO_FEW);
            Sentences.refused("", "loop 1", TOO_FEW);
            Sentences.refused("end, discard", "loop 0", TOO_FEW);
            Sentences.refused("end, protocol", "loop 1", TOO_FEW);
            Calls.after("end").due("loop 0", 1);
        });
        Sentences.sentence("Tested in this order", () -> {
            for (int bad : NO_MARKS) {
                Sentences.refused("", "loop " + bad, BAD_ARG);
                Sentences.refused("20x end", "loop " + bad, BAD_ARG);
                Sentences.refused("end, 19x loop 0", "loop " + bad, BAD_ARG);
            }
        });
        Sentences.sentence("Otherwise the number on the stack.", () -> {
            Calls.after("end").due("loop 0, loop 0, loop 1", 1);
            Calls.after("19x end").due("loop 1", 19);
        });
    }

    private static void again() {
        Sentences.under("Promise 6: again");
        Sentences.sentence("Pushes again t.", () -> {
            Calls.after("end, again 0").due("discard", 2);
            for (int t = 0; t < 2; t++) {
                Calls.after("again " + t + ", message 0 1 2, loop " + t + ", message 0 1 1, loop " + (1 - t)
                    + ", protocol").due("send 0 0 0, send 0 0 0, send 0 0 0", 1, 2, 2);
                Calls.after("again " + t + ", message 0 1 2, loop " + (1 - t) + ", message 0 1 1, loop " + t
                    + ", protocol").due("send 0 0 0, send 0 0 0, send 0 0 0", 1, 2, 1);
            }
        });
        Sentences.sentence("t not 0 or 1 answers BAD_ARG", () -> {
            for (int bad : NO_MARKS) {
                Sentences.refused("", "again " + bad, BAD_ARG);
                Sentences.refused("end", "again " + bad, BAD_ARG);
            }
            Calls.after("").due("again 0, again 1", 1, 2);
        });
        Sentences.sentence("FULL as for end", () -> {
            Calls.after("19x end").due("again 0", 20);
            Sentences.refused("20x end", "again 0", FULL);
            Calls.after("end, 18x message 0 1 0").due("again 1", 2);
            Sentences.refused("end, 19x message 0 1 0", "again 1", FULL);
            Calls.after("20x again 1, discard").due("20x again 0, again 0", upTo(20, FULL));
            Calls.after("end, 19x loop 0, protocol").due("20x again 1, again 1", upTo(20, FULL));
        });
        Sentences.sentence("Tested in this order", () -> {
            for (int bad : NO_MARKS) {
                Sentences.refused("20x end", "again " + bad, BAD_ARG);
                Sentences.refused("end, 19x loop 0", "again " + bad, BAD_ARG);
            }
        });
        Sentences.sentence("Otherwise the number on the stack.", () -> {
            Calls.after("").due("20x again 0, again 0", upTo(20, FULL));
            Calls.after("2x end, choose 0").due("again 1", 2);
        });
    }

    private static void discard() {
        Sentences.under("Promise 7: discard");
        Sentences.sentence("Empties the stack", () -> {
            String[] scenes = {"end", "20x end", "again 0", "end, message 0 1 2", "2x end, choose 0, again 1",
                "again 0, !protocol", "2x end, !protocol"};
            for (String scene : scenes) {
                Sentences.alike("", scene + ", discard");
                Calls.after(scene + ", discard").due("protocol, message 0 1 0, choose 0, loop 0", TOO_FEW);
            }
            String run = "again 0, message 0 1 2, loop 0, protocol, 3x send 0 0 7, receive 1";
            Sentences.alike(run, run + ", 2x end, message 1 2 0, discard");
            Sentences.alike(run, run + ", discard");
        });
        Sentences.sentence("answers how many there were.", () -> {
            Calls.after("").due("discard, discard", 0);
            for (int n = 1; n <= 20; n++) {
                Calls.after(n + "x end").due("discard, discard", n, 0);
            }
            Calls.after("end, 19x message 0 1 0").due("discard", 1);
            Calls.after("10x end, 9x choose 0").due("discard", 1);
            Calls.after("10x end, 8x choose 0").due("discard", 2);
            Calls.after("20x end, !end, !again 0").due("discard", 20);
            Calls.after("end, protocol").due("discard", 0);
        });
    }

    private static void protocol() {
        Sentences.under("Promise 8: protocol");
        Sentences.sentence("The one term on the stack becomes the protocol, and its run begins", () -> {
            String before = "again 0, message 0 1 2, loop 0, protocol, 4x send 0 0 7, receive 1, ";
            Sentences.alike("end, message 1 2 3, protocol", before + "end, message 1 2 3, protocol");
            Calls.after(before + "end, message 1 2 3").states(MAY_SEND, MAY_RECEIVE, OVER)
                .due("protocol", 2).states(OVER, MAY_SEND, WAITS)
                .due("sent, onWay 0 1, got 1, send 1 0 0", 0, 0, 0, 3);
            String halfPicked = "2x end, choose 0, protocol, send 0 1 5, ";
            Sentences.alike("2x end, choose 0, protocol", halfPicked + "2x end, choose 0, protocol");
            Sentences.alike("end, protocol", halfPicked + "end, protocol");
        });
        Sentences.sentence("the stack is empty afterwards.", () -> {
            Calls.after("end, protocol").due("discard", 0);
            Calls.after("end, 19x message 0 1 0, protocol").due("discard", 0);
            Sentences.refused("end, protocol", "protocol", TOO_FEW);
            Sentences.refused("end, message 0 1 0, protocol", "loop 0", TOO_FEW);
            Sentences.refused("end, message 0 1 0, protocol, end", "choose 0", TOO_FEW);
            Sentences.alike("end, protocol", "end, protocol, end, protocol");
        });
        Sentences.sentence("not just one term answers TOO_FEW", () -> {
            Sentences.refused("", "protocol", TOO_FEW);
            Calls.after("end").due("protocol", 1);
            for (int n = 2; n <= 20; n++) {
                Sentences.refused(n + "x end", "protocol", TOO_FEW);
            }
            Sentences.refused("3x end, choose 0", "protocol", TOO_FEW);
            Sentences.refused("end, discard", "protocol", TOO_FEW);
            Sentences.refused("end, message 0 1 0, protocol, send 0 0 5", "protocol", TOO_FEW);
            Sentences.refused("end, message 0 1 0, protocol, send 0 0 5, 2x end", "protocol", TOO_FEW);
        });
        Sentences.sentence("BAD_LOOP as said", () -> {
            Sentences.refused("again 0", "protocol", BAD_LOOP);
            Sentences.refused("again 1", "protocol", BAD_LOOP);
            Sentences.refused("again 0, loop 0", "protocol", BAD_LOOP);
            Sentences.refused("end, message 0 1 0, protocol, send 0 0 5, again 1, loop 1", "protocol", BAD_LOOP);
            Sentences.refused("again 1, 19x message 0 1 0", "protocol", BAD_LOOP);
            Calls.after("again 0, !protocol, message 0 1 0, !protocol, loop 0").due("protocol", 3);
        });
        Sentences.sentence("Tested in this order", () -> {
            Sentences.refused("2x again 0", "protocol", TOO_FEW);
            Sentences.refused("end, again 0", "protocol", TOO_FEW);
            Sentences.refused("again 0, end", "protocol", TOO_FEW);
            Sentences.refused("again 1, loop 1, end", "protocol", TOO_FEW);
            Sentences.refused("again 1, loop 1, again 1, loop 1", "protocol", TOO_FEW);
            Sentences.refused("20x again 0", "protocol", TOO_FEW);
        });
        Sentences.sentence("Otherwise how many terms were made for it.", () -> {
            Calls.after("end").due("protocol", 1);
            for (int n = 1; n <= 19; n++) {
                Calls.after("end, " + n + "x message 0 1 0").due("protocol", n + 1);
            }
            Calls.after("10x end, 9x choose 0").due("protocol", 19);
            Calls.after("10x end, 9x choose 0, loop 0").due("protocol", 20);
            Calls.after("again 1, message 0 1 0, end, choose 0, loop 1").due("protocol", 5);
            Calls.after("4x end, discard, end").due("protocol", 1);
            Calls.after("end, 3x loop 0, protocol, end, loop 0").due("protocol", 2);
            Calls.after("!loop 0, end, !message 0 0 0, !choose 0, !loop 2, loop 1").due("protocol", 2);
            Calls.after("end, 19x loop 0, !loop 0, !end").due("protocol", 20);
        });
    }

    private static void anyTermFillsAndNoneAfter() {
        Sentences.under("Promise 2: end");
        Sentences.sentence("FULL if 20 terms were made since the stack was last emptied", () -> {
            for (String last : TERM_CALLS) {
                for (String more : TERM_CALLS) {
                    Sentences.refused("19x end, " + last, more, FULL);
                }
            }
        });
    }

    public static void main(String[] args) {
        newObject();
        end();
        anyTermFillsAndNoneAfter();
        messageArguments();
        message();
        choose();
        loop();
        again();
        discard();
        protocol();
        Sentences.report();
    }
}
