/** The boundary cases of promises 9 to 17, sentence by sentence. */
public final class RunBoundaries {
    private static final int BAD_ARG = Sentences.BAD_ARG;
    private static final int NONE = Sentences.NONE;
    private static final int OVER = Sentences.OVER;
    private static final int MAY_SEND = Sentences.MAY_SEND;
    private static final int HELD = Sentences.HELD;
    private static final int MAY_RECEIVE = Sentences.MAY_RECEIVE;
    private static final int WAITS = Sentences.WAITS;

    private static final int[] NO_PICKS = {-1, 2, 3, 256, Integer.MIN_VALUE, Integer.MAX_VALUE};
    private static final int LEAST = Integer.MIN_VALUE;
    private static final int GREATEST = Integer.MAX_VALUE;

    private static final String ONE_MESSAGE = "end, message 0 1 3, protocol";
    private static final String FOREVER = "again 0, message 0 1 3, loop 0, protocol";
    private static final String HELD_RUN = FOREVER + ", 4x send 0 0 9";
    private static final String PICKING = "2x end, choose 1, protocol";
    private static final String HALF_TOLD = PICKING + ", send 1 1 9";
    private static final String HELD_PICKING = "2x end, choose 0, 4x message 0 1 3, protocol, 4x send 0 0 9";
    private static final String HELD_TELLING = "2x end, choose 0, 4x message 0 2 3, protocol, 5x send 0 1 9";
    private static final String PICK_FOREVER = "again 0, end, choose 0, loop 0, protocol";
    private static final String END_OR_FOREVER = "end, again 0, message 0 1 2, loop 0, choose 2, protocol";
    private static final String FOREVER_OR_END = "again 1, message 0 1 2, loop 1, end, choose 2, protocol";

    private static void restart() {
        Sentences.under("Promise 9: restart");
        Sentences.sentence("The run begins anew: nothing is done, nothing is on its way.", () -> {
            Sentences.alike("", "restart");
            for (String protocol : new String[] {ONE_MESSAGE, FOREVER, PICKING, PICK_FOREVER}) {
                Sentences.alike(protocol, protocol + ", restart");
                Sentences.alike(protocol, protocol + ", restart, restart");
            }
            String[] done = {"send 0 0 5", "4x send 0 0 5", "send 0 0 5, receive 1", "4x send 0 0 5, 3x receive 1",
                "4x send 0 0 5, restart, send 0 0 6", "4x send 0 0 5, !send 0 0 5", "!receive 1"};
            for (String some : done) {
                Sentences.alike(FOREVER, FOREVER + ", " + some + ", restart");
            }
        });
        Sentences.sentence("nothing is done", () -> {
            Calls.after(ONE_MESSAGE + ", send 0 0 5, receive 1").states(OVER, OVER, OVER).due("restart", 0)
                .states(MAY_SEND, WAITS, OVER).due("sent, got 1, send 0 0 5, receive 1", 0, 0, 3, 3);
            Sentences.alike(PICKING, HALF_TOLD + ", restart");
            Sentences.alike(PICKING, HALF_TOLD + ", receive 0, send 1 0 4, receive 2, restart");
            Calls.after(HALF_TOLD + ", restart").due("send 1 0 0, send 1 1 0", 0);
            Calls.after(END_OR_FOREVER + ", 2x send 2 1 0").due("canFinish, restart, canFinish", 0, 0, 1);
        });
        Sentences.sentence("nothing is on its way.", () -> {
            Calls.after(HELD_RUN + ", restart").due("onWay 0 1, receive 1, state 0", 0, NONE, MAY_SEND)
                .due("4x send 0 0 1", 3).due("send 0 0 1", NONE);
            Calls.after(HELD_RUN + ", 2x receive 1, restart, send 0 0 21, send 0 0 22")
                .due("receive 1, got 1, receive 1, got 1, receive 1", 3, 21, 3, 22, NONE);
            Sentences.alike("2x end, choose 0, 4x message 0 2 3, protocol", HELD_TELLING + ", restart");
            Calls.after(HELD_TELLING + ", restart").due("onWay 0 1, onWay 0 2", 0);
        });
        Sentences.sentence("The run begins anew", () -> {
            Sentences.alike(FOREVER + ", 2x end, message 0 1 2",
                FOREVER + ", 2x end, message 0 1 2, send 0 0 5, restart");
            Calls.after("20x end, restart").due("end, discard", Sentences.FULL, 20);
            Calls.after(ONE_MESSAGE + ", again 0, restart").due("send 0 0 0, discard", 3, 1);
        });
    }

    private static void send() {
        Sentences.under("Promise 10: send");
        Sentences.sentence("The role does its next action, if it is a sending or picking that can be done", () -> {
            Calls.after(ONE_MESSAGE).due("send 0 0 5, onWay 0 1, sent, state 0", 3, 1, 1, OVER);
            Calls.after(FOREVER + ", 3x send 0 0 5").due("send 0 0 5, onWay 0 1, state 0", 3, 4, HELD);
            Calls.after(PICKING).due("send 1 0 5, onWay 1 0, onWay 1 2, sent", 0, 1, 0, 1)
                .due("send 1 0 5, onWay 1 0, onWay 1 2, sent", 0, 1, 1, 2);
        });
        Sentences.sentence("value is the number that the message carries", () -> {
            for (int value : new int[] {0, -1, 1, LEAST, GREATEST}) {
                Calls.after(ONE_MESSAGE + ", send 0 0 " + value + ", receive 1").due("got 1", value);
                Calls.after(PICKING + ", send 1 1 " + value + ", receive 0").due("got 0", value);
                Calls.after(HALF_TOLD + ", send 1 1 " + value + ", receive 2, receive 0").due("got 2, got 0", value, 9);
            }
        });
        Sentences.sentence("pick what is picked, if it is a picking (else it does not matter)", () -> {
            for (int pick : NO_PICKS) {
                Calls.after(ONE_MESSAGE).due("send 0 " + pick + " 5, receive 1", 3);
                Calls.after(HALF_TOLD).due("send 1 " + pick + " 5, receive 0, receive 2", 1);
                Sentences.alike(FOREVER + ", send 0 0 5", FOREVER + ", send 0 " + pick + " 5");
                Sentences.alike(HALF_TOLD + ", send 1 1 5", HALF_TOLD + ", send 1 " + pick + " 5");
            }
            Calls.after(HALF_TOLD).due("send 1 0 5, receive 0, receive 2", 1);
            Calls.after(PICKING + ", send 1 0 9").due("send 1 1 5, receive 0, receive 2", 0);
            Calls.after("end, again 0, message 0 1 2, loop 0, choose 0, protocol, send 0 1 0, send 0 0 0")
                .due("send 0 0 0, canFinish", 2, 0);
        });
    }

    private static void sendRefusals() {
        Sentences.under("Promise 10: send");
        Sentences.sentence("NONE if the next action is none of these or can't be done", () -> {
            Sentences.refused("", "send 0 0 5", NONE);
            Sentences.refused(ONE_MESSAGE, "send 1 0 5", NONE);
            Sentences.refused(ONE_MESSAGE, "send 2 0 5", NONE);
            Sentences.refused(ONE_MESSAGE + ", send 0 0 5", "send 0 0 5", NONE);
            Sentences.refused(ONE_MESSAGE + ", send 0 0 5", "send 1 0 5", NONE);
            Sentences.refused(HELD_RUN, "send 0 0 5", NONE);
            Sentences.refused(PICKING, "send 0 0 5", NONE);
            Sentences.refused(PICKING, "send 2 1 5", NONE);
            Sentences.refused(HALF_TOLD, "send 0 1 5", NONE);
            Sentences.refused(HELD_PICKING, "send 0 0 5", NONE);
            Sentences.refused(HELD_TELLING, "send 0 1 5", NONE);
            Calls.after(HELD_RUN + ", receive 1").due("send 0 0 5", 3);
            Calls.after(HELD_PICKING + ", receive 1").due("send 0 0 5", 0);
            Calls.after(HELD_TELLING + ", receive 2").due("send 0 0 5", 1);
        });
        Sentences.sentence("a picking that can be done with pick not 0 or 1 answers BAD_ARG.", () -> {
            for (int pick : NO_PICKS) {
                Sentences.refused(PICKING, "send 1 " + pick + " 5", BAD_ARG);
                Sentences.refused(PICK_FOREVER + ", 2x send 0 0 7", "send 0 " + pick + " 5", BAD_ARG);
                Sentences.refused(HELD_PICKING + ", receive 1", "send 0 " + pick + " 5", BAD_ARG);
                Sentences.refused(END_OR_FOREVER, "send 2 " + pick + " 5", BAD_ARG);
                Sentences.refused(FOREVER_OR_END, "send 2 " + pick + " 5", BAD_ARG);
            }
            Calls.after(PICKING).due("send 1 0 5", 0);
            Calls.after(PICKING).due("send 1 1 5", 1);
            Calls.after(PICKING).due("send 1 2 5, send 1 -1 5, send 1 1 5", BAD_ARG, BAD_ARG, 1);
        });
        Sentences.sentence("a picking that can be done", () -> {
            for (int pick : NO_PICKS) {
                Sentences.refused(HELD_PICKING, "send 0 " + pick + " 5", NONE);
                Sentences.refused(HELD_TELLING, "send 0 " + pick + " 5", NONE);
                Sentences.refused(HELD_RUN, "send 0 " + pick + " 5", NONE);
                Sentences.refused("", "send 2 " + pick + " 5", NONE);
                Sentences.refused(ONE_MESSAGE, "send 1 " + pick + " 5", NONE);
                Sentences.refused(PICKING, "send 0 " + pick + " 5", NONE);
                Sentences.refused(HALF_TOLD, "send 2 " + pick + " 5", NONE);
            }
        });
        Sentences.sentence("Otherwise the label of the message sent.", () -> {
            for (int label = 0; label < 4; label++) {
                Calls.after("end, message 2 1 " + label + ", protocol").due("send 2 1 5", label);
                Calls.after("end, message 2 1 " + label + ", protocol").due("send 2 0 5", label);
            }
            Calls.after(PICKING).due("send 1 0 5, send 1 1 5", 0);
            Calls.after(PICKING).due("send 1 1 5, send 1 0 5", 1);
        });
    }

    private static void receive() {
        Sentences.under("Promise 11: receive");
        Sentences.sentence("The role does its next action, if it is a receiving that can be done", () -> {
            Calls.after(ONE_MESSAGE + ", send 0 0 5")
                .due("receive 1, onWay 0 1, got 1, state 1, sent", 3, 0, 5, OVER, 1);
            Calls.after(HELD_RUN).due("receive 1, onWay 0 1, state 0, receive 1, onWay 0 1", 3, 3, MAY_SEND, 3, 2);
            Calls.after(HALF_TOLD + ", send 1 0 8")
                .due("receive 2, got 2, state 0, receive 0, got 0", 1, 8, MAY_RECEIVE, 1, 9);
            Calls.after(HELD_TELLING).due("4x receive 2", 3).due("receive 2, state 2", NONE, WAITS)
                .due("send 0 0 4, receive 2, got 2", 1, 1, 4);
        });
        Sentences.sentence("NONE if not.", () -> {
            Sentences.refused("", "receive 0", NONE);
            Sentences.refused(ONE_MESSAGE, "receive 0", NONE);
            Sentences.refused(ONE_MESSAGE, "receive 1", NONE);
            Sentences.refused(ONE_MESSAGE, "receive 2", NONE);
            Sentences.refused(ONE_MESSAGE + ", send 0 0 5", "receive 0", NONE);
            Sentences.refused(ONE_MESSAGE + ", send 0 0 5", "receive 2", NONE);
            Sentences.refused(ONE_MESSAGE + ", send 0 0 5, receive 1", "receive 1", NONE);
            Sentences.refused(HELD_RUN, "receive 0", NONE);
            Sentences.refused(HELD_RUN + ", 4x receive 1", "receive 1", NONE);
            Sentences.refused(PICKING, "receive 0", NONE);
            Sentences.refused(PICKING, "receive 1", NONE);
            Sentences.refused(HALF_TOLD, "receive 1", NONE);
            Sentences.refused(HALF_TOLD, "receive 2", NONE);
            Sentences.refused("end, message 2 1 2, message 0 1 1, protocol, send 2 0 5", "receive 1", NONE);
            Sentences.refused("end, message 2 0 2, message 1 2 1, message 0 1 3, protocol, send 0 0 5, receive 1",
                "receive 2", NONE);
        });
        Sentences.sentence("Otherwise the label of the message received.", () -> {
            for (int label = 0; label < 4; label++) {
                Calls.after("end, message 1 0 " + label + ", protocol, send 1 0 7").due("receive 0", label);
            }
            Calls.after("end, message 0 1 3, message 0 1 1, message 0 1 2, message 0 1 0, protocol, 4x send 0 0 7")
                .due("4x receive 1", 0, 2, 1, 3);
            Calls.after(PICKING + ", 2x send 1 0 7").due("receive 0, receive 2", 0);
            Calls.after(PICKING + ", 2x send 1 1 7").due("receive 2, receive 0", 1);
            Calls.after(PICK_FOREVER + ", 6x send 0 0 7, send 0 1 7, send 0 0 7")
                .due("4x receive 1", 0, 0, 0, 1).due("4x receive 2", 0, 0, 0, 1).states(OVER, OVER, OVER);
            labelsRoundTheRing();
        });
    }

    /** More messages than four between two roles, with always some of them on their way. */
    private static void labelsRoundTheRing() {
        Calls calls = Calls.after("again 1, message 2 1 3, message 2 1 2, message 2 1 1, message 2 1 0, message 2 1 2,"
            + " loop 1, protocol");
        int[] labels = {2, 0, 1, 2, 3};
        for (int ahead = 0; ahead < 3; ahead++) {
            calls.due("send 2 0 " + ahead, labels[ahead]);
        }
        for (int i = 0; i < 40; i++) {
            calls.due("send 2 0 " + (i + 3) + ", receive 1, got 1", labels[(i + 3) % 5], labels[i % 5], i);
        }
    }

    private static void got() {
        Sentences.under("Promise 12: got");
        Sentences.sentence("The number that the last message received by the role in this run carried", () -> {
            Calls calls = Calls.after(FOREVER);
            for (int value : new int[] {7, 0, -1, LEAST, GREATEST, -4}) {
                calls.due("send 0 0 " + value + ", receive 1, got 1, got 1", 3, 3, value, value);
            }
            Calls.after("end, message 2 1 2, message 0 1 1, protocol, send 2 0 22, send 0 0 11")
                .due("got 1, receive 1, got 1, receive 1, got 1, receive 1, got 1", 0, 1, 11, 2, 22, NONE, 22);
            Calls.after(HALF_TOLD + ", send 1 0 8, receive 0, receive 2").due("got 0, got 1, got 2", 9, 0, 8);
            Calls.after(FOREVER + ", send 0 0 4, send 0 0 3, send 0 0 2, send 0 0 1")
                .due("receive 1, got 1, receive 1, got 1", 3, 4, 3, 3).due("send 0 0 7, got 1", 3)
                .due("receive 1, got 1, receive 1, got 1, receive 1, got 1", 3, 2, 3, 1, 3, 7);
        });
        Sentences.sentence("received by the role", () -> {
            Calls.after(ONE_MESSAGE + ", send 0 0 5").due("got 0, got 1, got 2", 0)
                .due("receive 1, got 0, got 1, got 2", 3, 0, 5, 0);
        });
        Sentences.sentence("in this run", () -> {
            Calls.after(FOREVER + ", send 0 0 5, receive 1, restart").due("got 1", 0);
            Calls.after(FOREVER + ", send 0 0 5, receive 1, end, protocol").due("got 1", 0);
            Calls.after(FOREVER + ", send 0 0 5, receive 1, 2x end, !protocol, discard").due("got 1", 5);
            Calls.after(FOREVER + ", send 0 0 5, receive 1, again 0, !protocol").due("got 1", 5);
        });
        Sentences.sentence("0 if there was none.", () -> {
            Calls.after("").due("got 0, got 1, got 2", 0);
            Calls.after(FOREVER + ", 4x send 0 0 5").due("got 0, got 1, got 2", 0);
            Calls.after(HALF_TOLD).due("got 0, got 1, got 2", 0);
        });
    }

    private static void state() {
        Sentences.under("Promise 13: state");
        Sentences.sentence("OVER;", () -> {
            Calls.after("").states(OVER, OVER, OVER);
            Calls.after(ONE_MESSAGE).due("state 2", OVER);
            Calls.after(ONE_MESSAGE + ", send 0 0 0").states(OVER, MAY_RECEIVE, OVER);
            Calls.after(ONE_MESSAGE + ", send 0 0 0, receive 1").states(OVER, OVER, OVER);
            Calls.after(FOREVER + ", send 0 0 0, receive 1").states(MAY_SEND, WAITS, OVER);
            Calls.after(HALF_TOLD + ", receive 0").states(OVER, MAY_SEND, WAITS);
        });
        Sentences.sentence("MAY_SEND if its next action is a sending or picking that can be done", () -> {
            Calls.after(FOREVER).due("state 0", MAY_SEND);
            Calls.after(FOREVER + ", 3x send 0 0 0").due("state 0", MAY_SEND);
            Calls.after(PICKING).due("state 1", MAY_SEND);
            Calls.after(HALF_TOLD).due("state 1", MAY_SEND);
            Calls.after(PICK_FOREVER + ", 6x send 0 0 0").due("state 0", MAY_SEND);
            Calls.after("2x end, choose 0, 4x message 0 2 3, protocol, 4x send 0 0 9").due("state 0", MAY_SEND);
        });
        Sentences.sentence("HELD if it is one that can't", () -> {
            Calls.after(HELD_RUN).due("state 0", HELD).due("receive 1, state 0", 3, MAY_SEND);
            Calls.after(HELD_PICKING).due("state 0", HELD).due("receive 1, state 0", 3, MAY_SEND);
            Calls.after(HELD_TELLING).due("state 0", HELD).due("receive 1, state 0", 1, HELD)
                .due("receive 2, state 0", 3, MAY_SEND);
            Calls.after(PICK_FOREVER + ", 8x send 0 0 0").due("state 0", HELD)
                .due("receive 2, state 0, receive 1, state 0", 0, HELD, 0, MAY_SEND)
                .due("send 0 0 0, state 0, send 0 0 0, state 0", 0, MAY_SEND, 0, HELD);
        });
        Sentences.sentence("MAY_RECEIVE if it is a receiving that can be done", () -> {
            Calls.after(FOREVER + ", send 0 0 0").due("state 1", MAY_RECEIVE);
            Calls.after(HELD_RUN).due("state 1", MAY_RECEIVE);
            Calls.after(HELD_RUN + ", 3x receive 1").due("state 1", MAY_RECEIVE);
            Calls.after(HALF_TOLD).due("state 0", MAY_RECEIVE);
            Calls.after(HALF_TOLD + ", send 1 0 0").states(MAY_RECEIVE, OVER, MAY_RECEIVE);
        });
        Sentences.sentence("else WAITS.", () -> {
            Calls.after(FOREVER).due("state 1", WAITS);
            Calls.after(HELD_RUN + ", 4x receive 1").due("state 1", WAITS);
            Calls.after(PICKING).states(WAITS, MAY_SEND, WAITS);
            Calls.after(HALF_TOLD).due("state 2", WAITS);
            Calls.after("end, message 2 1 2, message 0 1 1, protocol, send 2 0 0").due("state 1", WAITS);
            Calls.after("2x end, choose 2, message 0 1 3, protocol, send 0 0 0, receive 1")
                .states(WAITS, WAITS, MAY_SEND);
        });
    }

    private static void partner() {
        Sentences.under("Promise 14: partner");
        Sentences.sentence("The role to which its next action sends or from which it receives", () -> {
            for (int p = 0; p < 3; p++) {
                for (int q = 0; q < 3; q++) {
                    if (p != q) {
                        Calls.after("end, message " + p + " " + q + " 1, protocol")
                            .due("partner " + p + ", partner " + q, q, p).due("send " + p + " 0 0", 1)
                            .due("partner " + p + ", partner " + q, NONE, p);
                    }
                }
            }
            Calls.after(HELD_RUN).partners(1, 0, NONE);
            Calls.after("2x end, choose 0, protocol").partners(1, 0, 0).due("send 0 0 0", 0).partners(2, 0, 0);
            Calls.after("2x end, choose 1, protocol").partners(1, 0, 1).due("send 1 0 0", 0).partners(1, 2, 1);
            Calls.after("2x end, choose 2, protocol").partners(2, 2, 0).due("send 2 0 0", 0).partners(2, 2, 1);
            Calls.after(HELD_PICKING).partners(1, 0, 0);
            Calls.after(HELD_TELLING).partners(2, 0, 0);
        });
        Sentences.sentence("where it has no next action and is not over, the role that has to pick", () -> {
            for (int p = 0; p < 3; p++) {
                int q = (p + 1) % 3;
                int r = (p + 2) % 3;
                Calls.after("2x end, choose " + p + ", protocol").due("partner " + q + ", partner " + r, p);
                Calls.after("2x end, choose " + p + ", 16x loop 0, message " + q + " " + r + " 1, protocol, send " + q
                    + " 0 0, receive " + r).due("partner " + q + ", partner " + r, p);
                Calls.after("2x end, choose " + p + ", 17x message " + p + " " + q + " 1, protocol")
                    .due("partner " + r, p);
            }
            Calls.after("2x end, choose 0, message 0 1 3, protocol").partners(1, 0, 0)
                .due("send 0 0 0", 3).partners(1, 0, 0).due("receive 1", 3).partners(1, 0, 0);
            Calls.after("2x end, choose 2, end, choose 0, protocol, 2x send 0 0 0").partners(2, 0, 0)
                .due("receive 1", 0).partners(2, 2, 0).due("receive 2", 0).partners(2, 2, 0);
        });
        Sentences.sentence("NONE if it is over.", () -> {
            Calls.after("").partners(NONE, NONE, NONE);
            Calls.after(ONE_MESSAGE).partners(1, 0, NONE);
            Calls.after(ONE_MESSAGE + ", send 0 0 0").partners(NONE, 0, NONE);
            Calls.after(ONE_MESSAGE + ", send 0 0 0, receive 1").partners(NONE, NONE, NONE);
            Calls.after(FOREVER).due("partner 2", NONE);
            Calls.after(HALF_TOLD + ", send 1 0 0").partners(1, NONE, 1).due("receive 0, receive 2", 1)
                .partners(NONE, NONE, NONE);
        });
    }

    private static void onWay() {
        Sentences.under("Promise 15: onWay");
        Sentences.sentence("How many messages from role p to role q are on their way", () -> {
            for (int p = 0; p < 3; p++) {
                for (int q = 0; q < 3; q++) {
                    if (p != q) {
                        countsOf(p, q);
                    }
                }
            }
            Calls.after(PICKING).due("onWay 1 0, onWay 1 2", 0).due("send 1 0 0, onWay 1 0, onWay 1 2", 0, 1, 0)
                .due("send 1 0 0, onWay 1 0, onWay 1 2", 0, 1, 1).due("receive 2, onWay 1 0, onWay 1 2", 0, 1, 0);
            Calls.after(HELD_TELLING).due("onWay 0 1, onWay 0 2", 1, 4);
            Calls.after(ONE_MESSAGE + ", send 0 0 0, restart").due("onWay 0 1", 0);
            Calls.after(ONE_MESSAGE + ", send 0 0 0, end, protocol").due("onWay 0 1", 0);
        });
        Sentences.sentence("(0 if p = q).", () -> {
            for (String scene : new String[] {"", ONE_MESSAGE + ", send 0 0 0", HELD_RUN, HALF_TOLD, HELD_TELLING}) {
                Calls.after(scene).due("onWay 0 0, onWay 1 1, onWay 2 2", 0);
                Sentences.refused(scene, "onWay 3 3", BAD_ARG);
                Sentences.refused(scene, "onWay -1 -1", BAD_ARG);
            }
        });
    }

    private static void countsOf(int p, int q) {
        Calls calls = Calls.after("again 0, message " + p + " " + q + " 1, loop 0, protocol");
        for (int n = 0; n < 4; n++) {
            dueOnWay(calls, p, q, n);
            calls.due("send " + p + " 0 0", 1);
        }
        dueOnWay(calls, p, q, 4);
        calls.due("send " + p + " 0 0", NONE);
        for (int n = 4; n > 0; n--) {
            dueOnWay(calls, p, q, n);
            calls.due("receive " + q, 1);
        }
        dueOnWay(calls, p, q, 0);
        calls.due("receive " + q, NONE);
        dueOnWay(calls, p, q, 0);
    }

    private static void dueOnWay(Calls calls, int p, int q, int n) {
        for (int a = 0; a < 3; a++) {
            for (int b = 0; b < 3; b++) {
                calls.due("onWay " + a + " " + b, a == p && b == q ? n : 0);
            }
        }
    }

    private static void sent() {
        Sentences.under("Promise 16: sent");
        Sentences.sentence("How many sendings (pickings too) were done in this run.", () -> {
            Calls.after("").due("sent", 0);
            Calls.after(ONE_MESSAGE).due("sent, send 0 0 0, sent, receive 1, sent", 0, 3, 1, 3, 1);
            Calls.after(HELD_RUN).due("sent, send 0 0 0, sent", 4, NONE, 4).due("receive 1, send 0 0 0, sent", 3, 3, 5);
            Calls many = Calls.after(FOREVER);
            for (int i = 1; i <= 150; i++) {
                many.due("send 0 0 0, receive 1, sent", 3, 3, i);
            }
            Calls.after("end, message 2 0 3, message 1 2 2, message 0 1 1, protocol, send 0 0 0, receive 1")
                .due("send 1 0 0, sent, receive 2, send 2 0 0, sent", 2, 2, 2, 3, 3);
        });
        Sentences.sentence("(pickings too)", () -> {
            Calls.after(PICKING)
                .due("sent, send 1 0 0, sent, send 1 0 0, sent, send 1 0 0, sent", 0, 0, 1, 0, 2, NONE, 2);
            Calls.after(PICKING).due("send 1 2 0, sent, send 1 -1 0, sent", BAD_ARG, 0, BAD_ARG, 0);
            Calls.after(HELD_PICKING).due("send 0 1 0, sent", NONE, 4);
            Calls.after(HELD_TELLING).due("sent, send 0 1 0, sent", 5, NONE, 5);
        });
        Sentences.sentence("in this run.", () -> {
            Calls.after(HELD_RUN + ", restart").due("sent", 0).due("send 0 0 0, sent", 3, 1);
            Calls.after(HELD_RUN + ", end, protocol").due("sent", 0);
            Calls.after(HELD_RUN + ", 2x end, !protocol").due("sent, discard, sent", 4, 2, 4);
        });
    }

    private static void canFinish() {
        Sentences.under("Promise 17: canFinish");
        Sentences.sentence("1 if all roles can become over by some further actions", () -> {
            Calls.after("").due("canFinish", 1);
            Calls.after("end, 19x loop 0, protocol").due("canFinish", 1);
            Calls.after("end, 19x message 0 1 0, protocol").due("canFinish", 1);
            Calls.after(ONE_MESSAGE).due("canFinish, send 0 0 0, canFinish, receive 1, canFinish", 1, 3, 1, 3, 1);
            Calls.after(PICKING).due("canFinish, send 1 0 0, canFinish", 1, 0, 1);
            Calls.after(PICK_FOREVER).due("canFinish", 1).due("8x send 0 0 0", 0).due("canFinish", 1);
            Calls.after("end, again 0, choose 0, loop 0, protocol").due("canFinish, send 0 1 0, canFinish", 1, 1, 1);
            String deep = "again 0, again 0, again 0, again 0, end, "
                + "choose 0, choose 1, choose 2, choose 1, loop 0, protocol";
            Calls.after(deep).due("canFinish, send 1 0 0, send 1 0 0, canFinish", 1, 0, 0, 1);
            Calls.after("again 0, 16x message 0 1 0, end, choose 0, loop 0, protocol, send 0 0 0").due("canFinish", 1);
            Calls.after("again 0, end, choose 1, loop 1, message 0 1 2, loop 0, protocol, send 0 0 0, receive 1")
                .due("canFinish, send 1 0 0, send 1 0 0, canFinish", 1, 0, 0, 1);
        });
        Sentences.sentence("with nothing on its way", () -> {
            Calls.after(ONE_MESSAGE + ", send 0 0 0").due("canFinish", 1);
            Calls.after(HALF_TOLD + ", send 1 0 0").due("canFinish", 1);
            Calls.after(HELD_PICKING).due("canFinish", 1);
            Calls.after(HELD_TELLING).due("canFinish", 1);
            Calls.after("end, 9x message 0 1 0, protocol, 4x send 0 0 0").due("state 0, canFinish", HELD, 1);
        });
        Sentences.sentence("else 0.", () -> {
            Calls.after(FOREVER).states(MAY_SEND, WAITS, OVER).due("canFinish", 0);
            Calls.after(FOREVER + ", send 0 0 0, receive 1").due("canFinish", 0);
            Calls.after(HELD_RUN).due("canFinish", 0);
            Calls.after("again 1, again 1, choose 2, loop 1, protocol").due("canFinish", 0)
                .due("send 2 0 0, canFinish", 0);
            Calls.after("again 0, 18x message 0 1 0, loop 0, protocol").due("canFinish", 0);
            Calls.after(END_OR_FOREVER).due("canFinish, send 2 0 0, canFinish", 1, 0, 1);
            Calls.after(END_OR_FOREVER).due("canFinish, send 2 1 0, canFinish, send 2 1 0, canFinish", 1, 1, 0, 1, 0)
                .due("receive 0, receive 1, canFinish", 1, 1, 0);
            Calls.after(FOREVER_OR_END).due("canFinish, send 2 0 0, canFinish", 1, 0, 0);
            Calls.after(FOREVER_OR_END).due("canFinish, send 2 1 0, canFinish", 1, 1, 1);
            Calls.after(END_OR_FOREVER + ", !send 2 2 0").due("canFinish", 1);
            Calls.after(END_OR_FOREVER + ", send 2 1 0, restart").due("canFinish", 1);
        });
    }

    public static void main(String[] args) {
        restart();
        send();
        sendRefusals();
        receive();
        got();
        state();
        partner();
        onWay();
        sent();
        canFinish();
        Sentences.report();
    }
}
