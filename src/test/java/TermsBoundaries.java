/** The boundary cases of 'What it is' and 'Terms', whose sentences hold for every call. */
public final class TermsBoundaries {
    private static final int BAD_ARG = Sentences.BAD_ARG;
    private static final int FULL = Sentences.FULL;
    private static final int TOO_FEW = Sentences.TOO_FEW;
    private static final int NONE = Sentences.NONE;
    private static final int BAD_LOOP = Sentences.BAD_LOOP;
    private static final int OVER = Sentences.OVER;
    private static final int MAY_SEND = Sentences.MAY_SEND;
    private static final int HELD = Sentences.HELD;
    private static final int MAY_RECEIVE = Sentences.MAY_RECEIVE;
    private static final int WAITS = Sentences.WAITS;

    private static final int LEAST = Integer.MIN_VALUE;
    private static final int GREATEST = Integer.MAX_VALUE;
    private static final String[] ROLE_CALLS = {"message R 1 0", "message 1 R 0", "message R R 0", "choose R",
        "send R 0 0", "receive R", "got R", "state R", "partner R", "onWay R 1", "onWay 1 R", "onWay R R"};

    private static final String FULL_WITH_ONE_TERM = "end, 19x message 0 1 0";
    private static final String FOREVER = "again 0, message 0 1 3, loop 0, protocol";
    private static final String HELD_RUN = FOREVER + ", 4x send 0 0 9";
    private static final String PICKING = "2x end, choose 1, protocol";
    private static final String HALF_TOLD = PICKING + ", send 1 1 9";
    private static final String HELD_PICKING = "2x end, choose 0, 4x message 0 1 3, protocol, 4x send 0 0 9";
    private static final String OVER_RUN = "end, message 0 1 3, protocol, send 0 0 9, receive 1";
    private static final String END_OR_FOREVER = "end, again 0, message 0 1 2, loop 0, choose 2, protocol";
    private static final String[] SCENES = {"", "end", "2x end", "again 0", "20x end", FULL_WITH_ONE_TERM, FOREVER,
        HELD_RUN, PICKING, HALF_TOLD, HELD_PICKING, OVER_RUN, HELD_RUN + ", 3x end", END_OR_FOREVER,
        END_OR_FOREVER + ", send 2 1 9"};

    private static void useOfAnObject() {
        Sentences.under("What it is");
        Sentences.sentence("An object is used for at most 512 calls after it has been made", () -> {
            Calls messages = Calls.after(FOREVER);
            for (int i = 0; i < 252; i++) {
                messages.due("send 0 0 " + i + ", receive 1", 3);
            }
            lastCall(messages.due("got 1, onWay 0 1, state 0", 251, 0, MAY_SEND), "sent", 252);

            Calls picks = Calls.after("again 0, end, choose 2, loop 0, protocol");
            for (int i = 0; i < 126; i++) {
                picks.due("send 2 0 " + i + ", send 2 1 " + -i + ", receive 1, receive 0", 0);
            }
            lastCall(picks.due("got 0, got 1", 125, -125), "sent", 252);

            Calls terms = Calls.after("");
            for (int i = 0; i < 24; i++) {
                terms.due("20x again 1", upTo(20)).due("discard", 20);
            }
            lastCall(terms.due("7x again 0", upTo(7)), "end", 8);

            Calls protocols = Calls.after("");
            for (int i = 0; i < 255; i++) {
                protocols.due("end, protocol", 1);
            }
            lastCall(protocols.due("end", 1), "protocol", 1);

            Calls restarts = Calls.after(FOREVER);
            for (int i = 0; i < 126; i++) {
                restarts.due("send 0 0 1, receive 1, send 0 0 2, restart", 3, 3, 3, 0);
            }
            lastCall(restarts.due("3x send 0 0 3", 3), "onWay 0 1", 3);

            lastCall(Calls.after("").due("511x send 0 0 0", NONE), "end", 1);
            lastCall(Calls.after(HELD_RUN).due("503x send 0 0 0", NONE), "receive 1", 3);
        });
    }

    private static int[] upTo(int last) {
        int[] answers = new int[last];
        for (int i = 0; i < last; i++) {
            answers[i] = i + 1;
        }
        return answers;
    }

    private static void lastCall(Calls calls, String call, int want) {
        calls.due(call, want);
        if (calls.made() != Calls.PROMISED_CALLS) {
            throw new IllegalStateException("not the 512th call but the " + calls.made() + "th");
        }
    }

    private static void rolesAndLoops() {
        Sentences.under("Terms");
        Sentences.sentence("There are three ROLES, 0 to 2.", () -> {
            int[] answers = {2, 2, 1, NONE, NONE, 0, OVER, NONE, 0, 0, 0};
            String[] calls = {"message R 1 0", "message 1 R 0", "choose R", "send R 0 0", "receive R", "got R",
                "state R", "partner R", "onWay R 1", "onWay 1 R", "onWay R R"};
            for (int i = 0; i < calls.length; i++) {
                Calls.after("2x end").due(calls[i].replace("R", "0"), answers[i]);
                Calls.after("2x end").due(calls[i].replace("R", "2"), answers[i]);
                Calls.after("2x end").due(calls[i].replace("R", "-1"), BAD_ARG);
                Calls.after("2x end").due(calls[i].replace("R", "3"), BAD_ARG);
            }
        });
        Sentences.sentence("again t (t 0 or 1), which goes back to the beginning of the"
            + " nearest loop t around it.", () -> {
            for (int t = 0; t < 2; t++) {
                String inner = "again " + t + ", message 0 1 1, ";
                labels(inner + "loop " + t + ", message 0 1 2, loop " + t, 2, 1, 1, 1);
                labels(inner + "loop " + (1 - t) + ", message 0 1 2, loop " + t, 2, 1, 2, 1);
                labels(inner + "message 0 1 0, loop " + t + ", message 0 1 2, loop " + (1 - t)
                    + ", message 0 1 3, loop " + t, 3, 2, 0, 1, 0, 1, 0, 1);
                labels(inner + "loop " + (1 - t) + ", message 0 1 2, loop " + t + ", message 0 1 3, loop " + t,
                    3, 2, 1, 2, 1, 2, 1);
            }
            refusedProtocol("again 0, message 0 1 0, loop 0, again 0, message 0 1 0, choose 0");
        });
    }

    /** The labels that role 1 comes to receive from role 0. */
    private static void labels(String protocol, int... labels) {
        Calls calls = Calls.after(protocol + ", protocol");
        for (int label : labels) {
            calls.due("send 0 0 0, receive 1", label);
        }
    }

    private static void path() {
        Sentences.under("Terms");
        Sentences.sentence("a message p q l is put at the end of the path, and the walk goes on with G", () ->
            labels("end, message 0 1 0, message 0 1 1, message 0 1 2, message 0 1 3", 3, 2, 1, 0));
        Sentences.sentence("a loop is walked into, again goes back to its G", () -> {
            labels("end, message 0 1 2, loop 0", 2);
            Calls.after("end, message 0 1 2, loop 0, protocol, send 0 0 0, receive 1").states(OVER, OVER, OVER);
            labels("again 1, message 0 1 2, message 0 1 1, 17x loop 1", 1, 2, 1, 2, 1, 2);
            labels("again 0, 17x message 0 1 2, message 0 1 1, loop 0",
                1, 2, 2, 2, 2, 2, 2, 2, 2, 2, 2, 2, 2, 2, 2, 2, 2, 2, 1, 2);
            labels("again 0, message 0 1 2, 17x loop 1, loop 0", 2, 2, 2);
        });
        Sentences.sentence("at the end the walk stops", () -> {
            Calls.after("end, 2x message 0 1 2, protocol").due("3x send 0 0 0", 2, 2, NONE)
                .due("3x receive 1", 2, 2, NONE).states(OVER, OVER, OVER);
            Calls.after("end, message 0 1 2, loop 0, protocol, send 0 0 0").due("send 0 0 0", NONE);
            Calls.after("end, 19x loop 0, protocol").states(OVER, OVER, OVER);
        });
        Sentences.sentence("at a choose p it stops until role p has picked.", () -> {
            String scene = "end, message 1 2 2, end, message 2 1 3, choose 0, protocol";
            Calls.after(scene).states(MAY_SEND, WAITS, WAITS).partners(1, 0, 0)
                .due("send 1 0 0, send 2 0 0, receive 1, receive 2, onWay 1 2, onWay 2 1", NONE, NONE, NONE, NONE, 0, 0)
                .due("send 0 1 0", 1).states(MAY_SEND, MAY_RECEIVE, WAITS);
            Calls.after("2x end, choose 1, end, choose 0, protocol, 2x send 0 0 0, receive 1, receive 2")
                .states(WAITS, MAY_SEND, WAITS).partners(1, 0, 1).due("send 0 0 0, receive 0, receive 2", NONE);
        });
        Sentences.sentence("two messages with the pick as label are put at the end of the path,"
            + " both from p, the first one"
            + " to the lesser one of the two other roles, the second one to the greater one", () -> {
            int[] lesser = {1, 0, 0};
            int[] greater = {2, 2, 1};
            for (int p = 0; p < 3; p++) {
                for (int pick = 0; pick < 2; pick++) {
                    String send = "send " + p + " " + pick + " 5";
                    Calls.after("2x end, choose " + p + ", protocol")
                        .due("partner " + p, lesser[p]).due(send, pick)
                        .due("onWay " + p + " " + lesser[p] + ", onWay " + p + " " + greater[p], 1, 0)
                        .due("partner " + p, greater[p]).due("send " + p + " " + (1 - pick) + " 6", pick)
                        .due("onWay " + p + " " + greater[p] + ", state " + p, 1, OVER)
                        .due("receive " + greater[p] + ", receive " + lesser[p], pick)
                        .due("got " + lesser[p] + ", got " + greater[p], 5, 6);
                }
            }
        });
        Sentences.sentence("the walk goes on with G if 0 was picked, else with H.", () -> {
            String scene = "end, message 0 1 2, end, message 0 2 3, choose 0, protocol, ";
            Calls.after(scene + "2x send 0 0 0").due("send 0 0 0, onWay 0 1, onWay 0 2", 2, 2, 1);
            Calls.after(scene + "2x send 0 1 0").due("send 0 0 0, onWay 0 1, onWay 0 2", 3, 1, 2);
            Calls.after("again 0, end, choose 0, loop 0, protocol, 2x send 0 0 0").due("state 0", MAY_SEND);
            Calls.after("again 0, end, choose 0, loop 0, protocol, 2x send 0 1 0").due("state 0", OVER);
        });
        Sentences.sentence("(Where no choose or end comes the walk never stops, and the path has no end.)", () -> {
            Calls calls = Calls.after(FOREVER);
            for (int i = 0; i < 240; i++) {
                calls.due("send 0 0 0, receive 1", 3);
            }
            calls.states(MAY_SEND, WAITS, OVER).partners(1, 0, NONE).due("canFinish", 0);
            Calls.after("2x end, again 0, message 1 2 0, loop 0, choose 0, choose 0, protocol, send 0 1 0, send 0 1 0")
                .due("receive 1, receive 2", 1).states(MAY_SEND, WAITS, WAITS)
                .due("send 0 1 0, send 0 1 0, receive 1, receive 2", 1).states(OVER, MAY_SEND, WAITS);
        });
    }

    private static void actions() {
        Sentences.under("Terms");
        Sentences.sentence("The ACTIONS of a role are, in this order, the sendings and receivings by it of the messages"
            + " of the path, in the order of the path", () -> {
            String scene = "end, message 1 0 3, message 2 1 2, message 1 2 1, message 0 1 0, protocol";
            Calls.after(scene).states(MAY_SEND, WAITS, WAITS).partners(1, 0, 1)
                .due("send 1 0 0, send 2 0 0, receive 0, receive 2", NONE)
                .due("send 0 0 0", 0).states(WAITS, MAY_RECEIVE, WAITS).partners(1, 0, 1)
                .due("receive 1", 0).states(WAITS, MAY_SEND, WAITS).partners(1, 2, 1)
                .due("send 1 0 0", 1).states(WAITS, WAITS, MAY_RECEIVE).partners(1, 2, 1)
                .due("receive 2", 1).states(WAITS, WAITS, MAY_SEND)
                .due("send 2 0 0, receive 1", 2).states(WAITS, MAY_SEND, OVER).partners(1, 0, NONE)
                .due("send 1 0 0, receive 0", 3).states(OVER, OVER, OVER);
        });
        Sentences.sentence("where the walk stands at a choose p, for role p the picking behind all"
            + " these (it is at the same"
            + " time the sending of the first one of the two messages)", () -> {
            Calls.after("2x end, choose 0, message 1 0 2, message 0 2 3, protocol")
                .due("send 0 1 0", 3).states(WAITS, MAY_SEND, MAY_RECEIVE).due("send 0 1 0", NONE)
                .due("send 1 1 0", 2).states(MAY_RECEIVE, WAITS, MAY_RECEIVE).due("send 0 1 0", NONE)
                .due("receive 0", 2).states(MAY_SEND, WAITS, MAY_RECEIVE).due("sent, onWay 0 1", 2, 0)
                .due("send 0 1 8, sent, onWay 0 1, onWay 0 2, receive 1, got 1", 1, 3, 1, 1, 1, 8);
        });
        Sentences.sentence("A role does its actions one after the other; the first one that is not"
            + " done is its NEXT one.",
            () -> {
                Calls.after("end, message 2 1 2, message 0 1 1, protocol, send 2 0 7")
                    .due("state 1, partner 1, receive 1", WAITS, 0, NONE)
                    .due("send 0 0 6, state 1, partner 1", 1, MAY_RECEIVE, 0)
                    .due("receive 1, got 1, partner 1, receive 1, got 1", 1, 6, 2, 2, 7);
                Calls.after("end, message 0 2 2, message 0 1 1, protocol").due("partner 0, send 0 0 0", 1)
                    .due("partner 0, send 0 0 0, partner 0", 2, 2, NONE);
                Calls.after("end, message 1 0 2, message 1 2 1, protocol, send 1 0 0")
                    .due("state 0, receive 0", WAITS, NONE);
            });
    }

    private static void capacity() {
        Sentences.under("Terms");
        Sentences.sentence("A sending (or picking) can be done if fewer than 4 messages from the"
            + " same sender to the same"
            + " receiver are ON THEIR WAY, that is, sent and not received.", () -> {
            for (int p = 0; p < 3; p++) {
                for (int q = 0; q < 3; q++) {
                    if (p != q) {
                        fourOnTheirWay(p, q);
                    }
                }
                pickingHeld(p);
            }
        });
        Sentences.sentence("from the same sender to the same receiver", () -> {
            Calls.after("end, message 0 2 2, 4x message 0 1 1, protocol, 4x send 0 0 0").due("send 0 0 0", 2);
            Calls.after("end, message 1 2 2, 4x message 0 2 1, protocol, 4x send 0 0 0").due("send 1 0 0", 2);
            Calls.after("end, message 2 1 3, 4x message 0 1 1, protocol, 4x send 0 0 0").due("send 2 0 0", 3);
            Calls.after("end, message 2 0 3, 4x message 0 1 1, protocol, 4x send 0 0 0").due("send 2 0 0", 3);
            Calls.after("end, 4x message 0 2 2, 4x message 0 1 1, protocol").due("4x send 0 0 0", 1)
                .due("4x send 0 0 0, onWay 0 1, onWay 0 2", 2, 2, 2, 2, 4, 4);
            Calls.after("end, message 0 1 3, 4x message 0 2 2, 4x message 0 1 1, protocol, 8x send 0 0 0")
                .due("state 0, send 0 0 0", HELD, NONE).due("receive 2, state 0", 2, HELD)
                .due("receive 1, state 0, send 0 0 0", 1, MAY_SEND, 3);
        });
    }

    private static void fourOnTheirWay(int p, int q) {
        String send = "send " + p + " 0 ";
        String state = "state " + p;
        Calls calls = Calls.after("again 0, message " + p + " " + q + " 2, loop 0, protocol");
        for (int i = 0; i < 4; i++) {
            calls.due("onWay " + p + " " + q + ", " + state + ", " + send + i, i, MAY_SEND, 2);
        }
        calls.due("onWay " + p + " " + q + ", " + state + ", " + send + "9, " + send + "9", 4, HELD, NONE, NONE);
        for (int i = 0; i < 9; i++) {
            calls.due("receive " + q + ", got " + q + ", " + state + ", " + send + (i + 4), 2, i, MAY_SEND, 2)
                .due(state + ", " + send + "99", HELD, NONE);
        }
        String three = "again 0, message " + p + " " + q + " 2, loop 0, protocol, 3x " + send + "5";
        Calls.after(three).due(send + "6", 2);
        Sentences.refused(three + ", " + send + "6", send + "7", NONE);
    }

    private static void pickingHeld(int p) {
        int lesser = p == 0 ? 1 : 0;
        int greater = 3 - p - lesser;
        String send = "send " + p + " 1 ";
        String state = "state " + p;
        String toLesser = "x message " + p + " " + lesser + " 3, protocol, ";
        String toGreater = "x message " + p + " " + greater + " 3, protocol, ";
        String choose = "2x end, choose " + p + ", ";
        Calls.after(choose + 3 + toLesser + "3x " + send + "5").due(state + ", " + send + "6", MAY_SEND, 1);
        String held = choose + 4 + toLesser + "4x " + send + "5";
        Sentences.refused(held, send + "6", NONE);
        Calls.after(held).due(state + ", partner " + p, HELD, lesser)
            .due("receive " + lesser + ", " + state + ", " + send + "6", 3, MAY_SEND, 1);

        Calls.after(choose + 3 + toGreater + "3x " + send + "5").due(send + "6, " + send + "7", 1);
        Calls.after(choose + 4 + toGreater + "4x " + send + "5").due(state + ", " + send + "6", MAY_SEND, 1)
            .due(state + ", partner " + p + ", " + send + "7", HELD, greater, NONE)
            .due("receive " + greater + ", " + state + ", " + send + "7, " + state, 3, MAY_SEND, 1, OVER);
    }

    private static void receivingAndNumbers() {
        Sentences.under("Terms");
        Sentences.sentence("A receiving can be done if the message is on its way.", () -> {
            Calls.after(FOREVER).due("state 1, receive 1", WAITS, NONE).due("send 0 0 0, state 1", 3, MAY_RECEIVE)
                .due("receive 1, state 1, receive 1", 3, WAITS, NONE);
            Sentences.refused(FOREVER, "receive 1", NONE);
            Sentences.refused(FOREVER + ", send 0 0 5, receive 1", "receive 1", NONE);
            Sentences.refused(FOREVER + ", send 0 0 5, restart", "receive 1", NONE);
            Sentences.refused("end, message 2 1 2, message 0 1 1, protocol, send 2 0 0", "receive 1", NONE);
            Sentences.refused(PICKING, "receive 0", NONE);
            Sentences.refused(HALF_TOLD, "receive 2", NONE);
            Calls.after(HALF_TOLD).due("state 0, state 2, receive 0", MAY_RECEIVE, WAITS, 1);
            Calls.after(HELD_RUN).due("4x receive 1", 3).due("receive 1", NONE);
        });
        Sentences.sentence("Each message carries a number that its sender gives.", () -> {
            int[] numbers = {0, 1, -1, LEAST, GREATEST, LEAST + 1, 65536, 256, -4};
            Calls calls = Calls.after("again 0, message 2 0 1, loop 0, protocol");
            for (int number : numbers) {
                calls.due("send 2 0 " + number + ", receive 0, got 0", 1, 1, number);
            }
            Calls.after("2x end, choose 0, protocol, send 0 0 " + LEAST + ", send 0 0 " + GREATEST)
                .due("receive 1, receive 2, got 1, got 2", 0, 0, LEAST, GREATEST);
            Calls.after(FOREVER + ", send 0 0 1, send 0 0 2, send 0 0 3, send 0 0 4")
                .due("receive 1, got 1, receive 1, got 1, receive 1, got 1, receive 1, got 1", 3, 1, 3, 2, 3, 3, 3, 4);
        });
    }

    private static void over() {
        Sentences.under("Terms");
        Sentences.sentence("A role is OVER if it has no next action, and none can come,"
            + " whatever is picked later.", () -> {
            Calls.after("end, message 0 1 3, protocol").states(MAY_SEND, WAITS, OVER)
                .due("send 0 0 0", 3).states(OVER, MAY_RECEIVE, OVER).due("onWay 0 1", 1)
                .due("receive 1", 3).states(OVER, OVER, OVER);
            Calls.after("2x end, choose 0, 17x message 0 1 0, protocol")
                .states(MAY_SEND, WAITS, WAITS).due("partner 2", 0);
            Calls.after("2x end, choose 0, 16x loop 1, message 0 1 0, protocol, send 0 0 0, receive 1")
                .states(MAY_SEND, WAITS, WAITS).partners(1, 0, 0);
            Calls.after("again 0, message 1 2 0, loop 0, message 0 1 3, protocol, send 0 0 0")
                .states(OVER, MAY_RECEIVE, WAITS).partners(NONE, 0, 1);
            Calls.after("again 0, message 0 1 0, loop 0, end, choose 2, protocol, send 2 0 0, send 2 0 0")
                .states(MAY_RECEIVE, MAY_RECEIVE, OVER).due("receive 0", 0).states(MAY_SEND, MAY_RECEIVE, OVER);
            Calls.after("again 0, message 2 1 3, 17x message 0 1 3, loop 0, protocol").states(MAY_SEND, WAITS, MAY_SEND)
                .due("4x send 2 0 0", 3).states(MAY_SEND, WAITS, HELD);
            Calls.after("again 0, message 0 1 3, again 0, message 1 0 3, choose 2, loop 0, protocol, 2x send 2 0 0")
                .states(MAY_RECEIVE, MAY_RECEIVE, MAY_SEND);
        });
    }

    private static void everyCall() {
        Sentences.under("Terms");
        Sentences.sentence("No call ever throws.", () -> {
            int[] numbers = {LEAST, LEAST + 1, -1, 0, 1, 2, 3, 4, 20, 65536, GREATEST};
            String[] calls = {"end", "message A B C", "choose A", "loop A", "again A", "discard", "protocol", "restart",
                "send A B C", "receive A", "got A", "state A", "partner A", "onWay A B", "sent", "canFinish"};
            for (String scene : SCENES) {
                for (String call : calls) {
                    callWithAll(scene, call, numbers);
                }
            }
        });
        Sentences.sentence("A refused call answers the code named and changes nothing.", TermsBoundaries::allRefusals);
        Sentences.sentence("In every call a role that is not 0 to 2 answers BAD_ARG, tested first.", () -> {
            // The later ones name a role, or a pair of them, if only a part of the number is looked at.
            int[] noRoles = {-1, 3, -2, 4, 256, 65536, LEAST, LEAST + 1, GREATEST};
            for (String scene : SCENES) {
                for (String call : ROLE_CALLS) {
                    Sentences.refused(scene, call.replace("R", "-1"), BAD_ARG);
                    Sentences.refused(scene, call.replace("R", "3"), BAD_ARG);
                    for (int noRole : noRoles) {
                        Calls.after(scene).due(call.replace("R", "" + noRole), BAD_ARG);
                    }
                }
                Calls.after(scene).due("message 3 3 4, message -1 0 -1, send 3 2 0, send -1 -1 0", BAD_ARG);
            }
        });
    }

    private static void callWithAll(String scene, String call, int[] numbers) {
        for (int a : numbers) {
            for (int b : call.contains("B") ? numbers : new int[1]) {
                for (int c : call.contains("C") ? numbers : new int[1]) {
                    Calls calls = Calls.after(scene);
                    calls.answer(call.replace("A", "" + a).replace("B", "" + b).replace("C", "" + c));
                    Sentences.tested();
                }
            }
        }
    }

    private static void allRefusals() {
        for (String scene : SCENES) {
            Sentences.refused(scene, "message 1 1 0", BAD_ARG);
            Sentences.refused(scene, "message 0 1 4", BAD_ARG);
            Sentences.refused(scene, "choose 3", BAD_ARG);
            Sentences.refused(scene, "loop 2", BAD_ARG);
            Sentences.refused(scene, "again -1", BAD_ARG);
        }
        for (String scene : new String[] {"20x end", FULL_WITH_ONE_TERM, HELD_RUN + ", 20x again 0"}) {
            for (String call : new String[] {"end", "message 0 1 2", "choose 2", "loop 1", "again 1"}) {
                Sentences.refused(scene, call, FULL);
            }
        }
        String[] emptyStack = {"", FOREVER, HELD_RUN, HALF_TOLD, OVER_RUN, END_OR_FOREVER + ", 2x send 2 1 9"};
        for (String scene : emptyStack) {
            for (String call : new String[] {"message 0 1 2", "choose 2", "loop 1", "protocol"}) {
                Sentences.refused(scene, call, TOO_FEW);
            }
            String then = scene.isEmpty() ? "" : scene + ", ";
            Sentences.refused(then + "end", "choose 2", TOO_FEW);
            Sentences.refused(then + "2x end", "protocol", TOO_FEW);
            Sentences.refused(then + "again 0, message 0 1 2", "protocol", BAD_LOOP);
            Sentences.refused(then + "again 1, loop 1", "protocol", BAD_LOOP);
        }
        Sentences.refused(HELD_RUN, "send 0 0 5", NONE);
        Sentences.refused(HELD_RUN, "receive 0", NONE);
        Sentences.refused(HELD_RUN, "send 1 0 5", NONE);
        Sentences.refused(HELD_RUN, "send 2 0 5", NONE);
        Sentences.refused(HELD_RUN, "receive 2", NONE);
        Sentences.refused(HELD_PICKING, "send 0 1 5", NONE);
        Sentences.refused(PICKING, "send 0 1 5", NONE);
        Sentences.refused(PICKING, "receive 1", NONE);
        Sentences.refused(PICKING, "receive 2", NONE);
        Sentences.refused(PICKING, "send 1 2 5", BAD_ARG);
        Sentences.refused(PICKING, "send 1 -1 5", BAD_ARG);
        Sentences.refused(END_OR_FOREVER, "send 2 2 5", BAD_ARG);
        Sentences.refused(END_OR_FOREVER, "send 2 -1 5", BAD_ARG);
        Sentences.refused(END_OR_FOREVER, "send 0 1 5", NONE);
        Sentences.refused(END_OR_FOREVER + ", send 2 1 9", "send 1 0 5", NONE);
        Sentences.refused(HALF_TOLD, "send 0 0 5", NONE);
        Sentences.refused(HALF_TOLD, "receive 1", NONE);
        Sentences.refused(HALF_TOLD, "receive 2", NONE);
        Sentences.refused(OVER_RUN, "send 0 0 5", NONE);
        Sentences.refused(OVER_RUN, "receive 1", NONE);
        Sentences.refused(OVER_RUN, "receive 2", NONE);
    }

    private static void refusedProtocol(String terms) {
        Sentences.refused(terms, "protocol", BAD_LOOP);
    }

    private static void constants() {
        Sentences.under("Terms");
        Sentences.sentence("`BAD_ARG = -1`: An argument is out of its range.", () -> {
            String[] calls = {"message -1 1 0", "message 3 1 0", "message 0 -1 0", "message 0 3 0", "message 0 1 -1",
                "message 0 1 4", "choose -1", "choose 3", "loop -1", "loop 2", "again -1", "again 2", "send -1 0 0",
                "send 3 0 0", "send 1 -1 0", "send 1 2 0", "receive -1", "receive 3", "got -1", "got 3", "state -1",
                "state 3", "partner -1", "partner 3", "onWay -1 0", "onWay 3 0", "onWay 0 -1", "onWay 0 3"};
            for (String call : calls) {
                Calls.after(PICKING + ", 2x end").due(call, ProtocolRoles.BAD_ARG).due("discard", 2);
                Calls.after(PICKING + ", 2x end").due(call, -1);
            }
        });
        Sentences.sentence("`FULL = -2`: A limit is reached.", () -> {
            Calls.after("20x end").due("end", ProtocolRoles.FULL).due("end", -2);
            Calls.after("19x end").due("end", 20);
        });
        Sentences.sentence("`TOO_FEW = -3`: The stack holds too few terms, or not just one.", () -> {
            Calls.after("").due("message 0 1 0, loop 0, choose 0, protocol", ProtocolRoles.TOO_FEW);
            Calls.after("").due("message 0 1 0, loop 0, choose 0, protocol", -3);
            Calls.after("end").due("choose 0", -3).due("message 0 1 0, loop 0", 1).due("protocol", 3);
            Calls.after("2x end").due("protocol", -3).due("choose 0", 1).due("protocol", 3);
        });
        Sentences.sentence("`NONE = -4`: There is no such thing.", () -> {
            Calls.after("").due("send 0 0 0, receive 0, partner 0", ProtocolRoles.NONE);
            Calls.after("").due("send 0 0 0, receive 0, partner 0", -4);
            Calls.after("end, message 0 1 2, protocol").due("send 0 0 0, receive 1", 2);
        });
        Sentences.sentence("`BAD_LOOP = -5`: A term again t has no loop t around it", () -> {
            Calls.after("again 0").due("protocol", ProtocolRoles.BAD_LOOP).due("protocol", -5);
            for (int t = 0; t < 2; t++) {
                String own = "loop " + t;
                String other = "loop " + (1 - t);
                String again = "again " + t + ", message 0 1 2, ";
                refusedProtocol("again " + t);
                refusedProtocol(again + "message 1 2 0");
                refusedProtocol(again + other);
                refusedProtocol(again + other + ", " + other);
                refusedProtocol(again + "end, choose 1");
                refusedProtocol(again + "end, " + own + ", choose 1");
                refusedProtocol("end, " + own + ", " + again + "choose 1");
                refusedProtocol(again + own + ", " + again + "choose 1");
                refusedProtocol(again + again + "choose 0, " + other);
                refusedProtocol(again + "18x " + other);
                Calls.after(again + own).due("protocol", 3);
                Calls.after(again + "17x " + other + ", " + own).due("protocol", 20);
                Calls.after(again + own + ", " + again + own + ", choose 0").due("protocol", 7);
            }
        });
        Sentences.sentence("or there is no message and no choose between it and that loop.", () -> {
            for (int t = 0; t < 2; t++) {
                String own = "loop " + t;
                String other = "loop " + (1 - t);
                String again = "again " + t + ", ";
                refusedProtocol(again + own);
                refusedProtocol(again + other + ", " + own);
                refusedProtocol(again + "17x " + other + ", " + own);
                refusedProtocol(again + own + ", " + own);
                refusedProtocol(again + own + ", message 0 1 2");
                refusedProtocol(again + own + ", message 0 1 2, " + own);
                refusedProtocol(again + own + ", end, choose 0, " + own);
                refusedProtocol(again + "message 0 1 2, end, " + again + own + ", choose 0, choose 1, " + own);
                refusedProtocol("end, " + again + own + ", choose 2");
                Calls.after(again + "message 0 1 2, " + own).due("protocol", 3);
                Calls.after(again + "end, choose 1, " + own).due("protocol", 4);
                Calls.after("end, " + again + "choose 1, " + own).due("protocol", 4);
                Calls.after(again + again + "choose 1, " + own).due("protocol", 4);
                Calls.after(again + other + ", message 0 1 2, " + own).due("protocol", 4);
                Calls.after(again + "message 0 1 2, " + other + ", " + own).due("protocol", 4);
                Calls.after(again + "16x " + other + ", message 0 1 2, " + own + ", " + own).due("protocol", 20);
            }
        });
        Sentences.sentence("`OVER = 0`, `MAY_SEND = 1`, `HELD = 2`, `MAY_RECEIVE = 3`,"
            + " `WAITS = 4`: What a role can do.", () -> {
            Calls.after("").states(0, 0, 0).states(ProtocolRoles.OVER, ProtocolRoles.OVER, ProtocolRoles.OVER);
            Calls.after(FOREVER).states(1, 4, 0)
                .states(ProtocolRoles.MAY_SEND, ProtocolRoles.WAITS, ProtocolRoles.OVER);
            Calls.after(HELD_RUN).states(2, 3, 0)
                .states(ProtocolRoles.HELD, ProtocolRoles.MAY_RECEIVE, ProtocolRoles.OVER);
        });
    }

    public static void main(String[] args) {
        useOfAnObject();
        rolesAndLoops();
        path();
        actions();
        capacity();
        receivingAndNumbers();
        over();
        everyCall();
        constants();
        Sentences.report();
    }
}
