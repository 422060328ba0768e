/** One test or more for each promise: ordinary inputs, the edges that the document names, wrong inputs. */
public final class PromiseTests {
    private static final int BAD_ARG = -1;
    private static final int FULL = -2;
    private static final int TOO_FEW = -3;
    private static final int NONE = -4;
    private static final int BAD_LOOP = -5;
    private static final int OVER = 0;
    private static final int MAY_SEND = 1;
    private static final int HELD = 2;
    private static final int MAY_RECEIVE = 3;
    private static final int WAITS = 4;
    private static final int[] NO_ROLES = {-1, 3, 4, Integer.MIN_VALUE, Integer.MAX_VALUE};

    private static int wrong = 0;
    private static int promise = 0;

    private static void due(String call, int got, int want) {
        if (got != want) {
            wrong++;
            System.out.println("promise " + promise + ": " + call + " answered " + got + ", due is " + want);
        }
    }

    private static void dueStates(ProtocolRoles x, int s0, int s1, int s2) {
        due("state(0)", x.state(0), s0);
        due("state(1)", x.state(1), s1);
        due("state(2)", x.state(2), s2);
    }

    private static void duePartners(ProtocolRoles x, int p0, int p1, int p2) {
        due("partner(0)", x.partner(0), p0);
        due("partner(1)", x.partner(1), p1);
        due("partner(2)", x.partner(2), p2);
    }

    private static void dueNothingOnWay(ProtocolRoles x) {
        for (int p = 0; p < 3; p++) {
            for (int q = 0; q < 3; q++) {
                due("onWay(" + p + ", " + q + ")", x.onWay(p, q), 0);
            }
        }
    }

    private static void dueFreshRun(ProtocolRoles x) {
        dueNothingOnWay(x);
        due("sent()", x.sent(), 0);
        for (int role = 0; role < 3; role++) {
            due("got(" + role + ")", x.got(role), 0);
        }
    }

    private static void pushEnds(ProtocolRoles x, int n) {
        for (int i = 1; i <= n; i++) {
            due("end() number " + i, x.end(), i);
        }
    }

    private static void begin(ProtocolRoles x, int terms) {
        due("protocol()", x.protocol(), terms);
    }

    private static ProtocolRoles oneMessage(int p, int q, int l) {
        ProtocolRoles x = new ProtocolRoles();
        x.end();
        x.message(p, q, l);
        begin(x, 2);
        return x;
    }

    private static ProtocolRoles messageForever(int p, int q, int l) {
        ProtocolRoles x = new ProtocolRoles();
        x.again(0);
        x.message(p, q, l);
        x.loop(0);
        begin(x, 3);
        return x;
    }

    private static ProtocolRoles chooseOfEnds(int p) {
        ProtocolRoles x = new ProtocolRoles();
        x.end();
        x.end();
        x.choose(p);
        begin(x, 3);
        return x;
    }

    /** loop 0 of choose p of (again 0), end */
    private static ProtocolRoles chooseWhile(int p) {
        ProtocolRoles x = new ProtocolRoles();
        x.again(0);
        x.end();
        x.choose(p);
        x.loop(0);
        begin(x, 4);
        return x;
    }

    private static void newObject() {
        ProtocolRoles x = new ProtocolRoles();
        dueStates(x, OVER, OVER, OVER);
        duePartners(x, NONE, NONE, NONE);
        dueFreshRun(x);
        due("canFinish()", x.canFinish(), 1);
        due("send(0, 0, 1)", x.send(0, 0, 1), NONE);
        due("receive(0)", x.receive(0), NONE);
        due("protocol()", x.protocol(), TOO_FEW);
        due("discard()", x.discard(), 0);
        x.restart();
        dueStates(x, OVER, OVER, OVER);
        ProtocolRoles other = messageForever(0, 1, 0);
        due("send(0, 0, 1) of another object", other.send(0, 0, 1), 0);
        dueFreshRun(x);
    }

    private static void endPushes() {
        ProtocolRoles x = new ProtocolRoles();
        pushEnds(x, 20);
        due("end()", x.end(), FULL);
        due("discard()", x.discard(), 20);
        pushEnds(x, 20);
        due("end()", x.end(), FULL);
        x.discard();
        due("end()", x.end(), 1);
        due("message(0, 1, 0)", x.message(0, 1, 0), 1);
        begin(x, 2);
        pushEnds(x, 20);
        due("end()", x.end(), FULL);
    }

    private static void fullCountsTermsNotTheStack() {
        ProtocolRoles x = new ProtocolRoles();
        x.end();
        for (int i = 2; i <= 20; i++) {
            due("message(0, 1, 0) as term " + i, x.message(0, 1, 0), 1);
        }
        due("end()", x.end(), FULL);
        due("message(0, 1, 0)", x.message(0, 1, 0), FULL);
        due("choose(0)", x.choose(0), FULL);
        due("loop(0)", x.loop(0), FULL);
        due("again(0)", x.again(0), FULL);
        due("message(0, 0, 0)", x.message(0, 0, 0), BAD_ARG);
        due("choose(3)", x.choose(3), BAD_ARG);
        due("loop(2)", x.loop(2), BAD_ARG);
        due("again(2)", x.again(2), BAD_ARG);
        begin(x, 20);
        for (int i = 0; i < 19; i++) {
            due("send(0, 0, 0)", x.send(0, 0, 0), 0);
            due("receive(1)", x.receive(1), 0);
        }
        dueStates(x, OVER, OVER, OVER);
    }

    private static void refusedTermsAreNotCounted() {
        ProtocolRoles x = new ProtocolRoles();
        for (int i = 0; i < 30; i++) {
            due("message(0, 1, 0)", x.message(0, 1, 0), TOO_FEW);
            due("message(0, 1, 4)", x.message(0, 1, 4), BAD_ARG);
            due("choose(0)", x.choose(0), TOO_FEW);
            due("loop(1)", x.loop(1), TOO_FEW);
            due("again(2)", x.again(2), BAD_ARG);
        }
        pushEnds(x, 20);
        due("end()", x.end(), FULL);
    }

    private static void messagePushes() {
        ProtocolRoles x = new ProtocolRoles();
        due("message(0, 1, 0)", x.message(0, 1, 0), TOO_FEW);
        due("message(1, 1, 0)", x.message(1, 1, 0), BAD_ARG);
        x.end();
        x.end();
        for (int bad : NO_ROLES) {
            due("message(" + bad + ", 1, 0)", x.message(bad, 1, 0), BAD_ARG);
            due("message(1, " + bad + ", 0)", x.message(1, bad, 0), BAD_ARG);
            due("message(0, 1, " + bad + ")", x.message(0, 1, bad), bad == 3 ? 2 : BAD_ARG);
        }
        due("message(2, 2, 1)", x.message(2, 2, 1), BAD_ARG);
        due("message(2, 1, 0)", x.message(2, 1, 0), 2);
        due("discard()", x.discard(), 2);
        for (int p = 0; p < 3; p++) {
            for (int q = 0; q < 3; q++) {
                for (int l = 0; l < 4 && p != q; l++) {
                    ProtocolRoles y = oneMessage(p, q, l);
                    due("partner of sender", y.partner(p), q);
                    due("partner of receiver", y.partner(q), p);
                    due("state of the third role", y.state(3 - p - q), OVER);
                    due("send", y.send(p, 9, 77), l);
                    due("receive", y.receive(q), l);
                    due("got", y.got(q), 77);
                }
            }
        }
    }

    private static void messageTakesTheTopTerm() {
        ProtocolRoles x = new ProtocolRoles();
        x.end();
        x.message(0, 1, 1);
        x.message(1, 2, 2);
        begin(x, 3);
        dueStates(x, MAY_SEND, MAY_SEND, WAITS);
        duePartners(x, 1, 2, 1);
        due("send(0, 0, 0)", x.send(0, 0, 0), 1);
        due("receiving before the sending", x.receive(1), NONE);
        due("send(1, 0, 0)", x.send(1, 0, 0), 2);
        due("receive(1)", x.receive(1), 1);
    }

    private static void choosePushes() {
        ProtocolRoles x = new ProtocolRoles();
        due("choose(0)", x.choose(0), TOO_FEW);
        x.end();
        due("choose(0)", x.choose(0), TOO_FEW);
        due("choose(3)", x.choose(3), BAD_ARG);
        x.end();
        x.end();
        for (int bad : NO_ROLES) {
            due("choose(" + bad + ")", x.choose(bad), BAD_ARG);
        }
        due("choose(2)", x.choose(2), 2);
        due("choose(1)", x.choose(1), 1);
        begin(x, 5);
        dueStates(x, WAITS, MAY_SEND, WAITS);
    }

    private static void chooseTellsBothOthers() {
        for (int p = 0; p < 3; p++) {
            for (int pick = 0; pick < 2; pick++) {
                int lesser = p == 0 ? 1 : 0;
                int greater = p == 2 ? 1 : 2;
                ProtocolRoles x = new ProtocolRoles();
                x.end();
                x.message(lesser, greater, 2);
                x.end();
                x.message(greater, lesser, 3);
                x.choose(p);
                begin(x, 5);
                due("partner(" + p + ")", x.partner(p), lesser);
                due("partner(" + greater + ")", x.partner(greater), p);
                due("picking", x.send(p, pick, 10), pick);
                due("onWay to the lesser", x.onWay(p, lesser), 1);
                due("onWay to the greater", x.onWay(p, greater), 0);
                due("partner(" + p + ")", x.partner(p), greater);
                due("telling the second", x.send(p, 1 - pick, 20), pick);
                due("onWay to the greater", x.onWay(p, greater), 1);
                due("state(" + p + ")", x.state(p), OVER);
                due("receive(" + lesser + ")", x.receive(lesser), pick);
                due("got(" + lesser + ")", x.got(lesser), 10);
                due("receive(" + greater + ")", x.receive(greater), pick);
                due("got(" + greater + ")", x.got(greater), 20);
                due("state of lesser", x.state(lesser), pick == 0 ? MAY_SEND : WAITS);
                due("state of greater", x.state(greater), pick == 0 ? WAITS : MAY_SEND);
            }
        }
    }

    private static void loopPushes() {
        ProtocolRoles x = new ProtocolRoles();
        due("loop(0)", x.loop(0), TOO_FEW);
        due("loop(-1)", x.loop(-1), BAD_ARG);
        x.end();
        due("loop(2)", x.loop(2), BAD_ARG);
        due("loop(min)", x.loop(Integer.MIN_VALUE), BAD_ARG);
        due("loop(0)", x.loop(0), 1);
        due("loop(1)", x.loop(1), 1);
        x.end();
        due("loop(1)", x.loop(1), 2);
        x.discard();
        x.end();
        x.loop(0);
        begin(x, 2);
        dueStates(x, OVER, OVER, OVER);
        due("canFinish()", x.canFinish(), 1);
    }

    private static void againPushes() {
        ProtocolRoles x = new ProtocolRoles();
        due("again(-1)", x.again(-1), BAD_ARG);
        due("again(2)", x.again(2), BAD_ARG);
        due("again(max)", x.again(Integer.MAX_VALUE), BAD_ARG);
        due("again(0)", x.again(0), 1);
        due("again(1)", x.again(1), 2);
        for (int i = 3; i <= 20; i++) {
            due("again(0) number " + i, x.again(0), i);
        }
        due("again(0)", x.again(0), FULL);
    }

    private static void againGoesToItsOwnLoop() {
        ProtocolRoles x = new ProtocolRoles();
        x.again(0);
        x.message(0, 1, 3);
        x.loop(1);
        x.message(0, 1, 2);
        x.loop(0);
        x.message(0, 1, 1);
        x.loop(1);
        begin(x, 7);
        int[] labels = {1, 2, 3, 2, 3, 2, 3};
        for (int label : labels) {
            due("send(0, 0, 0)", x.send(0, 0, 0), label);
            due("receive(1)", x.receive(1), label);
        }
    }

    private static void againGoesToTheNearestLoop() {
        ProtocolRoles x = new ProtocolRoles();
        x.again(0);
        x.message(0, 1, 2);
        x.loop(0);
        x.message(0, 1, 1);
        x.loop(0);
        begin(x, 5);
        int[] labels = {1, 2, 2, 2};
        for (int label : labels) {
            due("send(0, 0, 0)", x.send(0, 0, 0), label);
            due("receive(1)", x.receive(1), label);
        }
    }

    private static void againMayLeaveAnInnerLoop() {
        ProtocolRoles x = new ProtocolRoles();
        x.again(1);
        x.loop(0);
        x.message(2, 0, 1);
        x.loop(1);
        begin(x, 4);
        for (int i = 0; i < 3; i++) {
            due("send(2, 0, 0)", x.send(2, 0, 0), 1);
            due("receive(0)", x.receive(0), 1);
        }
        due("state(1)", x.state(1), OVER);
    }

    private static void discardEmpties() {
        ProtocolRoles x = new ProtocolRoles();
        due("discard()", x.discard(), 0);
        pushEnds(x, 3);
        x.choose(1);
        due("discard()", x.discard(), 2);
        due("discard()", x.discard(), 0);
        due("message(0, 1, 0)", x.message(0, 1, 0), TOO_FEW);
        due("protocol()", x.protocol(), TOO_FEW);
        due("end()", x.end(), 1);
    }

    private static void discardLeavesTheRun() {
        ProtocolRoles x = messageForever(0, 2, 3);
        x.send(0, 0, 5);
        x.end();
        due("discard()", x.discard(), 1);
        due("onWay(0, 2)", x.onWay(0, 2), 1);
        due("receive(2)", x.receive(2), 3);
        due("got(2)", x.got(2), 5);
        due("state(0)", x.state(0), MAY_SEND);
    }

    private static void protocolNeedsJustOneTerm() {
        ProtocolRoles x = new ProtocolRoles();
        due("protocol()", x.protocol(), TOO_FEW);
        x.again(0);
        x.again(1);
        due("protocol() of two bad terms", x.protocol(), TOO_FEW);
        due("choose(0)", x.choose(0), 1);
        due("protocol()", x.protocol(), BAD_LOOP);
        due("loop(0)", x.loop(0), 1);
        due("protocol()", x.protocol(), BAD_LOOP);
        due("loop(1)", x.loop(1), 1);
        begin(x, 5);
        due("discard()", x.discard(), 0);
        dueStates(x, MAY_SEND, WAITS, WAITS);
        due("canFinish()", x.canFinish(), 0);
    }

    private static void badLoops() {
        ProtocolRoles x = new ProtocolRoles();
        x.again(0);
        due("again without loop", x.protocol(), BAD_LOOP);
        x.loop(1);
        due("again 0 in loop 1", x.protocol(), BAD_LOOP);
        x.loop(0);
        due("nothing between but a loop", x.protocol(), BAD_LOOP);
        x.message(0, 1, 0);
        due("message outside the loop", x.protocol(), BAD_LOOP);
        x.loop(0);
        due("message outside the nearest loop", x.protocol(), BAD_LOOP);
        due("discard()", x.discard(), 1);

        x.again(1);
        x.message(0, 1, 0);
        x.loop(0);
        due("again 1 in loop 0", x.protocol(), BAD_LOOP);
        x.discard();

        x.end();
        x.again(1);
        x.choose(2);
        due("again 1 in a choose", x.protocol(), BAD_LOOP);
        x.loop(1);
        due("choose between suffices", x.protocol(), 4);

        x.again(0);
        x.loop(0);
        x.end();
        x.choose(0);
        due("bad loop within the first of a choose", x.protocol(), BAD_LOOP);
        x.discard();

        x.again(0);
        x.message(0, 1, 0);
        x.loop(0);
        x.again(0);
        x.choose(0);
        due("again beside its loop", x.protocol(), BAD_LOOP);
        x.discard();

        x.again(0);
        x.loop(1);
        x.message(1, 2, 0);
        x.loop(0);
        due("a loop and a message between", x.protocol(), 4);
    }

    private static void refusedProtocolChangesNothing() {
        ProtocolRoles x = oneMessage(1, 0, 2);
        x.send(1, 0, 44);
        due("protocol()", x.protocol(), TOO_FEW);
        for (int i = 0; i < 20; i++) {
            x.again(0);
        }
        due("protocol()", x.protocol(), TOO_FEW);
        due("end()", x.end(), FULL);
        x.discard();
        x.again(0);
        for (int i = 0; i < 19; i++) {
            x.message(0, 1, 0);
        }
        due("protocol()", x.protocol(), BAD_LOOP);
        due("end()", x.end(), FULL);
        due("onWay(1, 0)", x.onWay(1, 0), 1);
        due("sent()", x.sent(), 1);
        due("receive(0)", x.receive(0), 2);
        due("got(0)", x.got(0), 44);
        due("discard()", x.discard(), 1);
    }

    private static void protocolBeginsItsRun() {
        ProtocolRoles x = chooseWhile(0);
        x.send(0, 0, 5);
        x.receive(1);
        x.end();
        x.message(2, 1, 3);
        begin(x, 2);
        dueFreshRun(x);
        dueStates(x, OVER, WAITS, MAY_SEND);
        due("send(2, 0, 6)", x.send(2, 0, 6), 3);
        x.end();
        begin(x, 1);
        dueFreshRun(x);
        dueStates(x, OVER, OVER, OVER);
    }

    private static void buildingLeavesTheRun() {
        ProtocolRoles x = chooseWhile(2);
        due("send(2, 0, 1)", x.send(2, 0, 1), 0);
        pushEnds(x, 15);
        x.message(0, 1, 1);
        x.choose(0);
        x.loop(1);
        x.again(1);
        due("send(2, 0, 2)", x.send(2, 0, 2), 0);
        due("receive(1)", x.receive(1), 0);
        due("receive(0)", x.receive(0), 0);
        due("send(2, 1, 3)", x.send(2, 1, 3), 1);
        x.restart();
        due("discard() after restart", x.discard(), 15);
        due("canFinish()", x.canFinish(), 1);
    }

    private static void restartBeginsAnew() {
        ProtocolRoles x = chooseWhile(0);
        x.send(0, 1, 8);
        x.receive(1);
        due("state(1)", x.state(1), OVER);
        due("partner(0)", x.partner(0), 2);
        x.restart();
        dueFreshRun(x);
        dueStates(x, MAY_SEND, WAITS, WAITS);
        duePartners(x, 1, 0, 0);
        due("send(0, 2, 0)", x.send(0, 2, 0), BAD_ARG);
        due("send(0, 0, 9)", x.send(0, 0, 9), 0);
        due("receive(1)", x.receive(1), 0);
        due("got(1)", x.got(1), 9);
        x.restart();
        x.restart();
        dueFreshRun(x);
    }

    private static void restartBringsBackTheEnd() {
        ProtocolRoles x = new ProtocolRoles();
        x.again(0);
        x.message(0, 1, 0);
        x.loop(0);
        x.end();
        x.choose(0);
        begin(x, 5);
        x.send(0, 0, 0);
        due("canFinish() in the endless branch", x.canFinish(), 0);
        x.restart();
        due("canFinish() after restart", x.canFinish(), 1);
    }

    private static void sendDoesTheNextAction() {
        ProtocolRoles x = oneMessage(0, 1, 3);
        for (int bad : NO_ROLES) {
            due("send(" + bad + ", 0, 0)", x.send(bad, 0, 0), BAD_ARG);
        }
        due("send(1, 0, 0)", x.send(1, 0, 0), NONE);
        due("send(2, 0, 0)", x.send(2, 0, 0), NONE);
        due("send(0, -7, 5)", x.send(0, -7, 5), 3);
        due("send(0, 0, 5)", x.send(0, 0, 5), NONE);
        due("send(1, 0, 5)", x.send(1, 0, 5), NONE);
        due("sent()", x.sent(), 1);
    }

    private static void sendIsHeldAtFour() {
        ProtocolRoles x = messageForever(2, 0, 1);
        for (int i = 1; i <= 4; i++) {
            due("send(2, 0, " + i + ")", x.send(2, 0, i), 1);
        }
        due("send(2, 0, 5)", x.send(2, 0, 5), NONE);
        due("onWay(2, 0)", x.onWay(2, 0), 4);
        due("sent()", x.sent(), 4);
        for (int i = 1; i <= 50; i++) {
            due("receive(0)", x.receive(0), 1);
            due("got(0)", x.got(0), i);
            due("send(2, 0, " + (i + 4) + ")", x.send(2, 0, i + 4), 1);
            due("send(2, 0, 0)", x.send(2, 0, 0), NONE);
        }
    }

    private static void sendLimitsEachPairByItself() {
        ProtocolRoles x = new ProtocolRoles();
        x.again(0);
        x.message(0, 2, 1);
        x.message(0, 1, 0);
        x.loop(0);
        begin(x, 4);
        for (int i = 0; i < 4; i++) {
            due("send(0, 0, 0)", x.send(0, 0, 0), 0);
            due("send(0, 0, 0)", x.send(0, 0, 0), 1);
        }
        due("state(0)", x.state(0), HELD);
        due("receive(2)", x.receive(2), 1);
        due("state(0)", x.state(0), HELD);
        due("receive(1)", x.receive(1), 0);
        due("send(0, 0, 0)", x.send(0, 0, 0), 0);
        due("send(0, 0, 0)", x.send(0, 0, 0), 1);
        due("send(0, 0, 0)", x.send(0, 0, 0), NONE);
    }

    private static void pickingTestsItsPick() {
        ProtocolRoles x = chooseWhile(1);
        int[] bad = {-1, 2, 3, Integer.MIN_VALUE, Integer.MAX_VALUE};
        for (int pick : bad) {
            due("send(1, " + pick + ", 0)", x.send(1, pick, 0), BAD_ARG);
        }
        due("sent()", x.sent(), 0);
        due("send(0, 2, 0)", x.send(0, 2, 0), NONE);
        for (int i = 0; i < 4; i++) {
            due("picking", x.send(1, 0, i), 0);
            due("telling the second, its pick does not matter", x.send(1, 5, i), 0);
        }
        due("state(1)", x.state(1), HELD);
        due("partner(1)", x.partner(1), 0);
        due("a picking that is held", x.send(1, 0, 0), NONE);
        due("a picking that is held, with a wrong pick", x.send(1, 2, 0), NONE);
        due("receive(2)", x.receive(2), 0);
        due("state(1)", x.state(1), HELD);
        due("receive(0)", x.receive(0), 0);
        due("send(1, 2, 0)", x.send(1, 2, 0), BAD_ARG);
        due("send(1, 1, 0)", x.send(1, 1, 0), 1);
        due("send(1, 0, 0)", x.send(1, 0, 0), 1);
        dueStates(x, MAY_RECEIVE, OVER, MAY_RECEIVE);
        due("sent()", x.sent(), 10);
    }

    private static void tellingTheSecondCanBeHeld() {
        ProtocolRoles x = chooseWhile(0);
        for (int i = 0; i < 4; i++) {
            x.send(0, 0, 0);
            x.send(0, 0, 0);
        }
        x.receive(1);
        due("send(0, 1, 0)", x.send(0, 1, 0), 1);
        due("state(0)", x.state(0), HELD);
        due("partner(0)", x.partner(0), 2);
        due("send(0, 0, 0)", x.send(0, 0, 0), NONE);
        due("send(0, 5, 0)", x.send(0, 5, 0), NONE);
        due("receive(2)", x.receive(2), 0);
        due("send(0, 0, 0)", x.send(0, 0, 0), 1);
        due("state(0)", x.state(0), OVER);
    }

    private static void sendFollowsTheOrderOfThePath() {
        ProtocolRoles x = new ProtocolRoles();
        x.end();
        x.message(1, 2, 2);
        x.message(0, 1, 1);
        begin(x, 3);
        due("send before the receiving", x.send(1, 0, 0), NONE);
        due("send(0, 0, 7)", x.send(0, 0, 7), 1);
        due("send before the receiving", x.send(1, 0, 0), NONE);
        due("receive(1)", x.receive(1), 1);
        due("send(1, 0, 0)", x.send(1, 0, 0), 2);
    }

    private static void receiveDoesTheNextAction() {
        ProtocolRoles x = oneMessage(2, 1, 0);
        for (int bad : NO_ROLES) {
            due("receive(" + bad + ")", x.receive(bad), BAD_ARG);
        }
        due("receive(0)", x.receive(0), NONE);
        due("receive(1)", x.receive(1), NONE);
        due("receive(2)", x.receive(2), NONE);
        due("send(2, 0, 3)", x.send(2, 0, 3), 0);
        due("receive(2)", x.receive(2), NONE);
        due("receive(0)", x.receive(0), NONE);
        due("receive(1)", x.receive(1), 0);
        due("receive(1)", x.receive(1), NONE);
        dueNothingOnWay(x);
    }

    private static void receiveKeepsTheOrderOfThePath() {
        ProtocolRoles x = new ProtocolRoles();
        x.end();
        x.message(2, 1, 2);
        x.message(0, 1, 1);
        begin(x, 3);
        due("send(2, 0, 20)", x.send(2, 0, 20), 2);
        due("state(1)", x.state(1), WAITS);
        due("the later message first", x.receive(1), NONE);
        due("send(0, 0, 10)", x.send(0, 0, 10), 1);
        due("receive(1)", x.receive(1), 1);
        due("got(1)", x.got(1), 10);
        due("receive(1)", x.receive(1), 2);
        due("got(1)", x.got(1), 20);
    }

    private static void receivePicksOfLongAgo() {
        ProtocolRoles x = chooseWhile(2);
        int[] picks = {0, 0, 0, 1};
        for (int pick : picks) {
            x.send(2, pick, 30 + pick);
            x.send(2, 0, 60 + pick);
        }
        due("state(2)", x.state(2), OVER);
        for (int pick : picks) {
            due("receive(1)", x.receive(1), pick);
            due("got(1)", x.got(1), 60 + pick);
        }
        for (int pick : picks) {
            due("receive(0)", x.receive(0), pick);
            due("got(0)", x.got(0), 30 + pick);
        }
        dueStates(x, OVER, OVER, OVER);
    }

    private static void gotIsTheLastNumber() {
        ProtocolRoles x = messageForever(0, 1, 2);
        for (int bad : NO_ROLES) {
            due("got(" + bad + ")", x.got(bad), BAD_ARG);
        }
        int[] values = {0, -1, Integer.MIN_VALUE, Integer.MAX_VALUE, 12345};
        for (int value : values) {
            int before = x.got(1);
            x.send(0, 0, value);
            due("got(1) while on its way", x.got(1), before);
            x.receive(1);
            due("got(1)", x.got(1), value);
            due("got(0)", x.got(0), 0);
            due("got(2)", x.got(2), 0);
        }
        due("receive(1)", x.receive(1), NONE);
        due("got(1) after a refused call", x.got(1), 12345);
        x.restart();
        due("got(1) after restart", x.got(1), 0);
    }

    private static void states() {
        ProtocolRoles x = messageForever(1, 2, 0);
        for (int bad : NO_ROLES) {
            due("state(" + bad + ")", x.state(bad), BAD_ARG);
        }
        dueStates(x, OVER, MAY_SEND, WAITS);
        for (int i = 0; i < 4; i++) {
            due("state(1)", x.state(1), MAY_SEND);
            x.send(1, 0, 0);
        }
        dueStates(x, OVER, HELD, MAY_RECEIVE);
        x.receive(2);
        dueStates(x, OVER, MAY_SEND, MAY_RECEIVE);
    }

    private static void overOnlyIfNothingCanCome() {
        ProtocolRoles x = new ProtocolRoles();
        x.end();
        x.end();
        x.choose(0);
        x.message(0, 1, 3);
        begin(x, 4);
        due("a choose comes later", x.state(2), WAITS);
        due("partner(2)", x.partner(2), 0);

        x.again(0);
        x.message(1, 0, 3);
        x.message(0, 1, 3);
        x.loop(0);
        x.message(2, 0, 1);
        begin(x, 5);
        dueStates(x, WAITS, WAITS, MAY_SEND);
        x.send(2, 0, 0);
        dueStates(x, MAY_RECEIVE, WAITS, OVER);

        x.again(0);
        x.message(2, 0, 1);
        for (int i = 0; i < 17; i++) {
            x.message(0, 1, 3);
        }
        x.loop(0);
        begin(x, 20);
        for (int i = 0; i < 4; i++) {
            due("the only message in a long loop", x.state(2), MAY_SEND);
            due("send(2, 0, 0)", x.send(2, 0, 0), 1);
        }
        due("state(2)", x.state(2), HELD);
    }

    private static void partners() {
        ProtocolRoles x = chooseOfEnds(1);
        for (int bad : NO_ROLES) {
            due("partner(" + bad + ")", x.partner(bad), BAD_ARG);
        }
        duePartners(x, 1, 0, 1);
        x.send(1, 0, 0);
        duePartners(x, 1, 2, 1);
        x.receive(0);
        duePartners(x, NONE, 2, 1);
        x.send(1, 0, 0);
        duePartners(x, NONE, NONE, 1);
        x.receive(2);
        duePartners(x, NONE, NONE, NONE);
        duePartners(messageForever(2, 1, 0), NONE, 2, 1);
        duePartners(messageForever(0, 2, 0), 2, NONE, 0);
    }

    private static void onWayCounts() {
        ProtocolRoles x = messageForever(0, 1, 0);
        for (int bad : NO_ROLES) {
            due("onWay(" + bad + ", 0)", x.onWay(bad, 0), BAD_ARG);
            due("onWay(0, " + bad + ")", x.onWay(0, bad), BAD_ARG);
            due("onWay(" + bad + ", " + bad + ")", x.onWay(bad, bad), BAD_ARG);
        }
        for (int i = 1; i <= 4; i++) {
            x.send(0, 0, 0);
            due("onWay(0, 1)", x.onWay(0, 1), i);
            due("onWay(1, 0)", x.onWay(1, 0), 0);
            due("onWay(0, 0)", x.onWay(0, 0), 0);
            due("onWay(1, 1)", x.onWay(1, 1), 0);
            due("onWay(0, 2)", x.onWay(0, 2), 0);
        }
        for (int i = 3; i >= 0; i--) {
            x.receive(1);
            due("onWay(0, 1)", x.onWay(0, 1), i);
        }
    }

    private static void sentCounts() {
        ProtocolRoles x = chooseOfEnds(0);
        due("sent()", x.sent(), 0);
        x.send(0, 2, 0);
        due("sent() after a refused picking", x.sent(), 0);
        x.send(0, 1, 0);
        due("sent() after the picking", x.sent(), 1);
        x.send(0, 1, 0);
        due("sent()", x.sent(), 2);
        x.send(0, 1, 0);
        x.receive(1);
        x.receive(2);
        due("sent()", x.sent(), 2);
        x.restart();
        due("sent()", x.sent(), 0);
    }

    private static void canFinishAsksForAnEnd() {
        due("endless", messageForever(0, 1, 0).canFinish(), 0);
        due("one message", oneMessage(0, 1, 0).canFinish(), 1);
        ProtocolRoles x = chooseWhile(0);
        for (int i = 0; i < 4; i++) {
            due("canFinish()", x.canFinish(), 1);
            x.send(0, 0, 0);
            x.send(0, 0, 0);
        }
        due("canFinish() while held", x.canFinish(), 1);

        x.again(0);
        x.message(1, 2, 0);
        x.again(0);
        x.message(2, 1, 0);
        x.choose(1);
        x.loop(0);
        begin(x, 6);
        due("canFinish() without an end", x.canFinish(), 0);

        x.again(0);
        x.end();
        x.choose(1);
        x.loop(0);
        x.again(1);
        x.message(0, 2, 0);
        x.loop(1);
        x.choose(2);
        begin(x, 8);
        due("canFinish()", x.canFinish(), 1);
        x.send(2, 1, 0);
        due("canFinish() after the pick, before it is told", x.canFinish(), 0);
        x.restart();
        x.send(2, 0, 0);
        due("canFinish() after the other pick", x.canFinish(), 1);
    }

    private static void canFinishSeesTheFarthestEnd() {
        ProtocolRoles x = new ProtocolRoles();
        x.end();
        for (int i = 0; i < 19; i++) {
            x.message(i % 3, (i + 1) % 3, i % 4);
        }
        begin(x, 20);
        due("canFinish() before 19 messages", x.canFinish(), 1);

        x.again(0);
        for (int i = 0; i < 16; i++) {
            x.message(0, 1, 0);
        }
        x.end();
        x.choose(0);
        x.loop(0);
        begin(x, 20);
        x.send(0, 0, 0);
        due("canFinish() with the end behind the next round", x.canFinish(), 1);
    }

    private static void moreCallsThanPromisedStillAnswer() {
        ProtocolRoles x = chooseWhile(0);
        for (int i = 0; i < 3000; i++) {
            x.send(i % 3, i % 7 == 0 ? 2 : 0, i);
            x.receive((i + 1) % 3);
            x.state(i % 4);
            x.canFinish();
            x.again(i % 3);
            x.message(i % 3, 2, 0);
            x.protocol();
        }
    }

    private static void building() {
        promise = 1;
        newObject();
        promise = 2;
        endPushes();
        fullCountsTermsNotTheStack();
        refusedTermsAreNotCounted();
        promise = 3;
        messagePushes();
        messageTakesTheTopTerm();
        promise = 4;
        choosePushes();
        chooseTellsBothOthers();
        promise = 5;
        loopPushes();
        promise = 6;
        againPushes();
        againGoesToItsOwnLoop();
        againGoesToTheNearestLoop();
        againMayLeaveAnInnerLoop();
        promise = 7;
        discardEmpties();
        discardLeavesTheRun();
        promise = 8;
        protocolNeedsJustOneTerm();
        badLoops();
        refusedProtocolChangesNothing();
        protocolBeginsItsRun();
        buildingLeavesTheRun();
    }

    private static void running() {
        promise = 9;
        restartBeginsAnew();
        restartBringsBackTheEnd();
        promise = 10;
        sendDoesTheNextAction();
        sendIsHeldAtFour();
        sendLimitsEachPairByItself();
        pickingTestsItsPick();
        tellingTheSecondCanBeHeld();
        sendFollowsTheOrderOfThePath();
        promise = 11;
        receiveDoesTheNextAction();
        receiveKeepsTheOrderOfThePath();
        receivePicksOfLongAgo();
        promise = 12;
        gotIsTheLastNumber();
        promise = 13;
        states();
        overOnlyIfNothingCanCome();
        promise = 14;
        partners();
        promise = 15;
        onWayCounts();
        promise = 16;
        sentCounts();
        promise = 17;
        canFinishAsksForAnEnd();
        canFinishSeesTheFarthestEnd();
        moreCallsThanPromisedStillAnswer();
    }

    public static void main(String[] args) {
        building();
        running();
        System.out.println(wrong == 0 ? "every promise is kept" : wrong + " answers are not as due");
        if (wrong != 0) {
            System.exit(1);
        }
    }
}
