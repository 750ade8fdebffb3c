/** Promises 11, 12 and 23: rules, their order, and which of them quarrel. */
public final class RulesTest {
    private static final int[] FAR = {Integer.MIN_VALUE, -2, Integer.MAX_VALUE};
    private static final Due due = new Due();

    public static void main(String[] args) {
        ruleBounds();
        ruleOrder();
        ruleMatching();
        drop();
        quarrel();
        quarrelWithout();
        due.finish();
    }

    private static void ruleBounds() {
        DoorGuard x = new DoorGuard();
        for (int far : FAR) {
            due.is("rule place", x.rule(far, 0, 0, 0, 0), -1);
            due.is("rule sender", x.rule(0, far, 0, 0, 0), -1);
            due.is("rule way", x.rule(0, 0, far, 0, 0), -1);
            due.is("rule kind", x.rule(0, 0, 0, far, 0), -1);
            due.is("rule act", x.rule(0, 0, 0, 0, far), -1);
        }
        due.is("rule place", x.rule(1, 0, 0, 0, 0), -1);
        due.is("rule place", x.rule(-1, 0, 0, 0, 0), -1);
        due.is("rule sender", x.rule(0, 10, 0, 0, 0), -1);
        due.is("rule way", x.rule(0, 0, 3, 0, 0), -1);
        due.is("rule kind", x.rule(0, 0, 0, -1, 0), -1);
        due.is("rule kind", x.rule(0, 0, 0, 8, 0), -1);
        due.is("rule act", x.rule(0, 0, 0, 0, -1), -1);
        due.is("rule act", x.rule(0, 0, 0, 0, 5), -1);
        due.is("state(2)", x.state(2), 0);
        due.is("rule least", x.rule(0, -1, -1, 0, 0), 1);
        due.is("rule most", x.rule(1, 9, 2, 7, 4), 2);
        for (int i = 3; i <= 20; i++) {
            due.is("rule", x.rule(i / 2, 0, 0, 0, 0), i);
        }
        due.is("the 21st", x.rule(0, 0, 0, 0, 0), -1);
        due.is("state(2)", x.state(2), 20);
        due.is("drop", x.drop(19), true);
        due.is("the 20th again", x.rule(19, 0, 0, 0, 0), 20);
    }

    private static DoorGuard markGuard() {
        DoorGuard x = new DoorGuard();
        Due.mark(x, 0, "key");
        Due.mark(x, 1, "door");
        return x;
    }

    private static int actOf(DoorGuard x, int sender, int way, String text) {
        return x.told(Due.send(x, sender, 0, way, text), 4);
    }

    private static void ruleOrder() {
        DoorGuard x = markGuard();
        x.rule(0, -1, -1, 0, 4);
        due.is("the one rule", actOf(x, 0, 0, "key"), 4);
        x.rule(0, -1, -1, 0, 3);
        due.is("one ahead of it", actOf(x, 0, 0, "key"), 3);
        x.rule(2, -1, -1, 0, 2);
        due.is("one behind", actOf(x, 0, 0, "key"), 3);
        x.rule(1, 5, -1, 0, 1);
        x.drop(0);
        due.is("one between", actOf(x, 5, 0, "key"), 1);
        due.is("those from there on moved on", actOf(x, 0, 0, "key"), 4);
        x.drop(1);
        due.is("the last stayed behind", actOf(x, 0, 0, "key"), 2);
    }

    private static void ruleMatching() {
        DoorGuard x = markGuard();
        x.rule(0, 2, -1, 0, 0);
        x.rule(1, -1, 1, 1, 1);
        x.rule(2, -1, -1, 0, 2);
        x.rule(3, -1, -1, 7, 4);
        due.is("let by its sender", actOf(x, 2, 1, "key door"), 0);
        due.is("the kind of a rule that lets", x.told(0, 5), 0);
        due.is("found by a rule that lets", x.told(0, 8), 1);
        due.is("told by its way", actOf(x, 3, 1, "key door"), 1);
        due.is("another way", actOf(x, 3, 2, "key door"), 2);
        due.is("a kind that it has not", actOf(x, 3, 2, "door"), 0);
        due.is("no rule", x.told(3, 5), -1);
        due.is("the second rule for its sender", actOf(x, 2, 1, "door"), 1);
        due.is("a kind without a sort", actOf(x, 3, 0, "anything"), 0);
    }

    private static void drop() {
        DoorGuard x = new DoorGuard();
        due.is("drop of none", x.drop(0), false);
        x.rule(0, 1, 0, 0, 0);
        x.rule(1, 2, 0, 0, 1);
        x.rule(2, -1, 0, 0, 2);
        due.is("drop(3)", x.drop(3), false);
        due.is("drop(-1)", x.drop(-1), false);
        due.is("drop(MIN)", x.drop(Integer.MIN_VALUE), false);
        due.is("drop(MAX)", x.drop(Integer.MAX_VALUE), false);
        due.is("quarrel(0, 2)", x.quarrel(0, 2), 10);
        due.is("drop(0)", x.drop(0), true);
        due.is("state(2)", x.state(2), 2);
        due.is("the next took its place", x.quarrel(0, 1), 20);
        due.is("drop(1)", x.drop(1), true);
        due.is("a rule that went does not quarrel", x.quarrel(0, 1), -1);
        due.is("drop(1) again", x.drop(1), false);
        due.is("drop(0)", x.drop(0), true);
        due.is("state(2)", x.state(2), 0);
    }

    private static int quarrelOf(int sender, int way, int otherSender, int otherWay) {
        DoorGuard x = new DoorGuard();
        x.rule(0, sender, way, 3, 1);
        x.rule(1, otherSender, otherWay, 3, 2);
        int answer = x.quarrel(0, 1);
        due.is("the other way round", x.quarrel(1, 0), answer);
        return answer;
    }

    private static void quarrel() {
        due.is("any and any", quarrelOf(-1, -1, -1, -1), 0);
        due.is("a sender", quarrelOf(9, -1, -1, -1), 90);
        due.is("a way", quarrelOf(-1, 2, -1, -1), 2);
        due.is("a sender and the other's way", quarrelOf(4, -1, -1, 1), 41);
        due.is("the same sender and way", quarrelOf(9, 2, 9, 2), 92);
        due.is("sender 0", quarrelOf(0, -1, 0, -1), 0);
        due.is("other senders", quarrelOf(4, -1, 5, -1), -1);
        due.is("other ways", quarrelOf(-1, 0, -1, 1), -1);
        due.is("other ways of one sender", quarrelOf(7, 0, 7, 1), -1);
        due.is("other senders of one way", quarrelOf(7, 1, 0, 1), -1);
    }

    private static void quarrelWithout() {
        DoorGuard x = new DoorGuard();
        x.rule(0, -1, -1, 0, 1);
        x.rule(1, -1, -1, 0, 1);
        x.rule(2, -1, -1, 1, 2);
        due.is("the same act", x.quarrel(0, 1), -1);
        due.is("other kinds", x.quarrel(0, 2), -1);
        due.is("itself", x.quarrel(0, 0), -1);
        due.is("no such one", x.quarrel(0, 3), -1);
        due.is("no such one", x.quarrel(3, 0), -1);
        due.is("no such one", x.quarrel(-1, 0), -1);
        due.is("no such one", x.quarrel(0, Integer.MIN_VALUE), -1);
        due.is("no such one", x.quarrel(Integer.MAX_VALUE, 0), -1);
    }
}
