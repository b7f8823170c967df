/** Promises 1 to 10: a new object, the text, and the tree that it describes. */
final class TreeTest {
    private static final String INDEX = " = throws IndexOutOfBoundsException; ";
    private static final String ARGUMENT = " = throws IllegalArgumentException; ";

    public static void main(String[] args) {
        newObject();
        text();
        rightTexts();
        wrongPrograms();
        wrongParentsAndEnds();
        wrongShapers();
        nodeLimit();
        longTexts();
        values();
        variables();
        loading();
        templates();
        questions();
        Script.end();
    }

    private static void newObject() {
        int[] given = {0, -5, Integer.MIN_VALUE, 1, 500, 9999, 10000, Integer.MAX_VALUE};
        int[] taken = {1, 1, 1, 1, 500, 9999, 9999, 9999};
        for (int i = 0; i < given.length; i++) {
            new Script("link rate " + given[i], given[i]).calls("setLinkRate(7) = " + taken[i]);
        }
        new Script("new object", 100).calls("nodes() = 1; parentOf(0) = -1; children(0) = 0; tieRule(0) = 0; "
                + "time() = 0; waiting() = 0; shaped() = 0; nextRelease() = -1; leafOf(0) = 0; leafOf(15) = 0; "
                + "rankIf(3, 7, 5, 9) = 0; virtualTime(0) = 0; state(0, 15) = 0; errorPosition(0) = -1; "
                + "errorPosition(1) = -1; errorPosition(2) = -1; errorPosition(3) = -1; clearText() = 0; dequeue() = -1; setFlowWeight(15, 1) = 1; setNodeWeight(0, 1) = 1; "
                + "commit() = throws IllegalStateException");
    }

    private static void text() {
        Script s = new Script("text", 1);
        s.calls("type(31)" + ARGUMENT + "type(127)" + ARGUMENT + "type(-1)" + ARGUMENT
                + "type(65568)" + ARGUMENT + "type(32) = 1; type(126) = 2");
        for (int length = 3; length <= 120; length++) {
            s.calls("type(40) = " + length);
        }
        s.calls("type(40) = throws IllegalStateException; type(31)" + ARGUMENT
                + "type(127)" + ARGUMENT + "clearText() = 120; clearText() = 0; type(48) = 1; clearText() = 1");
    }

    private static void rightTexts() {
        Script s = new Script("right", 1);
        s.loaded("0", 1).loaded("123456", 1).loaded("p:r", 1).loaded("p^", 1).loaded("p:r+a%", 1).loaded("0&", 1);
        s.calls("tieRule(0) = 3");
        s.loaded("p;00<p", 2).loaded("p;0<p@9999,9999", 2).loaded("p;0<p@1,0", 2).loaded("p;0<p@0001,0000^", 2);
        s.calls("tieRule(1) = 1");
        s.loaded("p;0<p:r@1,0%;01<t&", 3);
        s.calls("nodes() = 3; parentOf(0) = -1; parentOf(1) = 0; parentOf(2) = 1; children(0) = 1; "
                + "children(1) = 1; children(2) = 0; tieRule(0) = 0; tieRule(1) = 2; tieRule(2) = 3; leafOf(9) = 2");
        s.loaded("p;0<p;0<p;1<p", 4).calls("leafOf(0) = 2; children(0) = 2; children(1) = 1; parentOf(3) = 1");
    }

    private static void wrongPrograms() {
        Script s = new Script("wrong program", 1);
        s.refused("", 0, 0, 0).refused("x", 0, 0, 0).refused(" p", 0, 0, 0).refused("r", 0, 0, 0);
        s.refused(";", 0, 0, 0).refused(":a", 0, 0, 0).refused(")", 0, 0, 0).refused("@1,1", 0, 0, 0);
        s.refused("p+", 0, 0, 2).refused("p+ l", 0, 0, 2).refused("p+*l", 0, 0, 2).refused("p*/l", 0, 0, 2);
        s.refused("+p", 0, 0, 0).refused("p-+l", 0, 0, 2).refused("-", 0, 0, 1).refused("p++l", 0, 0, 2);
        s.refused("(p", 0, 0, 2).refused("(p;0<p", 0, 0, 2).refused("(p:a)", 0, 0, 2).refused("()", 0, 0, 1);
        s.refused("(px)", 0, 0, 2).refused("(p,l)", 0, 0, 2).refused("((p)", 0, 0, 4).refused("(p^)", 0, 0, 2);
        s.refused("M", 0, 0, 1).refused("Mp", 0, 0, 1).refused("m", 0, 0, 1).refused("m)", 0, 0, 1);
        s.refused("M(p)", 0, 0, 3).refused("M(p,l", 0, 0, 5).refused("M(p,l,d)", 0, 0, 5).refused("M(,p)", 0, 0, 2);
        s.refused("m(p,)", 0, 0, 4).refused("M(p,(l,d))", 0, 0, 6).refused("M((p,l)", 0, 0, 4);
        s.refused("M(M(p,l))", 0, 0, 8).refused("M(r,l)", 0, 0, 2).refused("G(p,l)", 0, 0, 0).refused("~p", 0, 0, 0);
        s.refused("1234567", 0, 0, 6).refused("p*-1234567", 0, 0, 9).refused("(1234567)", 0, 0, 7);
        s.refused("p:", 0, 0, 2).refused("p:x", 0, 0, 2).refused("p:r+", 0, 0, 4).refused("p+:r", 0, 0, 2);
        s.refused("p;0<", 2, 4, 4).refused("p;0<p:", 2, 4, 6).refused("p;0<p:@1,0", 2, 4, 6);
        s.refused("p;0<l;0<r", 6, 8, 8).refused("p;1<+", 2, 2).refused("x;y", 0, 0, 0);
    }

    private static void wrongParentsAndEnds() {
        Script s = new Script("wrong parent or end", 1);
        s.refused("p;", 2, 2).refused("p;;", 2, 2).refused("p;x", 2, 2).refused("p;0", 2, 2).refused("p;<p", 2, 2);
        s.refused("p;1<p", 2, 2).refused("p;000<p", 2, 2).refused("p;-0<p", 2, 2).refused("p;0>p", 2, 2);
        s.refused("p;99<p", 2, 2).refused("p;0<p;2<p", 6, 6).refused("p;0<p;", 6, 6).refused("p;0 <p", 2, 2);
        s.refused("p)", 0, 1).refused("p,l", 0, 1).refused("p ", 0, 1).refused("p1", 0, 1).refused("pr", 0, 1);
        s.refused("(p)(l)", 0, 3).refused("p:a:l", 0, 3).refused("p@5,5", 0, 1).refused("p^^", 0, 2);
        s.refused("p^%", 0, 2).refused("p^:a", 0, 2).refused("p^+l", 0, 2).refused("p<p", 0, 1).refused("1p", 0, 1);
        s.refused("p;0<p@1,0x", 2, 9).refused("p;0<p^@1,0", 2, 6).refused("p;0<p@1,0@1,0", 2, 9);
        s.refused("p;0<p@1,0,0", 2, 9).refused("p;0<p)", 2, 5).refused("p;0<p@1,0:r", 2, 9);
        s.refused("M(p,l)l", 0, 6).refused("p;0<l<p", 2, 5);
    }

    private static void wrongShapers() {
        Script s = new Script("wrong shaper", 1);
        s.refused("p;0<p@", 2, 5, 6).refused("p;0<p@x", 2, 5, 6).refused("p;0<p@,5", 2, 5, 6);
        s.refused("p;0<p@0,5", 2, 5, 6).refused("p;0<p@0000,5", 2, 5, 6).refused("p;0<p@-1,5", 2, 5, 6);
        s.refused("p;0<p@5", 2, 5, 7).refused("p;0<p@5;0<p", 2, 5, 7).refused("p;0<p@5^", 2, 5, 7);
        s.refused("p;0<p@5,", 2, 5, 8).refused("p;0<p@5,^", 2, 5, 8).refused("p;0<p@5,,", 2, 5, 8);
        s.refused("p;0<p@12345,0", 2, 5, 10).refused("p;0<p@1,12345", 2, 5, 12).refused("p;0<p:r@1,00000", 2, 7, 14);
        // The document leaves the two below open: the rate counts as read at the end of its digits.
        s.refused("p;0<p@0", 2, 5, 6).refused("p;0<p@00000,1", 2, 5, 10);
    }

    private static void nodeLimit() {
        StringBuilder twelve = new StringBuilder("0");
        for (int node = 1; node < 12; node++) {
            twelve.append(';').append(node - 1).append("<0");
        }
        int end = twelve.length();
        Script s = new Script("twelve nodes", 1);
        s.loaded(twelve.toString(), 12).calls("nodes() = 12; leafOf(0) = 11; parentOf(11) = 10; children(11) = 0; "
                + "parentOf(12)" + INDEX + "enqueue(0, 1, 0, 0) = 0; queueLength(5) = 1; queueItem(5, 0) = 6; "
                + "queueItem(11, 0) = 0; transmit() = 0");
        s.refused(twelve + ";0<0", end + 1, end + 1).refused(twelve + ";", end + 1, end + 1);
        s.refused(twelve + ";x", end + 1, end + 1).refused(twelve + "x", end - 4, end);
        s.calls("nodes() = 12; time() = 1000");
    }

    private static void longTexts() {
        Script s = new Script("long text", 1);
        s.refused("(".repeat(120), 0, 0, 120).refused("-".repeat(120), 0, 0, 120);
        s.refused("M(".repeat(60), 0, 0, 120).refused("(".repeat(60) + "p" + ")".repeat(59), 0, 0, 120);
        s.loaded("-".repeat(119) + "p", 1).calls("rankIf(0, 1, 7, 0) = -7");
        s.loaded("(".repeat(59) + "p" + ")".repeat(59), 1).calls("rankIf(0, 1, 7, 0) = 7");
        s.loaded("1-(".repeat(29) + "p" + ")".repeat(29), 1).calls("rankIf(0, 1, 7, 0) = -6");
        s.loaded("M(1,".repeat(23) + "p" + ")".repeat(23), 1).calls("rankIf(0, 1, 7, 0) = 7; rankIf(0, 1, 0, 0) = 1");
        s.loaded("m(".repeat(23) + "p" + ",3)".repeat(23), 1).calls("rankIf(0, 1, 7, 0) = 3; rankIf(0, 1, 2, 0) = 2");
        s.loaded("p" + "+1".repeat(59), 1).calls("rankIf(0, 1, 7, 0) = 66");
    }

    private static void value(String expression, long value) {
        new Script("value of " + expression, 1).loaded(expression, 1).calls("rankIf(0, 1, 0, 0) = " + value);
    }

    private static void values() {
        value("2+3*4", 14);
        value("(2+3)*4", 20);
        value("10-3-2", 5);
        value("10-(3-2)", 9);
        value("2-3*4+5", -5);
        value("100/7/2", 7);
        value("100/(7/2)", 33);
        value("7/2*2", 6);
        value("2*7/4", 3);
        value("8/4*2/3", 1);
        value("-7/2", -3);
        value("7/-2", -3);
        value("-7/-2", 3);
        value("0-7/2", -3);
        value("5/0", 0);
        value("5/(3-3)+1", 1);
        value("--5", 5);
        value("---5", -5);
        value("5--5", 10);
        value("-5-5", -10);
        value("2*-3", -6);
        value("-2*3", -6);
        value("-(2+3)*4", -20);
        value("-(2+3)-4", -9);
        value("M(1,2)", 2);
        value("m(1,2)", 1);
        value("M(2,1)", 2);
        value("m(2,1)", 1);
        value("M(-1,-2)", -1);
        value("-M(1,2)*3", -6);
        value("1-M(1+1,m(7,2*3))+1", -4);
        value("M((1+2)*3,4)", 9);
        value("000007", 7);
        value("999999*999999", 999998000001L);
        value("999999*999999*999999*999999", 999998000001L * 999998000001L);
        value("65536*65536*65536*32768", Long.MIN_VALUE);
        value("65536*65536*65536*32768/-1", Long.MIN_VALUE);
        value("65536*65536*65536*32768-1", Long.MAX_VALUE);
        value("-(65536*65536*65536*32768)", Long.MIN_VALUE);
        value("M(65536*65536*65536*32768,1)", 1);
        value("m(65536*65536*65536*32768,1)", Long.MIN_VALUE);
    }

    private static void variables() {
        Script s = new Script("variables", 1000);
        s.loaded("p", 1).calls("advance(50) = 0; rankIf(3, 70, 5, 9) = 5");
        s.loaded("l", 1).calls("advance(50) = 0; rankIf(3, 70, 5, 9) = 70");
        s.loaded("d", 1).calls("advance(50) = 0; rankIf(3, 70, 5, 9) = 59");
        s.loaded("f", 1).calls("advance(50) = 0; rankIf(3, 70, 5, 9) = 3");
        s.loaded("w", 1).calls("setFlowWeight(3, 8) = 1; rankIf(3, 70, 5, 9) = 8; rankIf(4, 70, 5, 9) = 1");
        s.loaded("t", 1).calls("advance(50) = 0; rankIf(3, 70, 5, 9) = 50");
        s.loaded("n", 1).calls("enqueue(3, 70, 5, 9) = 0; enqueue(3, 70, 5, 9) = 1; rankIf(3, 70, 5, 9) = 2");
        s.loaded("p+v*10", 1).calls("enqueue(0, 1, 4, 0) = 0; rankIf(3, 70, 5, 9) = 5; dequeue() = 0; "
                + "rankIf(3, 70, 5, 9) = 45");
        s.loaded("a:l", 1).calls("enqueue(3, 70, 5, 9) = 0; rankIf(3, 9, 0, 0) = 70; rankIf(4, 9, 0, 0) = 0");
        s.loaded("p:r*100+a+n", 1).calls("enqueue(3, 70, 5, 9) = 0; state(0, 3) = 500; enqueue(3, 1, 6, 0) = 1; "
                + "state(0, 3) = 1101; state(0, 4) = 0");
        // At an inner node: the class is the child, the weight is the child's, the packet is the same.
        s.loaded("f*100000+w*1000+p*100+n:r;0<0;0<0", 3).calls("assign(3, 2) = 1; setNodeWeight(2, 7) = 1; "
                + "enqueue(3, 70, 5, 9) = 0; queueRank(0, 0) = 207500; state(0, 2) = 207500; state(0, 1) = 0; "
                + "enqueue(3, 70, 4, 9) = 1; queueRank(0, 0) = 207401; state(0, 2) = 207401; enqueue(0, 70, 0, 9) = 2; "
                + "queueRank(0, 0) = 101002; queueItem(0, 0) = 1");
    }

    private static void loading() {
        Script s = new Script("loading", 500);
        s.calls("loadTemplate(4) = 4; setFlowWeight(2, 9) = 1; setNodeWeight(1, 5) = 1; assign(2, 3) = 1; "
                + "enqueue(2, 100, 1, 5) = 0; enqueue(2, 100, 1, 5) = 1; transmit() = 0; time() = 200; "
                + "checkpoint() = 1; setLinkRate(700) = 500");
        s.loaded("p;0<p@1,0;0<p", 3);
        s.calls("time() = 0; waiting() = 0; shaped() = 0; flowOf(0)" + INDEX
                + "leafOf(2) = 1; sent(2) = 0; sentBytes(2) = 0; totalDelay(2) = 0; greatestDelay(2) = 0; "
                + "missed(2) = 0; share(2) = 0; virtualTime(0) = 0; state(0, 1) = 0; state(0, 2) = 0; "
                + "setNodeWeight(1, 1) = 1; setFlowWeight(2, 9) = 9; setLinkRate(700) = 700");
        // The mark of the shaper is 0 again after another load.
        s.calls("enqueue(2, 100, 1, 5) = 0; enqueue(2, 100, 1, 5) = 1; shaped() = 1");
        s.loaded("p;0<p@1,0;0<p", 3).calls("shaped() = 0; nextRelease() = -1; enqueue(2, 100, 1, 5) = 0; shaped() = 0; "
                + "enqueue(2, 100, 1, 5) = 1; nextRelease() = 100000; advance(7) = 0");
        // A tree without a shaper, loaded behind one that had it.
        s.calls("checkpoint() = 2").loaded("p;0<p", 2).calls("enqueue(0, 1500, 4, 0) = 0; enqueue(0, 1500, 5, 0) = 1; "
                + "shaped() = 0; dequeue() = 0; virtualTime(0) = 4; virtualTime(1) = 4");
        s.loaded("p:p;0<p:p", 2).calls("virtualTime(0) = 0; virtualTime(1) = 0; enqueue(0, 1, 4, 0) = 0; "
                + "enqueue(15, 1, 6, 0) = 1; state(1, 0) = 4; state(1, 15) = 6; state(0, 1) = 6");
        s.loaded("p;0<p", 2).calls("state(1, 0) = 0; state(1, 15) = 0; state(0, 1) = 0; rollback() = 1");
        s.refused("p;0<p@0,0", 2, 5, 6).calls("time() = 7; shaped() = 1; nodes() = 3; errorPosition(2) = 6");
        s.calls("rollback() = 0; time() = 200; nodes() = 4; leafOf(2) = 3; sent(2) = 1; setLinkRate(1) = 500; "
                + "setNodeWeight(1, 1) = 5; setFlowWeight(2, 1) = 9; errorPosition(2) = 6; errorPosition(0) = 2");
        s.loaded("p", 1).calls("errorPosition(0) = -1; errorPosition(-1)" + INDEX
                + "errorPosition(-2147483648)" + INDEX + "errorPosition(2147483647) = -1");
    }

    private static void templates() {
        Script s = new Script("templates", 1000);
        s.calls("loadTemplate(-1)" + ARGUMENT + "loadTemplate(6)" + ARGUMENT);
        s.refused("p+", 0, 0, 2).typed("l^").calls("loadTemplate(2) = 1; errorPosition(2) = 2; "
                + "rankIf(0, 10, 3, 77) = 77; loadTree() = 1; tieRule(0) = 1; errorPosition(2) = -1; clearText() = 0");
        s.calls("loadTemplate(0) = 1; rankIf(1, 10, 3, 77) = 0; loadTemplate(1) = 1; rankIf(1, 10, 3, 77) = 3; "
                + "loadTemplate(3) = 1; setFlowWeight(1, 4) = 1; rankIf(1, 10, 3, 77) = 0; enqueue(1, 10, 3, 77) = 0; "
                + "state(0, 1) = 2");
        s.calls("loadTemplate(4) = 4; children(0) = 3; tieRule(0) = 0; tieRule(1) = 0; tieRule(2) = 0; tieRule(3) = 3; "
                + "assign(1, 3) = 1; assign(2, 2) = 1; rankIf(0, 10, 3, 77) = 3; rankIf(2, 10, 3, 77) = 77; "
                + "enqueue(1, 10, 3, 77) = 0; state(3, 1) = 250; state(0, 3) = 1000");
        s.calls("loadTemplate(5) = 4; children(0) = 3; tieRule(0) = 0; tieRule(1) = 0; tieRule(2) = 2; tieRule(3) = 1; "
                + "assign(2, 2) = 1; assign(3, 3) = 1; rankIf(0, 10, 3, 77) = 3; rankIf(2, 10, 3, 77) = 0; "
                + "rankIf(3, 10, 3, 77) = 77; enqueue(0, 600, 0, 0) = 0; enqueue(0, 1, 0, 0) = 1; nextRelease() = 1000; "
                + "enqueue(2, 50, 0, 0) = 2; enqueue(2, 1, 0, 0) = 3; shaped() = 2; advance(999) = 0; advance(1) = 2; "
                + "queueRank(0, 3) = 1000; queueItem(0, 2) = 1; queueItem(0, 3) = 2");
    }

    private static void questions() {
        Script s = new Script("questions", 1);
        s.loaded("p;0<p;0<p^;2<p%", 4);
        s.calls("nodes() = 4; parentOf(0) = -1; parentOf(1) = 0; parentOf(2) = 0; parentOf(3) = 2; "
                + "parentOf(-1)" + INDEX + "parentOf(4)" + INDEX + "parentOf(12)" + INDEX
                + "children(0) = 2; children(1) = 0; children(2) = 1; children(3) = 0; "
                + "children(-1)" + INDEX + "children(4)" + INDEX + "children(2147483647)" + INDEX
                + "tieRule(0) = 0; tieRule(1) = 0; tieRule(2) = 1; tieRule(3) = 2; "
                + "tieRule(-1)" + INDEX + "tieRule(4)" + INDEX + "tieRule(-2147483648)" + INDEX);
    }
}
