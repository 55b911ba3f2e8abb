/** The example of README.md: each line answers as is told there. */
public final class ReadmeTest {
    public static void main(String[] args) {
        RemakeNeeds2 x = new RemakeNeeds2();
        int a = x.unit(), b = x.unit();
        Due.due("give", x.give(a, 0, 1, 10, false), 1);
        Due.due("way", x.way(b, a), 1);
        Due.due("use", x.use(b, 0, 1), 1);
        Due.due("make", x.make(16), 2);
        Due.due("a first", x.order(0), a);
        Due.due("give again", x.give(a, 0, 1, 11, false), 0);
        Due.due("why", x.why(b), 3);
        Due.due("needs", x.needs(), 2);
        Due.finish();
    }
}
