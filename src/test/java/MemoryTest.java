import java.lang.management.ManagementFactory;

/** "All memory is made at first": calls that answer make nothing on the heap. */
public final class MemoryTest {
    private static final Probe probe = new Probe();
    private static final int ROUNDS = 200;
    /** Far below what a single object in each round would take. */
    private static final long SLACK = 8L * ROUNDS;

    public static void main(String[] args) {
        com.sun.management.ThreadMXBean threads =
                (com.sun.management.ThreadMXBean) ManagementFactory.getThreadMXBean();
        int[] catalog = packed("dimension a(x,y);measure m;member a(5,1),(3,1),(4,2);");
        int[] question = packed("select a.y,sum(m),count(*) where not(a.x in(3,4)or a.y=2)and a.x between 1 and 9"
                + " group by rollup(a.y,a.x);");
        int[] wrong = packed("select a.y where ((a.x = 1 or not a.y in (1,2");
        QuestionReader[] readers = new QuestionReader[ROUNDS + 1];
        for (int i = 0; i < readers.length; i++) {
            readers[i] = new QuestionReader();
        }
        // The first round loads classes and must not count.
        long answers = round(readers[ROUNDS], catalog, question, wrong);
        long before = threads.getThreadAllocatedBytes(Thread.currentThread().getId());
        long sum = 0;
        for (int i = 0; i < ROUNDS; i++) {
            sum += round(readers[i], catalog, question, wrong);
        }
        long made = threads.getThreadAllocatedBytes(Thread.currentThread().getId()) - before;
        probe.due("answers of all rounds", sum, answers * ROUNDS);
        probe.due("no more than " + SLACK + " bytes, but " + made, made <= SLACK, true);
        probe.end();
    }

    private static long round(QuestionReader reader, int[] catalog, int[] question, int[] wrong) {
        long sum = run(reader, catalog) + (reader.open() ? 1000 : 0);
        for (int i = 0; i < 3; i++) {
            sum += run(reader, wrong) + reader.fault(0) + reader.fault(1);
            sum += run(reader, question) + reader.count(3) + reader.item(0, 1) + reader.group(0) + reader.set(0);
            sum += reader.pick(0, i) + (reader.holds() ? 7 : 0) + reader.find(0, 4) + reader.rank(0, 1, i);
            sum += reader.value(0, 0, i) + reader.letter(0, 0) + reader.dimension(0, 1);
        }
        return sum;
    }

    private static int run(QuestionReader reader, int[] text) {
        for (int i = 0; i + 4 < text.length; i += 5) {
            reader.feed(text[i], text[i + 1], text[i + 2], text[i + 3], text[i + 4]);
        }
        return reader.run();
    }

    /** Filled up with blanks. */
    private static int[] packed(String text) {
        int[] words = new int[(text.length() + 19) / 20 * 5];
        for (int i = 0; i < words.length * 4; i++) {
            words[i / 4] = words[i / 4] << 8 | (i < text.length() ? text.charAt(i) : ' ');
        }
        return words;
    }
}
