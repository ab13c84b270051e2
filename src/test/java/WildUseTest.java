import java.lang.management.ManagementFactory;
import java.util.Random;

/** Calls with any numbers in any state: none throws, none takes long, none makes objects. */
public final class WildUseTest {
    private static final int[] NUMBERS = {Integer.MIN_VALUE, Integer.MIN_VALUE + 1, -1000, -65, -2, -1, 0, 1, 2, 3, 4, 5, 6, 7,
        9, 10, 11, 16, 29, 30, 31, 32, 39, 44, 45, 46, 47, 97, 98, 99, 100, 101, 122, 199, 200, 201, 255, 256, 999, 1000,
        1 << 16, 1 << 30, Integer.MAX_VALUE - 1, Integer.MAX_VALUE};

    public static void main(String[] args) {
        for (int seed = 0; seed < 400; seed++) {
            Random random = new Random(seed);
            HungMargins x = new HungMargins();
            String text = text(seed, random);
            for (char c : text.toCharArray()) x.type(c);
            x.words();
            for (int calls = 0; calls < 1000; calls++) one(random, x);
        }
        longest();
        nothingMade();
        System.out.println("no call failed");
    }

    private static String text(int seed, Random random) {
        switch (seed % 5) {
            case 0: return "a/b/c/d/e/f/g/h ".repeat(12) + "a/b/c/de";
            case 1: return "abcdefghijklmnop ".repeat(11);
            case 2: return "a ".repeat(30);
            case 3: return "a-/,b' ".repeat(28);
            default:
                StringBuilder b = new StringBuilder();
                for (int i = 0; i < 200; i++) b.append("ab./ ".charAt(random.nextInt(5)));
                return b.toString();
        }
    }

    private static int any(Random r) {
        return r.nextInt(3) > 0 ? r.nextInt(13) - 1 : NUMBERS[r.nextInt(NUMBERS.length)];
    }

    private static int sign(Random r) {
        return r.nextInt(5) > 0 ? "abcde.,-'/".charAt(r.nextInt(10)) : any(r);
    }

    private static void one(Random r, HungMargins x) {
        switch (r.nextInt(26)) {
            case 0: x.type(r.nextInt(3) == 0 ? any(r) : sign(r)); break;
            case 1: if (r.nextInt(40) == 0) x.clear(); break;
            case 2: if (r.nextInt(40) == 0) x.words(); break;
            case 3: x.word(any(r), any(r)); break;
            case 4: x.different(any(r), any(r)); break;
            case 5: x.place(any(r), any(r)); break;
            case 6: x.wide(sign(r), any(r)); break;
            case 7: x.hangs(sign(r), any(r)); break;
            case 8: x.sets(any(r), NUMBERS[r.nextInt(NUMBERS.length)]); break;
            case 9: x.sets(1, 10 + r.nextInt(191)); break;
            case 10: x.undo(); break;
            case 11: x.page(any(r)); break;
            case 12: x.line(any(r), any(r)); break;
            case 13: x.blank(any(r), any(r), any(r)); break;
            case 14: x.leftOf(any(r), any(r)); break;
            case 15: x.puts(any(r)); break;
            case 16: x.takes(); break;
            case 17: x.judged(any(r)); break;
            case 18: x.alike(any(r)); break;
            case 19: x.sees(any(r), any(r)); break;
            case 20: x.forget(); break;
            case 21: x.unseen(any(r)); break;
            case 22: x.keep(any(r)); break;
            case 23: x.back(any(r)); break;
            case 24: x.count(any(r)); break;
            default: x.sets(r.nextInt(4), any(r)); break;
        }
    }

    /** The dearest run: 100 PLACES, WIDTHS 0, and all MEASURES gone through anew at each second call. */
    private static void longest() {
        HungMargins x = dearest();
        for (int i = 0; i < 150; i++) {
            x.sets(2, i);
            x.unseen(0);
        }
    }

    private static HungMargins dearest() {
        HungMargins x = new HungMargins();
        for (char c : text(0, null).toCharArray()) x.type(c);
        x.words();
        for (char c = 'a'; c <= 'h'; c++) x.wide(c, 0);
        return x;
    }

    private static void nothingMade() {
        com.sun.management.ThreadMXBean bean = (com.sun.management.ThreadMXBean) ManagementFactory.getThreadMXBean();
        HungMargins x = dearest();
        x.sets(1, 77);
        bean.getCurrentThreadAllocatedBytes();
        long before = bean.getCurrentThreadAllocatedBytes();
        int sum = 0;
        for (int i = 0; i < 20; i++) {
            sum += x.sets(2, 100 + i) + x.page(4) + x.alike(1) + x.unseen(2) + x.judged(2) + x.keep(0) + x.back(0) + x.undo();
        }
        long made = bean.getCurrentThreadAllocatedBytes() - before;
        if (made > 4096) {
            System.out.println("160 calls made " + made + " bytes of objects " + sum);
            System.exit(1);
        }
    }
}
