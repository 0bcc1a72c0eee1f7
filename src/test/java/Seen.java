import java.util.ArrayList;
import java.util.List;

/** All that can be seen of a kernel without changing it. */
final class Seen {
    private Seen() {
    }

    static List<String> of(PipeKernel k) {
        List<String> seen = new ArrayList<>();
        seen.add("time " + k.time());
        seen.add("outs " + k.outs());
        for (int i = 0; i < Math.min(500, k.outs()); i++) {
            seen.add("out " + i + " " + k.out(i));
        }
        for (int i = 0; i <= 16; i++) {
            seen.add("queue " + i + " " + k.queue(i));
        }
        for (int p = 0; p < 16; p++) {
            seen.add("state " + p + " " + k.state(p));
            if (k.state(p) != 0) {
                process(seen, k, p);
            }
        }
        for (int p = 0; p < 8; p++) {
            for (int what = 0; what <= 4; what++) {
                seen.add("pipe " + p + " " + what + " " + k.pipe(p, what));
            }
        }
        return seen;
    }

    private static void process(List<String> seen, PipeKernel k, int p) {
        for (int what = 0; what <= 5; what++) {
            seen.add("about " + p + " " + what + " " + k.about(p, what));
        }
        for (int i = 0; i < k.about(p, 1); i++) {
            seen.add("stack " + p + " " + i + " " + k.stack(p, i));
        }
        for (int place = 0; place < 128; place++) {
            seen.add("memory " + p + " " + place + " " + k.memory(p, place));
        }
        for (int d = 0; d < 8; d++) {
            seen.add("descriptor " + p + " " + d + " " + k.descriptor(p, d));
        }
    }

    static void same(String what, PipeKernel k, List<String> due) {
        List<String> got = of(k);
        for (int i = 0; i < Math.max(got.size(), due.size()); i++) {
            String one = i < got.size() ? got.get(i) : "nothing";
            String other = i < due.size() ? due.get(i) : "nothing";
            if (!one.equals(other)) {
                Check.isTrue(what + ": seen is \"" + one + "\", due is \"" + other + "\"", false);
                return;
            }
        }
        Check.isTrue(what, true);
    }
}
