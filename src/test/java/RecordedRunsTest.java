import java.io.IOException;
import java.nio.file.DirectoryStream;
import java.nio.file.Files;
import java.nio.file.Path;
import java.util.TreeSet;

/** Long runs of calls with the answers that are due, one file each under src/test/runs; to be run from the project's root. */
public final class RecordedRunsTest {
    public static void main(String[] args) throws IOException {
        Due due = new Due();
        TreeSet<Path> files = new TreeSet<>();
        try (DirectoryStream<Path> found = Files.newDirectoryStream(Path.of("src/test/runs"), "*.txt")) {
            found.forEach(files::add);
        }
        due.in("recorded runs");
        due.no("no file found", files.isEmpty());
        for (Path file : files) {
            replay(due, file);
        }
        due.end();
    }

    private static void replay(Due due, Path file) throws IOException {
        PassiveBuses x = new PassiveBuses();
        int row = 0;
        for (String line : Files.readAllLines(file)) {
            row++;
            if (line.isEmpty() || line.startsWith("#")) {
                continue;
            }
            due.in(file.getFileName() + " row " + row);
            int equals = line.indexOf(" = ");
            String[] words = line.substring(0, equals).split(" ");
            due.is(line.substring(0, equals), call(x, words), Long.parseLong(line.substring(equals + 3)));
        }
    }

    private static long call(PassiveBuses x, String[] words) {
        int[] a = new int[4];
        boolean up = false;
        for (int i = 1; i < words.length; i++) {
            if (words[i].equals("up") || words[i].equals("down")) {
                up = words[i].equals("up");
            } else {
                a[i] = Integer.parseInt(words[i]);
            }
        }
        switch (words[0]) {
            case "plug": return x.plug(a[1], a[2], a[3]) ? 1 : 0;
            case "unplug": return x.unplug(a[1], a[2]) ? 1 : 0;
            case "dial": return x.dial(a[1], a[2], a[3]) ? 1 : 0;
            case "answer": return x.answer(a[1], a[2]) ? 1 : 0;
            case "hang": return x.hang(a[1], a[2]) ? 1 : 0;
            case "say": return x.say(a[1], a[2], a[3]) ? 1 : 0;
            case "spoil": return x.spoil(a[1], up, a[3]) ? 1 : 0;
            case "audit": return x.audit(a[1], a[2]) ? 1 : 0;
            case "run": return x.run(a[1]);
            case "time": return x.time();
            case "state": return x.state(a[1], a[2]);
            case "address": return x.address(a[1], a[2]);
            case "reference": return x.reference(a[1], a[2]);
            case "channel": return x.channel(a[1], a[2]);
            case "cause": return x.cause(a[1], a[2]);
            case "ear": return x.ear(a[1], a[2]);
            case "waiting": return x.waiting(a[1], up);
            case "given": return x.given(a[1]);
            case "holder": return x.holder(a[1], a[2]);
            case "phase": return x.phase(a[1]);
            default: throw new IllegalArgumentException(words[0]);
        }
    }
}
