import java.io.File;
import java.io.IOException;
import java.nio.charset.StandardCharsets;
import java.nio.file.Files;
import java.nio.file.Path;
import java.util.ArrayList;
import java.util.List;
import java.util.regex.Matcher;
import java.util.regex.Pattern;
import java.util.stream.Stream;

/** README.md alone is enough to use the class and to run its tests: its programs, commands and examples are run. */
public final class ReadmeTest {
    private static final Checks checks = new Checks("ReadmeTest");
    private static final Path README = Path.of("README.md");
    private static final Path DOCUMENT = Path.of("../shared/DOC.md");
    private static final Path OWN_TESTS = Path.of("src/test/java");
    private static final Path SCRIPT = Path.of(".ci/run");
    private static final Pattern EXAMPLE = Pattern.compile("net\\.(.+);\\s+// (\\S+?)(:.*)?");

    /** What stands between two lines of three backticks. */
    private record Block(String kind, List<String> lines) {
        boolean isProgram() {
            return kind.equals("java") && lines.get(0).startsWith("public class ");
        }

        boolean isExamples() {
            return kind.equals("java") && !isProgram();
        }

        String text() {
            return String.join("\n", lines) + "\n";
        }
    }

    private static List<Block> blocksOf(String page) {
        List<Block> blocks = new ArrayList<>();
        Block open = null;
        for (String line : page.split("\n")) {
            if (!line.startsWith("```")) {
                if (open != null) {
                    open.lines().add(line);
                }
            } else if (open == null) {
                open = new Block(line.substring(3), new ArrayList<>());
            } else {
                blocks.add(open);
                open = null;
            }
        }
        checks.holds("each block ends", open == null);
        return blocks;
    }

    // ---- a project of its own, as README.md tells of it, so that this one's files stay as they are

    private static void copy(Path from, Path to) throws IOException {
        try (Stream<Path> all = Files.walk(from)) {
            for (Path path : (Iterable<Path>) all::iterator) {
                Path target = to.resolve(from.relativize(path).toString());
                if (Files.isDirectory(path)) {
                    Files.createDirectories(target);
                } else {
                    Files.copy(path, target);
                }
            }
        }
    }

    private static void remove(Path folder) throws IOException {
        List<Path> paths;
        try (Stream<Path> all = Files.walk(folder)) {
            paths = new ArrayList<>(all.toList());
        }
        for (int i = paths.size() - 1; i >= 0; i--) {
            Files.delete(paths.get(i));
        }
    }

    /** What the commands print; they have to end well. */
    private static String run(Path project, String commands) throws IOException, InterruptedException {
        File said = project.resolve("said").toFile();
        Process process = new ProcessBuilder("bash", "-e", "-c", commands)
            .directory(project.toFile()).redirectErrorStream(true).redirectOutput(said).start();
        int code = process.waitFor();
        String text = Files.readString(said.toPath(), StandardCharsets.UTF_8);
        checks.due("exit code of " + commands.strip(), 0, code);
        if (code != 0) {
            System.out.println(text);
        }
        return text;
    }

    // ---- what is asked

    private static void programsAndCommands(Path project, List<Block> blocks) throws Exception {
        int ran = 0;
        for (int i = 0; i < blocks.size(); i++) {
            Block block = blocks.get(i);
            if (block.isProgram()) {
                String name = block.lines().get(0).split(" ")[2];
                Files.writeString(project.resolve(name + ".java"), block.text());
            }
            if (!block.kind().equals("sh") || block.text().strip().equals(SCRIPT.toString())) {
                continue;
            }
            String said = run(project, block.text());
            ran++;
            if (i + 1 < blocks.size() && blocks.get(i + 1).kind().equals("text")) {
                checks.dueText("what is printed by " + block.text().strip(), blocks.get(i + 1).text(), said);
            }
        }
        checks.holds("commands to use the class, to run a test and a shared one", ran >= 3);
    }

    private static String constantOf(String answer) {
        return answer.matches("[A-Z]+") ? "RingCounts." + answer : answer;
    }

    /** Each row with an answer becomes a call of due; the others stand as they are. */
    private static String exampleProgram(List<Block> blocks) {
        StringBuilder code = new StringBuilder("public class Examples {\n"
            + "    static final Checks checks = new Checks(\"README.md\");\n"
            + "    static void type(RingCounts net, String text) { Checks.type(net, text); }\n"
            + "    public static void main(String[] args) {\n");
        int rows = 0;
        for (Block block : blocks) {
            if (!block.isExamples()) {
                continue;
            }
            code.append("        {\n");
            for (String line : block.lines()) {
                Matcher row = EXAMPLE.matcher(line);
                if (row.matches()) {
                    code.append("        checks.due(\"").append(row.group(1).replace("\"", "'")).append("\", ")
                        .append(constantOf(row.group(2))).append(", net.").append(row.group(1)).append(");\n");
                    rows++;
                } else {
                    checks.holds("a row with an answer has the form of one: " + line, !line.contains("//"));
                    code.append("        ").append(line).append('\n');
                }
            }
            code.append("        }\n");
        }
        checks.holds("examples were found", rows > 60);
        return code.append("        checks.end();\n    }\n}\n").toString();
    }

    private static void examples(Path project, List<Block> blocks) throws Exception {
        Files.writeString(project.resolve("Examples.java"), exampleProgram(blocks));
        run(project, "javac -d examples src/main/java/RingCounts.java src/test/java/Checks.java Examples.java\n"
            + "java -cp examples Examples");
    }

    private static List<String> facesOf(String document) {
        List<String> faces = new ArrayList<>();
        Matcher face = Pattern.compile("(?m)^    public ((?:(?:int|long) )?\\w+\\([^)]*\\));$").matcher(document);
        while (face.find()) {
            faces.add(face.group(1));
        }
        return faces;
    }

    private static void eachCallIsTold(String page, String document, List<Block> blocks) {
        List<String> faces = facesOf(document);
        checks.due("calls and constructors in the face", 36, faces.size());
        StringBuilder examples = new StringBuilder();
        for (Block block : blocks) {
            examples.append(block.kind().equals("java") ? block.text() : "");
        }
        for (String face : faces) {
            checks.holds("README.md has " + face, page.contains("- `" + face + "`: "));
            String name = face.substring(face.indexOf(' ') + 1, face.indexOf('('));
            boolean shown = Pattern.compile("\\b" + name + "\\(").matcher(examples).find();
            checks.holds("README.md shows a call of " + name, shown || face.startsWith("RingCounts"));
        }
    }

    private static void constants(String page) throws Exception {
        for (String name : List.of("NONE", "BAD", "STATE", "FULL")) {
            int number = RingCounts.class.getField(name).getInt(null);
            checks.holds("README.md has " + name, page.contains("| `" + name + "` | " + number + " |"));
        }
        for (int code : new int[] {-5, -11, -12, -13, -14}) {
            checks.holds("README.md has " + code, page.contains("| | " + code + " | "));
        }
        checks.holds("README.md has NO", RingCounts.NO == Long.MIN_VALUE
            && page.contains("| `NO` | `Long.MIN_VALUE` |"));
        checks.holds("README.md has OVER", RingCounts.OVER == Long.MIN_VALUE + 1
            && page.contains("| `OVER` | `Long.MIN_VALUE + 1` |"));
    }

    private static void tests(String page) throws IOException {
        checks.holds("README.md tells how to run all tests", page.contains("```sh\n" + SCRIPT + "\n```"));
        checks.holds(SCRIPT + " can be run", Files.isExecutable(SCRIPT));
        try (Stream<Path> files = Files.list(OWN_TESTS)) {
            for (Path file : files.sorted().toList()) {
                String name = file.getFileName().toString().replace(".java", "");
                checks.holds("README.md tells of " + name, page.contains("`" + name + "`"));
            }
        }
    }

    public static void main(String[] args) throws Exception {
        String page = Files.readString(README, StandardCharsets.UTF_8);
        List<Block> blocks = blocksOf(page);
        eachCallIsTold(page, Files.readString(DOCUMENT, StandardCharsets.UTF_8), blocks);
        constants(page);
        tests(page);
        Path room = Files.createTempDirectory("readme");
        try {
            Path project = room.resolve("project");
            copy(Path.of("src"), project.resolve("src"));
            copy(DOCUMENT.getParent(), room.resolve("shared"));
            programsAndCommands(project, blocks);
            examples(project, blocks);
        } finally {
            remove(room);
        }
        checks.end();
    }
}
