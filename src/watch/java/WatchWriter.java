import java.nio.file.DirectoryStream;
import java.nio.file.Files;
import java.nio.file.Path;
import jdk.internal.org.objectweb.asm.ClassReader;
import jdk.internal.org.objectweb.asm.ClassVisitor;
import jdk.internal.org.objectweb.asm.ClassWriter;
import jdk.internal.org.objectweb.asm.MethodVisitor;
import jdk.internal.org.objectweb.asm.Opcodes;

/**
 * Writes the classes of MotionStepper anew so that they tell Watch what they do: every answer of an
 * operation on doubles, every object and array made, every method entered and left.
 * Arguments: the folder of the classes, the folder to write to.
 */
public final class WatchWriter {
    public static void main(String[] args) throws Exception {
        Path to = Path.of(args[1]);
        try (DirectoryStream<Path> files =
                Files.newDirectoryStream(Path.of(args[0]), "MotionStepper{,$*}.class")) {
            for (Path file : files) {
                Files.write(to.resolve(file.getFileName()), watched(Files.readAllBytes(file)));
            }
        }
    }

    private static byte[] watched(byte[] code) {
        ClassReader reader = new ClassReader(code);
        ClassWriter writer = new ClassWriter(reader, ClassWriter.COMPUTE_MAXS);
        reader.accept(new ClassVisitor(Opcodes.ASM8, writer) {
            @Override
            public MethodVisitor visitMethod(int access, String name, String descriptor,
                    String signature, String[] exceptions) {
                MethodVisitor next =
                        super.visitMethod(access, name, descriptor, signature, exceptions);
                boolean makesDesk = name.equals("<init>")
                        && reader.getClassName().equals("MotionStepper");
                return new Watching(next, makesDesk);
            }
        }, 0);
        return writer.toByteArray();
    }

    private static final class Watching extends MethodVisitor {
        private final boolean makesDesk;

        Watching(MethodVisitor next, boolean makesDesk) {
            super(Opcodes.ASM8, next);
            this.makesDesk = makesDesk;
        }

        private void tell(String name, String descriptor) {
            super.visitMethodInsn(Opcodes.INVOKESTATIC, "Watch", name, descriptor, false);
        }

        @Override
        public void visitCode() {
            super.visitCode();
            if (makesDesk) {
                tell("desk", "()V");
            }
            tell("entered", "()V");
        }

        @Override
        public void visitInsn(int opcode) {
            if (opcode >= Opcodes.IRETURN && opcode <= Opcodes.RETURN) {
                tell("left", "()V");
            }
            super.visitInsn(opcode);
            boolean answersDouble = opcode == Opcodes.DADD || opcode == Opcodes.DSUB
                    || opcode == Opcodes.DMUL || opcode == Opcodes.DDIV || opcode == Opcodes.DNEG
                    || opcode == Opcodes.F2D;
            if (answersDouble) {
                super.visitInsn(Opcodes.DUP2);
                tell("answered", "(D)V");
            }
        }

        @Override
        public void visitTypeInsn(int opcode, String type) {
            if (opcode == Opcodes.ANEWARRAY) {
                super.visitInsn(Opcodes.DUP);
                tell("array", "(I)V");
            }
            super.visitTypeInsn(opcode, type);
            // Behind it: frames name the place of NEW itself.
            if (opcode == Opcodes.NEW) {
                tell("object", "()V");
            }
        }

        @Override
        public void visitIntInsn(int opcode, int operand) {
            if (opcode == Opcodes.NEWARRAY) {
                super.visitInsn(Opcodes.DUP);
                tell("array", "(I)V");
            }
            super.visitIntInsn(opcode, operand);
        }
    }
}
